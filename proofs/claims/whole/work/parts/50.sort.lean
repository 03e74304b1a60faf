/-! X's sorting: the column and the mark -/
def wk_f (t : Nat → Nat) : Nat → Int32 := fun i => nI (t i)
theorem wk_at {t : Nat → Nat} {l : Nat} (h : l < 2 ^ 31) : wk_f t (nI l).toNatClampNeg = nI (t l) := by
  show nI (t _) = _
  rw [nI_clamp h]
theorem wk_cl {a : Nat → Int32} {l : Nat} (h : l < 2 ^ 31) : a (nI l).toNatClampNeg = a l := by rw [nI_clamp h]
theorem wk_cla {a : Nat → Int32} {l : Nat} {x : Int32} (h : l < 2 ^ 31) (e : a l = x) : a (nI l).toNatClampNeg = x := by rw [nI_clamp h]; exact e
/-- the column, as a function of the place -/
noncomputable def bw_c (t : Nat → Nat) (n : Nat) (i : Nat) : Nat :=
  @dite _ (∃ p, p < n ∧ bw_p t n p = i) (Classical.propDecidable _) (fun h => t (bw_pv n (Classical.choose h))) (fun _ => 0)
theorem bw_cp {t : Nat → Nat} {n p : Nat} (hp : p < n) : bw_c t n (bw_p t n p) = t (bw_pv n p) := by
  have h : ∃ q, q < n ∧ bw_p t n q = bw_p t n p := ⟨p, hp, rfl⟩
  unfold bw_c
  rw [dif_pos h]
  have hc := Classical.choose_spec h
  rw [bw_pinj _ _ hc.1 hp hc.2]
theorem bw_c6 {t : Nat → Nat} (ht : ∀ i, t i < 6) (n i : Nat) : bw_c t n i < 6 := by
  unfold bw_c
  split
  · exact ht _
  · omega
theorem bw_cag {t : Nat → Nat} {n : Nat} {a : Nat → Int32} (h : ∀ p, p < n → a (bw_p t n p) = nI (t (bw_pv n p))) : ∀ i, i < n → a i = nI (bw_c t n i) := by
  intro i hi
  obtain ⟨p, hp, rfl⟩ := bw_psurj (t := t) i hi
  rw [h p hp, bw_cp hp]
section
variable {le mk sc ok bc rc rr : Int32} {tx co ro rk sl nw np ns no ln cb bi rs rd rm rt : Nat → Int32}
theorem xs_72 {post : Int32 → Prop} {J : Int32 → Int32 → Int32 → Prop} {x1 x2 z : Int32} {n r k : Nat} (hn : n ≤ 32) (hr : r < n) (hk : k < n)
    (h : J z (nI (bw_nx n r)) (nI (k + 1))) : wX_sortsBefore_72 post J x1 x2 (nI r) (nI k) z (nI n) mk sc ok bc rc rr tx co ro rk sl nw np ns no ln cb bi rs rd rm rt := by
  unfold bw_nx at h
  refine pk_le n (r + 1) (fun hc => nm_r (nI_1 k) ?_) (fun hc => nm_r (nI_1 r) (nm_r (nI_1 k) ?_)) rfl (nI_1 r)
  · rw [if_neg (by omega)] at h; exact h
  · rw [if_pos (by omega)] at h; exact h
theorem xs_8 {post : Int32 → Prop} {t : Nat → Nat} {n p q : Nat} (ht : ∀ i, t i < 6) (hn : n ≤ 32) (hp : p < n) (hq : q < n) : ∀ (m k l r : Nat), k + m = n → l < n → r < n →
    ((bw_x (bw_r t n m l) (bw_r t n m r) ∨ (bw_r t n m l = bw_r t n m r ∧ p < q)) → post 1) →
    (¬ (bw_x (bw_r t n m l) (bw_r t n m r) ∨ (bw_r t n m l = bw_r t n m r ∧ p < q)) → post 0) →
    wX_sortsBefore_8 post (nI p) (nI q) (nI n) mk sc ok bc rc rr (wk_f t) co ro rk sl nw np ns no ln cb bi rs rd rm rt (m + 1) (nI l) (nI r) (nI k) := by
  intro m
  induction m with
  | zero =>
    intro k l r hk hl hr h1 h0
    refine pk_le n k (fun _ => pk_le q p (fun hc => h0 ?_) (fun hc => h1 (Or.inr ⟨rfl, hc⟩))) (fun hc => absurd hc (by omega))
    intro hz
    rcases hz with hz | ⟨_, hz⟩
    · exact hz
    · omega
  | succ m ih =>
    intro k l r hk hl hr h1 h0
    have hl6 := ht l
    have hr6 := ht r
    refine pk_le n k (fun hc => absurd hc (by omega)) (fun _ => ⟨pk_in l 32 (by omega), pk_in r 32 (by omega), ?_⟩)
    refine pk_eq (t l) (t r) (fun he => ?_) (fun hne => ⟨pk_in l 32 (by omega), pk_in r 32 (by omega), ?_⟩) (wk_at (by omega)) (wk_at (by omega))
    · have hr' := bw_nxlt hr
      have hl' := bw_nxlt hl
      have hP : (bw_x (bw_r t n (m + 1) l) (bw_r t n (m + 1) r) ∨ (bw_r t n (m + 1) l = bw_r t n (m + 1) r ∧ p < q)) ↔
          (bw_x (bw_r t n m (bw_nx n l)) (bw_r t n m (bw_nx n r)) ∨ (bw_r t n m (bw_nx n l) = bw_r t n m (bw_nx n r) ∧ p < q)) := by
        show ((t l < t r ∨ (t l = t r ∧ bw_x (bw_r t n m (bw_nx n l)) (bw_r t n m (bw_nx n r)))) ∨ (t l :: bw_r t n m (bw_nx n l) = t r :: bw_r t n m (bw_nx n r) ∧ p < q)) ↔ _
        rw [he]
        simp
      rw [hP] at h1 h0
      have hI := ih (k + 1) (bw_nx n l) (bw_nx n r) (by omega) hl' hr' h1 h0
      refine pk_le n (l + 1) (fun hc => xs_72 hn hr (by omega) ?_) (fun hc => ?_) rfl (nI_1 l)
      · have e : bw_nx n l = 0 := by unfold bw_nx; rw [if_neg (by omega)]
        rw [e] at hI
        exact hI
      · have e : bw_nx n l = l + 1 := by unfold bw_nx; rw [if_pos (by omega)]
        rw [e] at hI
        rw [nI_1 l]
        exact xs_72 hn hr (by omega) hI
    · refine pk_le (t r) (t l) (fun hc => h0 ?_) (fun hc => h1 (Or.inl (Or.inl hc))) (wk_at (by omega)) (wk_at (by omega))
      intro hz
      rcases hz with hz | ⟨hz, _⟩
      · rcases hz with hz | ⟨hz, _⟩
        · omega
        · exact hne hz
      · exact hne (List.cons.inj hz).1
theorem xs_before {post : Int32 → Prop} {t : Nat → Nat} {n p q : Nat} (ht : ∀ i, t i < 6) (hn : n ≤ 32) (hp : p < n) (hq : q < n)
    (h1 : bw_B t n p q → post 1) (h0 : ¬ bw_B t n p q → post 0) : wpX_sortsBefore post (nI n, mk, sc, ok, bc, rc, rr, wk_f t, co, ro, rk, sl, nw, np, ns, no, ln, cb, bi, rs, rd, rm, rt) (nI p) (nI q) :=
  ⟨n + 1, xs_8 ht hn hp hq n 0 p q (by omega) hp hq h1 h0⟩
theorem xs_4 {post : Int32 → Prop} {t : Nat → Nat} {n p : Nat} (ht : ∀ i, t i < 6) (hn : n ≤ 32) (hp : p < n) (h : post (nI (bw_p t n p))) : ∀ (m i : Nat), i + m = n →
    wX_sortedPlace_4 post (nI p) (nI n) mk sc ok bc rc rr (wk_f t) co ro rk sl nw np ns no ln cb bi rs rd rm rt (m + 1) (nI (cn_ i (fun q => bw_b t n q p))) (nI i) := by
  intro m
  induction m with
  | zero =>
    intro i hi
    have e : i = n := by omega
    subst e
    exact pk_le i i (fun _ => h) (fun hc => absurd hc (by omega))
  | succ m ih =>
    intro i hi
    have hI := ih (i + 1) (by omega)
    rw [cn_s] at hI
    refine pk_le n i (fun hc => absurd hc (by omega)) (fun _ => xs_before ht hn (by omega) hp (fun hB => ?_) (fun hB => ?_))
    · rw [bw_bt.mpr hB, if_pos rfl] at hI
      exact br_f (by decide) (nm_r (nI_1 _) (nm_r (nI_1 i) hI))
    · rw [bw_bf hB] at hI
      exact br_t rfl (nm_r (nI_1 i) hI)
theorem xs_place {post : Int32 → Prop} {t : Nat → Nat} {n p : Nat} (ht : ∀ i, t i < 6) (hn : n ≤ 32) (hp : p < n) (h : post (nI (bw_p t n p))) :
    wpX_sortedPlace post (nI n, mk, sc, ok, bc, rc, rr, wk_f t, co, ro, rk, sl, nw, np, ns, no, ln, cb, bi, rs, rd, rm, rt) (nI p) :=
  ⟨n + 1, xs_4 ht hn hp h n 0 (by omega)⟩
theorem xs_46 {post : SX → Prop} {J : Int32 → Int32 → (Nat → Int32) → (Nat → Int32) → (Nat → Int32) → (Nat → Int32) → (Nat → Int32) → (Nat → Int32) → (Nat → Int32) → (Nat → Int32) → (Nat → Int32) → (Nat → Int32) → (Nat → Int32) → (Nat → Int32) → (Nat → Int32) → (Nat → Int32) → (Nat → Int32) → (Nat → Int32) → Prop}
    {t : Nat → Nat} {n i g z : Nat} (hi : i < 32) (hz : z < 32) (hg : g < 32)
    (h : J (nI (i + 1)) (if i = 0 then nI g else mk) (wk_f t) (upd co g (nI (t z))) ro rk sl nw np ns no ln cb bi rs rd rm rt) :
    wX_makeColumn_46 post J (nI i) (nI g) (nI z) (nI g) (nI n) mk sc ok bc rc rr (wk_f t) co ro rk sl nw np ns no ln cb bi rs rd rm rt := by
  refine ⟨pk_in z 32 hz, pk_in g 32 hg, nm_r (e' := upd co g (nI (t z))) ?_ (pk_eq i 0 (fun hc => nm_r (nI_1 i) ?_) (fun hc => nm_r (nI_1 i) ?_))⟩
  · rw [wk_at (by omega), nI_clamp (by omega)]
  · rw [if_pos hc] at h; exact h
  · rw [if_neg hc] at h; exact h
theorem xs_7 {post : SX → Prop} {t : Nat → Nat} {n : Nat} (ht : ∀ i, t i < 6) (hn : n ≤ 32)
    (h : ∀ (mk : Int32) (co : Nat → Int32), (0 < n → mk = nI (bw_p t n 0)) → (∀ p, p < n → co (bw_p t n p) = nI (t (bw_pv n p))) → post (nI n, mk, sc, ok, bc, rc, rr, wk_f t, co, ro, rk, sl, nw, np, ns, no, ln, cb, bi, rs, rd, rm, rt)) :
    ∀ (m i : Nat) (mk : Int32) (co : Nat → Int32), i + m = n → (0 < i → mk = nI (bw_p t n 0)) → (∀ p, p < i → co (bw_p t n p) = nI (t (bw_pv n p))) →
    wX_makeColumn_7 post (nI n) sc ok bc rc rr (m + 1) (nI i) mk (wk_f t) co ro rk sl nw np ns no ln cb bi rs rd rm rt := by
  intro m
  induction m with
  | zero =>
    intro i mk co hi hm hc
    have e : i = n := by omega
    subst e
    exact pk_le i i (fun _ => h mk co hm hc) (fun hc => absurd hc (by omega))
  | succ m ih =>
    intro i mk co hi hm hc
    refine pk_le n i (fun hc => absurd hc (by omega)) (fun _ => xs_place ht hn (by omega) ?_)
    have hg := bw_plt (t := t) (n := n) (p := i) (by omega)
    have hpv := bw_pvlt (n := n) (l := i) (by omega)
    have hI := ih (i + 1) (if i = 0 then nI (bw_p t n i) else mk) (upd co (bw_p t n i) (nI (t (bw_pv n i)))) (by omega) (by
      intro _
      by_cases e : i = 0
      · subst e; rw [if_pos rfl]
      · rw [if_neg e]; exact hm (by omega)) (by
      intro p hp
      by_cases e : p = i
      · subst e; exact pk_us
      · rw [pk_un (fun z => e (bw_pinj p i (by omega) (by omega) z))]
        exact hc p (by omega))
    refine pk_eq i 0 (fun e => ?_) (fun e => ?_)
    · have e2 : nI n - 1 = nI (bw_pv n i) := by
        unfold bw_pv; rw [if_pos e]; exact pk_sub (b := 1) (by omega)
      rw [e2]
      exact xs_46 (by omega) (by omega) (by omega) hI
    · have e2 : nI i - 1 = nI (bw_pv n i) := by
        unfold bw_pv; rw [if_neg e]; exact pk_sub (b := 1) (by omega)
      rw [e2]
      exact xs_46 (by omega) (by omega) (by omega) hI
theorem xs_col {post : SX → Prop} {t : Nat → Nat} {n : Nat} (ht : ∀ i, t i < 6) (hn : n ≤ 32)
    (h : ∀ (mk : Int32) (co : Nat → Int32), (0 < n → mk = nI (bw_p t n 0)) → (∀ i, i < n → co i = nI (bw_c t n i)) → post (nI n, mk, sc, ok, bc, rc, rr, wk_f t, co, ro, rk, sl, nw, np, ns, no, ln, cb, bi, rs, rd, rm, rt)) :
    wpX_makeColumn post (nI n, mk, sc, ok, bc, rc, rr, wk_f t, co, ro, rk, sl, nw, np, ns, no, ln, cb, bi, rs, rd, rm, rt) :=
  ⟨n + 1, xs_7 ht hn (fun mk co h1 h2 => h mk co h1 (bw_cag h2)) n 0 0 co (by omega) (fun z => absurd z (by omega)) (fun p hp => absurd hp (by omega))⟩
end
