/-! X: from the symbols back to the text -/
theorem xu_mono : ∀ (R X : List Nat) (w : Nat), X.length ≤ (R.foldl rl_st (X, w)).1.length
  | [], X, w => Nat.le_refl _
  | k :: R, X, w => by
    show X.length ≤ (R.foldl rl_st (rl_st (X, w) k)).1.length
    unfold rl_st
    by_cases h : k ≤ 1
    · rw [if_pos h]
      have := xu_mono R (X ++ List.replicate ((k + 1) * w) 0) (w * 2)
      rw [List.length_append] at this
      exact Nat.le_trans (Nat.le_add_right _ _) this
    · rw [if_neg h]
      have := xu_mono R (X ++ [k - 1]) 1
      rw [List.length_append] at this
      exact Nat.le_trans (Nat.le_add_right _ _) this
section
variable {le mk sc ok bc rc rr : Int32} {tx co ro rk sl nw np ns no ln cb bi rs rd rm rt : Nat → Int32}
theorem xu_2 {post : SX → Prop} {x c : Nat} (hc : c ≤ 32) : ∀ (m k : Nat) (L : List Nat) (rd : Nat → Int32), k + m = c → L.length + m ≤ 32 → wk_L rd L →
    (∀ rd : Nat → Int32, wk_L rd (L ++ List.replicate m x) → post (le, mk, sc, ok, bc, rc, nI (L ++ List.replicate m x).length, tx, co, ro, rk, sl, nw, np, ns, no, ln, cb, bi, rs, rd, rm, rt)) →
    wX_addReadRanks_2 post (nI x) (nI c) le mk sc ok bc rc (m + 1) (nI k) (nI L.length) tx co ro rk sl nw np ns no ln cb bi rs rd rm rt := by
  intro m
  induction m with
  | zero =>
    intro k L rd hk _ hL h
    have e : k = c := by omega
    subst e
    rw [show L ++ List.replicate 0 x = L from List.append_nil L] at h
    exact pk_le k k (fun _ => h rd hL) (fun hc => absurd hc (by omega))
  | succ m ih =>
    intro k L rd hk hl hL h
    refine pk_le c k (fun hc => absurd hc (by omega)) (fun _ => pk_le 32 L.length (fun hc => absurd hc (by omega)) (fun _ => ⟨pk_in L.length 32 (by omega), nm_r (e' := upd rd L.length (nI x)) (by rw [nI_clamp (by omega)]) (nm_r (nI_1 _) (nm_r (nI_1 k) ?_))⟩))
    have e1 : (L ++ [x]).length = L.length + 1 := by rw [List.length_append]; rfl
    have hI := ih (k + 1) (L ++ [x]) _ (by omega) (by omega) (wk_Ls hL) (by
      rw [List.append_assoc]
      exact h)
    rw [e1] at hI
    exact hI
theorem xu_add {post : SX → Prop} {x c : Nat} {L : List Nat} (hl : L.length + c ≤ 32) (hL : wk_L rd L)
    (h : ∀ rd : Nat → Int32, wk_L rd (L ++ List.replicate c x) → post (le, mk, sc, ok, bc, rc, nI (L ++ List.replicate c x).length, tx, co, ro, rk, sl, nw, np, ns, no, ln, cb, bi, rs, rd, rm, rt)) : wpX_addReadRanks post (le, mk, sc, ok, bc, rc, nI L.length, tx, co, ro, rk, sl, nw, np, ns, no, ln, cb, bi, rs, rd, rm, rt) (nI x) (nI c) :=
  ⟨c + 1, xu_2 (by omega) c 0 L rd (by omega) hl hL h⟩
theorem xu_9 {post : SX → Prop} {S : List Nat} (hS : wk_L rs S) (hS2 : S.length ≤ 32) (hS7 : ∀ x ∈ S, x < 7) : ∀ (R P X : List Nat) (w : Nat) (rd : Nat → Int32), P ++ R = S → (R.foldl rl_st (X, w)).1.length ≤ 32 → wk_L rd X →
    (∀ rd : Nat → Int32, wk_L rd (R.foldl rl_st (X, w)).1 → post (le, mk, sc, ok, bc, nI S.length, nI (R.foldl rl_st (X, w)).1.length, tx, co, ro, rk, sl, nw, np, ns, no, ln, cb, bi, rs, rd, rm, rt)) →
    wX_undoSymbols_9 post (R.length + 1) (nI w) (nI P.length) le mk sc ok bc (nI S.length) (nI X.length) tx co ro rk sl nw np ns no ln cb bi rs rd rm rt := by
  intro R
  induction R with
  | nil =>
    intro P X w rd hP _ hX h
    rw [List.append_nil] at hP
    subst hP
    exact pk_le P.length P.length (fun _ => h rd hX) (fun hc => absurd hc (by omega))
  | cons k R ih =>
    intro P X w rd hP hl hX h
    have hlen := congrArg List.length hP
    rw [List.length_append, List.length_cons] at hlen
    have hk7 : k < 7 := hS7 k (by rw [← hP]; simp)
    have hsx : rs P.length = nI k := wk_mid (R := R) (by rw [hP]; exact hS)
    have e3 : (P ++ [k]).length = P.length + 1 := by rw [List.length_append]; rfl
    have ef : (k :: R).foldl rl_st (X, w) = R.foldl rl_st (rl_st (X, w) k) := rfl
    rw [ef] at h hl
    unfold rl_st at h hl
    refine pk_le S.length P.length (fun hc => absurd hc (by omega)) (fun _ => ⟨pk_in P.length 32 (by omega), nm_r (wk_cla (by omega) hsx) (pk_lt 1 k (fun hc => ?_) (fun hc => ?_))⟩)
    · rw [if_neg (by omega)] at h hl
      have hm := xu_mono R (X ++ [k - 1]) 1
      rw [List.length_append] at hm
      have hm2 : X.length + 1 ≤ 32 := Nat.le_trans hm hl
      rw [show nI k - 1 = nI (k - 1) from pk_sub (b := 1) (by omega)]
      refine xu_add (c := 1) hm2 hX ?_
      intro rd' hX'
      have hI := ih (P ++ [k]) (X ++ [k - 1]) 1 rd' (by rw [List.append_assoc]; exact hP) hl hX' h
      rw [e3] at hI
      exact nm_r (nI_1 _) hI
    · rw [if_pos hc] at h hl
      have hm := xu_mono R (X ++ List.replicate ((k + 1) * w) 0) (w * 2)
      rw [List.length_append, List.length_replicate] at hm
      have hm2 : X.length + (k + 1) * w ≤ 32 := Nat.le_trans hm hl
      rw [show nI k + 1 = nI (k + 1) from nI_1 k, pk_mul]
      refine xu_add (x := 0) hm2 hX ?_
      intro rd' hX'
      have hI := ih (P ++ [k]) _ (w * 2) rd' (by rw [List.append_assoc]; exact hP) hl hX' h
      rw [e3] at hI
      exact nm_r (e' := nI (w * 2)) (pk_mul w 2) (nm_r (nI_1 _) hI)
theorem xu_sym {post : SX → Prop} {S X : List Nat} (hS : wk_L rs S) (hS2 : S.length ≤ 32) (hS7 : ∀ x ∈ S, x < 7) {n : Nat} (hX : (S.foldl rl_st ([], 1)).1 = X) (hX2 : X.length = n) (hn : n ≤ 32)
    (h : ∀ rd : Nat → Int32, wk_L rd X → post (le, mk, sc, ok, bc, nI S.length, nI n, tx, co, ro, rk, sl, nw, np, ns, no, ln, cb, bi, rs, rd, rm, rt)) : wpX_undoSymbols post (le, mk, sc, ok, bc, nI S.length, rr, tx, co, ro, rk, sl, nw, np, ns, no, ln, cb, bi, rs, rd, rm, rt) := by
  subst hX2
  subst hX
  exact ⟨S.length + 1, xu_9 hS hS2 hS7 S [] [] 1 rd rfl hn (wk_L0 rd) h⟩
theorem xu_6 {post : SX → Prop} {c : Nat → Nat} {n : Nat} (hn : n ≤ 32) (hc6 : ∀ i, c i < 6) (hr : ∀ i, i < n → rd i = nI (mf_rk c i))
    (h : ∀ ro rm : Nat → Int32, (∀ j, j < n → rm j = nI (c j)) → post (le, mk, sc, ok, bc, rc, nI n, tx, co, ro, rk, sl, nw, np, ns, no, ln, cb, bi, rs, rd, rm, rt)) : ∀ (m i : Nat) (ro rm : Nat → Int32), i + m = n → (∀ j, j < i → rm j = nI (c j)) → (∀ j, j < 6 → ro j = nI (mf_row c i j)) →
    wX_undoRanks_6 post (m + 1) (nI i) le mk sc ok bc rc (nI n) tx co ro rk sl nw np ns no ln cb bi rs rd rm rt := by
  intro m
  induction m with
  | zero =>
    intro i ro rm hi h1 h2
    have e : i = n := by omega
    subst e
    exact pk_le i i (fun _ => h ro rm h1) (fun hc => absurd hc (by omega))
  | succ m ih =>
    intro i ro rm hi h1 h2
    have hin := pk_in (x := nI i) i 32 (by omega)
    have hr6 := mf_rklt c i
    refine pk_le n i (fun hc => absurd hc (by omega)) (fun _ => ⟨hin, nm_r (wk_cla (by omega) (hr i (by omega))) ⟨pk_in _ 6 hr6, hin, nm_r (e' := upd rm i (nI (c i))) ?_ (xr_front hr6 h2 ?_)⟩⟩)
    · rw [nI_clamp (n := i) (by omega), wk_cla (by omega) (h2 _ hr6), mf_back c i (hc6 i)]
    · intro ro' h3
      refine nm_r (nI_1 i) (ih (i + 1) ro' _ (by omega) ?_ h3)
      intro j hj
      by_cases e : j = i
      · subst e; exact pk_us
      · rw [pk_un e]; exact h1 j (by omega)
theorem xu_ranks {post : SX → Prop} {c : Nat → Nat} {n : Nat} (hn : n ≤ 32) (hc6 : ∀ i, c i < 6) (hr : ∀ i, i < n → rd i = nI (mf_rk c i))
    (h : ∀ ro rm : Nat → Int32, (∀ j, j < n → rm j = nI (c j)) → post (le, mk, sc, ok, bc, rc, nI n, tx, co, ro, rk, sl, nw, np, ns, no, ln, cb, bi, rs, rd, rm, rt)) : wpX_undoRanks post (le, mk, sc, ok, bc, rc, nI n, tx, co, ro, rk, sl, nw, np, ns, no, ln, cb, bi, rs, rd, rm, rt) := by
  unfold wpX_undoRanks
  dsimp only
  refine xr_reset ?_
  intro ro' hr'
  exact ⟨n + 1, xu_6 hn hc6 hr h n 0 ro' rm (by omega) (fun j hj => absurd hj (by omega)) hr'⟩
theorem xu_12 {post : Int32 → Prop} {c : Nat → Nat} {n g : Nat} (hn : n ≤ 32) (hc6 : ∀ i, c i < 6) (hg : g < n) (hm : ∀ j, j < n → rm j = nI (c j))
    (h : post (nI (cn_ n (fun k => decide (c k < c g ∨ (c k = c g ∧ k < g)))))) : ∀ (m i : Nat), i + m = n →
    wX_placeOneEarlier_12 post (nI g) (nI (c g)) le mk sc ok bc rc (nI n) tx co ro rk sl nw np ns no ln cb bi rs rd rm rt (m + 1) (nI (cn_ i (fun k => decide (c k < c g ∨ (c k = c g ∧ k < g))))) (nI i) := by
  intro m
  induction m with
  | zero =>
    intro i hi
    have e : i = n := by omega
    subst e
    exact pk_le i i (fun _ => h) (fun hc => absurd hc (by omega))
  | succ m ih =>
    intro i hi
    have hI := ih (i + 1) (by omega)
    rw [cn_s] at hI
    have hin := pk_in (x := nI i) i 32 (by omega)
    have c1 := hc6 i
    have c2 := hc6 g
    have hmi : rm (nI i).toNatClampNeg = nI (c i) := wk_cla (by omega) (hm i (by omega))
    refine pk_le n i (fun hc => absurd hc (by omega)) (fun _ => ⟨hin, pk_lt (c i) (c g) (fun hlt => ?_) (fun hge => ⟨hin, pk_eq (c i) (c g) (fun he => pk_le g i (fun hle => ?_) (fun hgt => ?_)) (fun hne => ?_) hmi⟩) hmi⟩)
    · rw [decide_eq_true (Or.inl hlt), if_pos rfl] at hI
      exact nm_r (nI_1 _) (nm_r (nI_1 i) hI)
    · rw [decide_eq_false (by omega)] at hI
      exact nm_r (nI_1 i) hI
    · rw [decide_eq_true (Or.inr ⟨he, hgt⟩), if_pos rfl] at hI
      exact nm_r (nI_1 _) (nm_r (nI_1 i) hI)
    · rw [decide_eq_false (by omega)] at hI
      exact nm_r (nI_1 i) hI
theorem xu_earl {post : Int32 → Prop} {c : Nat → Nat} {n g : Nat} (hn : n ≤ 32) (hc6 : ∀ i, c i < 6) (hg : g < n) (hm : ∀ j, j < n → rm j = nI (c j))
    (h : post (nI (cn_ n (fun k => decide (c k < c g ∨ (c k = c g ∧ k < g)))))) : wpX_placeOneEarlier post (le, mk, sc, ok, bc, rc, nI n, tx, co, ro, rk, sl, nw, np, ns, no, ln, cb, bi, rs, rd, rm, rt) (nI g) :=
  ⟨pk_in g 32 (by omega), nm_r (wk_cla (by omega) (hm g hg)) ⟨n + 1, xu_12 hn hc6 hg hm h n 0 (by omega)⟩⟩
def xu_e (n d : Nat) : Nat := if d = n then 0 else d
theorem xu_pe {n d : Nat} (h : d < n) : bw_pv n (xu_e n (d + 1)) = d := by
  unfold bw_pv xu_e
  by_cases c : d + 1 = n
  · rw [if_pos c, if_pos rfl]; omega
  · rw [if_neg c, if_neg (by omega)]; omega
theorem xu_el {n d : Nat} (h : d ≤ n) (hn : 0 < n) : xu_e n d < n := by
  unfold xu_e
  split <;> omega
theorem xu_c12 {post : SX → Prop} {t : Nat → Nat} {n : Nat} (ht : ∀ i, t i < 6) (hn : n ≤ 32) (hm : ∀ j, j < n → rm j = nI (bw_c t n j))
    (h : ∀ rt : Nat → Int32, (∀ j, j < n → rt j = nI (t j)) → post (le, mk, sc, ok, bc, rc, nI n, tx, co, ro, rk, sl, nw, np, ns, no, ln, cb, bi, rs, rd, rm, rt)) : ∀ (d q : Nat) (rt : Nat → Int32), d ≤ n → q < n → bw_R t n q = bw_R t n (xu_e n d) → (∀ j, d ≤ j → j < n → rt j = nI (t j)) →
    wX_undoColumn_12 post le mk sc ok bc rc (nI n) (d + 1) (nI (bw_p t n q)) (nI d + (-1)) tx co ro rk sl nw np ns no ln cb bi rs rd rm rt := by
  intro d
  induction d with
  | zero =>
    intro q rt _ _ _ h1
    exact br_t (by decide) (h rt (fun j hj => h1 j (by omega) hj))
  | succ d ih =>
    intro q rt hd hq hR h1
    obtain ⟨m, rfl⟩ : ∃ m, n = m + 1 := ⟨n - 1, by omega⟩
    rw [pk_m1 d]
    have hplt := bw_plt (t := t) hq
    have hse := bw_same hq (xu_el hd (by omega)) hR
    rw [xu_pe (by omega)] at hse
    have hcq : bw_c t (m + 1) (bw_p t (m + 1) q) = t d := by rw [bw_cp hq, hse.1]
    refine br_f (nI_pos (by omega)) ⟨pk_in (bw_p t (m + 1) q) 32 (by omega), pk_in d 32 (by omega), nm_r (e' := upd rt d (nI (t d))) ?_ (xu_earl hn (fun i => bw_c6 ht (m + 1) i) hplt hm ?_)⟩
    · rw [nI_clamp (n := d) (by omega), wk_cla (by omega) (hm _ hplt), hcq]
    · obtain ⟨q', hq', e1, e2⟩ := bw_LF (t := t) (c := bw_c t (m + 1)) (m := m) (fun p hp => bw_cp hp) hq
      rw [e1]
      refine nm_e (ih q' _ (by omega) hq' ?_ ?_)
      · rw [e2, hse.2]
        congr 1
        unfold xu_e
        rw [if_neg (by omega)]
      · intro j hj1 hj2
        by_cases e : j = d
        · subst e; exact pk_us
        · rw [pk_un e]; exact h1 j (by omega) hj2
theorem xu_col {post : SX → Prop} {t : Nat → Nat} {n : Nat} (ht : ∀ i, t i < 6) (hn : n ≤ 32) (hm : ∀ j, j < n → rm j = nI (bw_c t n j)) (hk : 0 < n → mk = nI (bw_p t n 0))
    (h : ∀ rt : Nat → Int32, (∀ j, j < n → rt j = nI (t j)) → post (le, mk, sc, ok, bc, rc, nI n, tx, co, ro, rk, sl, nw, np, ns, no, ln, cb, bi, rs, rd, rm, rt)) : wpX_undoColumn post (le, mk, sc, ok, bc, rc, nI n, tx, co, ro, rk, sl, nw, np, ns, no, ln, cb, bi, rs, rd, rm, rt) := by
  refine nm_r (e' := nI n + (-1)) (Int32.sub_eq_add_neg _ _) ⟨n + 1, ?_⟩
  by_cases c : n = 0
  · subst c
    exact br_t (by decide) (h rt (fun j hj => absurd hj (by omega)))
  · rw [hk (by omega)]
    refine xu_c12 ht hn hm (by rw [← hk (by omega)]; exact h) n 0 rt (Nat.le_refl _) (by omega) ?_ (fun j h1 h2 => absurd h2 (by omega))
    unfold xu_e
    rw [if_pos rfl]
end
