/-! Y's sorting and ranks -/
def yb_i (n p k : Nat) : Nat := if p + k < n then p + k else p + k - n
theorem yb_lt {n p k : Nat} (hp : p < n) (hk : k ≤ n) : yb_i n p k < n := by unfold yb_i; split <;> omega
theorem yb_nx {n p k : Nat} (hp : p < n) (hk : k < n) : bw_nx n (yb_i n p k) = yb_i n p (k + 1) := by
  unfold bw_nx yb_i
  by_cases c : p + k < n
  · rw [if_pos c]
    by_cases d : p + k + 1 < n
    · rw [if_pos d, if_pos (by omega)]; omega
    · rw [if_neg d, if_neg (by omega)]; omega
  · rw [if_neg c, if_pos (by omega), if_neg (by omega)]; omega
theorem yb_m {n p k : Nat} (hn : n ≤ 32) (hp : p < n) (hk : k < n) (h : n ≤ p + k) : (nI p + nI k - nI n) &&& 31 = nI (yb_i n p k) := by
  rw [nI_add, pk_sub h, pk_andN (by omega) (m := 31) 5 (by decide)]
  unfold yb_i
  rw [if_neg (by omega), Nat.mod_eq_of_lt (by omega)]
section
variable {fn fc fm : Int32} {tx co rk sy ro of ln : Nat → Int32}
theorem yb_75 {post : Int32 → Prop} {J : Int32 → Prop} {x1 x2 : Int32} {t : Nat → Nat} {k l r : Nat} (ht : ∀ i, t i < 6) (hr : r < 32) (hJ : t l = t r → J (nI (k + 1))) (h1 : t l < t r → post 1) (h0 : t r < t l → post 0) :
    wY_before_75 post J x1 x2 (nI k) (nI (t l)) (nI r) fn fc fm (wk_f t) co rk sy ro of ln := by
  have a := ht l
  have b := ht r
  exact ⟨pk_in r 32 hr, nm_r (wk_at (by omega)) (pk_eq (t l) (t r) (fun e => nm_r (nI_1 k) (hJ e)) (fun hne => pk_le (t r) (t l) (fun hc => h0 (by omega)) (fun hc => h1 hc)))⟩
theorem yb_41 {post : Int32 → Prop} {J : Int32 → Prop} {x1 : Int32} {t : Nat → Nat} {n q k l : Nat} (ht : ∀ i, t i < 6) (hn : n ≤ 32) (hq : q < n) (hk : k < n) (hl : l < 32)
    (hJ : t l = t (yb_i n q k) → J (nI (k + 1))) (h1 : t l < t (yb_i n q k) → post 1) (h0 : t (yb_i n q k) < t l → post 0) :
    wY_before_41 post J x1 (nI q) (nI k) (nI l) (nI n) fc fm (wk_f t) co rk sy ro of ln := by
  have hr := yb_lt (n := n) (p := q) (k := k) hq (by omega)
  refine ⟨pk_in l 32 hl, nm_r (wk_at (by omega)) (pk_le n (q + k) (fun hc => ?_) (fun hc => ?_) rfl (nI_add q k))⟩
  · rw [yb_m hn hq hk hc]
    exact yb_75 ht (by omega) hJ h1 h0
  · have e : nI q + nI k = nI (yb_i n q k) := by unfold yb_i; rw [if_pos hc, nI_add]
    rw [e]
    exact yb_75 ht (by omega) hJ h1 h0
theorem yb_2 {post : Int32 → Prop} {t : Nat → Nat} {n p q : Nat} (ht : ∀ i, t i < 6) (hn : n ≤ 32) (hp : p < n) (hq : q < n) : ∀ (m k : Nat), k + m = n →
    ((bw_x (bw_r t n m (yb_i n p k)) (bw_r t n m (yb_i n q k)) ∨ (bw_r t n m (yb_i n p k) = bw_r t n m (yb_i n q k) ∧ p < q)) → post 1) →
    (¬ (bw_x (bw_r t n m (yb_i n p k)) (bw_r t n m (yb_i n q k)) ∨ (bw_r t n m (yb_i n p k) = bw_r t n m (yb_i n q k) ∧ p < q)) → post 0) →
    wY_before_2 post (nI p) (nI q) (nI n) fc fm (wk_f t) co rk sy ro of ln (m + 1) (nI k) := by
  intro m
  induction m with
  | zero =>
    intro k hk h1 h0
    refine pk_le n k (fun _ => pk_le q p (fun hc => h0 ?_) (fun hc => h1 (Or.inr ⟨rfl, hc⟩))) (fun hc => absurd hc (by omega))
    intro hz
    rcases hz with hz | ⟨_, hz⟩
    · exact hz
    · omega
  | succ m ih =>
    intro k hk h1 h0
    have hl := yb_lt (n := n) (p := p) (k := k) hp (by omega)
    have g1 : t (yb_i n p k) < t (yb_i n q k) → post 1 := fun hc => h1 (Or.inl (Or.inl hc))
    have g0 : t (yb_i n q k) < t (yb_i n p k) → post 0 := fun hc => h0 (by
      intro hz
      rcases hz with hz | ⟨hz, _⟩
      · rcases hz with hz | ⟨hz, _⟩
        · omega
        · omega
      · have := (List.cons.inj hz).1; omega)
    have gJ : t (yb_i n p k) = t (yb_i n q k) → wY_before_2 post (nI p) (nI q) (nI n) fc fm (wk_f t) co rk sy ro of ln (m + 1) (nI (k + 1)) := by
      intro he
      have hP : (bw_x (bw_r t n (m + 1) (yb_i n p k)) (bw_r t n (m + 1) (yb_i n q k)) ∨ (bw_r t n (m + 1) (yb_i n p k) = bw_r t n (m + 1) (yb_i n q k) ∧ p < q)) ↔
          (bw_x (bw_r t n m (yb_i n p (k + 1))) (bw_r t n m (yb_i n q (k + 1))) ∨ (bw_r t n m (yb_i n p (k + 1)) = bw_r t n m (yb_i n q (k + 1)) ∧ p < q)) := by
        rw [← yb_nx hp (by omega : k < n), ← yb_nx hq (by omega : k < n)]
        show ((t (yb_i n p k) < t (yb_i n q k) ∨ (t (yb_i n p k) = t (yb_i n q k) ∧ bw_x (bw_r t n m (bw_nx n (yb_i n p k))) (bw_r t n m (bw_nx n (yb_i n q k))))) ∨ (t (yb_i n p k) :: bw_r t n m (bw_nx n (yb_i n p k)) = t (yb_i n q k) :: bw_r t n m (bw_nx n (yb_i n q k)) ∧ p < q)) ↔ _
        rw [he]
        simp
      rw [hP] at h1 h0
      exact ih (k + 1) (by omega) h1 h0
    refine pk_le n k (fun hc => absurd hc (by omega)) (fun _ => pk_le n (p + k) (fun hc => ?_) (fun hc => ?_) rfl (nI_add p k))
    · rw [yb_m hn hp (by omega) hc]
      exact yb_41 ht hn hq (by omega) (by omega) gJ g1 g0
    · have e : nI p + nI k = nI (yb_i n p k) := by unfold yb_i; rw [if_pos hc, nI_add]
      rw [e]
      exact yb_41 ht hn hq (by omega) (by omega) gJ g1 g0
theorem yb_before {post : Int32 → Prop} {t : Nat → Nat} {n p q : Nat} (ht : ∀ i, t i < 6) (hn : n ≤ 32) (hp : p < n) (hq : q < n)
    (h1 : bw_B t n p q → post 1) (h0 : ¬ bw_B t n p q → post 0) : wpY_before post (nI n, fc, fm, wk_f t, co, rk, sy, ro, of, ln) (nI p) (nI q) := by
  have e1 : yb_i n p 0 = p := by unfold yb_i; rw [if_pos (by omega)]; rfl
  have e2 : yb_i n q 0 = q := by unfold yb_i; rw [if_pos (by omega)]; rfl
  refine ⟨n + 1, yb_2 ht hn hp hq n 0 (by omega) ?_ ?_⟩
  · rw [e1, e2]; exact h1
  · rw [e1, e2]; exact h0
theorem ys_70 {post : SY → Prop} {J : Int32 → Int32 → (Nat → Int32) → (Nat → Int32) → (Nat → Int32) → (Nat → Int32) → (Nat → Int32) → (Nat → Int32) → (Nat → Int32) → Prop}
    {t : Nat → Nat} {n i g z : Nat} (hi : i < 32) (hz : z < 32) (hg : g < 32)
    (h : J (nI (i + 1)) (if i = 0 then nI g else fm) (wk_f t) (upd co g (nI (t z))) rk sy ro of ln) :
    wY_sort_70 post J (nI i) (nI g) (nI z) (nI g) (nI n) fc fm (wk_f t) co rk sy ro of ln := by
  refine ⟨pk_in z 32 hz, pk_in g 32 hg, nm_r (e' := upd co g (nI (t z))) ?_ (pk_eq i 0 (fun hc => nm_r (nI_1 i) ?_) (fun hc => nm_r (nI_1 i) ?_))⟩
  · rw [wk_at (by omega), nI_clamp (by omega)]
  · rw [if_pos hc] at h; exact h
  · rw [if_neg hc] at h; exact h
theorem ys_14 {post : SY → Prop} {J : Int32 → Int32 → (Nat → Int32) → (Nat → Int32) → (Nat → Int32) → (Nat → Int32) → (Nat → Int32) → (Nat → Int32) → (Nat → Int32) → Prop}
    {t : Nat → Nat} {n p : Nat} (ht : ∀ i, t i < 6) (hn : n ≤ 32) (hp : p < n)
    (h : J (nI (p + 1)) (if p = 0 then nI (bw_p t n p) else fm) (wk_f t) (upd co (bw_p t n p) (nI (t (bw_pv n p)))) rk sy ro of ln) : ∀ (m i : Nat), i + m = n →
    wY_sort_14 post J (nI p) (nI n) fc fm (wk_f t) co rk sy ro of ln (m + 1) (nI (cn_ i (fun q => bw_b t n q p))) (nI i) := by
  intro m
  have hg := bw_plt (t := t) (n := n) (p := p) hp
  have hpv := bw_pvlt (n := n) (l := p) hp
  induction m with
  | zero =>
    intro i hi
    have e : i = n := by omega
    subst e
    refine pk_le i i (fun _ => pk_eq p 0 (fun e => ?_) (fun e => ?_)) (fun hc => absurd hc (by omega))
    · have e2 : nI i - 1 = nI (bw_pv i p) := by
        unfold bw_pv; rw [if_pos e]; exact pk_sub (b := 1) (by omega)
      rw [e2]
      exact ys_70 (g := bw_p t i p) (by omega) (by omega) (by omega) h
    · have e2 : nI p - 1 = nI (bw_pv i p) := by
        unfold bw_pv; rw [if_neg e]; exact pk_sub (b := 1) (by omega)
      rw [e2]
      exact ys_70 (g := bw_p t i p) (by omega) (by omega) (by omega) h
  | succ m ih =>
    intro i hi
    have hI := ih (i + 1) (by omega)
    rw [cn_s] at hI
    refine pk_le n i (fun hc => absurd hc (by omega)) (fun _ => pk_eq i p (fun e => ?_) (fun e => yb_before ht hn (by omega) hp (fun hB => ?_) (fun hB => ?_)))
    · subst e
      rw [bw_bf bw_Bi] at hI
      exact nm_r (nI_1 i) hI
    · rw [bw_bt.mpr hB, if_pos rfl] at hI
      exact br_f (by decide) (nm_r (nI_1 _) (nm_r (nI_1 i) hI))
    · rw [bw_bf hB] at hI
      exact br_t rfl (nm_r (nI_1 i) hI)
theorem ys_2 {post : SY → Prop} {t : Nat → Nat} {n : Nat} (ht : ∀ i, t i < 6) (hn : n ≤ 32)
    (h : ∀ (fm : Int32) (co : Nat → Int32), (0 < n → fm = nI (bw_p t n 0)) → (∀ p, p < n → co (bw_p t n p) = nI (t (bw_pv n p))) → post (nI n, fc, fm, wk_f t, co, rk, sy, ro, of, ln)) :
    ∀ (m i : Nat) (fm : Int32) (co : Nat → Int32), i + m = n → (0 < i → fm = nI (bw_p t n 0)) → (∀ p, p < i → co (bw_p t n p) = nI (t (bw_pv n p))) →
    wY_sort_2 post (nI n) fc (m + 1) (nI i) fm (wk_f t) co rk sy ro of ln := by
  intro m
  induction m with
  | zero =>
    intro i fm co hi hm hc
    have e : i = n := by omega
    subst e
    exact pk_le i i (fun _ => h fm co hm hc) (fun hc => absurd hc (by omega))
  | succ m ih =>
    intro i fm co hi hm hc
    have hI := ih (i + 1) (if i = 0 then nI (bw_p t n i) else fm) (upd co (bw_p t n i) (nI (t (bw_pv n i)))) (by omega) (by
      intro _
      by_cases e : i = 0
      · subst e; rw [if_pos rfl]
      · rw [if_neg e]; exact hm (by omega)) (by
      intro p hp
      by_cases e : p = i
      · subst e; exact pk_us
      · rw [pk_un (fun z => e (bw_pinj p i (by omega) (by omega) z))]
        exact hc p (by omega))
    exact pk_le n i (fun hc => absurd hc (by omega)) (fun _ => ⟨n + 1, ys_14 ht hn (by omega) hI n 0 (by omega)⟩)
theorem ys_sort {post : SY → Prop} {t : Nat → Nat} {n : Nat} (ht : ∀ i, t i < 6) (hn : n ≤ 32)
    (h : ∀ (fm : Int32) (co : Nat → Int32), (0 < n → fm = nI (bw_p t n 0)) → (∀ i, i < n → co i = nI (bw_c t n i)) → post (nI n, fc, fm, wk_f t, co, rk, sy, ro, of, ln)) :
    wpY_sort post (nI n, fc, fm, wk_f t, co, rk, sy, ro, of, ln) :=
  ⟨n + 1, ys_2 ht hn (fun fm co h1 h2 => h fm co h1 (bw_cag h2)) n 0 fm co (by omega) (fun z => absurd z (by omega)) (fun p hp => absurd hp (by omega))⟩
theorem yr_73 {post : SY → Prop} {J : Int32 → (Nat → Int32) → (Nat → Int32) → (Nat → Int32) → (Nat → Int32) → (Nat → Int32) → (Nat → Int32) → (Nat → Int32) → Prop} {i r : Nat} (hi : i < 32) (hr : r < 6) : ∀ (k : Nat) (ro : Nat → Int32), k < 6 →
    (∀ ro' : Nat → Int32, (∀ j, j < 6 → ro' j = if j = 0 then co i else if j ≤ k ∧ j ≤ r then ro (j - 1) else ro j) → J (nI (i + 1)) tx co rk sy ro' of ln) →
    wY_rankAll_73 post J (nI i) (nI r) fn fc fm (k + 1) (nI k) tx co rk sy ro of ln := by
  intro k
  induction k with
  | zero =>
    intro ro hk h
    refine pk_le 0 0 (fun _ => ⟨pk_in i 32 hi, nm_r (e' := upd ro 0 (co i)) (by rw [nI_clamp (by omega)]) (nm_r (nI_1 i) (h _ ?_))⟩) (fun hc => absurd hc (by omega))
    intro j hj
    by_cases e : j = 0
    · subst e; rw [if_pos rfl]; exact pk_us
    · rw [if_neg e, if_neg (by omega)]; exact pk_un e
  | succ k ih =>
    intro ro hk h
    refine pk_le (k + 1) 0 (fun hc => absurd hc (by omega)) (fun _ => pk_lt r (k + 1) (fun hlt => nm_r (pk_m1 k) (ih ro (by omega) ?_)) (fun hge => ⟨pk_in k 6 (by omega) (nI_pred k), pk_in (k + 1) 6 (by omega), nm_e (nm_r (pk_m1 k) (ih _ (by omega) ?_))⟩))
    · intro ro' h'
      refine h ro' ?_
      intro j hj
      rw [h' j hj]
      by_cases e : j = 0
      · rw [if_pos e, if_pos e]
      · rw [if_neg e, if_neg e]
        by_cases e2 : j ≤ k ∧ j ≤ r
        · rw [if_pos e2, if_pos (by omega)]
        · rw [if_neg e2, if_neg (by omega)]
    · intro ro' h'
      refine h ro' ?_
      intro j hj
      rw [h' j hj]
      by_cases e : j = 0
      · rw [if_pos e, if_pos e]
      · rw [if_neg e, if_neg e, nI_clamp (by omega), nI_pred, nI_clamp (by omega)]
        by_cases e2 : j ≤ k ∧ j ≤ r
        · rw [if_pos e2, if_pos (by omega), pk_un (by omega)]
        · rw [if_neg e2]
          by_cases e3 : j = k + 1
          · subst e3; rw [if_pos (by omega), pk_us]; rfl
          · rw [if_neg (by omega), pk_un (by omega)]
theorem yr_35 {post : SY → Prop} {J : Int32 → (Nat → Int32) → (Nat → Int32) → (Nat → Int32) → (Nat → Int32) → (Nat → Int32) → (Nat → Int32) → (Nat → Int32) → Prop} {i c : Nat} {row : Nat → Nat} (hi : i < 32) (hc6 : c < 6) (hc : co i = nI c)
    (hr6 : ∀ j, j < 6 → row j < 6) (hr : ∀ j, j < 6 → ro j = nI (row j)) (hok : row (mf_pl row c 6) = c)
    (h : ∀ ro' : Nat → Int32, (∀ j, j < 6 → ro' j = nI (mf_mv row (mf_pl row c 6) j)) → J (nI (i + 1)) tx co (upd rk i (nI (mf_pl row c 6))) sy ro' of ln) : ∀ (m k : Nat), k + m = 6 →
    wY_rankAll_35 post J (nI i) fn fc fm tx co rk sy ro of ln (m + 1) (nI (mf_pl row c k)) (nI k) := by
  intro m
  have hin := pk_in (x := nI i) i 32 hi
  induction m with
  | zero =>
    intro k hk
    have e : k = 6 := by omega
    subst e
    have hp6 := mf_pllt (row := row) (c := c) (k := 6) (by omega)
    refine pk_le 6 6 (fun _ => ⟨hin, nm_r (e' := upd rk i (nI (mf_pl row c 6))) (by rw [nI_clamp (by omega)]) ⟨6, yr_73 hi hp6 5 ro (by omega) ?_⟩⟩) (fun hc => absurd hc (by omega))
    intro ro' h'
    refine h ro' ?_
    intro j hj
    rw [h' j hj]
    unfold mf_mv
    by_cases e : j = 0
    · rw [if_pos e, if_pos e, hok]; exact hc
    · rw [if_neg e, if_neg e]
      by_cases e2 : j ≤ mf_pl row c 6
      · rw [if_pos (by omega), if_pos e2]; exact hr _ (by omega)
      · rw [if_neg (by omega), if_neg e2]; exact hr _ hj
  | succ m ih =>
    intro k hk
    have hI := ih (k + 1) (by omega)
    have h6 := hr6 k (by omega)
    have e : mf_pl row c (k + 1) = if row k = c then k else mf_pl row c k := rfl
    rw [e] at hI
    refine pk_le 6 k (fun hc => absurd hc (by omega)) (fun _ => ⟨pk_in k 6 (by omega), hin, pk_eq (row k) c (fun hc => nm_r (nI_1 k) ?_) (fun hc => nm_r (nI_1 k) ?_) (wk_cla (by omega) (hr k (by omega))) (wk_cla (by omega) hc)⟩)
    · rw [if_pos hc] at hI; exact hI
    · rw [if_neg hc] at hI; exact hI
theorem yr_23 {post : SY → Prop} {c : Nat → Nat} {n : Nat} (hn : n ≤ 32) (hc6 : ∀ i, c i < 6) (hc : ∀ i, i < n → co i = nI (c i))
    (h : ∀ rk ro : Nat → Int32, (∀ j, j < n → rk j = nI (mf_rk c j)) → post (nI n, fc, fm, tx, co, rk, sy, ro, of, ln)) : ∀ (m i : Nat) (rk ro : Nat → Int32), i + m = n → (∀ j, j < i → rk j = nI (mf_rk c j)) → (∀ j, j < 6 → ro j = nI (mf_row c i j)) →
    wY_rankAll_23 post (nI n) fc fm (m + 1) (nI i) tx co rk sy ro of ln := by
  intro m
  induction m with
  | zero =>
    intro i rk ro hi h1 h2
    have e : i = n := by omega
    subst e
    exact pk_le i i (fun _ => h rk ro h1) (fun hc => absurd hc (by omega))
  | succ m ih =>
    intro i rk ro hi h1 h2
    refine pk_le n i (fun hc => absurd hc (by omega)) (fun _ => ⟨7, yr_35 (by omega) (hc6 i) (hc i (by omega)) (mf_rowlt c i) h2 (mf_back c i (hc6 i)) ?_ 6 0 (by omega)⟩)
    intro ro' h3
    refine ih (i + 1) _ ro' (by omega) ?_ h3
    intro j hj
    by_cases e : j = i
    · subst e; exact pk_us
    · rw [pk_un e]; exact h1 j (by omega)
theorem yr_2 {post : SY → Prop} {n : Nat} (h : ∀ ro : Nat → Int32, (∀ j, j < 6 → ro j = nI j) → ∃ n23 : Nat, wY_rankAll_23 post (nI n) fc fm n23 0 tx co rk sy ro of ln) : ∀ (m i : Nat) (ro : Nat → Int32), i + m = 6 → (∀ j, j < i → ro j = nI j) →
    wY_rankAll_2 post (nI n) fc fm (m + 1) (nI i) tx co rk sy ro of ln := by
  intro m
  induction m with
  | zero =>
    intro i ro hi hr
    have e : i = 6 := by omega
    subst e
    exact pk_le 6 6 (fun _ => h ro hr) (fun hc => absurd hc (by omega))
  | succ m ih =>
    intro i ro hi hr
    refine pk_le 6 i (fun hc => absurd hc (by omega)) (fun _ => ⟨pk_in i 6 (by omega), nm_e (nm_r (nI_1 i) (ih (i + 1) _ (by omega) ?_))⟩)
    intro j hj
    rw [nI_clamp (by omega)]
    by_cases e : j = i
    · subst e; exact pk_us
    · rw [pk_un e]; exact hr j (by omega)
theorem yr_all {post : SY → Prop} {c : Nat → Nat} {n : Nat} (hn : n ≤ 32) (hc6 : ∀ i, c i < 6) (hc : ∀ i, i < n → co i = nI (c i))
    (h : ∀ rk ro : Nat → Int32, (∀ j, j < n → rk j = nI (mf_rk c j)) → post (nI n, fc, fm, tx, co, rk, sy, ro, of, ln)) : wpY_rankAll post (nI n, fc, fm, tx, co, rk, sy, ro, of, ln) := by
  refine ⟨7, yr_2 ?_ 6 0 ro (by omega) (fun j hj => absurd hj (by omega))⟩
  intro ro hr
  exact ⟨n + 1, yr_23 hn hc6 hc h n 0 rk ro (by omega) (fun j hj => absurd hj (by omega)) hr⟩
end
