/-! X's sorting: the column and the mark -/
def wk_f (t : Nat → Nat) : Nat → Int32 := fun i => nI (t i)
theorem wk_at {t : Nat → Nat} {l : Nat} (h : l < 2 ^ 31) : wk_f t (nI l).toNatClampNeg = nI (t l) := by
  show nI (t _) = _
  rw [nI_clamp h]
theorem wk_cl {a : Nat → Int32} {l : Nat} (h : l < 2 ^ 31) : a (nI l).toNatClampNeg = a l := by rw [nI_clamp h]
theorem wk_cla {a : Nat → Int32} {l : Nat} {x : Int32} (h : l < 2 ^ 31) (e : a l = x) : a (nI l).toNatClampNeg = x := by rw [nI_clamp h]; exact e
/-- the column, as a function of the place -/
noncomputable def bw_c (t : Nat → Nat) (n : Nat) (i : Nat) : Nat :=
  @dite _ (∃ p, p < n ∧ bw_p t n p = i) (Classical.propDecidable _) (fun h => t (bw_pv n (Classical.choose h))) (fun _ => 0)
theorem bw_cp {t : Nat → Nat} {n p : Nat} (hp : p < n) : bw_c t n (bw_p t n p) = t (bw_pv n p) := by
  have h : ∃ q, q < n ∧ bw_p t n q = bw_p t n p := ⟨p, hp, rfl⟩
  unfold bw_c
  rw [dif_pos h]
  have hc := Classical.choose_spec h
  rw [bw_pinj _ _ hc.1 hp hc.2]
theorem bw_c6 {t : Nat → Nat} (ht : ∀ i, t i < 6) (n i : Nat) : bw_c t n i < 6 := by
  unfold bw_c
  split
  · exact ht _
  · omega
theorem bw_cag {t : Nat → Nat} {n : Nat} {a : Nat → Int32} (h : ∀ p, p < n → a (bw_p t n p) = nI (t (bw_pv n p))) : ∀ i, i < n → a i = nI (bw_c t n i) := by
  intro i hi
  obtain ⟨p, hp, rfl⟩ := bw_psurj (t := t) i hi
  rw [h p hp, bw_cp hp]
section
variable {le mk sc ok bc rc rr : Int32} {tx co ro rk sl nw np ns no ln cb bi rs rd rm rt : Nat → Int32}
theorem xs_72 {post : Int32 → Prop} {J : Int32 → Int32 → Int32 → Prop} {x1 x2 z : Int32} {n r k : Nat} (hn : n ≤ 32) (hr : r < n) (hk : k < n)
    (h : J z (nI (bw_nx n r)) (nI (k + 1))) : wX_sortsBefore_72 post J x1 x2 (nI r) (nI k) z (nI n) mk sc ok bc rc rr tx co ro rk sl nw np ns no ln cb bi rs rd rm rt := by
  unfold bw_nx at h
  refine pk_le n (r + 1) (fun hc => nm_r (nI_1 k) ?_) (fun hc => nm_r (nI_1 r) (nm_r (nI_1 k) ?_)) rfl (nI_1 r)
  · rw [if_neg (by omega)] at h; exact h
  · rw [if_pos (by omega)] at h; exact h
theorem xs_8 {post : Int32 → Prop} {t : Nat → Nat} {n p q : Nat} (ht : ∀ i, t i < 6) (hn : n ≤ 32) (hp : p < n) (hq : q < n) : ∀ (m k l r : Nat), k + m = n → l < n → r < n →
    ((bw_x (bw_r t n m l) (bw_r t n m r) ∨ (bw_r t n m l = bw_r t n m r ∧ p < q)) → post 1) →
    (¬ (bw_x (bw_r t n m l) (bw_r t n m r) ∨ (bw_r t n m l = bw_r t n m r ∧ p < q)) → post 0) →
    wX_sortsBefore_8 post (nI p) (nI q) (nI n) mk sc ok bc rc rr (wk_f t) co ro rk sl nw np ns no ln cb bi rs rd rm rt (m + 1) (nI l) (nI r) (nI k) := by
  intro m
  induction m with
  | zero =>
    intro k l r hk hl hr h1 h0
    refine pk_le n k (fun _ => pk_le q p (fun hc => h0 ?_) (fun hc => h1 (Or.inr ⟨rfl, hc⟩))) (fun hc => absurd hc (by omega))
    intro hz
    rcases hz with hz | ⟨_, hz⟩
    · exact hz
    · omega
  | succ m ih =>
    intro k l r hk hl hr h1 h0
    have hl6 := ht l
    have hr6 := ht r
    refine pk_le n k (fun hc => absurd hc (by omega)) (fun _ => ⟨pk_in l 32 (by omega), pk_in r 32 (by omega), ?_⟩)
    refine pk_eq (t l) (t r) (fun he => ?_) (fun hne => ⟨pk_in l 32 (by omega), pk_in r 32 (by omega), ?_⟩) (wk_at (by omega)) (wk_at (by omega))
    · have hr' := bw_nxlt hr
      have hl' := bw_nxlt hl
      have hP : (bw_x (bw_r t n (m + 1) l) (bw_r t n (m + 1) r) ∨ (bw_r t n (m + 1) l = bw_r t n (m + 1) r ∧ p < q)) ↔
          (bw_x (bw_r t n m (bw_nx n l)) (bw_r t n m (bw_nx n r)) ∨ (bw_r t n m (bw_nx n l) = bw_r t n m (bw_nx n r) ∧ p < q)) := by
        show ((t l < t r ∨ (t l = t r ∧ bw_x (bw_r t n m (bw_nx n l)) (bw_r t n m (bw_nx n r)))) ∨ (t l :: bw_r t n m (bw_nx n l) = t r :: bw_r t n m (bw_nx n r) ∧ p < q)) ↔ _
        rw [he]
        simp
      rw [hP] at h1 h0
      have hI := ih (k + 1) (bw_nx n l) (bw_nx n r) (by omega) hl' hr' h1 h0
      refine pk_le n (l + 1) (fun hc => xs_72 hn hr (by omega) ?_) (fun hc => ?_) rfl (nI_1 l)
      · have e : bw_nx n l = 0 := by unfold bw_nx; rw [if_neg (by omega)]
        rw [e] at hI
        exact hI
      · have e : bw_nx n l = l + 1 := by unfold bw_nx; rw [if_pos (by omega)]
        rw [e] at hI
        rw [nI_1 l]
        exact xs_72 hn hr (by omega) hI
    · refine pk_le (t r) (t l) (fun hc => h0 ?_) (fun hc => h1 (Or.inl (Or.inl hc))) (wk_at (by omega)) (wk_at (by omega))
      intro hz
      rcases hz with hz | ⟨hz, _⟩
      · rcases hz with hz | ⟨hz, _⟩
        · omega
        · exact hne hz
      · exact hne (List.cons.inj hz).1
end
