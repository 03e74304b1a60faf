/-! Y's symbols -/
section
variable {fn fc fm : Int32} {tx co rk sy ro of ln : Nat → Int32}
theorem ye_put {post : SY → Prop} {L : List Nat} {x : Nat} (hl : L.length < 32) (hL : wk_L sy L)
    (h : ∀ sy : Nat → Int32, wk_L sy (L ++ [x]) → post (fn, nI (L ++ [x]).length, fm, tx, co, rk, sy, ro, of, ln)) : wpY_put post (fn, nI L.length, fm, tx, co, rk, sy, ro, of, ln) (nI x) := by
  refine ⟨pk_in L.length 32 hl, nm_r (e' := upd sy L.length (nI x)) (by rw [nI_clamp (by omega)]) (nm_r (nI_1 _) ?_)⟩
  have := h _ (wk_Ls hL (x := x))
  rw [List.length_append] at this
  exact this
theorem ye_4 {post : SY → Prop} : ∀ (f s m : Nat) (L : List Nat) (sy : Nat → Int32), m < 2 ^ f → s + f = 6 → L.length + m ≤ 32 → m ≤ 32 → wk_L sy L →
    (∀ sy : Nat → Int32, wk_L sy (L ++ rl_rn f m) → post (fn, nI (L ++ rl_rn f m).length, fm, tx, co, rk, sy, ro, of, ln)) →
    wY_putRun_4 post (f + 1) (nI m) (nI s) fn (nI L.length) fm tx co rk sy ro of ln := by
  intro f
  induction f with
  | zero =>
    intro s m L sy hm hs hl hm2 hL h
    have e : m = 0 := by omega
    subst e
    have h' := h sy (by show wk_L sy (L ++ []); rw [List.append_nil]; exact hL)
    have e2 : L ++ rl_rn 0 0 = L := List.append_nil L
    rw [e2] at h'
    exact pk_le 6 s (fun _ => h') (fun hc => absurd hc (by omega))
  | succ f ih =>
    intro s m L sy hm hs hl hm2 hL h
    rw [Nat.pow_succ] at hm
    refine pk_le 6 s (fun hc => absurd hc (by omega)) (fun _ => pk_le m 0 (fun hc => ?_) (fun hc => ⟨by decide, ?_⟩))
    · have e : m = 0 := by omega
      subst e
      have e2 : L ++ rl_rn (f + 1) 0 = L := by rw [rl_rn0, List.append_nil]
      rw [e2] at h
      exact h sy hL
    · refine pk_eq (m % 2) 1 (fun ho => br_f (by decide) ?_) (fun ho => br_t rfl ?_) (pk_rem (d := 2) (by omega) (by omega) (by omega))
      · refine ye_put (x := 0) (by omega) hL ?_
        intro sy' hL'
        refine br_f (by decide) ⟨by decide, nm_r (e' := nI ((m - 1) / 2)) ?_ (nm_r (nI_1 s) (ih (s + 1) _ _ sy' (by omega) (by omega) ?_ (by omega) hL' ?_))⟩
        · rw [show nI m - 1 = nI (m - 1) from pk_sub (b := 1) (by omega)]
          exact pk_div (d := 2) (by omega) (by omega) (by omega)
        · rw [List.length_append]; show L.length + 1 + _ ≤ 32; omega
        · intro sy2 h2
          have e2 : L ++ [0] ++ rl_rn f ((m - 1) / 2) = L ++ rl_rn (f + 1) m := by rw [rl_odd ho, List.append_assoc]; rfl
          rw [e2] at h2 ⊢
          exact h sy2 h2
      · refine ye_put (x := 1) (by omega) hL ?_
        intro sy' hL'
        refine br_t rfl ⟨by decide, nm_r (e' := nI ((m - 2) / 2)) ?_ (nm_r (nI_1 s) (ih (s + 1) _ _ sy' (by omega) (by omega) ?_ (by omega) hL' ?_))⟩
        · rw [show nI m - 2 = nI (m - 2) from pk_sub (b := 2) (by omega)]
          exact pk_div (d := 2) (by omega) (by omega) (by omega)
        · rw [List.length_append]; show L.length + 1 + _ ≤ 32; omega
        · intro sy2 h2
          have e2 : L ++ [1] ++ rl_rn f ((m - 2) / 2) = L ++ rl_rn (f + 1) m := by rw [rl_even (by omega) ho, List.append_assoc]; rfl
          rw [e2] at h2 ⊢
          exact h sy2 h2
theorem ye_run {post : SY → Prop} {m : Nat} {L : List Nat} (hl : L.length + m ≤ 32) (hL : wk_L sy L)
    (h : ∀ sy : Nat → Int32, wk_L sy (L ++ rl_rn 6 m) → post (fn, nI (L ++ rl_rn 6 m).length, fm, tx, co, rk, sy, ro, of, ln)) : wpY_putRun post (fn, nI L.length, fm, tx, co, rk, sy, ro, of, ln) (nI m) :=
  ⟨7, ye_4 6 0 m L sy (by omega) (by omega) hl (by omega) hL h⟩
theorem ye_17 {post : SY → Prop} {r : Nat → Nat} {n : Nat} (hn : n ≤ 32) (hr6 : ∀ i, r i < 6) (hr : ∀ i, i < n → rk i = nI (r i))
    (h : ∀ sy : Nat → Int32, wk_L sy (rl_sy r n) → post (nI n, nI (rl_sy r n).length, fm, tx, co, rk, sy, ro, of, ln)) : ∀ (m i : Nat) (sy : Nat → Int32), i + m = n → wk_L sy (rl_f r i).1 →
    wY_encode_17 post (m + 1) (nI (rl_f r i).2) (nI i) (nI n) (nI (rl_f r i).1.length) fm tx co rk sy ro of ln := by
  intro m
  induction m with
  | zero =>
    intro i sy hi hL
    have e : i = n := by omega
    subst e
    have hl := rl_fl r i
    exact pk_le i i (fun _ => ye_run (by omega) hL h) (fun hc => absurd hc (by omega))
  | succ m ih =>
    intro i sy hi hL
    have hl := rl_fl r i
    have h6 := hr6 i
    refine pk_le n i (fun hc => absurd hc (by omega)) (fun _ => ⟨pk_in i 32 (by omega), pk_eq (r i) 0 (fun hz => ?_) (fun hz => ?_) (wk_cla (by omega) (hr i (by omega)))⟩)
    · have hI := ih (i + 1) sy (by omega)
      rw [rl_fz hz] at hI
      exact nm_r (nI_1 _) (nm_r (nI_1 i) (hI hL))
    · refine ye_run (by omega) hL ?_
      intro sy' hL'
      refine ⟨pk_in i 32 (by omega), ?_⟩
      have e : rk (nI i).toNatClampNeg + 1 = nI (r i + 1) := by rw [wk_cla (by omega) (hr i (by omega)), nI_1]
      have hl2 := rl_len 6 (rl_f r i).2
      rw [e]
      refine ye_put (by rw [List.length_append]; omega) hL' ?_
      intro sy2 h2
      have hI := ih (i + 1) sy2 (by omega)
      rw [rl_fn hz] at hI
      exact nm_r (nI_1 i) (hI h2)
theorem ye_enc {post : SY → Prop} {t : Nat → Nat} {n : Nat} (ht : ∀ i, t i < 6) (hn : n ≤ 32)
    (h : ∀ (fm : Int32) (co rk sy ro : Nat → Int32), (0 < n → fm = nI (bw_p t n 0)) → (∀ i, i < n → co i = nI (bw_c t n i)) → (∀ i, i < n → rk i = nI (mf_rk (bw_c t n) i)) → wk_L sy (xo_L t n) →
      post (nI n, nI (xo_L t n).length, fm, wk_f t, co, rk, sy, ro, of, ln)) :
    wpY_encode post (nI n, fc, fm, wk_f t, co, rk, sy, ro, of, ln) := by
  unfold wpY_encode
  dsimp only
  refine ys_sort ht hn ?_
  intro fm co h1 h2
  refine yr_all hn (fun i => bw_c6 ht n i) h2 ?_
  intro rk ro h3
  exact ⟨n + 1, ye_17 hn (fun i => mf_rklt _ i) h3 (fun sy h4 => h fm co rk sy ro h1 h2 h3 h4) n 0 sy (by omega) (wk_L0 sy)⟩
end
