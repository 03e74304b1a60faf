/-! X's symbols -/
def wk_L (a : Nat → Int32) (L : List Nat) : Prop := ∀ i, i < L.length → a i = nI (L.getD i 0)
theorem wk_L0 (a : Nat → Int32) : wk_L a [] := fun i hi => absurd hi (Nat.not_lt_zero i)
theorem wk_Ls {a : Nat → Int32} {L : List Nat} {x : Nat} (h : wk_L a L) : wk_L (upd a L.length (nI x)) (L ++ [x]) := by
  intro i hi
  rw [List.length_append] at hi
  have hi' : i < L.length + 1 := hi
  by_cases e : i = L.length
  · subst e
    rw [pk_us, List.getD_eq_getElem?_getD, List.getElem?_append_right (Nat.le_refl _), Nat.sub_self]
    rfl
  · rw [pk_un e, List.getD_eq_getElem?_getD, List.getElem?_append_left (by omega), ← List.getD_eq_getElem?_getD]
    exact h i (by omega)
section
variable {le mk sc ok bc rc rr : Int32} {tx co ro rk sl nw np ns no ln cb bi rs rd rm rt : Nat → Int32}
theorem xy_add {post : SX → Prop} {L : List Nat} {x : Nat} (hl : L.length < 32) (hL : wk_L sl L)
    (h : ∀ sl : Nat → Int32, wk_L sl (L ++ [x]) → post (le, mk, nI (L ++ [x]).length, ok, bc, rc, rr, tx, co, ro, rk, sl, nw, np, ns, no, ln, cb, bi, rs, rd, rm, rt)) : wpX_addSymbol post (le, mk, nI L.length, ok, bc, rc, rr, tx, co, ro, rk, sl, nw, np, ns, no, ln, cb, bi, rs, rd, rm, rt) (nI x) := by
  refine pk_le 32 L.length (fun hc => absurd hc (by omega)) (fun _ => ⟨pk_in L.length 32 hl, nm_r (e' := upd sl L.length (nI x)) (by rw [nI_clamp (by omega)]) (nm_r (nI_1 _) ?_)⟩)
  have := h _ (wk_Ls hL (x := x))
  rw [List.length_append] at this
  exact this
theorem xy_4 {post : SX → Prop} : ∀ (f s m : Nat) (L : List Nat) (sl : Nat → Int32), m < 2 ^ f → s + f ≤ 32 → L.length + m ≤ 32 → m ≤ 32 → wk_L sl L →
    (∀ sl : Nat → Int32, wk_L sl (L ++ rl_rn f m) → post (le, mk, nI (L ++ rl_rn f m).length, ok, bc, rc, rr, tx, co, ro, rk, sl, nw, np, ns, no, ln, cb, bi, rs, rd, rm, rt)) →
    wX_addRun_4 post (f + 1) (nI m) (nI s) le mk (nI L.length) ok bc rc rr tx co ro rk sl nw np ns no ln cb bi rs rd rm rt := by
  intro f
  induction f with
  | zero =>
    intro s m L sl hm hs hl hm2 hL h
    have e : m = 0 := by omega
    subst e
    have h' := h sl (by show wk_L sl (L ++ []); rw [List.append_nil]; exact hL)
    have e2 : L ++ rl_rn 0 0 = L := List.append_nil L
    rw [e2] at h'
    exact pk_le 32 s (fun _ => h') (fun _ => pk_le 0 0 (fun _ => h') (fun hc => absurd hc (by omega)))
  | succ f ih =>
    intro s m L sl hm hs hl hm2 hL h
    rw [Nat.pow_succ] at hm
    refine pk_le 32 s (fun hc => absurd hc (by omega)) (fun _ => pk_le m 0 (fun hc => ?_) (fun hc => ⟨by decide, ?_⟩))
    · have e : m = 0 := by omega
      subst e
      have e2 : L ++ rl_rn (f + 1) 0 = L := by rw [rl_rn0, List.append_nil]
      rw [e2] at h
      exact h sl hL
    · refine pk_eq (m % 2) 1 (fun ho => ?_) (fun ho => ?_) (pk_rem (d := 2) (by omega) (by omega) (by omega))
      · refine xy_add (x := 0) (by omega) hL ?_
        intro sl' hL'
        refine ⟨by decide, nm_r (e' := nI ((m - 1) / 2)) ?_ (nm_r (nI_1 s) (ih (s + 1) _ _ sl' (by omega) (by omega) ?_ (by omega) hL' ?_))⟩
        · rw [show nI m - 1 = nI (m - 1) from pk_sub (b := 1) (by omega)]
          exact pk_div (d := 2) (by omega) (by omega) (by omega)
        · rw [List.length_append]; show L.length + 1 + _ ≤ 32; omega
        · intro sl2 h2
          have e2 : L ++ [0] ++ rl_rn f ((m - 1) / 2) = L ++ rl_rn (f + 1) m := by rw [rl_odd ho, List.append_assoc]; rfl
          rw [e2] at h2 ⊢
          exact h sl2 h2
      · refine xy_add (x := 1) (by omega) hL ?_
        intro sl' hL'
        refine ⟨by decide, nm_r (e' := nI ((m - 2) / 2)) ?_ (nm_r (nI_1 s) (ih (s + 1) _ _ sl' (by omega) (by omega) ?_ (by omega) hL' ?_))⟩
        · rw [show nI m - 2 = nI (m - 2) from pk_sub (b := 2) (by omega)]
          exact pk_div (d := 2) (by omega) (by omega) (by omega)
        · rw [List.length_append]; show L.length + 1 + _ ≤ 32; omega
        · intro sl2 h2
          have e2 : L ++ [1] ++ rl_rn f ((m - 2) / 2) = L ++ rl_rn (f + 1) m := by rw [rl_even (by omega) ho, List.append_assoc]; rfl
          rw [e2] at h2 ⊢
          exact h sl2 h2
theorem xy_run {post : SX → Prop} {m : Nat} {L : List Nat} (hl : L.length + m ≤ 32) (hL : wk_L sl L)
    (h : ∀ sl : Nat → Int32, wk_L sl (L ++ rl_rn 6 m) → post (le, mk, nI (L ++ rl_rn 6 m).length, ok, bc, rc, rr, tx, co, ro, rk, sl, nw, np, ns, no, ln, cb, bi, rs, rd, rm, rt)) : wpX_addRun post (le, mk, nI L.length, ok, bc, rc, rr, tx, co, ro, rk, sl, nw, np, ns, no, ln, cb, bi, rs, rd, rm, rt) (nI m) :=
  ⟨7, xy_4 6 0 m L sl (by omega) (by omega) hl (by omega) hL h⟩
theorem xy_9 {post : SX → Prop} {r : Nat → Nat} {n : Nat} (hn : n ≤ 32) (hr6 : ∀ i, r i < 6) (hr : ∀ i, i < n → rk i = nI (r i))
    (h : ∀ sl : Nat → Int32, wk_L sl (rl_sy r n) → post (nI n, mk, nI (rl_sy r n).length, ok, bc, rc, rr, tx, co, ro, rk, sl, nw, np, ns, no, ln, cb, bi, rs, rd, rm, rt)) : ∀ (m i : Nat) (sl : Nat → Int32), i + m = n → wk_L sl (rl_f r i).1 →
    wX_makeSymbols_9 post (m + 1) (nI (rl_f r i).2) (nI i) (nI n) mk (nI (rl_f r i).1.length) ok bc rc rr tx co ro rk sl nw np ns no ln cb bi rs rd rm rt := by
  intro m
  induction m with
  | zero =>
    intro i sl hi hL
    have e : i = n := by omega
    subst e
    have hl := rl_fl r i
    exact pk_le i i (fun _ => xy_run (by omega) hL h) (fun hc => absurd hc (by omega))
  | succ m ih =>
    intro i sl hi hL
    have hl := rl_fl r i
    have h6 := hr6 i
    refine pk_le n i (fun hc => absurd hc (by omega)) (fun _ => ⟨pk_in i 32 (by omega), pk_eq (r i) 0 (fun hz => ?_) (fun hz => ?_) (wk_cla (by omega) (hr i (by omega)))⟩)
    · have hI := ih (i + 1) sl (by omega)
      rw [rl_fz hz] at hI
      exact nm_r (nI_1 _) (nm_r (nI_1 i) (hI hL))
    · refine xy_run (by omega) hL ?_
      intro sl' hL'
      refine ⟨pk_in i 32 (by omega), ?_⟩
      have e : rk (nI i).toNatClampNeg + 1 = nI (r i + 1) := by rw [wk_cla (by omega) (hr i (by omega)), nI_1]
      have hl2 := rl_len 6 (rl_f r i).2
      rw [e]
      refine xy_add (by rw [List.length_append]; omega) hL' ?_
      intro sl2 h2
      have hI := ih (i + 1) sl2 (by omega)
      rw [rl_fn hz] at hI
      exact nm_r (nI_1 i) (hI h2)
theorem xy_sym {post : SX → Prop} {r : Nat → Nat} {n : Nat} (hn : n ≤ 32) (hr6 : ∀ i, r i < 6) (hr : ∀ i, i < n → rk i = nI (r i))
    (h : ∀ sl : Nat → Int32, wk_L sl (rl_sy r n) → post (nI n, mk, nI (rl_sy r n).length, ok, bc, rc, rr, tx, co, ro, rk, sl, nw, np, ns, no, ln, cb, bi, rs, rd, rm, rt)) : wpX_makeSymbols post (nI n, mk, sc, ok, bc, rc, rr, tx, co, ro, rk, sl, nw, np, ns, no, ln, cb, bi, rs, rd, rm, rt) :=
  ⟨n + 1, xy_9 hn hr6 hr h n 0 sl (by omega) (wk_L0 sl)⟩
end
