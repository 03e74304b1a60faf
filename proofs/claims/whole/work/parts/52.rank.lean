/-! X's row and ranks -/
section
variable {le mk sc ok bc rc rr : Int32} {tx co ro rk sl nw np ns no ln cb bi rs rd rm rt : Nat → Int32}
theorem xr_2 {post : SX → Prop} (h : ∀ ro : Nat → Int32, (∀ j, j < 6 → ro j = nI j) → post (le, mk, sc, ok, bc, rc, rr, tx, co, ro, rk, sl, nw, np, ns, no, ln, cb, bi, rs, rd, rm, rt)) : ∀ (m i : Nat) (ro : Nat → Int32), i + m = 6 → (∀ j, j < i → ro j = nI j) →
    wX_resetRow_2 post le mk sc ok bc rc rr (m + 1) (nI i) tx co ro rk sl nw np ns no ln cb bi rs rd rm rt := by
  intro m
  induction m with
  | zero =>
    intro i ro hi hr
    have e : i = 6 := by omega
    subst e
    exact pk_le 6 6 (fun _ => h ro hr) (fun hc => absurd hc (by omega))
  | succ m ih =>
    intro i ro hi hr
    refine pk_le 6 i (fun hc => absurd hc (by omega)) (fun _ => ⟨pk_in i 6 (by omega), nm_e (nm_r (nI_1 i) (ih (i + 1) _ (by omega) ?_))⟩)
    intro j hj
    rw [nI_clamp (by omega)]
    by_cases e : j = i
    · subst e; exact pk_us
    · rw [pk_un e]; exact hr j (by omega)
theorem xr_reset {post : SX → Prop} (h : ∀ ro : Nat → Int32, (∀ j, j < 6 → ro j = nI j) → post (le, mk, sc, ok, bc, rc, rr, tx, co, ro, rk, sl, nw, np, ns, no, ln, cb, bi, rs, rd, rm, rt)) : wpX_resetRow post (le, mk, sc, ok, bc, rc, rr, tx, co, ro, rk, sl, nw, np, ns, no, ln, cb, bi, rs, rd, rm, rt) :=
  ⟨7, xr_2 h 6 0 ro (by omega) (fun j hj => absurd hj (by omega))⟩
theorem xr_4 {post : Int32 → Prop} {row : Nat → Nat} {c : Nat} (hc6 : c < 6) (hr6 : ∀ j, j < 6 → row j < 6) (hr : ∀ j, j < 6 → ro j = nI (row j)) (h : post (nI (mf_pl row c 6))) : ∀ (m k : Nat), k + m = 6 →
    wX_placeInRow_4 post (nI c) le mk sc ok bc rc rr tx co ro rk sl nw np ns no ln cb bi rs rd rm rt (m + 1) (nI (mf_pl row c k)) (nI k) := by
  intro m
  induction m with
  | zero =>
    intro k hk
    have e : k = 6 := by omega
    subst e
    exact pk_le 6 6 (fun _ => h) (fun hc => absurd hc (by omega))
  | succ m ih =>
    intro k hk
    have hI := ih (k + 1) (by omega)
    have h6 := hr6 k (by omega)
    have e : mf_pl row c (k + 1) = if row k = c then k else mf_pl row c k := rfl
    rw [e] at hI
    refine pk_le 6 k (fun hc => absurd hc (by omega)) (fun _ => ⟨pk_in k 6 (by omega), pk_eq (row k) c (fun hc => nm_r (nI_1 k) ?_) (fun hc => nm_r (nI_1 k) ?_) (wk_cla (by omega) (hr k (by omega)))⟩)
    · rw [if_pos hc] at hI; exact hI
    · rw [if_neg hc] at hI; exact hI
theorem xr_place {post : Int32 → Prop} {row : Nat → Nat} {c : Nat} (hc6 : c < 6) (hr6 : ∀ j, j < 6 → row j < 6) (hr : ∀ j, j < 6 → ro j = nI (row j)) (h : post (nI (mf_pl row c 6))) :
    wpX_placeInRow post (le, mk, sc, ok, bc, rc, rr, tx, co, ro, rk, sl, nw, np, ns, no, ln, cb, bi, rs, rd, rm, rt) (nI c) := ⟨7, xr_4 hc6 hr6 hr h 6 0 (by omega)⟩
theorem xr_9 {post : SX → Prop} {x : Int32} : ∀ (k : Nat) (ro : Nat → Int32), k < 6 → (∀ ro' : Nat → Int32, (∀ j, j < 6 → ro' j = if j = 0 then x else if j ≤ k then ro (j - 1) else ro j) → post (le, mk, sc, ok, bc, rc, rr, tx, co, ro', rk, sl, nw, np, ns, no, ln, cb, bi, rs, rd, rm, rt)) →
    wX_moveToFront_9 post x le mk sc ok bc rc rr (k + 1) (nI k) tx co ro rk sl nw np ns no ln cb bi rs rd rm rt := by
  intro k
  induction k with
  | zero =>
    intro ro hk h
    refine pk_le 0 0 (fun _ => nm_e (h _ ?_)) (fun hc => absurd hc (by omega))
    intro j hj
    by_cases e : j = 0
    · subst e; rw [if_pos rfl]; exact pk_us
    · rw [if_neg e, if_neg (by omega)]; exact pk_un e
  | succ k ih =>
    intro ro hk h
    refine pk_le (k + 1) 0 (fun hc => absurd hc (by omega)) (fun _ => ⟨pk_in k 6 (by omega) (nI_pred k), pk_in (k + 1) 6 (by omega), nm_e (nm_r (pk_m1 k) (ih _ (by omega) ?_))⟩)
    intro ro' hr
    refine h ro' ?_
    intro j hj
    rw [hr j hj]
    by_cases e : j = 0
    · rw [if_pos e, if_pos e]
    · rw [if_neg e, if_neg e, nI_clamp (by omega), nI_pred, nI_clamp (by omega)]
      by_cases e2 : j ≤ k
      · rw [if_pos e2, if_pos (by omega), pk_un (by omega)]
      · rw [if_neg e2]
        by_cases e3 : j = k + 1
        · subst e3; rw [if_pos (by omega), pk_us]; rfl
        · rw [if_neg (by omega), pk_un (by omega)]
theorem xr_front {post : SX → Prop} {row : Nat → Nat} {r : Nat} (hr6 : r < 6) (hr : ∀ j, j < 6 → ro j = nI (row j))
    (h : ∀ ro : Nat → Int32, (∀ j, j < 6 → ro j = nI (mf_mv row r j)) → post (le, mk, sc, ok, bc, rc, rr, tx, co, ro, rk, sl, nw, np, ns, no, ln, cb, bi, rs, rd, rm, rt)) : wpX_moveToFront post (le, mk, sc, ok, bc, rc, rr, tx, co, ro, rk, sl, nw, np, ns, no, ln, cb, bi, rs, rd, rm, rt) (nI r) := by
  refine ⟨pk_in r 6 hr6, nm_r (wk_cla (by omega) (hr r hr6)) ⟨r + 1, xr_9 r ro hr6 ?_⟩⟩
  intro ro' h'
  refine h ro' ?_
  intro j hj
  rw [h' j hj]
  unfold mf_mv
  by_cases e : j = 0
  · rw [if_pos e, if_pos e]
  · rw [if_neg e, if_neg e]
    by_cases e2 : j ≤ r
    · rw [if_pos e2, if_pos e2]; exact hr _ (by omega)
    · rw [if_neg e2, if_neg e2]; exact hr _ hj
theorem xr_6 {post : SX → Prop} {c : Nat → Nat} {n : Nat} (hn : n ≤ 32) (hc6 : ∀ i, c i < 6) (hc : ∀ i, i < n → co i = nI (c i))
    (h : ∀ ro rk : Nat → Int32, (∀ j, j < n → rk j = nI (mf_rk c j)) → post (nI n, mk, sc, ok, bc, rc, rr, tx, co, ro, rk, sl, nw, np, ns, no, ln, cb, bi, rs, rd, rm, rt)) : ∀ (m i : Nat) (ro rk : Nat → Int32), i + m = n → (∀ j, j < i → rk j = nI (mf_rk c j)) → (∀ j, j < 6 → ro j = nI (mf_row c i j)) →
    wX_makeRanks_6 post (m + 1) (nI i) (nI n) mk sc ok bc rc rr tx co ro rk sl nw np ns no ln cb bi rs rd rm rt := by
  intro m
  induction m with
  | zero =>
    intro i ro rk hi h1 h2
    have e : i = n := by omega
    subst e
    exact pk_le i i (fun _ => h ro rk h1) (fun hc => absurd hc (by omega))
  | succ m ih =>
    intro i ro rk hi h1 h2
    refine pk_le n i (fun hc => absurd hc (by omega)) (fun _ => ⟨pk_in i 32 (by omega), ?_⟩)
    rw [wk_cla (by omega) (hc i (by omega))]
    refine xr_place (hc6 i) (mf_rowlt c i) h2 ⟨pk_in i 32 (by omega), nm_e (xr_front (mf_rklt c i) h2 ?_)⟩
    intro ro' h3
    refine nm_r (nI_1 i) (ih (i + 1) ro' _ (by omega) ?_ h3)
    intro j hj
    rw [nI_clamp (by omega)]
    by_cases e : j = i
    · subst e; exact pk_us
    · rw [pk_un e]; exact h1 j (by omega)
theorem xr_ranks {post : SX → Prop} {c : Nat → Nat} {n : Nat} (hn : n ≤ 32) (hc6 : ∀ i, c i < 6) (hc : ∀ i, i < n → co i = nI (c i))
    (h : ∀ ro rk : Nat → Int32, (∀ j, j < n → rk j = nI (mf_rk c j)) → post (nI n, mk, sc, ok, bc, rc, rr, tx, co, ro, rk, sl, nw, np, ns, no, ln, cb, bi, rs, rd, rm, rt)) : wpX_makeRanks post (nI n, mk, sc, ok, bc, rc, rr, tx, co, ro, rk, sl, nw, np, ns, no, ln, cb, bi, rs, rd, rm, rt) := by
  unfold wpX_makeRanks
  dsimp only
  refine xr_reset ?_
  intro ro' hr
  exact ⟨n + 1, xr_6 hn hc6 hc h n 0 ro' rk (by omega) (fun j hj => absurd hj (by omega)) hr⟩
end
