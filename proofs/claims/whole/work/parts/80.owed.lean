/-! what is owed -/
def ro_Y (t : Nat → Nat) (n : Nat) (v : SY) : Prop := ∃ (fc fm : Int32) (co rk sy ro of ln : Nat → Int32), v = (nI n, fc, fm, wk_f t, co, rk, sy, ro, of, ln)
/-- one text on both sides; X holds what the stages make of it, Y's other fields are anything -/
def i_Rel (k : Nat) (u : SX) (v : SY) : Prop := ∃ (t : Nat → Nat) (n : Nat), (∀ i, t i < 6) ∧ n ≤ 32 ∧ xo_ok t n u ∧ ro_Y t n v
theorem i_up {k : Nat} {u : SX} {v : SY} (h : i_Rel k u v) : i_Rel (k + 2) u v := h
theorem ro_ng {n : Nat} {x : Int32} (hn : n < 2 ^ 31) (h : nI n ≤ x) : ¬ x < 0 := fun z => nI_pos hn (Int32.lt_of_le_of_lt h z)
theorem ro_up {t : Nat → Nat} {n j : Nat} : upd (wk_f t) n (nI j) = wk_f (fun i => if i = n then j else t i) := by
  funext i
  unfold upd wk_f
  dsimp only
  by_cases e : i = n
  · rw [if_pos e, if_pos e]
  · rw [if_neg e, if_neg e]
theorem i_vc0 : wpX_init (fun u => wpY_init (fun v => i_Rel 0 u v)) := by
  unfold wpX_init
  refine xo_all (t := fun _ => 0) (n := 0) (fun _ => by omega) (by omega) ?_
  intro u hu
  have hu' := hu
  obtain ⟨mk, bc, rc, co, ro, rk, sl, nw, np, ns, no, ln, cb, bi, rs, rd, rm, rt, Q, R, rfl, _⟩ := hu
  exact ⟨fun _ => 0, 0, fun _ => Nat.zero_lt_succ 5, by omega, hu', ⟨0, 0, fun _ => 0, fun _ => 0, fun _ => 0, fun _ => 0, fun _ => 0, fun _ => 0, rfl⟩⟩
theorem i_vc_type {k : Nat} {u : SX} {v : SY} (I : i_Rel k u v) (hk : k + 2 ≤ 1024) (v1 : Int32) : wpX_type (fun r u' => wpY_type (fun r' v' => r' = r ∧ i_Rel (k + 2) u' v') v v1) u v1 := by
  have I0 := I
  obtain ⟨t, n, ht, hn, hX, hY⟩ := I
  obtain ⟨mk, bc, rc, co, ro, rk, sl, nw, np, ns, no, ln, cb, bi, rs, rd, rm, rt, Q, R, rfl, _⟩ := hX
  obtain ⟨fc, fm, yco, yrk, ysy, yro, yof, yln, rfl⟩ := hY
  refine pk_lt n 32 (fun h32 => ?_) (fun h32 => pk_eq n 32 (fun _ => ⟨rfl, i_up I0⟩) (fun hc => absurd hc (by omega)))
  have hne : ¬ nI n = 32 := fun z => by
    have := (nI_eq (a := n) (b := 32) (by omega) (by omega)).mp z
    omega
  by_cases h0 : v1 < 0
  · exact br_t h0 (br_f hne (br_t h0 ⟨rfl, i_up I0⟩))
  · obtain ⟨j, hj, rfl⟩ := nI_of h0
    refine br_f h0 (pk_lt j 6 (fun h6 => ⟨pk_in n 32 h32, nm_r (e' := wk_f (fun i => if i = n then j else t i)) (by rw [nI_clamp (by omega)]; exact ro_up) (nm_r (nI_1 n) ?_)⟩) (fun h6 => br_f hne (br_f h0 (pk_le j 5 (fun hc => absurd hc (by omega)) (fun _ => ⟨rfl, i_up I0⟩)))))
    have ht' : ∀ i, (fun i => if i = n then j else t i) i < 6 := by
      intro i
      dsimp only
      split
      · exact h6
      · exact ht i
    refine xo_all ht' (by omega) ?_
    intro u hu
    have hu' := hu
    obtain ⟨mk, bc, rc, co, ro, rk, sl, nw, np, ns, no, ln, cb, bi, rs, rd, rm, rt, Q, R, rfl, _⟩ := hu
    refine br_f hne (br_f h0 (pk_le j 5 (fun _ => ⟨pk_in n 32 h32, nm_r (e' := wk_f (fun i => if i = n then j else t i)) (by rw [nI_clamp (by omega)]; exact ro_up) (nm_r (nI_1 n) ⟨rfl, ?_⟩)⟩) (fun hc => absurd hc (by omega))))
    exact ⟨_, n + 1, ht', by omega, hu', ⟨_, _, _, _, _, _, _, _, rfl⟩⟩
def ro_t (t : Nat → Nat) (n j i : Nat) : Nat → Nat := fun x => if n ≤ x ∧ x < n + i then t (x - j) else t x
theorem ro_t0 (t : Nat → Nat) (n j : Nat) : ro_t t n j 0 = t := by
  funext x
  unfold ro_t
  rw [if_neg (by omega)]
theorem ro_ts {t : Nat → Nat} {n j i : Nat} (hj : j ≤ n) (hi : i < j) : upd (wk_f (ro_t t n j i)) (n + i) (nI (ro_t t n j i (n - j + i))) = wk_f (ro_t t n j (i + 1)) := by
  rw [ro_up]
  congr 1
  funext x
  unfold ro_t
  by_cases e : x = n + i
  · rw [if_pos e, if_neg (by omega), if_pos (by omega)]
    congr 1
    omega
  · rw [if_neg e]
    by_cases c : n ≤ x ∧ x < n + i
    · rw [if_pos c, if_pos (by omega)]
    · rw [if_neg c, if_neg (by omega)]
theorem ro_t6 {t : Nat → Nat} (ht : ∀ i, t i < 6) (n j i : Nat) : ∀ x, ro_t t n j i x < 6 := by
  intro x
  unfold ro_t
  split
  · exact ht _
  · exact ht _
section
variable {le mk sc ok bc rc rr : Int32} {tx co ro rk sl nw np ns no ln cb bi rs rd rm rt : Nat → Int32}
theorem ro_38 {post : Int32 → SX → Prop} {t : Nat → Nat} {n j : Nat} (ht : ∀ i, t i < 6) (hj : j ≤ n) (hn : n + j ≤ 32) (h : ∀ u, xo_ok (ro_t t n j j) (n + j) u → post (nI (n + j)) u) : ∀ (m i : Nat), i + m = j →
    wX_repeat_38 post (nI j) (nI (n - j)) (nI n) mk sc ok bc rc rr (m + 1) (nI i) (wk_f (ro_t t n j i)) co ro rk sl nw np ns no ln cb bi rs rd rm rt := by
  intro m
  induction m with
  | zero =>
    intro i hi
    have e : i = j := by omega
    subst e
    refine pk_le i i (fun _ => nm_r (nI_add n i) (xo_all (ro_t6 ht n i i) hn ?_)) (fun hc => absurd hc (by omega))
    intro u hu
    have hu' := h u hu
    obtain ⟨mk, bc, rc, co, ro, rk, sl, nw, np, ns, no, ln, cb, bi, rs, rd, rm, rt, Q, R, rfl, _⟩ := hu
    exact hu'
  | succ m ih =>
    intro i hi
    have e1 := nI_add (n - j) i
    have e2 := nI_add n i
    refine pk_le j i (fun hc => absurd hc (by omega)) (fun _ => ⟨pk_in (n - j + i) 32 (by omega) e1, pk_in (n + i) 32 (by omega) e2, nm_r (e' := wk_f (ro_t t n j (i + 1))) ?_ (nm_r (nI_1 i) (ih (i + 1) (by omega)))⟩)
    rw [e1, e2, wk_at (by omega), nI_clamp (by omega)]
    exact ro_ts hj (by omega)
end
section
variable {fn fc fm : Int32} {tx co rk sy ro of ln : Nat → Int32}
theorem ro_31 {post : Int32 → SY → Prop} {t : Nat → Nat} {n j : Nat} (hj : j ≤ n) (hn : n + j ≤ 32) (h : post (nI (n + j)) (nI (n + j), fc, fm, wk_f (ro_t t n j j), co, rk, sy, ro, of, ln)) : ∀ (m i : Nat), i + m = j →
    wY_repeat_31 post (nI j) (nI n) fc fm (m + 1) (nI i) (wk_f (ro_t t n j i)) co rk sy ro of ln := by
  intro m
  induction m with
  | zero =>
    intro i hi
    have e : i = j := by omega
    subst e
    exact pk_le i i (fun _ => nm_r (nI_add n i) h) (fun hc => absurd hc (by omega))
  | succ m ih =>
    intro i hi
    have e2 := nI_add n i
    have e1 : nI n + nI i - nI j = nI (n - j + i) := by
      rw [e2, pk_sub (by omega)]
      congr 1
      omega
    refine pk_le j i (fun hc => absurd hc (by omega)) (fun _ => ⟨pk_in (n - j + i) 32 (by omega) e1, pk_in (n + i) 32 (by omega) e2, nm_r (e' := wk_f (ro_t t n j (i + 1))) ?_ (nm_r (nI_1 i) (ih (i + 1) (by omega)))⟩)
    rw [e1, e2, wk_at (by omega), nI_clamp (by omega)]
    exact ro_ts hj (by omega)
end
theorem i_vc_repeat {k : Nat} {u : SX} {v : SY} (I : i_Rel k u v) (hk : k + 2 ≤ 1024) (v1 : Int32) : wpX_repeat (fun r u' => wpY_repeat (fun r' v' => r' = r ∧ i_Rel (k + 2) u' v') v v1) u v1 := by
  have I0 := I
  obtain ⟨t, n, ht, hn, hX, hY⟩ := I
  obtain ⟨mk, bc, rc, co, ro, rk, sl, nw, np, ns, no, ln, cb, bi, rs, rd, rm, rt, Q, R, rfl, _⟩ := hX
  obtain ⟨fc, fm, yco, yrk, ysy, yro, yof, yln, rfl⟩ := hY
  by_cases h1 : v1 < 1
  · exact br_t h1 (br_t h1 ⟨rfl, i_up I0⟩)
  · obtain ⟨j, hj, rfl⟩ := nI_of (x := v1) (fun z => h1 (Int32.lt_trans z (by decide)))
    refine br_f h1 (pk_le j n (fun hjn => ?_) (fun hjn => br_f h1 (pk_le j n (fun hc => absurd hc (by omega)) (fun _ => ⟨rfl, i_up I0⟩))))
    refine pk_le (n + j) 32 (fun h32 => nm_r (pk_sub hjn) ⟨j + 1, ?_⟩) (fun h32 => br_f h1 (pk_le j n (fun _ => pk_le (n + j) 32 (fun hc => absurd hc (by omega)) (fun _ => ⟨rfl, i_up I0⟩) (nI_add n j)) (fun hc => absurd hc (by omega)))) (nI_add n j)
    have hX38 := ro_38 (post := fun r u' => wpY_repeat (fun r' v' => r' = r ∧ i_Rel (k + 2) u' v') (nI n, fc, fm, wk_f t, yco, yrk, ysy, yro, yof, yln) (nI j))
      (mk := mk) (sc := nI (xo_L t n).length) (ok := nI (wk_K (xo_L t n))) (bc := bc) (rc := rc) (rr := nI n) (co := co) (ro := ro) (rk := rk) (sl := sl) (nw := nw) (np := np) (ns := ns) (no := no) (ln := ln) (cb := cb) (bi := bi) (rs := rs) (rd := rd) (rm := rm) (rt := rt) ht hjn h32 (by
      intro u hu
      refine br_f h1 (pk_le j n (fun _ => pk_le (n + j) 32 (fun _ => ⟨j + 1, ?_⟩) (fun hc => absurd hc (by omega)) (nI_add n j)) (fun hc => absurd hc (by omega)))
      have := ro_31 (post := fun r' v' => r' = nI (n + j) ∧ i_Rel (k + 2) u v') (t := t) (n := n) (j := j) (fc := fc) (fm := fm) (co := yco) (rk := yrk) (sy := ysy) (ro := yro) (of := yof) (ln := yln) hjn h32 ⟨rfl, ⟨_, n + j, ro_t6 ht n j j, h32, hu, ⟨_, _, _, _, _, _, _, _, rfl⟩⟩⟩ j 0 (by omega)
      rw [ro_t0] at this
      exact this) j 0 (by omega)
    rw [ro_t0] at hX38
    exact hX38
theorem i_vc_clear {k : Nat} {u : SX} {v : SY} (I : i_Rel k u v) (hk : k + 2 ≤ 1024) : wpX_clear (fun r u' => wpY_clear (fun r' v' => r' = r ∧ i_Rel (k + 2) u' v') v) u := by
  obtain ⟨t, n, ht, hn, hX, hY⟩ := I
  obtain ⟨mk, bc, rc, co, ro, rk, sl, nw, np, ns, no, ln, cb, bi, rs, rd, rm, rt, Q, R, rfl, _⟩ := hX
  obtain ⟨fc, fm, yco, yrk, ysy, yro, yof, yln, rfl⟩ := hY
  unfold wpX_clear
  dsimp only
  refine xo_all (n := 0) ht (by omega) ?_
  intro u hu
  have hu' := hu
  obtain ⟨mk, bc, rc, co, ro, rk, sl, nw, np, ns, no, ln, cb, bi, rs, rd, rm, rt, Q, R, rfl, _⟩ := hu
  exact ⟨rfl, ⟨t, 0, ht, by omega, hu', ⟨_, _, _, _, _, _, _, _, rfl⟩⟩⟩
theorem i_vc_column {k : Nat} {u : SX} {v : SY} (I : i_Rel k u v) (hk : k + 2 ≤ 1024) (v1 : Int32) : wpX_column (fun r => wpY_column (fun r' v' => r' = r ∧ i_Rel (k + 2) u v') v v1) u v1 := by
  obtain ⟨t, n, ht, hn, hX, hY⟩ := I
  have hX' := hX
  have hll := xo_Ll t n
  obtain ⟨mk, bc, rc, co, ro, rk, sl, nw, np, ns, no, ln, cb, bi, rs, rd, rm, rt, Q, R, rfl, hmk, hco, hrk, hsl, hC, hbc, hrt⟩ := hX
  obtain ⟨fc, fm, yco, yrk, ysy, yro, yof, yln, rfl⟩ := hY
  unfold wpX_column wpY_column
  dsimp only
  have hrel : ∀ (fc fm : Int32) (co' rk' sy ro' of ln' : Nat → Int32), i_Rel (k + 2) (nI n, mk, nI (xo_L t n).length, nI (wk_K (xo_L t n)), bc, rc, nI n, wk_f t, co, ro, rk, sl, nw, np, ns, no, ln, cb, bi, rs, rd, rm, rt) (nI n, fc, fm, wk_f t, co', rk', sy, ro', of, ln') := fun _ _ _ _ _ _ _ _ => ⟨t, n, ht, hn, hX', ⟨_, _, _, _, _, _, _, _, rfl⟩⟩
  rcases pk_ix v1 (n := n) (by omega) with h | h | ⟨j, hj, rfl⟩
  · refine br_t h (ye_enc ht hn ?_)
    intro fm co' rk' sy ro' h1 h2 h3 h4
    exact br_t h ⟨rfl, hrel _ _ _ _ _ _ _ _⟩
  · refine br_f (ro_ng (by omega) h) (br_f (Int32.not_lt.mpr h) (ye_enc ht hn ?_))
    intro fm co' rk' sy ro' h1 h2 h3 h4
    exact br_f (ro_ng (by omega) h) (br_t h ⟨rfl, hrel _ _ _ _ _ _ _ _⟩)
  · refine br_f (nI_pos (by omega)) (br_t (nI_lt hj (by omega)) ⟨pk_in j 32 (by omega), ye_enc ht hn ?_⟩)
    intro fm co' rk' sy ro' h1 h2 h3 h4
    refine br_f (nI_pos (by omega)) (br_f (nI_ge hj (by omega)) ⟨pk_in j 32 (by omega), ?_, hrel _ _ _ _ _ _ _ _⟩)
    rw [nI_clamp (by omega)]
    exact (h2 j hj).trans (hco j hj).symm
theorem i_vc_mark {k : Nat} {u : SX} {v : SY} (I : i_Rel k u v) (hk : k + 2 ≤ 1024) : wpX_mark (fun r => wpY_mark (fun r' v' => r' = r ∧ i_Rel (k + 2) u v') v) u := by
  obtain ⟨t, n, ht, hn, hX, hY⟩ := I
  have hX' := hX
  obtain ⟨mk, bc, rc, co, ro, rk, sl, nw, np, ns, no, ln, cb, bi, rs, rd, rm, rt, Q, R, rfl, hmk, hco, hrk, hsl, hC, hbc, hrt⟩ := hX
  obtain ⟨fc, fm, yco, yrk, ysy, yro, yof, yln, rfl⟩ := hY
  unfold wpX_mark wpY_mark
  dsimp only
  refine pk_eq n 0 (fun h => ye_enc ht hn ?_) (fun h => ye_enc ht hn ?_)
  · intro fm co' rk' sy ro' h1 h2 h3 h4
    exact pk_eq n 0 (fun _ => ⟨rfl, ⟨t, n, ht, hn, hX', ⟨_, _, _, _, _, _, _, _, rfl⟩⟩⟩) (fun hc => absurd h hc)
  · intro fm co' rk' sy ro' h1 h2 h3 h4
    exact pk_eq n 0 (fun hc => absurd hc h) (fun _ => ⟨(h1 (by omega)).trans (hmk (by omega)).symm, ⟨t, n, ht, hn, hX', ⟨_, _, _, _, _, _, _, _, rfl⟩⟩⟩)
theorem i_vc_rank {k : Nat} {u : SX} {v : SY} (I : i_Rel k u v) (hk : k + 2 ≤ 1024) (v1 : Int32) : wpX_rank (fun r => wpY_rank (fun r' v' => r' = r ∧ i_Rel (k + 2) u v') v v1) u v1 := by
  obtain ⟨t, n, ht, hn, hX, hY⟩ := I
  have hX' := hX
  have hll := xo_Ll t n
  obtain ⟨mk, bc, rc, co, ro, rk, sl, nw, np, ns, no, ln, cb, bi, rs, rd, rm, rt, Q, R, rfl, hmk, hco, hrk, hsl, hC, hbc, hrt⟩ := hX
  obtain ⟨fc, fm, yco, yrk, ysy, yro, yof, yln, rfl⟩ := hY
  unfold wpX_rank wpY_rank
  dsimp only
  have hrel : ∀ (fc fm : Int32) (co' rk' sy ro' of ln' : Nat → Int32), i_Rel (k + 2) (nI n, mk, nI (xo_L t n).length, nI (wk_K (xo_L t n)), bc, rc, nI n, wk_f t, co, ro, rk, sl, nw, np, ns, no, ln, cb, bi, rs, rd, rm, rt) (nI n, fc, fm, wk_f t, co', rk', sy, ro', of, ln') := fun _ _ _ _ _ _ _ _ => ⟨t, n, ht, hn, hX', ⟨_, _, _, _, _, _, _, _, rfl⟩⟩
  rcases pk_ix v1 (n := n) (by omega) with h | h | ⟨j, hj, rfl⟩
  · refine br_t h (ye_enc ht hn ?_)
    intro fm co' rk' sy ro' h1 h2 h3 h4
    exact br_t h ⟨rfl, hrel _ _ _ _ _ _ _ _⟩
  · refine br_f (ro_ng (by omega) h) (br_f (Int32.not_lt.mpr h) (ye_enc ht hn ?_))
    intro fm co' rk' sy ro' h1 h2 h3 h4
    exact br_f (ro_ng (by omega) h) (br_t h ⟨rfl, hrel _ _ _ _ _ _ _ _⟩)
  · refine br_f (nI_pos (by omega)) (br_t (nI_lt hj (by omega)) ⟨pk_in j 32 (by omega), ye_enc ht hn ?_⟩)
    intro fm co' rk' sy ro' h1 h2 h3 h4
    refine br_f (nI_pos (by omega)) (br_f (nI_ge hj (by omega)) ⟨pk_in j 32 (by omega), ?_, hrel _ _ _ _ _ _ _ _⟩)
    rw [nI_clamp (by omega)]
    exact (h3 j hj).trans (hrk j hj).symm
theorem i_vc_symbols {k : Nat} {u : SX} {v : SY} (I : i_Rel k u v) (hk : k + 2 ≤ 1024) : wpX_symbols (fun r => wpY_symbols (fun r' v' => r' = r ∧ i_Rel (k + 2) u v') v) u := by
  obtain ⟨t, n, ht, hn, hX, hY⟩ := I
  have hX' := hX
  obtain ⟨mk, bc, rc, co, ro, rk, sl, nw, np, ns, no, ln, cb, bi, rs, rd, rm, rt, Q, R, rfl, hmk, hco, hrk, hsl, hC, hbc, hrt⟩ := hX
  obtain ⟨fc, fm, yco, yrk, ysy, yro, yof, yln, rfl⟩ := hY
  unfold wpX_symbols wpY_symbols
  dsimp only
  refine ye_enc ht hn ?_
  intro fm co' rk' sy ro' h1 h2 h3 h4
  exact ⟨rfl, ⟨t, n, ht, hn, hX', ⟨_, _, _, _, _, _, _, _, rfl⟩⟩⟩
theorem i_vc_symbol {k : Nat} {u : SX} {v : SY} (I : i_Rel k u v) (hk : k + 2 ≤ 1024) (v1 : Int32) : wpX_symbol (fun r => wpY_symbol (fun r' v' => r' = r ∧ i_Rel (k + 2) u v') v v1) u v1 := by
  obtain ⟨t, n, ht, hn, hX, hY⟩ := I
  have hX' := hX
  have hll := xo_Ll t n
  obtain ⟨mk, bc, rc, co, ro, rk, sl, nw, np, ns, no, ln, cb, bi, rs, rd, rm, rt, Q, R, rfl, hmk, hco, hrk, hsl, hC, hbc, hrt⟩ := hX
  obtain ⟨fc, fm, yco, yrk, ysy, yro, yof, yln, rfl⟩ := hY
  unfold wpX_symbol wpY_symbol
  dsimp only
  have hrel : ∀ (fc fm : Int32) (co' rk' sy ro' of ln' : Nat → Int32), i_Rel (k + 2) (nI n, mk, nI (xo_L t n).length, nI (wk_K (xo_L t n)), bc, rc, nI n, wk_f t, co, ro, rk, sl, nw, np, ns, no, ln, cb, bi, rs, rd, rm, rt) (nI n, fc, fm, wk_f t, co', rk', sy, ro', of, ln') := fun _ _ _ _ _ _ _ _ => ⟨t, n, ht, hn, hX', ⟨_, _, _, _, _, _, _, _, rfl⟩⟩
  rcases pk_ix v1 (n := (xo_L t n).length) (by omega) with h | h | ⟨j, hj, rfl⟩
  · refine br_t h (ye_enc ht hn ?_)
    intro fm co' rk' sy ro' h1 h2 h3 h4
    exact br_t h ⟨rfl, hrel _ _ _ _ _ _ _ _⟩
  · refine br_f (ro_ng (by omega) h) (br_f (Int32.not_lt.mpr h) (ye_enc ht hn ?_))
    intro fm co' rk' sy ro' h1 h2 h3 h4
    exact br_f (ro_ng (by omega) h) (br_t h ⟨rfl, hrel _ _ _ _ _ _ _ _⟩)
  · refine br_f (nI_pos (by omega)) (br_t (nI_lt hj (by omega)) ⟨pk_in j 32 (by omega), ye_enc ht hn ?_⟩)
    intro fm co' rk' sy ro' h1 h2 h3 h4
    refine br_f (nI_pos (by omega)) (br_f (nI_ge hj (by omega)) ⟨pk_in j 32 (by omega), ?_, hrel _ _ _ _ _ _ _ _⟩)
    rw [nI_clamp (by omega)]
    exact (h4 j hj).trans (hsl j hj).symm
theorem i_vc_cost {k : Nat} {u : SX} {v : SY} (I : i_Rel k u v) (hk : k + 2 ≤ 1024) : wpX_cost (fun r => wpY_cost (fun r' v' => r' = r ∧ i_Rel (k + 2) u v') v) u := by
  obtain ⟨t, n, ht, hn, hX, hY⟩ := I
  have hX' := hX
  obtain ⟨mk, bc, rc, co, ro, rk, sl, nw, np, ns, no, ln, cb, bi, rs, rd, rm, rt, Q, R, rfl, hmk, hco, hrk, hsl, hC, hbc, hrt⟩ := hX
  obtain ⟨fc, fm, yco, yrk, ysy, yro, yof, yln, rfl⟩ := hY
  unfold wpX_cost
  dsimp only
  refine yk_cost ht hn hC ?_
  intro fc fm co' rk' sy ro' of ln'
  exact ⟨hbc.symm, ⟨t, n, ht, hn, hX', ⟨_, _, _, _, _, _, _, _, rfl⟩⟩⟩
theorem i_vc_decoded {k : Nat} {u : SX} {v : SY} (I : i_Rel k u v) (hk : k + 2 ≤ 1024) (v1 : Int32) : wpX_decoded (fun r => wpY_decoded (fun r' => r' = r ∧ i_Rel (k + 2) u v) v v1) u v1 := by
  have I0 := I
  obtain ⟨t, n, ht, hn, hX, hY⟩ := I
  obtain ⟨mk, bc, rc, co, ro, rk, sl, nw, np, ns, no, ln, cb, bi, rs, rd, rm, rt, Q, R, rfl, hmk, hco, hrk, hsl, hC, hbc, hrt⟩ := hX
  obtain ⟨fc, fm, yco, yrk, ysy, yro, yof, yln, rfl⟩ := hY
  unfold wpX_decoded wpY_decoded
  dsimp only
  rcases pk_ix v1 (n := n) (by omega) with h | h | ⟨j, hj, rfl⟩
  · exact br_t h (br_t h ⟨rfl, i_up I0⟩)
  · exact br_f (ro_ng (by omega) h) (br_f (Int32.not_lt.mpr h) (br_f (ro_ng (by omega) h) (br_t h ⟨rfl, i_up I0⟩)))
  · refine br_f (nI_pos (by omega)) (br_t (nI_lt hj (by omega)) ⟨pk_in j 32 (by omega), br_f (nI_pos (by omega)) (br_f (nI_ge hj (by omega)) ⟨pk_in j 32 (by omega), ?_, i_up I0⟩)⟩)
    rw [wk_at (by omega), wk_cla (by omega) (hrt j hj)]
theorem i_vc_different {k : Nat} {u : SX} {v : SY} (I : i_Rel k u v) (hk : k + 2 ≤ 1024) : wpX_different (fun r => wpY_different (fun r' v' => r' = r ∧ i_Rel (k + 2) u v') v) u := by
  obtain ⟨t, n, ht, hn, hX, hY⟩ := I
  have hX' := hX
  obtain ⟨mk, bc, rc, co, ro, rk, sl, nw, np, ns, no, ln, cb, bi, rs, rd, rm, rt, Q, R, rfl, hmk, hco, hrk, hsl, hC, hbc, hrt⟩ := hX
  obtain ⟨fc, fm, yco, yrk, ysy, yro, yof, yln, rfl⟩ := hY
  unfold wpX_different wpY_different
  dsimp only
  refine yc_cnt ht hn ?_
  intro fc fm co' rk' sy ro' of _
  exact ⟨rfl, ⟨t, n, ht, hn, hX', ⟨_, _, _, _, _, _, _, _, rfl⟩⟩⟩
