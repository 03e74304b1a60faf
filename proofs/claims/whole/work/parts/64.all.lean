/-! X: all stages -/
/-- the symbols of a text -/
noncomputable def xo_L (t : Nat → Nat) (n : Nat) : List Nat := rl_sy (mf_rk (bw_c t n)) n
theorem xo_Ll (t : Nat → Nat) (n : Nat) : (xo_L t n).length ≤ n := rl_syl _ n
theorem xo_L7 (t : Nat → Nat) (n : Nat) : ∀ x ∈ xo_L t n, x < 7 := rl_sy7 fun i _ => mf_rklt _ i
/-- what X holds of the text t of n letters -/
def xo_ok (t : Nat → Nat) (n : Nat) (u : SX) : Prop :=
  ∃ (mk bc rc : Int32) (co ro rk sl nw np ns no ln cb bi rs rd rm rt : Nat → Int32) (Q : Nat → List Nat) (R : Nat),
    u = (nI n, mk, nI (xo_L t n).length, nI (wk_K (xo_L t n)), bc, rc, nI n, wk_f t, co, ro, rk, sl, nw, np, ns, no, ln, cb, bi, rs, rd, rm, rt) ∧ (0 < n → mk = nI (bw_p t n 0)) ∧ (∀ i, i < n → co i = nI (bw_c t n i)) ∧
    (∀ i, i < n → rk i = nI (mf_rk (bw_c t n) i)) ∧ wk_L sl (xo_L t n) ∧ ht_C (fun v => (xo_L t n).count v) Q R ∧ bc = nI R ∧ ∀ j, j < n → rt j = nI (t j)
section
variable {le mk sc ok bc rc rr : Int32} {tx co ro rk sl nw np ns no ln cb bi rs rd rm rt : Nat → Int32}
theorem xo_all {post : SX → Prop} {t : Nat → Nat} {n : Nat} (ht : ∀ i, t i < 6) (hn : n ≤ 32) (h : ∀ u, xo_ok t n u → post u) : wpX_codeAndDecode post (nI n, mk, sc, ok, bc, rc, rr, wk_f t, co, ro, rk, sl, nw, np, ns, no, ln, cb, bi, rs, rd, rm, rt) := by
  have hc6 : ∀ i, bw_c t n i < 6 := fun i => bw_c6 ht n i
  have hl := xo_Ll t n
  have h7 := xo_L7 t n
  unfold wpX_codeAndDecode
  dsimp only
  refine xs_col ht hn ?_
  intro mk co hmk hco
  refine xr_ranks hn hc6 hco ?_
  intro ro rk hrk
  refine xy_sym hn (fun i => mf_rklt _ i) hrk ?_
  intro sl hsl
  refine xg_code (L := xo_L t n) (by omega) h7 hsl ?_
  intro nw np ns no ln cb Q R hC hlc
  have hQ : ∀ k, k < 7 → (Q k).length ≤ 6 ∧ ∀ b ∈ Q k, b < 2 := by
    intro k hk
    by_cases hw : 0 < (xo_L t n).count k
    · exact ⟨(hC.1 k hk hw).2.1, (hC.1 k hk hw).2.2⟩
    · rw [hC.2.1 k hk (Nat.eq_zero_of_not_pos hw)]
      exact ⟨by simp, fun b hb => by cases hb⟩
  refine xb_write (L := xo_L t n) (Q := Q) (by omega) h7 hsl hQ hlc ?_
  intro bi hbi
  refine xb_read (L := xo_L t n) (Q := Q) hQ hlc hbi (by omega) ?_ ?_
  · intro s hs
    exact ⟨h7 s hs, pc_ok hC (h7 s hs) (List.count_pos_iff.mpr hs)⟩
  intro rs hrs
  have hX : ((xo_L t n).foldl rl_st ([], 1)).1 = (List.range n).map (mf_rk (bw_c t n)) := rl_syinv _ n hn
  refine xu_sym (S := xo_L t n) hrs (by omega) h7 hX (by simp) hn ?_
  intro rd hrd
  have hrd2 : ∀ i, i < n → rd i = nI (mf_rk (bw_c t n) i) := by
    intro i hi
    rw [hrd i (by simp; exact hi)]
    simp [hi]
  refine xu_ranks hn hc6 hrd2 ?_
  intro ro rm hrm
  refine xu_col ht hn hrm hmk ?_
  intro rt hrt
  have hb : nI (pc_e (fun k => (Q k).reverse) (xo_L t n)).length = nI R := by
    rw [pc_el Q _ h7]
    exact congrArg nI hC.2.2.2.2.1
  exact h _ ⟨mk, nI (pc_e (fun k => (Q k).reverse) (xo_L t n)).length, nI (xo_L t n).length, co, ro, rk, sl, nw, np, ns, no, ln, cb, bi, rs, rd, rm, rt, Q, R, rfl, hmk, hco, hrk, hsl, hC, hb, hrt⟩
end
