/-! Y's counting and sorting of the counts -/
theorem yc_le {a : Nat → Nat} (h : ∀ v, a v ≤ 32) : ∀ k v, bs_i a k v ≤ 32
  | 0, v => h v
  | k + 1, v => by
    show bs_s (bs_i a k) (k % 6) v ≤ 32
    unfold bs_s
    split
    · exact yc_le h k _
    · exact yc_le h k v
section
variable {fn fc fm : Int32} {tx co rk sy ro of ln : Nat → Int32}
theorem yc_126 {post : Int32 → SY → Prop} {a : Nat → Nat} (ha : ∀ v, a v ≤ 32) (ho : ∀ v, v < 7 → of v = nI (a v)) (h : post (nI (cn_ 7 (fun s => decide (0 < a s)))) (fn, fc, fm, tx, co, rk, sy, ro, of, ln)) : ∀ (m i : Nat), i + m = 7 →
    wY_countSymbols_126 post fn fc fm tx co rk sy ro of ln (m + 1) (nI (cn_ i (fun s => decide (0 < a s)))) (nI i) := by
  intro m
  induction m with
  | zero =>
    intro i hi
    have e : i = 7 := by omega
    subst e
    exact pk_le 7 7 (fun _ => h) (fun hc => absurd hc (by omega))
  | succ m ih =>
    intro i hi
    have hI := ih (i + 1) (by omega)
    rw [cn_s] at hI
    have h32 := ha i
    refine pk_le 7 i (fun hc => absurd hc (by omega)) (fun _ => ⟨pk_in i 7 (by omega), pk_le (a i) 0 (fun hc => ?_) (fun hc => ?_) (wk_cla (by omega) (ho i (by omega)))⟩)
    · rw [decide_eq_false (by omega)] at hI
      exact nm_r (nI_1 i) hI
    · rw [decide_eq_true hc, if_pos rfl] at hI
      exact nm_r (nI_1 _) (nm_r (nI_1 i) hI)
theorem yc_58 {post : Int32 → SY → Prop} {a : Nat → Nat} (ha : ∀ v, a v ≤ 32) (h : ∀ of : Nat → Int32, (∀ v, v < 7 → of v = nI (bs_i a 36 v)) → post (nI (cn_ 7 (fun s => decide (0 < bs_i a 36 s)))) (fn, fc, fm, tx, co, rk, sy, ro, of, ln)) : ∀ (m k : Nat) (of : Nat → Int32), k + m = 36 →
    (∀ v, v < 7 → of v = nI (bs_i a k v)) → wY_countSymbols_58 post fn fc fm (m + 1) (nI k) tx co rk sy ro of ln := by
  intro m
  induction m with
  | zero =>
    intro k of hk ho
    have e : k = 36 := by omega
    subst e
    exact pk_le 36 36 (fun _ => ⟨8, yc_126 (yc_le ha 36) ho (h of ho) 7 0 (by omega)⟩) (fun hc => absurd hc (by omega))
  | succ m ih =>
    intro k of hk ho
    have hs : k % 6 < 6 := Nat.mod_lt _ (by decide)
    have hI := ih (k + 1)
    have e0 : bs_i a (k + 1) = bs_s (bs_i a k) (k % 6) := rfl
    rw [e0] at hI
    unfold bs_s at hI
    have g1 := yc_le ha k (k % 6)
    have g2 := yc_le ha k (k % 6 + 1)
    generalize hsg : k % 6 = s at hs hI g1 g2
    have in1 := pk_in (x := nI s) s 7 (by omega)
    have in2 : vp_in (nI s + 1) 7 := pk_in (s + 1) 7 (by omega) (nI_1 s)
    have c2 : (nI s + 1).toNatClampNeg = s + 1 := by rw [nI_1, nI_clamp (by omega)]
    have c1 : (nI s).toNatClampNeg = s := nI_clamp (by omega)
    refine pk_le 36 k (fun hc => absurd hc (by omega)) (fun _ => ⟨by decide, nm_r (e' := nI s) (by rw [← hsg]; exact pk_rem (d := 6) (by omega) (by omega) (by omega)) ⟨in1, in2, pk_le (bs_i a k (s + 1)) (bs_i a k s) (fun hc => ?_) (fun hc => ⟨in2, nm_e ⟨in1, in2, nm_e ⟨in1, nm_e (nm_r (nI_1 k) ?_)⟩⟩⟩) (by rw [c2]; exact ho _ (by omega)) (by rw [c1]; exact ho _ (by omega))⟩⟩)
    · rw [if_neg (by omega)] at hI
      exact nm_r (nI_1 k) (hI of (by omega) ho)
    · rw [if_pos hc] at hI
      refine hI _ (by omega) ?_
      intro v hv
      rw [c1, c2]
      unfold bs_g
      by_cases e1 : v = s
      · subst e1; rw [pk_us, if_pos rfl]; exact ho _ (by omega)
      · rw [pk_un e1, if_neg e1]
        by_cases e2 : v = s + 1
        · subst e2; rw [pk_us, if_pos rfl]; exact ho _ (by omega)
        · rw [pk_un e2, if_neg e2]; exact ho _ hv
theorem yc_27 {post : Int32 → SY → Prop} {L : List Nat} (hl : L.length ≤ 32) (h7 : ∀ x ∈ L, x < 7) (hL : wk_L sy L)
    (h : ∀ of : Nat → Int32, (∀ v, v < 7 → of v = nI (L.count v)) → ∃ n58 : Nat, wY_countSymbols_58 post fn (nI L.length) fm n58 0 tx co rk sy ro of ln) :
    ∀ (R P : List Nat) (of : Nat → Int32), P ++ R = L → (∀ v, v < 7 → of v = nI (P.count v)) → wY_countSymbols_27 post fn (nI L.length) fm (R.length + 1) (nI P.length) tx co rk sy ro of ln := by
  intro R
  induction R with
  | nil =>
    intro P of hP h1
    rw [List.append_nil] at hP
    subst hP
    exact pk_le P.length P.length (fun _ => h of h1) (fun hc => absurd hc (by omega))
  | cons x R ih =>
    intro P of hP h1
    have hlen := congrArg List.length hP
    rw [List.length_append, List.length_cons] at hlen
    have hx : x < 7 := h7 x (by rw [← hP]; simp)
    have hsx : sy (nI P.length).toNatClampNeg = nI x := wk_cla (by omega) (wk_mid (R := R) (by rw [hP]; exact hL))
    have e3 : (P ++ [x]).length = P.length + 1 := by rw [List.length_append]; rfl
    have hI := ih (P ++ [x]) (upd of x (nI (P.count x + 1))) (by rw [List.append_assoc]; exact hP) (by
      intro v hv
      rw [wk_cs]
      by_cases e : v = x
      · subst e; rw [pk_us, if_pos rfl]
      · rw [pk_un e, if_neg e]; exact h1 v hv)
    rw [e3] at hI
    refine pk_le L.length P.length (fun hc => absurd hc (by omega)) (fun _ => ⟨pk_in P.length 32 (by omega), ?_⟩)
    rw [hsx]
    refine ⟨pk_in x 7 hx, pk_in x 7 hx, nm_r (e' := upd of x (nI (P.count x + 1))) ?_ (nm_r (nI_1 _) hI)⟩
    rw [nI_clamp (by omega), h1 x hx, nI_1]
theorem yc_6 {post : Int32 → SY → Prop} (h : ∀ of : Nat → Int32, (∀ v, v < 7 → of v = 0) → ∃ n27 : Nat, wY_countSymbols_27 post fn fc fm n27 0 tx co rk sy ro of ln) : ∀ (m i : Nat) (of : Nat → Int32), i + m = 7 → (∀ v, v < i → of v = 0) →
    wY_countSymbols_6 post fn fc fm (m + 1) (nI i) tx co rk sy ro of ln := by
  intro m
  induction m with
  | zero =>
    intro i of hi h1
    have e : i = 7 := by omega
    subst e
    exact pk_le 7 7 (fun _ => h of h1) (fun hc => absurd hc (by omega))
  | succ m ih =>
    intro i of hi h1
    refine pk_le 7 i (fun hc => absurd hc (by omega)) (fun _ => ⟨pk_in i 7 (by omega), nm_e (nm_r (nI_1 i) (ih (i + 1) _ (by omega) ?_))⟩)
    intro v hv
    rw [nI_clamp (by omega)]
    by_cases e : v = i
    · subst e; exact pk_us
    · rw [pk_un e]; exact h1 v (by omega)
theorem yc_cnt {post : Int32 → SY → Prop} {t : Nat → Nat} {n : Nat} (ht : ∀ i, t i < 6) (hn : n ≤ 32)
    (h : ∀ (fc fm : Int32) (co rk sy ro of : Nat → Int32), (∀ v, v < 7 → of v = nI (bs_i (fun v => (xo_L t n).count v) 36 v)) → post (nI (wk_K (xo_L t n))) (nI n, fc, fm, wk_f t, co, rk, sy, ro, of, ln)) :
    wpY_countSymbols post (nI n, fc, fm, wk_f t, co, rk, sy, ro, of, ln) := by
  have hl := xo_Ll t n
  have h7 := xo_L7 t n
  have ha : ∀ v, (fun v => (xo_L t n).count v) v ≤ 32 := by
    intro v
    have : (xo_L t n).count v ≤ (xo_L t n).length := List.count_le_length
    show (xo_L t n).count v ≤ 32
    omega
  have hk : cn_ 7 (fun s => decide (0 < bs_i (fun v => (xo_L t n).count v) 36 s)) = wk_K (xo_L t n) := bs_k _
  unfold wpY_countSymbols
  dsimp only
  refine ye_enc ht hn ?_
  intro fm co rk sy ro _ _ _ h4
  refine ⟨8, yc_6 ?_ 7 0 of (by omega) (fun v hv => absurd hv (by omega))⟩
  intro of h0
  refine ⟨(xo_L t n).length + 1, yc_27 (by omega) h7 h4 ?_ (xo_L t n) [] of rfl h0⟩
  intro of h1
  refine ⟨37, yc_58 ha ?_ 36 0 of (by omega) h1⟩
  intro of h2
  rw [hk]
  exact h _ fm co rk sy ro of h2
end
