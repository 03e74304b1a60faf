/-! X's tree: the beginning -/
theorem wk_mid {a : Nat → Int32} {P R : List Nat} {x : Nat} (h : wk_L a (P ++ x :: R)) : a P.length = nI x := by
  have := h P.length (by rw [List.length_append, List.length_cons]; omega)
  rw [List.getD_eq_getElem?_getD, List.getElem?_append_right (Nat.le_refl _), Nat.sub_self] at this
  exact this
theorem cn_one {P Q : Nat → Bool} {x : Nat} : ∀ n, x < n → (∀ i, i < n → i ≠ x → P i = Q i) → P x = false → Q x = true → cn_ n Q = cn_ n P + 1
  | 0, hx, _, _, _ => absurd hx (Nat.not_lt_zero x)
  | n + 1, hx, h, h1, h2 => by
    rw [cn_s, cn_s]
    by_cases e : x = n
    · subst e
      rw [h1, h2, cn_congr (P := Q) (Q := P) fun i hi => (h i (by omega) (by omega)).symm]
      simp
    · rw [cn_one n (by omega) (fun i hi => h i (by omega)) h1 h2, h n (by omega) (fun z => e z.symm)]
      omega
def wk_b (b : Bool) : Int32 := if b then 1 else 0
def wk_p (p : Option Nat) : Int32 := match p with
  | none => -1
  | some q => nI q
def wk_K (L : List Nat) : Nat := cn_ 7 (fun s => decide (0 < L.count s))
theorem wk_Ks {L : List Nat} {x : Nat} (hx : x < 7) : wk_K (L ++ [x]) = if L.count x = 0 then wk_K L + 1 else wk_K L := by
  unfold wk_K
  by_cases e : L.count x = 0
  · rw [if_pos e]
    refine cn_one 7 hx ?_ ?_ ?_
    · intro i _ hne
      have : ¬ x = i := fun z => hne z.symm
      simp [List.count_append, List.count_cons, this]
    · simp [e]
    · simp [List.count_append]
  · rw [if_neg e]
    refine cn_congr fun i _ => ?_
    by_cases c : x = i
    · subst c
      have h1 : 0 < (L ++ [x]).count x := by rw [List.count_append]; omega
      have h2 : 0 < L.count x := by omega
      rw [decide_eq_true h1, decide_eq_true h2]
    · simp [List.count_append, List.count_cons, c]
theorem wk_cs (L : List Nat) (x v : Nat) : (L ++ [x]).count v = if v = x then L.count v + 1 else L.count v := by
  rw [List.count_append, List.count_cons]
  by_cases c : v = x
  · subst c; simp
  · have : ¬ x = v := fun z => c z.symm
    simp [c, this]
theorem wk_Kn (L : List Nat) : wk_K L ≤ 7 := by
  have := cn_mono (n := 7) (P := fun s => decide (0 < L.count s)) (Q := fun _ => true) (fun _ _ _ => rfl)
  rw [cn_all] at this
  exact this
theorem wk_n0 : vp_nar .boolean 0 = 0 := by decide
theorem wk_n1 : vp_nar .boolean 1 = 1 := by decide
section
variable {le mk sc ok bc rc rr : Int32} {tx co ro rk sl nw np ns no ln cb bi rs rd rm rt : Nat → Int32}
theorem xt_90 {post : SX → Prop} {J : Int32 → Int32 → (Nat → Int32) → (Nat → Int32) → (Nat → Int32) → (Nat → Int32) → (Nat → Int32) → (Nat → Int32) → (Nat → Int32) → (Nat → Int32) → (Nat → Int32) → (Nat → Int32) → (Nat → Int32) → (Nat → Int32) → (Nat → Int32) → (Nat → Int32) → (Nat → Int32) → (Nat → Int32) → Prop}
    {i x c : Nat} (hx : x < 7) (hc : nw x = nI c) (h : J (nI (i + 1)) ok tx co ro rk sl (upd nw x (nI (c + 1))) np ns no ln cb bi rs rd rm rt) : wX_startTree_90 post J (nI i) (nI x) le mk sc ok bc rc rr tx co ro rk sl nw np ns no ln cb bi rs rd rm rt := by
  refine ⟨pk_in x 13 (by omega), pk_in x 13 (by omega), nm_r (e' := upd nw x (nI (c + 1))) ?_ (nm_r (nI_1 i) h)⟩
  rw [nI_clamp (by omega), hc, nI_1]
theorem xt_49 {post : SX → Prop} {L : List Nat} (hl : L.length ≤ 32) (h7 : ∀ x ∈ L, x < 7) (hL : wk_L sl L)
    (h : ∀ nw no : Nat → Int32, (∀ v, v < 13 → nw v = nI (L.count v)) → (∀ v, v < 13 → no v = wk_b (decide (0 < L.count v))) → post (le, mk, nI L.length, nI (wk_K L), bc, rc, rr, tx, co, ro, rk, sl, nw, np, ns, no, ln, cb, bi, rs, rd, rm, rt)) :
    ∀ (R P : List Nat) (nw no : Nat → Int32), P ++ R = L → (∀ v, v < 13 → nw v = nI (P.count v)) → (∀ v, v < 13 → no v = wk_b (decide (0 < P.count v))) →
    wX_startTree_49 post le mk (nI L.length) bc rc rr (R.length + 1) (nI P.length) (nI (wk_K P)) tx co ro rk sl nw np ns no ln cb bi rs rd rm rt := by
  intro R
  induction R with
  | nil =>
    intro P nw no hP h1 h2
    rw [List.append_nil] at hP
    subst hP
    exact pk_le P.length P.length (fun _ => h nw no h1 h2) (fun hc => absurd hc (by omega))
  | cons x R ih =>
    intro P nw no hP h1 h2
    have hlen := congrArg List.length hP
    rw [List.length_append, List.length_cons] at hlen
    have hx : x < 7 := h7 x (by rw [← hP]; simp)
    have hsx : sl P.length = nI x := wk_mid (R := R) (by rw [hP]; exact hL)
    have hcx : P.count x ≤ P.length := List.count_le_length
    refine pk_le L.length P.length (fun hc => absurd hc (by omega)) (fun _ => ⟨pk_in P.length 32 (by omega), nm_r (wk_cla (by omega) hsx) ⟨pk_in x 13 (by omega), ?_⟩⟩)
    have hI := ih (P ++ [x]) (upd nw x (nI (P.count x + 1)))
    rw [List.length_append, wk_Ks hx] at hI
    have hn : ∀ v, v < 13 → upd nw x (nI (P.count x + 1)) v = nI ((P ++ [x]).count v) := by
      intro v hv
      rw [wk_cs]
      by_cases e : v = x
      · subst e; rw [pk_us, if_pos rfl]
      · rw [pk_un e, if_neg e]; exact h1 v hv
    refine pk_eq (P.count x) 0 (fun hc => ?_) (fun hc => ?_) (wk_cla (by omega) (h1 x (by omega)))
    · rw [if_pos hc] at hI
      refine ⟨pk_in x 13 (by omega), nm_r (e' := upd no x 1) (by rw [nI_clamp (by omega), wk_n1]) (nm_r (nI_1 _) (xt_90 hx (h1 x (by omega)) ?_))⟩
      refine hI _ (by rw [List.append_assoc]; exact hP) hn ?_
      intro v hv
      by_cases e : v = x
      · subst e
        rw [pk_us, wk_cs, if_pos rfl, decide_eq_true (by omega)]; rfl
      · rw [pk_un e, wk_cs, if_neg e]; exact h2 v hv
    · rw [if_neg hc] at hI
      refine xt_90 hx (h1 x (by omega)) ?_
      refine hI _ (by rw [List.append_assoc]; exact hP) hn ?_
      intro v hv
      rw [h2 v hv, wk_cs]
      by_cases e : v = x
      · subst e
        rw [if_pos rfl, decide_eq_true (by omega), decide_eq_true (by omega)]
      · rw [if_neg e]
theorem xt_2 {post : SX → Prop} (h : ∀ nw np ns no : Nat → Int32, (∀ v, v < 13 → nw v = 0 ∧ np v = -1 ∧ ns v = 0 ∧ no v = 0) →
      ∃ n49 : Nat, wX_startTree_49 post le mk sc bc rc rr n49 0 0 tx co ro rk sl nw np ns no ln cb bi rs rd rm rt) : ∀ (m i : Nat) (nw np ns no : Nat → Int32), i + m = 13 → (∀ v, v < i → nw v = 0 ∧ np v = -1 ∧ ns v = 0 ∧ no v = 0) →
    wX_startTree_2 post le mk sc ok bc rc rr (m + 1) (nI i) tx co ro rk sl nw np ns no ln cb bi rs rd rm rt := by
  intro m
  induction m with
  | zero =>
    intro i nw np ns no hi h1
    have e : i = 13 := by omega
    subst e
    exact pk_le 13 13 (fun _ => h nw np ns no h1) (fun hc => absurd hc (by omega))
  | succ m ih =>
    intro i nw np ns no hi h1
    have hin := pk_in (x := nI i) i 13 (by omega)
    refine pk_le 13 i (fun hc => absurd hc (by omega)) (fun _ => ⟨hin, nm_e ⟨hin, nm_e ⟨hin, nm_e ⟨hin, nm_e (nm_r (nI_1 i) (ih (i + 1) _ _ _ _ (by omega) ?_))⟩⟩⟩⟩)
    intro v hv
    rw [nI_clamp (by omega), wk_n0]
    by_cases e : v = i
    · subst e; exact ⟨pk_us, pk_us, pk_us, pk_us⟩
    · rw [pk_un e, pk_un e, pk_un e, pk_un e]; exact h1 v (by omega)
theorem xt_start {post : SX → Prop} {L : List Nat} (hl : L.length ≤ 32) (h7 : ∀ x ∈ L, x < 7) (hL : wk_L sl L)
    (h : ∀ nw np ns no : Nat → Int32, (∀ v, v < 13 → nw v = nI (L.count v)) → (∀ v, v < 13 → np v = -1) → (∀ v, v < 13 → ns v = 0) → (∀ v, v < 13 → no v = wk_b (decide (0 < L.count v))) → post (le, mk, nI L.length, nI (wk_K L), bc, rc, rr, tx, co, ro, rk, sl, nw, np, ns, no, ln, cb, bi, rs, rd, rm, rt)) :
    wpX_startTree post (le, mk, nI L.length, ok, bc, rc, rr, tx, co, ro, rk, sl, nw, np, ns, no, ln, cb, bi, rs, rd, rm, rt) := by
  refine ⟨14, xt_2 ?_ 13 0 nw np ns no (by omega) (fun v hv => absurd hv (by omega))⟩
  intro nw np ns no h0
  refine ⟨L.length + 1, xt_49 hl h7 hL (fun nw no h1 h2 => h nw np ns no h1 (fun v hv => (h0 v hv).2.1) (fun v hv => (h0 v hv).2.2.1) h2) L [] nw no rfl (fun v hv => (h0 v hv).1) (fun v hv => (h0 v hv).2.2.2)⟩
theorem xt_4 {post : Int32 → Prop} {op : Nat → Bool} {wt : Nat → Nat} (hw : ∀ v, v < 13 → wt v < 2 ^ 31) (hno : ∀ v, v < 13 → no v = wk_b (op v)) (hnw : ∀ v, v < 13 → nw v = nI (wt v)) (hex : ∃ v, v < 13 ∧ op v = true)
    (h : ∀ f, f < 13 → op f = true → (∀ v, v < 13 → op v = true → wt f ≤ wt v) → post (nI f)) : ∀ (m i b : Nat), i + m = 13 → b < i →
    ((op b = true ∧ ∀ v, v < i → op v = true → wt b ≤ wt v) ∨ (op b = false ∧ ∀ v, v < i → op v = false)) →
    wX_lightestOpenNode_4 post le mk sc ok bc rc rr tx co ro rk sl nw np ns no ln cb bi rs rd rm rt (m + 1) (nI b) (nI i) := by
  intro m
  induction m with
  | zero =>
    intro i b hi hb hc
    have e : i = 13 := by omega
    subst e
    refine pk_le 13 13 (fun _ => ?_) (fun hc => absurd hc (by omega))
    rcases hc with ⟨c1, c2⟩ | ⟨_, c2⟩
    · exact h b hb c1 c2
    · obtain ⟨v, hv, ho⟩ := hex
      rw [c2 v hv] at ho
      cases ho
  | succ m ih =>
    intro i b hi hb hc
    have hi13 : i < 13 := by omega
    have hb13 : b < 13 := by omega
    have hin := pk_in (x := nI i) i 13 hi13
    have hbn := pk_in (x := nI b) b 13 hb13
    refine pk_le 13 i (fun hc => absurd hc (by omega)) (fun _ => ⟨hin, ?_⟩)
    cases ho : op i with
    | false =>
      refine br_t (by rw [nI_clamp (by omega), hno i hi13, ho]; rfl) (nm_r (nI_1 i) (ih (i + 1) b (by omega) (by omega) ?_))
      rcases hc with ⟨c1, c2⟩ | ⟨c1, c2⟩
      · refine Or.inl ⟨c1, fun v hv hv2 => ?_⟩
        by_cases e : v = i
        · subst e; rw [ho] at hv2; cases hv2
        · exact c2 v (by omega) hv2
      · refine Or.inr ⟨c1, fun v hv => ?_⟩
        by_cases e : v = i
        · subst e; exact ho
        · exact c2 v (by omega)
    | true =>
      refine br_f (by rw [nI_clamp (by omega), hno i hi13, ho]; decide) ⟨hbn, ?_⟩
      rcases hc with ⟨c1, c2⟩ | ⟨c1, c2⟩
      · refine br_f (by rw [nI_clamp (by omega), hno b hb13, c1]; decide) ⟨hin, hbn, ?_⟩
        have w1 := hw b hb13
        have w2 := hw i hi13
        refine pk_le (wt b) (wt i) (fun hle => nm_r (nI_1 i) (ih (i + 1) b (by omega) (by omega) ?_)) (fun hlt => nm_r (nI_1 i) (ih (i + 1) i (by omega) (by omega) ?_)) (wk_cla (by omega) (hnw b hb13)) (wk_cla (by omega) (hnw i hi13)) w1 w2
        · refine Or.inl ⟨c1, fun v hv hv2 => ?_⟩
          by_cases e : v = i
          · subst e; exact hle
          · exact c2 v (by omega) hv2
        · refine Or.inl ⟨ho, fun v hv hv2 => ?_⟩
          by_cases e : v = i
          · subst e; exact Nat.le_refl _
          · have := c2 v (by omega) hv2; omega
      · refine br_t (by rw [nI_clamp (by omega), hno b hb13, c1]; rfl) (nm_r (nI_1 i) (ih (i + 1) i (by omega) (by omega) ?_))
        refine Or.inl ⟨ho, fun v hv hv2 => ?_⟩
        by_cases e : v = i
        · subst e; exact Nat.le_refl _
        · rw [c2 v (by omega)] at hv2; cases hv2
theorem xt_light {post : Int32 → Prop} {op : Nat → Bool} {wt : Nat → Nat} (hw : ∀ v, v < 13 → wt v < 2 ^ 31) (hno : ∀ v, v < 13 → no v = wk_b (op v)) (hnw : ∀ v, v < 13 → nw v = nI (wt v)) (hex : ∃ v, v < 13 ∧ op v = true)
    (h : ∀ f, f < 13 → op f = true → (∀ v, v < 13 → op v = true → wt f ≤ wt v) → post (nI f)) : wpX_lightestOpenNode post (le, mk, sc, ok, bc, rc, rr, tx, co, ro, rk, sl, nw, np, ns, no, ln, cb, bi, rs, rd, rm, rt) := by
  refine ⟨13, xt_4 hw hno hnw hex h 12 1 0 (by omega) (by omega) ?_⟩
  cases ho : op 0 with
  | false =>
    refine Or.inr ⟨rfl, fun v hv => ?_⟩
    have e : v = 0 := by omega
    subst e; exact ho
  | true =>
    refine Or.inl ⟨rfl, fun v hv _ => ?_⟩
    have e : v = 0 := by omega
    subst e; exact Nat.le_refl _
theorem xt_hang {post : SX → Prop} {f p s : Nat} (hf : f < 13) (h : post (le, mk, sc, ok, bc, rc, rr, tx, co, ro, rk, sl, nw, upd np f (nI p), upd ns f (nI s), upd no f 0, ln, cb, bi, rs, rd, rm, rt)) : wpX_hangUnder post (le, mk, sc, ok, bc, rc, rr, tx, co, ro, rk, sl, nw, np, ns, no, ln, cb, bi, rs, rd, rm, rt) (nI f) (nI p) (nI s) := by
  have hin := pk_in (x := nI f) f 13 hf
  have e := nI_clamp (n := f) (by omega)
  exact ⟨hin, nm_r (by rw [e]) ⟨hin, nm_r (by rw [e]) ⟨hin, nm_r (by rw [e, wk_n0]) h⟩⟩⟩
end
