/-! Y's search for the least cost -/
def yk_Z (of ln : Nat → Int32) (ps : List (Nat × Nat)) : Prop := ∀ (P : List (Nat × Nat)) (x : Nat × Nat) (R : List (Nat × Nat)), P ++ x :: R = ps → of P.length = nI x.1 ∧ ln P.length = nI x.2
theorem yk_zip {of ln : Nat → Int32} {o v : List Nat} (h1 : wk_L of o) (h2 : wk_L ln v) (hl : o.length = v.length) : yk_Z of ln (o.zip v) := by
  intro P x R e
  have e1 : (o.zip v).map Prod.fst = o := List.map_fst_zip (by omega)
  have e2 : (o.zip v).map Prod.snd = v := List.map_snd_zip (by omega)
  rw [← e, List.map_append, List.map_cons] at e1 e2
  have a1 := wk_mid (a := of) (P := P.map Prod.fst) (R := R.map Prod.fst) (x := x.1) (by rw [e1]; exact h1)
  have a2 := wk_mid (a := ln) (P := P.map Prod.snd) (R := R.map Prod.snd) (x := x.2) (by rw [e2]; exact h2)
  rw [List.length_map] at a1 a2
  exact ⟨a1, a2⟩
theorem yk_krb : ∀ P : List (Nat × Nat), hf_kr P ≤ 64 * P.length
  | [] => Nat.le_refl _
  | x :: P => by
    have ih := yk_krb P
    have h : 2 ^ (6 - x.2) ≤ 2 ^ 6 := Nat.pow_le_pow_right (by decide) (by omega)
    simp only [hf_kr, List.length_cons]
    omega
theorem yk_cb : ∀ P : List (Nat × Nat), (∀ x ∈ P, x.1 ≤ 32 ∧ x.2 ≤ 6) → hf_c P ≤ 192 * P.length
  | [], _ => Nat.le_refl _
  | x :: P, h => by
    have ih := yk_cb P fun y hy => h y (List.mem_cons_of_mem _ hy)
    have hx := h x List.mem_cons_self
    have h2 : x.1 * x.2 ≤ 32 * 6 := Nat.mul_le_mul hx.1 hx.2
    simp only [hf_c, List.length_cons]
    omega
theorem yk_sh : ∀ l, l < 7 → (64 : Int32) >>> (nI l &&& 31) = nI (2 ^ (6 - l)) := by decide +kernel
theorem yk_none : ∀ R : List Nat, (∀ y ∈ R, 6 ≤ y) → en_nx R = none
  | [], _ => rfl
  | x :: R, h => by
    have hx := h x List.mem_cons_self
    have ih := yk_none R fun y hy => h y (List.mem_cons_of_mem _ hy)
    show (match en_nx R with
      | some ys => some (x :: ys)
      | none => if x < 6 then some (List.replicate (R.length + 1) (x + 1)) else none) = none
    rw [ih]
    exact if_neg (by omega)
theorem yk_some {x : Nat} {R : List Nat} (hx : x < 6) (hR : ∀ y ∈ R, 6 ≤ y) : ∀ P : List Nat, en_nx (P ++ x :: R) = some (P ++ List.replicate (R.length + 1) (x + 1))
  | [] => by
    show (match en_nx R with
      | some ys => some (x :: ys)
      | none => if x < 6 then some (List.replicate (R.length + 1) (x + 1)) else none) = _
    rw [yk_none R hR]
    exact if_pos hx
  | p :: P => by
    show (match en_nx (P ++ x :: R) with
      | some ys => some (p :: ys)
      | none => if p < 6 then some (List.replicate ((P ++ x :: R).length + 1) (p + 1)) else none) = _
    rw [yk_some hx hR P]
    rfl
theorem wk_Lp {a : Nat → Int32} {P R : List Nat} (h : wk_L a (P ++ R)) : wk_L a P := by
  intro i hi
  have := h i (by rw [List.length_append]; omega)
  rw [List.getD_eq_getElem?_getD, List.getElem?_append_left hi, ← List.getD_eq_getElem?_getD] at this
  exact this
def yk_A (P : List Nat) (x2 : Int32) : Prop := (x2 = -1 ∧ ∀ y ∈ P, 6 ≤ y) ∨ ∃ (P1 : List Nat) (x : Nat) (R1 : List Nat), P = P1 ++ x :: R1 ∧ x2 = nI P1.length ∧ x < 6 ∧ ∀ y ∈ R1, 6 ≤ y
section
variable {fn fc fm : Int32} {tx co rk sy ro of ln : Nat → Int32}
theorem yk_46 {post : Int32 → SY → Prop} {K z : Nat} (hK : K ≤ 7) : ∀ (m : Nat) (Z : List Nat) (ln : Nat → Int32), Z.length + m = K → wk_L ln Z → (∀ ln : Nat → Int32, wk_L ln (Z ++ List.replicate m z) → post 1 (fn, fc, fm, tx, co, rk, sy, ro, of, ln)) →
    wY_nextLengths_46 post (nI K) (nI z) fn fc fm (m + 1) (nI Z.length) tx co rk sy ro of ln := by
  intro m
  induction m with
  | zero =>
    intro Z ln hm hZ h
    rw [show Z ++ List.replicate 0 z = Z from List.append_nil Z] at h
    exact pk_le K Z.length (fun _ => h ln hZ) (fun hc => absurd hc (by omega))
  | succ m ih =>
    intro Z ln hm hZ h
    have e3 : (Z ++ [z]).length = Z.length + 1 := by rw [List.length_append]; rfl
    refine pk_le K Z.length (fun hc => absurd hc (by omega)) (fun _ => ⟨pk_in Z.length 7 (by omega), nm_r (e' := upd ln Z.length (nI z)) (by rw [nI_clamp (by omega)]) (nm_r (nI_1 _) ?_)⟩)
    have hI := ih (Z ++ [z]) _ (by omega) (wk_Ls hZ) (by
      rw [List.append_assoc]
      exact h)
    rw [e3] at hI
    exact hI
theorem yk_4 {post : Int32 → SY → Prop} {K : Nat} {v : List Nat} (hK : K ≤ 7) (hv : v.length = K) (hv6 : ∀ y ∈ v, y ≤ 6) (hL : wk_L ln v)
    (h1 : ∀ w, en_nx v = some w → ∀ ln : Nat → Int32, wk_L ln w → post 1 (fn, fc, fm, tx, co, rk, sy, ro, of, ln)) (h0 : en_nx v = none → post 0 (fn, fc, fm, tx, co, rk, sy, ro, of, ln)) : ∀ (R P : List Nat) (x2 : Int32), P ++ R = v → yk_A P x2 →
    wY_nextLengths_4 post (nI K) fn fc fm tx co rk sy ro of ln (R.length + 1) x2 (nI P.length) := by
  intro R
  induction R with
  | nil =>
    intro P x2 hP hA
    rw [List.append_nil] at hP
    subst hP
    refine pk_le K P.length (fun _ => ?_) (fun hc => absurd hc (by omega))
    rcases hA with ⟨rfl, hA⟩ | ⟨P1, x, R1, rfl, rfl, hx, hR⟩
    · exact br_f (by decide) (h0 (yk_none P hA))
    · rw [List.length_append, List.length_cons] at hv
      have hm := wk_mid hL
      refine br_t (nI_pos' (by omega)) ⟨pk_in P1.length 7 (by omega), nm_r (e' := nI (x + 1)) (by rw [wk_cla (by omega) hm, nI_1]) ⟨R1.length + 2, yk_46 hK (R1.length + 1) P1 ln (by omega) (wk_Lp hL) ?_⟩⟩
      intro ln' hl
      exact h1 _ (yk_some hx hR P1) ln' hl
  | cons y R ih =>
    intro P x2 hP hA
    have hlen := congrArg List.length hP
    rw [List.length_append, List.length_cons] at hlen
    have hy6 : y ≤ 6 := hv6 y (by rw [← hP]; simp)
    have hm : ln P.length = nI y := wk_mid (R := R) (by rw [hP]; exact hL)
    have e3 : (P ++ [y]).length = P.length + 1 := by rw [List.length_append]; rfl
    have hI : ∀ x2, yk_A (P ++ [y]) x2 → wY_nextLengths_4 post (nI K) fn fc fm tx co rk sy ro of ln (R.length + 1) x2 (nI (P.length + 1)) := by
      intro x2 hA2
      have := ih (P ++ [y]) x2 (by rw [List.append_assoc]; exact hP) hA2
      rw [e3] at this
      exact this
    refine pk_le K P.length (fun hc => absurd hc (by omega)) (fun _ => ⟨pk_in P.length 7 (by omega), pk_le 6 y (fun hc => nm_r (nI_1 _) (hI _ ?_)) (fun hc => nm_r (nI_1 _) (hI _ ?_)) rfl (wk_cla (by omega) hm)⟩)
    · rcases hA with ⟨e, hA⟩ | ⟨P1, x, R1, e1, e2, hx, hR⟩
      · refine Or.inl ⟨e, fun z hz => ?_⟩
        rcases List.mem_append.mp hz with hz | hz
        · exact hA z hz
        · rw [List.mem_singleton.mp hz]; exact hc
      · refine Or.inr ⟨P1, x, R1 ++ [y], by rw [e1, List.append_assoc]; rfl, e2, hx, fun z hz => ?_⟩
        rcases List.mem_append.mp hz with hz | hz
        · exact hR z hz
        · rw [List.mem_singleton.mp hz]; exact hc
    · exact Or.inr ⟨P, y, [], rfl, rfl, hc, fun z hz => by cases hz⟩
theorem yk_next {post : Int32 → SY → Prop} {K : Nat} {v : List Nat} (hK : K ≤ 7) (hv : v.length = K) (hv6 : ∀ y ∈ v, y ≤ 6) (hL : wk_L ln v)
    (h1 : ∀ w, en_nx v = some w → ∀ ln : Nat → Int32, wk_L ln w → post 1 (fn, fc, fm, tx, co, rk, sy, ro, of, ln)) (h0 : en_nx v = none → post 0 (fn, fc, fm, tx, co, rk, sy, ro, of, ln)) : wpY_nextLengths post (fn, fc, fm, tx, co, rk, sy, ro, of, ln) (nI K) :=
  ⟨v.length + 1, yk_4 hK hv hv6 hL h1 h0 v [] (-1) rfl (Or.inl ⟨rfl, fun y hy => by cases hy⟩)⟩
theorem yk_c4 {post : Int32 → Prop} {K : Nat} {ps : List (Nat × Nat)} (hK : K ≤ 7) (hp : ps.length = K) (hp6 : ∀ x ∈ ps, x.2 ≤ 6) (hZ : yk_Z of ln ps) (h1 : hf_kr ps ≤ 64 → post 1) (h0 : ¬ hf_kr ps ≤ 64 → post 0) : ∀ (R P : List (Nat × Nat)), P ++ R = ps →
    wY_canBe_4 post (nI K) fn fc fm tx co rk sy ro of ln (R.length + 1) (nI (hf_kr P)) (nI P.length) := by
  intro R
  induction R with
  | nil =>
    intro P hP
    rw [List.append_nil] at hP
    subst hP
    have hb := yk_krb P
    exact pk_le K P.length (fun _ => pk_lt 64 (hf_kr P) (fun hc => h0 (by omega)) (fun hc => h1 hc)) (fun hc => absurd hc (by omega))
  | cons x R ih =>
    intro P hP
    have hlen := congrArg List.length hP
    rw [List.length_append, List.length_cons] at hlen
    have hx := hp6 x (by rw [← hP]; simp)
    have hz := (hZ P x R hP).2
    have e3 : (P ++ [x]).length = P.length + 1 := by rw [List.length_append]; rfl
    have hI := ih (P ++ [x]) (by rw [List.append_assoc]; exact hP)
    rw [e3, hf_krA] at hI
    refine pk_le K P.length (fun hc => absurd hc (by omega)) (fun _ => ⟨pk_in P.length 7 (by omega), nm_r (e' := nI (hf_kr P + hf_kr [x])) ?_ (nm_r (nI_1 _) hI)⟩)
    rw [wk_cla (by omega) hz, yk_sh x.2 (by omega), nI_add]
    rfl
theorem yk_62 {post : Int32 → SY → Prop} {J : Int32 → Int32 → Int32 → Int32 → Int32 → Int32 → (Nat → Int32) → (Nat → Int32) → (Nat → Int32) → (Nat → Int32) → (Nat → Int32) → (Nat → Int32) → (Nat → Int32) → Prop} {K le : Nat} {x4 : Int32} {o v : List Nat} (hK : K ≤ 7) (ho : o.length = K) (hv : v.length = K)
    (hp6 : ∀ x ∈ o.zip v, x.1 ≤ 32 ∧ x.2 ≤ 6) (hZ : yk_Z of ln (o.zip v)) (hle : le ≤ 2000) (h : wY_cost_115 post J (nI K) (nI (en_t o le v)) x4 fn fc fm tx co rk sy ro of ln) : ∀ (R P : List (Nat × Nat)), P ++ R = o.zip v →
    wY_cost_62 post J (nI K) (nI le) x4 fn fc fm tx co rk sy ro of ln (R.length + 1) (nI (hf_c P)) (nI P.length) := by
  intro R
  have hpl : (o.zip v).length = K := by rw [List.length_zip]; omega
  induction R with
  | nil =>
    intro P hP
    rw [List.append_nil] at hP
    have hb := yk_cb P (by rw [hP]; exact hp6)
    have hPl : P.length = K := by rw [hP]; exact hpl
    refine pk_le K P.length (fun _ => ?_) (fun hc => absurd hc (by omega))
    unfold en_t at h
    rw [← hP] at h
    refine ⟨(o.zip v).length + 1, yk_c4 hK hpl (fun x hx => (hp6 x hx).2) hZ (fun hk => br_f (by decide) ?_) (fun hk => br_t rfl ?_) (o.zip v) [] rfl⟩
    · rw [← hP] at hk
      refine pk_eq le 0 (fun e => ?_) (fun e => pk_le le (hf_c P) (fun hc => ?_) (fun hc => ?_))
      · rw [if_pos ⟨hk, Or.inl e⟩] at h
        exact h
      · rw [if_neg (fun z => by omega)] at h
        exact h
      · rw [if_pos ⟨hk, Or.inr hc⟩] at h
        exact h
    · rw [← hP] at hk
      rw [if_neg (fun z => hk z.1)] at h
      exact h
  | cons x R ih =>
    intro P hP
    have hlen := congrArg List.length hP
    rw [List.length_append, List.length_cons] at hlen
    have hz := hZ P x R hP
    have e3 : (P ++ [x]).length = P.length + 1 := by rw [List.length_append]; rfl
    have hI := ih (P ++ [x]) (by rw [List.append_assoc]; exact hP)
    rw [e3, hf_cA] at hI
    have hin := pk_in (x := nI P.length) P.length 7 (by omega)
    refine pk_le K P.length (fun hc => absurd hc (by omega)) (fun _ => ⟨hin, hin, nm_r (e' := nI (hf_c P + hf_c [x])) ?_ (nm_r (nI_1 _) hI)⟩)
    rw [wk_cla (by omega) hz.1, wk_cla (by omega) hz.2, pk_mul, nI_add]
    rfl
theorem yk_nl : ∀ v w : List Nat, (∀ y ∈ v, 1 ≤ y ∧ y ≤ 6) → en_nx v = some w → w.length = v.length ∧ ∀ y ∈ w, 1 ≤ y ∧ y ≤ 6
  | [], w, _, e => by cases e
  | x :: v, w, h, e => by
    have hx := h x List.mem_cons_self
    have e' : (match en_nx v with
      | some ys => some (x :: ys)
      | none => if x < 6 then some (List.replicate (v.length + 1) (x + 1)) else none) = some w := e
    cases hn : en_nx v with
    | some ys =>
      rw [hn] at e'
      cases e'
      have ih := yk_nl v ys (fun y hy => h y (List.mem_cons_of_mem _ hy)) hn
      refine ⟨by simp [ih.1], ?_⟩
      intro y hy
      cases hy with
      | head => exact hx
      | tail _ hy => exact ih.2 y hy
    | none =>
      rw [hn] at e'
      dsimp only at e'
      by_cases c : x < 6
      · rw [if_pos c] at e'
        cases e'
        refine ⟨by simp, ?_⟩
        intro y hy
        rw [List.eq_of_mem_replicate hy]
        omega
      · rw [if_neg c] at e'
        cases e'
theorem yk_44 {post : Int32 → SY → Prop} {K : Nat} {o : List Nat} (hK : K ≤ 7) (ho : o.length = K) (ho32 : ∀ x ∈ o, x ≤ 32) (hof : wk_L of o) : ∀ (f way : Nat) (v : List Nat) (le : Nat) (ln : Nat → Int32), way + f = 800 → v.length = K → (∀ y ∈ v, 1 ≤ y ∧ y ≤ 6) → wk_L ln v → le ≤ 2000 →
    (∀ ln : Nat → Int32, post (nI (en_f o le (en_ef f v))) (fn, fc, fm, tx, co, rk, sy, ro, of, ln)) → wY_cost_44 post (nI K) (f + 1) (nI le) 1 (nI way) fn fc fm tx co rk sy ro of ln := by
  intro f
  induction f with
  | zero =>
    intro way v le ln hw _ _ _ _ h
    exact pk_le 800 way (fun _ => h ln) (fun hc => absurd hc (by omega))
  | succ f ih =>
    intro way v le ln hw hv hv6 hL hle h
    have hp6 : ∀ x ∈ o.zip v, x.1 ≤ 32 ∧ x.2 ≤ 6 := by
      intro x hx
      have := List.of_mem_zip (show (x.1, x.2) ∈ o.zip v from hx)
      exact ⟨ho32 _ this.1, (hv6 _ this.2).2⟩
    have hpl : (o.zip v).length = K := by rw [List.length_zip]; omega
    have hcb := yk_cb (o.zip v) hp6
    have hle' : en_t o le v ≤ 2000 := by
      unfold en_t
      split <;> omega
    have eh : en_ef (f + 1) v = v :: (match en_nx v with
      | none => []
      | some w => en_ef f w) := rfl
    rw [eh] at h
    refine pk_le 800 way (fun hc => absurd hc (by omega)) (fun _ => br_f (by decide) ⟨(o.zip v).length + 1, yk_62 hK ho hv hp6 (yk_zip hof hL (by omega)) hle ?_ (o.zip v) [] rfl⟩)
    refine yk_next hK hv (fun y hy => (hv6 y hy).2) hL ?_ ?_
    · intro w hw' ln' hL'
      have hn := yk_nl v w hv6 hw'
      rw [hw'] at h
      exact nm_r (nI_1 way) (ih (way + 1) w (en_t o le v) ln' (by omega) (by omega) hn.2 hL' hle' h)
    · intro hn
      rw [hn] at h
      exact nm_r (nI_1 way) (pk_le 800 (way + 1) (fun _ => h ln) (fun _ => br_t rfl (h ln)))
theorem yk_20 {post : Int32 → SY → Prop} {x1 x2 x3 : Int32} (h : ∀ ln : Nat → Int32, (∀ v, v < 7 → ln v = 1) → ∃ n44 : Nat, wY_cost_44 post x1 n44 x2 x3 0 fn fc fm tx co rk sy ro of ln) : ∀ (m i : Nat) (ln : Nat → Int32), i + m = 7 → (∀ v, v < i → ln v = 1) →
    wY_cost_20 post x1 x2 x3 fn fc fm (m + 1) (nI i) tx co rk sy ro of ln := by
  intro m
  induction m with
  | zero =>
    intro i ln hi h1
    have e : i = 7 := by omega
    subst e
    exact pk_le 7 7 (fun _ => h ln h1) (fun hc => absurd hc (by omega))
  | succ m ih =>
    intro i ln hi h1
    refine pk_le 7 i (fun hc => absurd hc (by omega)) (fun _ => ⟨pk_in i 7 (by omega), nm_e (nm_r (nI_1 i) (ih (i + 1) _ (by omega) ?_))⟩)
    intro v hv
    rw [nI_clamp (by omega)]
    by_cases e : v = i
    · subst e; exact pk_us
    · rw [pk_un e]; exact h1 v (by omega)
theorem yk_cost {post : Int32 → SY → Prop} {t : Nat → Nat} {n : Nat} (ht : ∀ i, t i < 6) (hn : n ≤ 32) {Q : Nat → List Nat} {R : Nat} (hC : ht_C (fun v => (xo_L t n).count v) Q R)
    (h : ∀ (fc fm : Int32) (co rk sy ro of ln : Nat → Int32), post (nI R) (nI n, fc, fm, wk_f t, co, rk, sy, ro, of, ln)) : wpY_cost post (nI n, fc, fm, wk_f t, co, rk, sy, ro, of, ln) := by
  have hl := xo_Ll t n
  have h7 := xo_L7 t n
  have hKn := wk_Kn (xo_L t n)
  have hk : cn_ 7 (fun s => decide (0 < bs_i (fun v => (xo_L t n).count v) 36 s)) = wk_K (xo_L t n) := bs_k _
  have ha : ∀ v, bs_i (fun v => (xo_L t n).count v) 36 v ≤ 32 := yc_le (fun v => by
    have : (xo_L t n).count v ≤ (xo_L t n).length := List.count_le_length
    show (xo_L t n).count v ≤ 32
    omega) 36
  have hperm := bs_o (fun v => (xo_L t n).count v)
  have hsort := bs_os (fun v => (xo_L t n).count v) (wk_K (xo_L t n)) hKn
  rw [hk] at hperm
  unfold wpY_cost
  dsimp only
  refine yc_cnt ht hn ?_
  intro fc fm co rk sy ro of hof
  generalize hKe : wk_K (xo_L t n) = K at hKn hk hperm hsort
  generalize hao : bs_i (fun v => (xo_L t n).count v) 36 = a at ha hof hperm hsort
  refine pk_le K 0 (fun hc => ⟨8, yk_20 ?_ 7 0 ln (by omega) (fun v hv => absurd hv (by omega))⟩) (fun hc => ⟨8, yk_20 ?_ 7 0 ln (by omega) (fun v hv => absurd hv (by omega))⟩)
  · intro ln _
    have hR : R = 0 := by
      have h0 : ∀ k, k < 7 → (xo_L t n).count k = 0 := by
        intro k hk7
        apply Classical.byContradiction
        intro z
        have := (ht_Pm (w := fun v => (xo_L t n).count v)).mpr ⟨hk7, (Nat.pos_of_ne_zero z : 0 < (fun v => (xo_L t n).count v) k)⟩
        have hlen := hperm.length_eq
        rw [List.length_map, List.length_range] at hlen
        unfold ht_W at hlen
        rw [List.length_map] at hlen
        have hz : (ht_P (fun v => (xo_L t n).count v)) = [] := List.length_eq_zero_iff.mp (by omega)
        rw [hz] at this
        cases this
      rw [← hC.2.2.2.2.1, ht_smc (h := fun _ => 0) fun k hk7 => by dsimp only; rw [h0 k hk7]; simp, ht_sm0]
    subst hR
    exact ⟨1, pk_le 800 0 (fun hc => absurd hc (by omega)) (fun _ => br_t rfl (h fc fm co rk sy ro of ln))⟩
  · intro ln hln
    have hol : ((List.range K).map a).length = K := by simp
    have hwo : wk_L of ((List.range K).map a) := by
      intro i hi
      rw [hol] at hi
      rw [hof i (by omega)]
      simp [hi]
    have hwl : wk_L ln (List.replicate K 1) := by
      intro i hi
      rw [List.length_replicate] at hi
      rw [hln i (by omega)]
      simp [hi]
      rfl
    refine ⟨801, yk_44 hKn hol (fun x hx => ?_) hwo 800 0 (List.replicate K 1) 0 ln (by omega) (by simp) (fun y hy => ?_) hwl (by omega) ?_⟩
    · obtain ⟨i, _, rfl⟩ := List.mem_map.mp hx
      exact ha i
    · rw [List.eq_of_mem_replicate hy]; omega
    · intro ln'
      have hfin := ht_least hC hperm hsort (by rw [hol]; exact hc)
      rw [hol] at hfin
      rw [en_all K hc hKn, hfin]
      exact h fc fm co rk sy ro of ln'
end
