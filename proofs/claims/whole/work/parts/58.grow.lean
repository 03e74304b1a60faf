/-! X's tree grows; the codes are taken from it -/
def xg_R (op : Nat → Bool) (wt : Nat → Nat) (par : Nat → Option Nat) (sd : Nat → Nat) (nw np ns no : Nat → Int32) : Prop :=
  ∀ v, v < 13 → no v = wk_b (op v) ∧ nw v = nI (wt v) ∧ np v = wk_p (par v) ∧ ns v = nI (sd v)
theorem xg_two {op : Nat → Bool} (h : 2 ≤ (ht_N op).length) (f : Nat) : ∃ v, v < 13 ∧ v ≠ f ∧ op v = true := by
  have hd := ht_Nd op
  cases e : ht_N op with
  | nil => rw [e] at h; simp at h
  | cons a l =>
    cases e2 : l with
    | nil => rw [e, e2] at h; simp at h
    | cons b l2 =>
      rw [e, e2, List.nodup_cons] at hd
      have ha := ht_Nm.mp (show a ∈ ht_N op by rw [e]; simp)
      have hb := ht_Nm.mp (show b ∈ ht_N op by rw [e, e2]; simp)
      by_cases c : a = f
      · refine ⟨b, hb.1, ?_, hb.2⟩
        intro z
        exact hd.1 (by rw [c, z]; simp)
      · exact ⟨a, ha.1, c, ha.2⟩
theorem xg_rep {op : Nat → Bool} {wt : Nat → Nat} {par : Nat → Option Nat} {sd : Nat → Nat} {nw np ns no : Nat → Int32} (h : xg_R op wt par sd nw np ns no) {f s nd : Nat} (hfs : f ≠ s) (hf : f ≠ nd) (hs : s ≠ nd) :
    xg_R (ht_op op f s nd) (ht_wt wt f s nd) (ht_par par f s nd) (ht_sd sd f s) (upd nw nd (nI (wt f + wt s))) (upd (upd np f (nI nd)) s (nI nd)) (upd (upd ns f (nI 0)) s (nI 1)) (upd (upd (upd no f 0) s 0) nd 1) := by
  intro v hv
  obtain ⟨h1, h2, h3, h4⟩ := h v hv
  unfold ht_op ht_wt ht_par ht_sd
  refine ⟨?_, ?_, ?_, ?_⟩
  · by_cases e : v = nd
    · subst e; rw [pk_us, if_pos rfl]; rfl
    · rw [pk_un e, if_neg e]
      by_cases e2 : v = s
      · subst e2; rw [pk_us, if_pos (Or.inr rfl)]; rfl
      · rw [pk_un e2]
        by_cases e3 : v = f
        · subst e3; rw [pk_us, if_pos (Or.inl rfl)]; rfl
        · rw [pk_un e3, if_neg (by simp [e2, e3])]; exact h1
  · by_cases e : v = nd
    · subst e; rw [pk_us, if_pos rfl]
    · rw [pk_un e, if_neg e]; exact h2
  · by_cases e2 : v = s
    · subst e2; rw [pk_us, if_pos (Or.inr rfl)]; rfl
    · rw [pk_un e2]
      by_cases e3 : v = f
      · subst e3; rw [pk_us, if_pos (Or.inl rfl)]; rfl
      · rw [pk_un e3, if_neg (by simp [e2, e3])]; exact h3
  · by_cases e2 : v = s
    · subst e2; rw [pk_us, if_pos rfl]
    · rw [pk_un e2, if_neg e2]
      by_cases e3 : v = f
      · subst e3; rw [pk_us, if_pos rfl]
      · rw [pk_un e3, if_neg e3]; exact h4
section
variable {le mk sc ok bc rc rr : Int32} {tx co ro rk sl nw np ns no ln cb bi rs rd rm rt : Nat → Int32}
theorem xg_5 {post : SX → Prop} {w : Nat → Nat} {K : Nat} (hK : K ≤ 7)
    (h : ∀ (j : Nat) (op : Nat → Bool) (wt : Nat → Nat) (par : Nat → Option Nat) (sd A : Nat → Nat) (Q : Nat → List Nat) (R : Nat) (nw np ns no : Nat → Int32),
      ht_I w (ht_W w) K j op wt par sd A Q R → xg_R op wt par sd nw np ns no → (∀ v p, par v = some p → p < 13) → (∀ v, v < 7 → wt v = w v) → j ≤ 6 → (K = j + 1 ∨ (K ≤ 1 ∧ j = 0)) → post (le, mk, sc, nI K, bc, rc, rr, tx, co, ro, rk, sl, nw, np, ns, no, ln, cb, bi, rs, rd, rm, rt)) :
    ∀ (m j : Nat) (op : Nat → Bool) (wt : Nat → Nat) (par : Nat → Option Nat) (sd A : Nat → Nat) (Q : Nat → List Nat) (R : Nat) (nw np ns no : Nat → Int32), j + m = 6 → (1 ≤ j → j + 1 ≤ K) →
      ht_I w (ht_W w) K j op wt par sd A Q R → xg_R op wt par sd nw np ns no → (∀ v p, par v = some p → p < 13) → (∀ v, v < 7 → wt v = w v) → (∀ v, wt v ≤ 32 * 2 ^ j) →
    wX_growTree_5 post (m + 1) (nI (7 + j)) (nI (1 + j)) le mk sc (nI K) bc rc rr tx co ro rk sl nw np ns no ln cb bi rs rd rm rt := by
  intro m
  induction m with
  | zero =>
    intro j op wt par sd A Q R nw np ns no hj hjK hI hR hp hw hb
    exact pk_le K (1 + j) (fun hc => h j op wt par sd A Q R nw np ns no hI hR hp hw (by omega) (by omega)) (fun hc => absurd hc (by omega))
  | succ m ih =>
    intro j op wt par sd A Q R nw np ns no hj hjK hI hR hp hw hb
    refine pk_le K (1 + j) (fun hc => h j op wt par sd A Q R nw np ns no hI hR hp hw (by omega) (by omega)) (fun hc => pk_le 13 (7 + j) (fun hc => absurd hc (by omega)) (fun _ => ?_))
    have hpw : 2 ^ j ≤ 2 ^ 6 := Nat.pow_le_pow_right (by decide) (by omega)
    have hbig : ∀ v, v < 13 → wt v < 2 ^ 31 := fun v _ => by have := hb v; omega
    have hlen := hI.2.2.2.2.2.2.2.2.2.1
    have hin := hI.1
    have hlen2 : 2 ≤ (ht_N op).length := by omega
    obtain ⟨v0, hv0, _, ho0⟩ := xg_two hlen2 13
    refine xt_light hbig (fun v hv => (hR v hv).1) (fun v hv => (hR v hv).2.1) ⟨v0, hv0, ho0⟩ ?_
    intro f hf of mf
    refine xt_hang (s := 0) hf ?_
    obtain ⟨v1, hv1, hvf, ho1⟩ := xg_two hlen2 f
    refine xt_light (op := fun v => if v = f then false else op v) hbig ?_ (fun v hv => (hR v hv).2.1) ⟨v1, hv1, by rw [if_neg hvf]; exact ho1⟩ ?_
    · intro v hv
      by_cases e : v = f
      · subst e; rw [pk_us, if_pos rfl]; rfl
      · rw [pk_un e, if_neg e]; exact (hR v hv).1
    intro s hs os1 ms1
    have hsf : f ≠ s := by
      intro z
      subst z
      rw [if_pos rfl] at os1
      cases os1
    have os : op s = true := by
      rw [if_neg (fun z => hsf z.symm)] at os1
      exact os1
    have hf7 := (hin f of).1
    have hs7 := (hin s os).1
    refine xt_hang (s := 1) hs ?_
    have hn13 : 7 + j < 13 := by omega
    have hinn := pk_in (x := nI (7 + j)) (7 + j) 13 hn13
    have e1 := nI_clamp (n := 7 + j) (by omega)
    refine ⟨pk_in f 13 hf, pk_in s 13 hs, hinn, nm_r (e' := upd nw (7 + j) (nI (wt f + wt s))) ?_ ⟨hinn, nm_r (e' := upd (upd (upd no f 0) s 0) (7 + j) 1) (by rw [e1, wk_n1]) (nm_r (nI_1 _) (nm_r (nI_1 _) ?_))⟩⟩
    · rw [e1, nI_clamp (n := f) (by omega), nI_clamp (n := s) (by omega), (hR f hf).2.1, (hR s hs).2.1, nI_add]
    · refine ih (j + 1) _ _ _ _ _ _ _ _ _ _ _ (by omega) (by omega) (ht_step hI (by omega) of os hsf ?_ ?_) (xg_rep hR hsf (by omega) (by omega)) ?_ ?_ ?_
      · exact fun v hv => mf v (by have := (hin v hv).1; omega) hv
      · intro v hv hne
        exact ms1 v (by have := (hin v hv).1; omega) (by rw [if_neg hne]; exact hv)
      · intro v p hvp
        unfold ht_par at hvp
        by_cases c : v = f ∨ v = s
        · rw [if_pos c] at hvp
          cases hvp
          omega
        · rw [if_neg c] at hvp
          exact hp v p hvp
      · intro v hv
        unfold ht_wt
        rw [if_neg (by omega)]
        exact hw v hv
      · intro v
        have a1 := hb f
        have a2 := hb s
        have a3 := hb v
        rw [Nat.pow_succ]
        unfold ht_wt
        by_cases c : v = 7 + j
        · rw [if_pos c]; omega
        · rw [if_neg c]; omega
theorem xg_grow {post : SX → Prop} {L : List Nat} (hl : L.length ≤ 32) (h7 : ∀ x ∈ L, x < 7)
    (h1 : ∀ v, v < 13 → nw v = nI (L.count v)) (h2 : ∀ v, v < 13 → np v = -1) (h3 : ∀ v, v < 13 → ns v = 0) (h4 : ∀ v, v < 13 → no v = wk_b (decide (0 < L.count v)))
    (h : ∀ (j : Nat) (op : Nat → Bool) (wt : Nat → Nat) (par : Nat → Option Nat) (sd A : Nat → Nat) (Q : Nat → List Nat) (R : Nat) (nw np ns no : Nat → Int32),
      ht_I (fun v => L.count v) (ht_W (fun v => L.count v)) (wk_K L) j op wt par sd A Q R → xg_R op wt par sd nw np ns no → (∀ v p, par v = some p → p < 13) → (∀ v, v < 7 → wt v = L.count v) → j ≤ 6 → (wk_K L = j + 1 ∨ (wk_K L ≤ 1 ∧ j = 0)) → post (le, mk, sc, nI (wk_K L), bc, rc, rr, tx, co, ro, rk, sl, nw, np, ns, no, ln, cb, bi, rs, rd, rm, rt)) :
    wpX_growTree post (le, mk, sc, nI (wk_K L), bc, rc, rr, tx, co, ro, rk, sl, nw, np, ns, no, ln, cb, bi, rs, rd, rm, rt) := by
  have hKP : (ht_P (fun v => L.count v)).length = wk_K L := by
    unfold ht_P wk_K cn_
    rw [List.countP_eq_length_filter]
  have hI := ht_0 (fun v => L.count v) (fun v => L.count v) (fun _ => 0) (fun _ _ => rfl)
  rw [hKP] at hI
  refine ⟨7, xg_5 (wk_Kn L) h 6 0 _ _ _ _ _ _ _ nw np ns no (by omega) (fun z => absurd z (by omega)) hI ?_ (fun v p hvp => by cases hvp) (fun _ _ => rfl) ?_⟩
  · intro v hv
    refine ⟨?_, h1 v hv, h2 v hv, h3 v hv⟩
    rw [h4 v hv]
    unfold ht_op0
    congr 1
    by_cases c : v < 7
    · simp [c]
    · have : L.count v = 0 := List.count_eq_zero.mpr fun hm => c (h7 v hm)
      simp [this]
  · intro v
    have : L.count v ≤ L.length := List.count_le_length
    show L.count v ≤ 32 * 2 ^ 0
    omega
theorem xg_or : ∀ d, d < 6 → ∀ a, a < 64 → ∀ b, b < 2 → a < 2 ^ d → nI a ||| (nI b <<< (nI d &&& 31)) = nI (a + 2 ^ d * b) := by decide +kernel
theorem xg_m1 {p : Nat} (h : p < 13) : ¬ nI p = -1 := by
  intro z
  have := congrArg Int32.toInt z
  rw [nI_toInt (by omega)] at this
  have e : (-1 : Int32).toInt = -1 := by decide
  omega
def xg_F (w : Nat) (C : List Nat) : List Nat := if C = [] ∧ 0 < w then [0] else C
theorem xg_71 {post : SX → Prop} {k : Nat} {x y : Int32} (hk : k < 7) (h : post (le, mk, sc, ok, bc, rc, rr, tx, co, ro, rk, sl, nw, np, ns, no, upd ln k x, upd cb k y, bi, rs, rd, rm, rt)) : wX_takeCodeFromTree_71 post (nI k) x y le mk sc ok bc rc rr tx co ro rk sl nw np ns no ln cb bi rs rd rm rt := by
  have hin := pk_in (x := nI k) k 7 hk
  have e := nI_clamp (n := k) (by omega)
  exact ⟨hin, nm_r (by rw [e]) ⟨hin, nm_r (by rw [e]) h⟩⟩
theorem xg_56 {post : SX → Prop} {k w : Nat} {C : List Nat} (hk : k < 7) (hl : C.length ≤ 6) (hw : nw k = nI w) (hw2 : w < 2 ^ 31)
    (h : post (le, mk, sc, ok, bc, rc, rr, tx, co, ro, rk, sl, nw, np, ns, no, upd ln k (nI (xg_F w C).length), upd cb k (nI (pc_v (xg_F w C))), bi, rs, rd, rm, rt)) : wX_takeCodeFromTree_56 post (nI k) (nI C.length) (nI (pc_v C)) le mk sc ok bc rc rr tx co ro rk sl nw np ns no ln cb bi rs rd rm rt := by
  refine pk_eq C.length 0 (fun hc => ⟨pk_in k 13 (by omega), pk_le w 0 (fun hc2 => xg_71 hk ?_) (fun hc2 => xg_71 hk ?_) (wk_cla (by omega) hw) rfl hw2⟩) (fun hc => xg_71 hk ?_)
  · have e : xg_F w C = C := by unfold xg_F; rw [if_neg (fun z => by omega)]
    rw [e] at h; exact h
  · have e0 : C = [] := List.length_eq_zero_iff.mp hc
    have e : xg_F w C = [0] := by unfold xg_F; rw [if_pos ⟨e0, hc2⟩]
    rw [e] at h
    subst e0
    exact h
  · have e : xg_F w C = C := by unfold xg_F; rw [if_neg (fun z => hc (by rw [z.1]; rfl))]
    rw [e] at h; exact h
theorem xg_10 {post : SX → Prop} {k : Nat} {par : Nat → Option Nat} {sd : Nat → Nat} (hR : ∀ v, v < 13 → np v = wk_p (par v) ∧ ns v = nI (sd v)) (hp : ∀ v p, par v = some p → p < 13) {v : Nat} (hv : par v = none) :
    ∀ (Q U : List Nat) (x : Nat), x < 13 → ht_ch par sd x Q v → (∀ b ∈ Q, b < 2) → (∀ b ∈ U, b < 2) → U.length + Q.length ≤ 6 →
    wX_takeCodeFromTree_56 post (nI k) (nI (U ++ Q).length) (nI (pc_v (U ++ Q))) le mk sc ok bc rc rr tx co ro rk sl nw np ns no ln cb bi rs rd rm rt → wX_takeCodeFromTree_10 post (nI k) le mk sc ok bc rc rr tx co ro rk sl nw np ns no ln cb bi rs rd rm rt (Q.length + 1) (nI x) (nI U.length) (nI (pc_v U)) (nI U.length) := by
  intro Q
  induction Q with
  | nil =>
    intro U x hx hch _ _ hl h
    rw [List.append_nil] at h
    have e : x = v := hch
    subst e
    refine pk_le 6 U.length (fun _ => h) (fun _ => ⟨pk_in x 13 hx, br_t ?_ h⟩) rfl rfl (by omega) (by simp at hl; omega)
    rw [nI_clamp (by omega), (hR x hx).1, hv]
    rfl
  | cons b Q ih =>
    intro U x hx hch hb hU hl h
    obtain ⟨p, e1, e2, e3⟩ := hch
    rw [List.length_cons] at hl
    have hb2 := hb b List.mem_cons_self
    have hp13 := hp x p e1
    have hin := pk_in (x := nI x) x 13 hx
    have ec := nI_clamp (n := x) (by omega)
    have hnp : np x = nI p := by rw [(hR x hx).1, e1]; rfl
    have hvU := pc_vlt U hU
    have hv6 : pc_v U < 64 := Nat.lt_of_lt_of_le hvU (Nat.pow_le_pow_right (n := 2) (j := 6) (by decide) (by omega))
    refine pk_le 6 U.length (fun hc => absurd hc (by omega)) (fun _ => ⟨hin, br_f ?_ ⟨hin, nm_r (e' := nI (pc_v (U ++ [b]))) ?_ (nm_r (nI_1 _) ⟨hin, nm_r (e' := nI p) (by rw [ec, hnp]) (nm_r (nI_1 _) ?_)⟩)⟩⟩)
    · rw [ec, hnp]; exact xg_m1 hp13
    · rw [ec, (hR x hx).2, e2, xg_or U.length (by omega) (pc_v U) hv6 b hb2 hvU, pc_va]
    · have hI := ih (U ++ [b]) p hp13 e3 (fun y hy => hb y (List.mem_cons_of_mem _ hy)) (fun y hy => by
        rcases List.mem_append.mp hy with hy | hy
        · exact hU y hy
        · rw [List.mem_singleton.mp hy]; exact hb2) (by rw [List.length_append]; simp; omega) (by rw [List.append_assoc]; exact h)
      rw [List.length_append] at hI
      exact hI
theorem xg_take {post : SX → Prop} {k w : Nat} {par : Nat → Option Nat} {sd : Nat → Nat} {C : List Nat} (hk : k < 7) (hR : ∀ v, v < 13 → np v = wk_p (par v) ∧ ns v = nI (sd v)) (hp : ∀ v p, par v = some p → p < 13)
    (hC : ∃ v, ht_ch par sd k C v ∧ par v = none) (hb : ∀ b ∈ C, b < 2) (hl : C.length ≤ 6) (hw : nw k = nI w) (hw2 : w < 2 ^ 31)
    (h : post (le, mk, sc, ok, bc, rc, rr, tx, co, ro, rk, sl, nw, np, ns, no, upd ln k (nI (xg_F w C).length), upd cb k (nI (pc_v (xg_F w C))), bi, rs, rd, rm, rt)) : wpX_takeCodeFromTree post (le, mk, sc, ok, bc, rc, rr, tx, co, ro, rk, sl, nw, np, ns, no, ln, cb, bi, rs, rd, rm, rt) (nI k) := by
  obtain ⟨v, hch, hv⟩ := hC
  exact ⟨C.length + 1, xg_10 hR hp hv C [] k (by omega) hch hb (fun b hb => by cases hb) (by simp; exact hl) (xg_56 hk hl hw hw2 h)⟩
theorem xg_pure {w : Nat → Nat} {K j : Nat} {op : Nat → Bool} {wt : Nat → Nat} {par : Nat → Option Nat} {sd A : Nat → Nat} {Q : Nat → List Nat} {R : Nat} (hKP : (ht_P w).length = K)
    (I : ht_I w (ht_W w) K j op wt par sd A Q R) (hj : j ≤ 6) (hK : K = j + 1 ∨ (K ≤ 1 ∧ j = 0)) :
    ∃ (C : Nat → List Nat) (R' : Nat), ht_C w (fun k => xg_F (w k) (C k)) R' ∧ ∀ k, k < 7 → (∃ v, ht_ch par sd k (C k) v ∧ par v = none) ∧ (∀ b ∈ C k, b < 2) ∧ (C k).length ≤ 6 := by
  by_cases h1 : 1 ≤ j
  · obtain ⟨c, c1, c2, c3⟩ := ht_end I hj h1 (by omega)
    refine ⟨fun k => if 0 < w k then Q k else [], R, ?_, ?_⟩
    · have e : (fun k => if k < 7 then xg_F (w k) (if 0 < w k then Q k else []) else xg_F (w k) (if 0 < w k then Q k else [])) = (fun k => xg_F (w k) (if 0 < w k then Q k else [])) := by
        funext k; split <;> rfl
      have key : ∀ k, k < 7 → xg_F (w k) (if 0 < w k then Q k else []) = if 0 < w k then Q k else [] := by
        intro k hk
        unfold xg_F
        by_cases hw : 0 < w k
        · have := (c.1 k hk hw).1
          dsimp only at this
          rw [if_neg]
          intro z
          rw [z.1] at this
          simp at this
        · rw [if_neg (fun z => hw z.2)]
      obtain ⟨d1, d2, d3, d4, d5, d6⟩ := c
      refine ⟨?_, ?_, ?_, ?_, ?_, d6⟩
      · intro k hk hw
        dsimp only
        rw [key k hk]
        exact d1 k hk hw
      · intro k hk hw
        dsimp only
        rw [key k hk]
        exact d2 k hk hw
      · intro k k' hk hk' hw hw' hne
        dsimp only
        rw [key k hk, key k' hk']
        exact d3 k k' hk hk' hw hw' hne
      · rw [ht_smc (h := fun k => if 0 < w k then 2 ^ (6 - (if 0 < w k then Q k else []).length) else 0) fun k hk => by dsimp only; rw [key k hk]]
        exact d4
      · rw [ht_smc (h := fun k => w k * (if 0 < w k then Q k else []).length) fun k hk => by dsimp only; rw [key k hk]]
        exact d5
    · intro k hk
      dsimp only
      by_cases hw : 0 < w k
      · rw [if_pos hw]
        have := c.1 k hk hw
        dsimp only at this
        rw [if_pos hw] at this
        exact ⟨⟨6 + j, c1 k hk hw, c2⟩, this.2.2, this.2.1⟩
      · rw [if_neg hw]
        exact ⟨⟨k, rfl, c3 k hk (by omega)⟩, (fun b hb => by cases hb), by simp⟩
  · have hj0 : j = 0 := by omega
    subst hj0
    obtain ⟨i1, _, i3, _, _, _, _, _, i9, _, _⟩ := I
    have hpar : ∀ k, k < 7 → par k = none := by
      intro k hk
      by_cases hw : 0 < w k
      · obtain ⟨a1, a2, a3, _⟩ := i3 k hk hw
        have e : Q k = [] := List.length_eq_zero_iff.mp (by omega)
        rw [e] at a2
        have e2 : k = A k := a2
        rw [e2]
        exact (i1 _ a1).2
      · exact (i9 k hk (by omega)).2
    have hch : ∀ k, k < 7 → (∃ v, ht_ch par sd k [] v ∧ par v = none) ∧ (∀ b ∈ ([] : List Nat), b < 2) ∧ ([] : List Nat).length ≤ 6 := fun k hk =>
      ⟨⟨k, rfl, hpar k hk⟩, (fun b hb => by cases hb), by simp⟩
    by_cases hK1 : K = 1
    · refine ⟨fun _ => [], ht_sm 7 w, ?_, hch⟩
      have := ht_C1 (w := w) (by omega)
      have e : (fun k => xg_F (w k) []) = (fun k => if 0 < w k then [0] else []) := by
        funext k
        unfold xg_F
        by_cases hw : 0 < w k
        · rw [if_pos ⟨rfl, hw⟩, if_pos hw]
        · rw [if_neg (fun z => hw z.2), if_neg hw]
      rw [e]
      exact this
    · have hP0 : ht_P w = [] := List.length_eq_zero_iff.mp (by omega)
      have hw0 : ∀ k, k < 7 → w k = 0 := by
        intro k hk
        apply Classical.byContradiction
        intro z
        have := ht_Pm.mpr ⟨hk, (by omega : 0 < w k)⟩
        rw [hP0] at this
        cases this
      refine ⟨fun _ => [], 0, ⟨?_, ?_, ?_, ?_, ?_, ?_⟩, hch⟩
      · intro k hk hw; have := hw0 k hk; omega
      · intro k hk hw
        unfold xg_F
        dsimp only
        rw [if_neg (fun z => by omega)]
      · intro k k' hk _ hw; have := hw0 k hk; omega
      · rw [ht_smc (h := fun _ => 0) fun k hk => by rw [hw0 k hk]; rfl, ht_sm0]; omega
      · rw [ht_smc (h := fun _ => 0) fun k hk => by rw [hw0 k hk]; simp, ht_sm0]
      · intro ps _ _ _; exact Nat.zero_le _
theorem xg_mc {post : SX → Prop} {w : Nat → Nat} {par : Nat → Option Nat} {sd : Nat → Nat} {C : Nat → List Nat} (hR : ∀ v, v < 13 → np v = wk_p (par v) ∧ ns v = nI (sd v)) (hp : ∀ v p, par v = some p → p < 13)
    (hC : ∀ k, k < 7 → (∃ v, ht_ch par sd k (C k) v ∧ par v = none) ∧ (∀ b ∈ C k, b < 2) ∧ (C k).length ≤ 6) (hw : ∀ k, k < 7 → nw k = nI (w k)) (hw2 : ∀ k, w k < 2 ^ 31)
    (h : ∀ ln cb : Nat → Int32, (∀ k, k < 7 → ln k = nI (xg_F (w k) (C k)).length ∧ cb k = nI (pc_v (xg_F (w k) (C k)))) → post (le, mk, sc, ok, bc, rc, rr, tx, co, ro, rk, sl, nw, np, ns, no, ln, cb, bi, rs, rd, rm, rt)) : ∀ (m i : Nat) (ln cb : Nat → Int32), i + m = 7 →
    (∀ k, k < i → ln k = nI (xg_F (w k) (C k)).length ∧ cb k = nI (pc_v (xg_F (w k) (C k)))) → wX_makeCode_10 post (m + 1) (nI i) le mk sc ok bc rc rr tx co ro rk sl nw np ns no ln cb bi rs rd rm rt := by
  intro m
  induction m with
  | zero =>
    intro i ln cb hi h1
    have e : i = 7 := by omega
    subst e
    exact pk_le 7 7 (fun _ => h ln cb h1) (fun hc => absurd hc (by omega))
  | succ m ih =>
    intro i ln cb hi h1
    obtain ⟨a1, a2, a3⟩ := hC i (by omega)
    refine pk_le 7 i (fun hc => absurd hc (by omega)) (fun _ => xg_take (by omega) hR hp a1 a2 a3 (hw i (by omega)) (hw2 i) (nm_r (nI_1 i) (ih (i + 1) _ _ (by omega) ?_)))
    intro k hk
    by_cases e : k = i
    · subst e; exact ⟨pk_us, pk_us⟩
    · rw [pk_un e, pk_un e]; exact h1 k (by omega)
theorem xg_code {post : SX → Prop} {L : List Nat} (hl : L.length ≤ 32) (h7 : ∀ x ∈ L, x < 7) (hL : wk_L sl L)
    (h : ∀ (nw np ns no ln cb : Nat → Int32) (Q : Nat → List Nat) (R : Nat), ht_C (fun v => L.count v) Q R → (∀ k, k < 7 → ln k = nI (Q k).length ∧ cb k = nI (pc_v (Q k))) → post (le, mk, nI L.length, nI (wk_K L), bc, rc, rr, tx, co, ro, rk, sl, nw, np, ns, no, ln, cb, bi, rs, rd, rm, rt)) :
    wpX_makeCode post (le, mk, nI L.length, ok, bc, rc, rr, tx, co, ro, rk, sl, nw, np, ns, no, ln, cb, bi, rs, rd, rm, rt) := by
  unfold wpX_makeCode
  dsimp only
  refine xt_start hl h7 hL ?_
  intro nw np ns no h1 h2 h3 h4
  refine xg_grow hl h7 h1 h2 h3 h4 ?_
  intro j op wt par sd A Q R nw np ns no hI hR hp hw hj hK
  have hKP : (ht_P (fun v => L.count v)).length = wk_K L := by
    unfold ht_P wk_K cn_
    rw [List.countP_eq_length_filter]
  obtain ⟨C, R', hC, hch⟩ := xg_pure hKP hI hj hK
  exact ⟨8, xg_mc (w := fun v => L.count v) (fun v hv => (hR v hv).2.2) hp hch (fun k hk => by rw [(hR k (by omega)).2.1, hw k hk]) (fun k => by
    have : L.count k ≤ L.length := List.count_le_length
    omega) (fun ln cb hlc => h nw np ns no ln cb _ R' hC hlc) 7 0 ln cb (by omega) (fun k hk => absurd hk (by omega))⟩
end
