/-! X's bits, and back to symbols -/
theorem xb_tk : ∀ (q : List Nat) (d : Nat), d < q.length → q.take (d + 1) = q.take d ++ [q.getD d 0]
  | [], d, h => absurd h (Nat.not_lt_zero d)
  | x :: q, 0, _ => rfl
  | x :: q, d + 1, h => by
    show x :: q.take (d + 1) = x :: (q.take d ++ [q.getD d 0])
    rw [xb_tk q d (by simpa using h)]
theorem pc_ea (F : Nat → List Nat) : ∀ P R : List Nat, pc_e F (P ++ R) = pc_e F P ++ pc_e F R
  | [], R => rfl
  | x :: P, R => by
    show F x ++ pc_e F (P ++ R) = F x ++ pc_e F P ++ pc_e F R
    rw [pc_ea F P R, List.append_assoc]
theorem pc_e1 (F : Nat → List Nat) (x : Nat) : pc_e F [x] = F x := List.append_nil _
theorem pc_el6 {F : Nat → List Nat} : ∀ P : List Nat, (∀ x ∈ P, (F x).length ≤ 6) → (pc_e F P).length ≤ 6 * P.length
  | [], _ => Nat.le_refl _
  | x :: P, h => by
    have h1 := h x List.mem_cons_self
    have ih := pc_el6 P fun y hy => h y (List.mem_cons_of_mem _ hy)
    show (F x ++ pc_e F P).length ≤ _
    rw [List.length_append, List.length_cons]
    omega
section
variable {le mk sc ok bc rc rr : Int32} {tx co ro rk sl nw np ns no ln cb bi rs rd rm rt : Nat → Int32}
theorem xb_add {post : SX → Prop} {B : List Nat} {x : Nat} (hl : B.length < 192) (hB : wk_L bi B)
    (h : ∀ bi : Nat → Int32, wk_L bi (B ++ [x]) → post (le, mk, sc, ok, nI (B ++ [x]).length, rc, rr, tx, co, ro, rk, sl, nw, np, ns, no, ln, cb, bi, rs, rd, rm, rt)) : wpX_addBit post (le, mk, sc, ok, nI B.length, rc, rr, tx, co, ro, rk, sl, nw, np, ns, no, ln, cb, bi, rs, rd, rm, rt) (nI x) := by
  refine pk_le 192 B.length (fun hc => absurd hc (by omega)) (fun _ => ⟨pk_in B.length 192 hl, nm_r (e' := upd bi B.length (nI x)) (by rw [nI_clamp (by omega)]) (nm_r (nI_1 _) ?_)⟩)
  have := h _ (wk_Ls hB (x := x))
  rw [List.length_append] at this
  exact this
theorem xb_bit {q : List Nat} {d : Nat} (hb : ∀ b ∈ q, b < 2) (hl : q.length ≤ 6) (hd : d < 6) : (nI (pc_v q) >>> (nI d &&& 31)) &&& 1 = nI (q.getD d 0) := by
  have h1 := pc_vlt q hb
  have h2 : pc_v q < 64 := Nat.lt_of_lt_of_le h1 (Nat.pow_le_pow_right (n := 2) (j := 6) (by decide) hl)
  have h3 : pc_v q / 2 ^ d ≤ pc_v q := Nat.div_le_self _ _
  rw [pk_shrN (by omega) (nI d &&& 31) d (s_l d (by omega)), pk_andN (by omega) (m := 1) 1 (by decide)]
  rw [← pc_bit q d hb]
theorem xb_31 {post : SX → Prop} {J : Int32 → Int32 → Int32 → Int32 → Int32 → Int32 → Int32 → Int32 → (Nat → Int32) → (Nat → Int32) → (Nat → Int32) → (Nat → Int32) → (Nat → Int32) → (Nat → Int32) → (Nat → Int32) → (Nat → Int32) → (Nat → Int32) → (Nat → Int32) → (Nat → Int32) → (Nat → Int32) → (Nat → Int32) → (Nat → Int32) → (Nat → Int32) → (Nat → Int32) → Prop}
    {i k : Nat} {q : List Nat} (hk : k < 7) (hb : ∀ b ∈ q, b < 2) (hl : q.length ≤ 6) (hc : cb k = nI (pc_v q)) :
    ∀ (d : Nat) (B : List Nat) (bi : Nat → Int32), d ≤ q.length → B.length + d ≤ 192 → wk_L bi B →
    (∀ bi : Nat → Int32, wk_L bi (B ++ (q.take d).reverse) → J (nI (i + 1)) le mk sc ok (nI (B ++ (q.take d).reverse).length) rc rr tx co ro rk sl nw np ns no ln cb bi rs rd rm rt) →
    wX_writeBits_31 post J (nI i) (nI k) (d + 1) (nI d + (-1)) le mk sc ok (nI B.length) rc rr tx co ro rk sl nw np ns no ln cb bi rs rd rm rt := by
  intro d
  induction d with
  | zero =>
    intro B bi _ _ hB h
    have e : B ++ (q.take 0).reverse = B := List.append_nil B
    rw [e] at h
    exact br_t (by decide) (nm_r (nI_1 i) (h bi hB))
  | succ d ih =>
    intro B bi hd hl2 hB h
    rw [pk_m1 d]
    refine br_f (nI_pos (by omega)) ⟨pk_in k 7 hk, ?_⟩
    rw [wk_cla (by omega) hc, xb_bit hb hl (by omega)]
    refine xb_add (by omega) hB ?_
    intro bi' hB'
    refine nm_e (ih _ bi' (by omega) (by rw [List.length_append]; simp; omega) hB' ?_)
    have e : B ++ [q.getD d 0] ++ (q.take d).reverse = B ++ (q.take (d + 1)).reverse := by
      rw [xb_tk q d (by omega), List.reverse_append, List.append_assoc]; rfl
    rw [e]
    exact h
theorem xb_7 {post : SX → Prop} {L : List Nat} {Q : Nat → List Nat} (hl : L.length ≤ 32) (h7 : ∀ x ∈ L, x < 7) (hL : wk_L sl L) (hQ : ∀ k, k < 7 → (Q k).length ≤ 6 ∧ ∀ b ∈ Q k, b < 2)
    (hlc : ∀ k, k < 7 → ln k = nI (Q k).length ∧ cb k = nI (pc_v (Q k)))
    (h : ∀ bi : Nat → Int32, wk_L bi (pc_e (fun k => (Q k).reverse) L) → post (le, mk, nI L.length, ok, nI (pc_e (fun k => (Q k).reverse) L).length, rc, rr, tx, co, ro, rk, sl, nw, np, ns, no, ln, cb, bi, rs, rd, rm, rt)) :
    ∀ (R P : List Nat) (bi : Nat → Int32), P ++ R = L → wk_L bi (pc_e (fun k => (Q k).reverse) P) →
    wX_writeBits_7 post (R.length + 1) (nI P.length) le mk (nI L.length) ok (nI (pc_e (fun k => (Q k).reverse) P).length) rc rr tx co ro rk sl nw np ns no ln cb bi rs rd rm rt := by
  intro R
  induction R with
  | nil =>
    intro P bi hP hB
    rw [List.append_nil] at hP
    subst hP
    exact pk_le P.length P.length (fun _ => h bi hB) (fun hc => absurd hc (by omega))
  | cons x R ih =>
    intro P bi hP hB
    have hlen := congrArg List.length hP
    rw [List.length_append, List.length_cons] at hlen
    have hx : x < 7 := h7 x (by rw [← hP]; simp)
    have hsx : sl P.length = nI x := wk_mid (R := R) (by rw [hP]; exact hL)
    obtain ⟨q1, q2⟩ := hQ x hx
    have hP6 := pc_el6 (F := fun k => (Q k).reverse) P fun y hy => by
      rw [List.length_reverse]
      exact (hQ y (h7 y (by rw [← hP]; exact List.mem_append_left _ hy))).1
    refine pk_le L.length P.length (fun hc => absurd hc (by omega)) (fun _ => ⟨pk_in P.length 32 (by omega), nm_r (wk_cla (by omega) hsx) ⟨pk_in x 7 hx, nm_r (e' := nI (Q x).length + (-1)) ?_ ⟨(Q x).length + 1, ?_⟩⟩⟩)
    · rw [wk_cla (by omega) (hlc x hx).1, Int32.sub_eq_add_neg]
    · refine xb_31 hx q2 q1 (hlc x hx).2 _ _ bi (Nat.le_refl _) (by omega) hB ?_
      intro bi' hB'
      have e : pc_e (fun k => (Q k).reverse) P ++ ((Q x).take (Q x).length).reverse = pc_e (fun k => (Q k).reverse) (P ++ [x]) := by
        rw [pc_ea, pc_e1, List.take_length]
      rw [e] at hB' ⊢
      have hI := ih (P ++ [x]) bi' (by rw [List.append_assoc]; exact hP) hB'
      have e2 : (P ++ [x]).length = P.length + 1 := by rw [List.length_append]; rfl
      rw [e2] at hI
      exact hI
theorem xb_write {post : SX → Prop} {L : List Nat} {Q : Nat → List Nat} (hl : L.length ≤ 32) (h7 : ∀ x ∈ L, x < 7) (hL : wk_L sl L) (hQ : ∀ k, k < 7 → (Q k).length ≤ 6 ∧ ∀ b ∈ Q k, b < 2)
    (hlc : ∀ k, k < 7 → ln k = nI (Q k).length ∧ cb k = nI (pc_v (Q k)))
    (h : ∀ bi : Nat → Int32, wk_L bi (pc_e (fun k => (Q k).reverse) L) → post (le, mk, nI L.length, ok, nI (pc_e (fun k => (Q k).reverse) L).length, rc, rr, tx, co, ro, rk, sl, nw, np, ns, no, ln, cb, bi, rs, rd, rm, rt)) :
    wpX_writeBits post (le, mk, nI L.length, ok, bc, rc, rr, tx, co, ro, rk, sl, nw, np, ns, no, ln, cb, bi, rs, rd, rm, rt) :=
  ⟨L.length + 1, xb_7 hl h7 hL hQ hlc h L [] bi rfl (wk_L0 bi)⟩
theorem xb_2 {post : Int32 → Prop} {Q : Nat → List Nat} {r : List Nat} (hQ : ∀ k, k < 7 → (Q k).length ≤ 6 ∧ ∀ b ∈ Q k, b < 2) (hlc : ∀ k, k < 7 → ln k = nI (Q k).length ∧ cb k = nI (pc_v (Q k)))
    (hr : r.length ≤ 6) (hr2 : ∀ b ∈ r, b < 2) : ∀ f, f ≤ 7 → (∀ k, pc_fd Q r f = some k → post (nI k)) → (pc_fd Q r f = none → post (-1)) →
    wX_kindWithCode_2 post (nI r.length) (nI (pc_v r)) le mk sc ok bc rc rr tx co ro rk sl nw np ns no ln cb bi rs rd rm rt (f + 1) (nI (7 - f)) := by
  intro f
  induction f with
  | zero =>
    intro _ _ hn
    exact pk_le 7 7 (fun _ => hn rfl) (fun hc => absurd hc (by omega))
  | succ f ih =>
    intro hf hs hn
    have e : 7 - (f + 1) = 6 - f := by omega
    have e1 : 6 - f + 1 = 7 - f := by omega
    rw [e]
    have hk : 6 - f < 7 := by omega
    have hin := pk_in (x := nI (6 - f)) (6 - f) 7 hk
    obtain ⟨q1, q2⟩ := hQ _ hk
    have ed : pc_fd Q r (f + 1) = if Q (6 - f) = r then some (6 - f) else pc_fd Q r f := rfl
    have hv1 := pc_vlt r hr2
    have hv2 : pc_v r < 64 := Nat.lt_of_lt_of_le hv1 (Nat.pow_le_pow_right (n := 2) (j := 6) (by decide) hr)
    have hu1 := pc_vlt (Q (6 - f)) q2
    have hu2 : pc_v (Q (6 - f)) < 64 := Nat.lt_of_lt_of_le hu1 (Nat.pow_le_pow_right (n := 2) (j := 6) (by decide) q1)
    have next : Q (6 - f) ≠ r → wX_kindWithCode_2 post (nI r.length) (nI (pc_v r)) le mk sc ok bc rc rr tx co ro rk sl nw np ns no ln cb bi rs rd rm rt (f + 1) (nI (6 - f) + 1) := by
      intro hne
      rw [ed, if_neg hne] at hs hn
      rw [nI_1, e1]
      exact ih (by omega) hs hn
    refine pk_le 7 (6 - f) (fun hc => absurd hc (by omega)) (fun _ => ⟨hin, pk_eq (Q (6 - f)).length r.length (fun hl => ⟨hin, pk_eq (pc_v (Q (6 - f))) (pc_v r) (fun hv => ?_) (fun hv => nm_e (next ?_)) (wk_cla (by omega) (hlc _ hk).2)⟩) (fun hl => nm_e (next ?_)) (wk_cla (by omega) (hlc _ hk).1)⟩)
    · have he := pc_vinj _ _ q2 hr2 hl hv
      rw [ed, if_pos he] at hs
      exact hs _ rfl
    · exact fun z => hv (by rw [z])
    · exact fun z => hl (by rw [z])
theorem xb_kind {post : Int32 → Prop} {Q : Nat → List Nat} {cur : List Nat} (hQ : ∀ k, k < 7 → (Q k).length ≤ 6 ∧ ∀ b ∈ Q k, b < 2) (hlc : ∀ k, k < 7 → ln k = nI (Q k).length ∧ cb k = nI (pc_v (Q k)))
    (hr : cur.length ≤ 6) (hr2 : ∀ b ∈ cur, b < 2) (hs : ∀ k, pc_find Q cur = some k → post (nI k)) (hn : pc_find Q cur = none → post (-1)) :
    wpX_kindWithCode post (le, mk, sc, ok, bc, rc, rr, tx, co, ro, rk, sl, nw, np, ns, no, ln, cb, bi, rs, rd, rm, rt) (nI cur.length) (nI (pc_v cur.reverse)) := by
  have e : cur.length = cur.reverse.length := List.length_reverse.symm
  rw [e]
  exact ⟨8, xb_2 (r := cur.reverse) hQ hlc (by rw [List.length_reverse]; exact hr) (fun b hb => hr2 b (List.mem_reverse.mp hb)) 7 (Nat.le_refl _) hs hn⟩
theorem xb_adr {post : SX → Prop} {L : List Nat} {x : Nat} (hl : L.length < 32) (hL : wk_L rs L)
    (h : ∀ rs : Nat → Int32, wk_L rs (L ++ [x]) → post (le, mk, sc, ok, bc, nI (L ++ [x]).length, rr, tx, co, ro, rk, sl, nw, np, ns, no, ln, cb, bi, rs, rd, rm, rt)) : wpX_addReadSymbol post (le, mk, sc, ok, bc, nI L.length, rr, tx, co, ro, rk, sl, nw, np, ns, no, ln, cb, bi, rs, rd, rm, rt) (nI x) := by
  refine pk_le 32 L.length (fun hc => absurd hc (by omega)) (fun _ => ⟨pk_in L.length 32 hl, nm_r (e' := upd rs L.length (nI x)) (by rw [nI_clamp (by omega)]) (nm_r (nI_1 _) ?_)⟩)
  have := h _ (wk_Ls hL (x := x))
  rw [List.length_append] at this
  exact this
theorem xb_in {post : SX → Prop} {Q : Nat → List Nat} {B O T : List Nat} {s fu : Nat} (hQ : ∀ k, k < 7 → (Q k).length ≤ 6 ∧ ∀ b ∈ Q k, b < 2) (hlc : ∀ k, k < 7 → ln k = nI (Q k).length ∧ cb k = nI (pc_v (Q k)))
    (hB : wk_L bi B) (hB2 : B.length ≤ 192) (hs7 : s < 7) (hO : wk_L rs O) (hO2 : O.length < 32) : ∀ (rest cur P : List Nat), rest ≠ [] → P ++ (rest ++ T) = B → pc_find Q (cur ++ rest) = some s →
    (∀ u v, u ≠ [] → v ≠ [] → u ++ v = rest → pc_find Q (cur ++ u) = none) → (∀ b ∈ cur ++ rest, b < 2) → (cur ++ rest).length ≤ 6 →
    (∀ rs : Nat → Int32, wk_L rs (O ++ [s]) → wX_readBits_11 post fu 0 0 (nI (P ++ rest).length) le mk sc ok (nI B.length) (nI (O ++ [s]).length) rr tx co ro rk sl nw np ns no ln cb bi rs rd rm rt) →
    wX_readBits_11 post (fu + rest.length) (nI cur.length) (nI (pc_v cur.reverse)) (nI P.length) le mk sc ok (nI B.length) (nI O.length) rr tx co ro rk sl nw np ns no ln cb bi rs rd rm rt := by
  intro rest
  induction rest with
  | nil => intro _ _ h; exact absurd rfl h
  | cons b rest ih =>
    intro cur P _ hP hs hn hb hl h
    have hlen := congrArg List.length hP
    rw [List.length_append, List.length_append, List.length_cons] at hlen
    have hsx : bi P.length = nI b := wk_mid (R := rest ++ T) (by rw [show P ++ b :: (rest ++ T) = B from hP]; exact hB)
    have hl2 : cur.length + (rest.length + 1) ≤ 6 := by rw [List.length_append, List.length_cons] at hl; exact hl
    have hcb : ∀ y ∈ cur ++ [b], y < 2 := fun y hy => hb y (by
      rcases List.mem_append.mp hy with hy | hy
      · exact List.mem_append_left _ hy
      · rw [List.mem_singleton.mp hy]; simp)
    have e1 : (cur ++ [b]).length = cur.length + 1 := by rw [List.length_append]; rfl
    have e2 : pc_v (cur ++ [b]).reverse = b + 2 * pc_v cur.reverse := by rw [List.reverse_append]; rfl
    have ev : (2 : Int32) * nI (pc_v cur.reverse) + bi (nI P.length).toNatClampNeg = nI (pc_v (cur ++ [b]).reverse) := by
      rw [wk_cla (by omega) hsx, show (2 : Int32) * nI (pc_v cur.reverse) = nI (2 * pc_v cur.reverse) from pk_mul 2 _, nI_add, e2, Nat.add_comm]
    have ef : fu + (b :: rest).length = (fu + rest.length) + 1 := rfl
    rw [ef]
    refine pk_le B.length P.length (fun hc => absurd hc (by omega)) (fun _ => ⟨pk_in P.length 192 (by omega), nm_r ev (nm_r (e' := nI (cur ++ [b]).length) (by rw [e1, nI_1]) (xb_kind hQ hlc (by rw [e1]; omega) hcb ?_ ?_))⟩)
    · intro k hk
      cases hr : rest with
      | nil =>
        rw [hr] at hs h
        rw [hs] at hk
        cases hk
        refine br_f (xg_m1 (by omega)) (xb_adr hO2 hO ?_)
        intro rs' hO'
        have := h rs' hO'
        have e3 : (P ++ [b]).length = P.length + 1 := by rw [List.length_append]; rfl
        rw [e3] at this
        exact nm_r (nI_1 _) this
      | cons b' rest' =>
        rw [hn [b] rest (by simp) (by rw [hr]; simp) rfl] at hk
        cases hk
    · intro hk
      have hne : rest ≠ [] := by
        intro z
        rw [z] at hs
        rw [hs] at hk
        cases hk
      refine br_t rfl (nm_r (nI_1 _) ?_)
      have hI := ih (cur ++ [b]) (P ++ [b]) hne (by rw [List.append_assoc]; exact hP) (by rw [List.append_assoc]; exact hs) (by
        intro u v hu hv huv
        rw [List.append_assoc]
        exact hn (b :: u) v (by simp) hv (by rw [List.cons_append, huv])) (by rw [List.append_assoc]; exact hb) (by rw [List.append_assoc]; exact hl) (by
        rw [List.append_assoc]
        exact h)
      have e3 : (P ++ [b]).length = P.length + 1 := by rw [List.length_append]; rfl
      rw [e3] at hI
      exact hI
theorem xb_out {post : SX → Prop} {Q : Nat → List Nat} {B : List Nat} (hQ : ∀ k, k < 7 → (Q k).length ≤ 6 ∧ ∀ b ∈ Q k, b < 2) (hlc : ∀ k, k < 7 → ln k = nI (Q k).length ∧ cb k = nI (pc_v (Q k)))
    (hB : wk_L bi B) (hB2 : B.length ≤ 192) : ∀ (ss P O : List Nat) (rs : Nat → Int32), P ++ pc_e (fun k => (Q k).reverse) ss = B → O.length + ss.length ≤ 32 → wk_L rs O →
    (∀ s ∈ ss, s < 7 ∧ (Q s).reverse ≠ [] ∧ pc_find Q (Q s).reverse = some s ∧ ∀ u v, u ≠ [] → v ≠ [] → u ++ v = (Q s).reverse → pc_find Q u = none) →
    (∀ rs : Nat → Int32, wk_L rs (O ++ ss) → post (le, mk, sc, ok, nI B.length, nI (O ++ ss).length, rr, tx, co, ro, rk, sl, nw, np, ns, no, ln, cb, bi, rs, rd, rm, rt)) →
    wX_readBits_11 post (1 + (pc_e (fun k => (Q k).reverse) ss).length) 0 0 (nI P.length) le mk sc ok (nI B.length) (nI O.length) rr tx co ro rk sl nw np ns no ln cb bi rs rd rm rt := by
  intro ss
  induction ss with
  | nil =>
    intro P O rs hP _ hO _ h
    rw [show P ++ pc_e (fun k => (Q k).reverse) [] = P from List.append_nil P] at hP
    subst hP
    rw [List.append_nil] at h
    exact pk_le P.length P.length (fun _ => h rs hO) (fun hc => absurd hc (by omega))
  | cons s ss ih =>
    intro P O rs hP hl hO hok h
    obtain ⟨s7, c1, c2, c3⟩ := hok s List.mem_cons_self
    obtain ⟨q1, q2⟩ := hQ s s7
    rw [List.length_cons] at hl
    have ef : 1 + (pc_e (fun k => (Q k).reverse) (s :: ss)).length = (1 + (pc_e (fun k => (Q k).reverse) ss).length) + (Q s).reverse.length := by
      show 1 + ((Q s).reverse ++ pc_e (fun k => (Q k).reverse) ss).length = _
      rw [List.length_append]; omega
    rw [ef]
    refine xb_in (T := pc_e (fun k => (Q k).reverse) ss) hQ hlc hB hB2 s7 hO (by omega) (Q s).reverse [] P c1 hP c2 c3 (fun b hb => q2 b (List.mem_reverse.mp hb)) (by rw [List.nil_append, List.length_reverse]; exact q1) ?_
    intro rs' hO'
    refine ih (P ++ (Q s).reverse) (O ++ [s]) rs' (by rw [List.append_assoc]; exact hP) (by rw [List.length_append]; simp; omega) hO' (fun x hx => hok x (List.mem_cons_of_mem _ hx)) ?_
    rw [List.append_assoc]
    exact h
theorem xb_read {post : SX → Prop} {Q : Nat → List Nat} {L : List Nat} (hQ : ∀ k, k < 7 → (Q k).length ≤ 6 ∧ ∀ b ∈ Q k, b < 2) (hlc : ∀ k, k < 7 → ln k = nI (Q k).length ∧ cb k = nI (pc_v (Q k)))
    (hB : wk_L bi (pc_e (fun k => (Q k).reverse) L)) (hl : L.length ≤ 32)
    (hok : ∀ s ∈ L, s < 7 ∧ (Q s).reverse ≠ [] ∧ pc_find Q (Q s).reverse = some s ∧ ∀ u v, u ≠ [] → v ≠ [] → u ++ v = (Q s).reverse → pc_find Q u = none)
    (h : ∀ rs : Nat → Int32, wk_L rs L → post (le, mk, sc, ok, nI (pc_e (fun k => (Q k).reverse) L).length, nI L.length, rr, tx, co, ro, rk, sl, nw, np, ns, no, ln, cb, bi, rs, rd, rm, rt)) :
    wpX_readBits post (le, mk, sc, ok, nI (pc_e (fun k => (Q k).reverse) L).length, rc, rr, tx, co, ro, rk, sl, nw, np, ns, no, ln, cb, bi, rs, rd, rm, rt) := by
  have h6 := pc_el6 (F := fun k => (Q k).reverse) L fun y hy => by
    rw [List.length_reverse]; exact (hQ y (hok y hy).1).1
  exact ⟨_, xb_out hQ hlc hB (by omega) L [] [] rs rfl (by simp; exact hl) (wk_L0 rs) hok h⟩
end
