/-! the code as numbers, the search for a kind, the bits' number; the sorted counts -/
def pc_v : List Nat → Nat
  | [] => 0
  | b :: Q => b + 2 * pc_v Q
theorem pc_vlt : ∀ Q : List Nat, (∀ b ∈ Q, b < 2) → pc_v Q < 2 ^ Q.length
  | [], _ => by decide
  | b :: Q, h => by
    have h1 := h b List.mem_cons_self
    have ih := pc_vlt Q fun x hx => h x (List.mem_cons_of_mem _ hx)
    simp only [pc_v, List.length_cons, Nat.pow_succ]
    omega
theorem pc_vinj : ∀ Q U : List Nat, (∀ b ∈ Q, b < 2) → (∀ b ∈ U, b < 2) → Q.length = U.length → pc_v Q = pc_v U → Q = U
  | [], [], _, _, _, _ => rfl
  | b :: Q, c :: U, h1, h2, hl, hv => by
    have b1 := h1 b List.mem_cons_self
    have c1 := h2 c List.mem_cons_self
    simp only [pc_v] at hv
    have e : b = c := by omega
    have ih := pc_vinj Q U (fun x hx => h1 x (List.mem_cons_of_mem _ hx)) (fun x hx => h2 x (List.mem_cons_of_mem _ hx)) (by simpa using hl) (by omega)
    rw [e, ih]
  | [], _ :: _, _, _, h, _ => by simp at h
  | _ :: _, [], _, _, h, _ => by simp at h
theorem pc_va : ∀ (Q : List Nat) (b : Nat), pc_v (Q ++ [b]) = pc_v Q + 2 ^ Q.length * b
  | [], b => by simp [pc_v]
  | c :: Q, b => by
    simp only [List.cons_append, pc_v, List.length_cons, pc_va Q b, Nat.pow_succ, Nat.mul_add]
    have : 2 ^ Q.length * 2 * b = 2 * (2 ^ Q.length * b) := by rw [Nat.mul_comm (2 ^ Q.length) 2, Nat.mul_assoc]
    omega
/-- bit number i of a code's number -/
theorem pc_bit : ∀ (Q : List Nat) (i : Nat), (∀ b ∈ Q, b < 2) → pc_v Q / 2 ^ i % 2 = Q.getD i 0
  | [], i, _ => by simp [pc_v]
  | b :: Q, 0, h => by
    have := h b List.mem_cons_self
    simp only [pc_v, List.getD_cons_zero, Nat.pow_zero, Nat.div_one]
    omega
  | b :: Q, i + 1, h => by
    have hb := h b List.mem_cons_self
    have ih := pc_bit Q i fun x hx => h x (List.mem_cons_of_mem _ hx)
    rw [List.getD_cons_succ, ← ih, Nat.pow_succ, Nat.mul_comm (2 ^ i) 2, ← Nat.div_div_eq_div_mul]
    simp only [pc_v]
    congr 2
    omega
/-- the first kind, from number 7 - f on, whose sides are r -/
def pc_fd (Q : Nat → List Nat) (r : List Nat) : Nat → Option Nat
  | 0 => none
  | f + 1 => if Q (6 - f) = r then some (6 - f) else pc_fd Q r f
theorem pc_fdn {Q : Nat → List Nat} {r : List Nat} : ∀ f, f ≤ 7 → (∀ k, k < 7 → Q k ≠ r) → pc_fd Q r f = none
  | 0, _, _ => rfl
  | f + 1, hf, h => by
    show (if Q (6 - f) = r then _ else _) = _
    rw [if_neg (h _ (by omega))]
    exact pc_fdn f (by omega) h
theorem pc_fds {Q : Nat → List Nat} {r : List Nat} {s : Nat} (hs : s < 7) (e : Q s = r) : ∀ f, f ≤ 7 → 7 ≤ s + f → (∀ k, k < 7 → Q k = r → k = s) → pc_fd Q r f = some s
  | 0, _, h0, _ => by omega
  | f + 1, hf, h0, h => by
    show (if Q (6 - f) = r then _ else _) = _
    by_cases c : Q (6 - f) = r
    · rw [if_pos c, h _ (by omega) c]
    · rw [if_neg c]
      have : s ≠ 6 - f := fun z => c (z ▸ e)
      exact pc_fds hs e f (by omega) (by omega) h
def pc_find (Q : Nat → List Nat) (cur : List Nat) : Option Nat := pc_fd Q cur.reverse 7
theorem pc_ok {w : Nat → Nat} {Q : Nat → List Nat} {R : Nat} (C : ht_C w Q R) {s : Nat} (hs : s < 7) (hw : 0 < w s) :
    (Q s).reverse ≠ [] ∧ pc_find Q (Q s).reverse = some s ∧ ∀ u v, u ≠ [] → v ≠ [] → u ++ v = (Q s).reverse → pc_find Q u = none := by
  obtain ⟨c1, c2, c3, _, _, _⟩ := C
  have hq := c1 s hs hw
  refine ⟨?_, ?_, ?_⟩
  · intro e
    have := congrArg List.length e
    simp at this
    rw [this] at hq
    simp at hq
  · unfold pc_find
    rw [List.reverse_reverse]
    refine pc_fds hs rfl 7 (Nat.le_refl _) (by omega) ?_
    intro k hk e
    apply Classical.byContradiction
    intro hne
    by_cases hk0 : 0 < w k
    · exact c3 k s hk hs hk0 hw hne (by rw [e]; exact List.suffix_refl _)
    · rw [c2 k hk (by omega)] at e
      rw [← e] at hq
      simp at hq
  · intro u v hu hv e
    unfold pc_find
    refine pc_fdn 7 (Nat.le_refl _) ?_
    intro k hk ek
    have e2 : v.reverse ++ u.reverse = Q s := by
      rw [← List.reverse_append, e, List.reverse_reverse]
    by_cases hk0 : 0 < w k
    · by_cases hne : k = s
      · subst hne
        rw [ek] at e2
        have := congrArg List.length e2
        simp at this
        exact hv this
      · exact c3 k s hk hs hk0 hw hne ⟨v.reverse, by rw [ek]; exact e2⟩
    · rw [c2 k hk (by omega)] at ek
      have := congrArg List.length ek
      simp at this
      exact hu (List.length_eq_zero_iff.mp this.symm)
/-- the number of bits -/
theorem pc_el (Q : Nat → List Nat) : ∀ ss : List Nat, (∀ s ∈ ss, s < 7) → (pc_e (fun k => (Q k).reverse) ss).length = ht_sm 7 (fun k => ss.count k * (Q k).length)
  | [], _ => by
    have : ht_sm 7 (fun k => ([] : List Nat).count k * (Q k).length) = ht_sm 7 (fun _ => 0) := ht_smc fun k _ => by simp
    rw [this, ht_sm0]
    rfl
  | s :: ss, h => by
    have hs := h s List.mem_cons_self
    have ih := pc_el Q ss fun x hx => h x (List.mem_cons_of_mem _ hx)
    show ((Q s).reverse ++ pc_e (fun k => (Q k).reverse) ss).length = _
    rw [List.length_append, List.length_reverse, ih]
    have : ht_sm 7 (fun k => (s :: ss).count k * (Q k).length) = ht_sm 7 (fun k => (if k = s then (fun k => (Q k).length) k else 0) + ss.count k * (Q k).length) := ht_smc fun k _ => by
      rw [List.count_cons]
      by_cases e : k = s
      · subst e
        simp [Nat.add_mul]
        omega
      · have : ¬ s = k := fun z => e z.symm
        simp [e, this]
    rw [this, ht_sma, ht_sm1 _ s 7, if_pos hs]
theorem pc_eb {P : Nat → List Nat} : ∀ ss : List Nat, (∀ s ∈ ss, ∀ b ∈ P s, b < 2) → ∀ b ∈ pc_e P ss, b < 2
  | [], _, b, hb => by cases hb
  | s :: ss, h, b, hb => by
    rcases List.mem_append.mp (show b ∈ P s ++ pc_e P ss from hb) with hb | hb
    · exact h s List.mem_cons_self b hb
    · exact pc_eb ss (fun x hx => h x (List.mem_cons_of_mem _ hx)) b hb
/-! the sorted counts: the positive ones stand first -/
theorem bs_dn {P : Nat → Bool} : ∀ n, (∀ i j, i < j → j < n → P j = true → P i = true) → ∀ i, i < n → (P i = true ↔ i < cn_ n P)
  | 0, _, i, hi => absurd hi (Nat.not_lt_zero i)
  | n + 1, h, i, hi => by
    rw [cn_s]
    have hle : cn_ n P ≤ n := by
      have := cn_mono (n := n) (P := P) (Q := fun _ => true) (fun _ _ _ => rfl)
      rw [cn_all] at this
      exact this
    cases e : P n with
    | true =>
      have hall : cn_ n P = n := by
        rw [cn_congr (Q := fun _ => true) fun j hj => h j n hj (by omega) e, cn_all]
      rw [hall]
      simp only [if_true]
      refine ⟨fun _ => hi, fun _ => ?_⟩
      by_cases c : i = n
      · rw [c]; exact e
      · exact h i n (by omega) (by omega) e
    | false =>
      simp only [Bool.false_eq_true, if_false, Nat.add_zero]
      by_cases c : i = n
      · subst c
        rw [e]
        constructor
        · intro z; cases z
        · intro z; omega
      · exact bs_dn n (fun i j hij hj => h i j hij (by omega)) i (by omega)
theorem bs_rg : ∀ K, K ≤ 7 → (List.range 7).filter (fun s => decide (s < K)) = List.range K := by
  intro K hK
  have : K = 0 ∨ K = 1 ∨ K = 2 ∨ K = 3 ∨ K = 4 ∨ K = 5 ∨ K = 6 ∨ K = 7 := by omega
  rcases this with rfl | rfl | rfl | rfl | rfl | rfl | rfl | rfl <;> decide
theorem bs_o (w : Nat → Nat) : ((List.range (cn_ 7 (fun s => decide (0 < bs_i w 36 s)))).map (bs_i w 36)).Perm (ht_W w) := by
  have hs := bs_ok w
  have hp := bs_p w 36
  generalize bs_i w 36 = a at hs hp
  have hd := bs_dn (P := fun s => decide (0 < a s)) 7 (fun i j hij hj h => by
    have := hs i j hij hj
    have := decide_eq_true_iff.mp h
    exact decide_eq_true_iff.mpr (by omega))
  generalize hK : cn_ 7 (fun s => decide (0 < a s)) = K at hd
  have hK7 : K ≤ 7 := by
    rw [← hK]
    have := cn_mono (n := 7) (P := fun s => decide (0 < a s)) (Q := fun _ => true) (fun _ _ _ => rfl)
    rw [cn_all] at this
    exact this
  have e1 : (List.range 7).filter (fun s => decide (0 < a s)) = List.range K := by
    rw [← bs_rg K hK7]
    refine List.filter_congr fun s hs => ?_
    have := hd s (List.mem_range.mp hs)
    rw [Bool.eq_iff_iff, this, decide_eq_true_iff]
  have e2 : ht_W w = ((List.range 7).map w).filter (fun x => decide (0 < x)) := by
    unfold ht_W ht_P
    rw [List.filter_map]
    rfl
  have e3 : (List.range K).map a = ((List.range 7).map a).filter (fun x => decide (0 < x)) := by
    rw [List.filter_map, ← e1]
    rfl
  rw [e2, e3]
  exact hp.filter _
theorem bs_os (w : Nat → Nat) (K : Nat) (hK : K ≤ 7) : ((List.range K).map (bs_i w 36)).Pairwise (fun x y => y ≤ x) := by
  rw [List.pairwise_map]
  refine List.Pairwise.imp_of_mem ?_ (List.pairwise_lt_range (n := K))
  intro i j hi hj hij
  exact bs_ok w i j hij (by have := List.mem_range.mp hj; omega)
/-- kinds: the same number before the sorting and after it -/
theorem bs_k (w : Nat → Nat) : cn_ 7 (fun s => decide (0 < bs_i w 36 s)) = cn_ 7 (fun s => decide (0 < w s)) := by
  have h := (bs_o w).length_eq
  rw [List.length_map, List.length_range] at h
  rw [h]
  unfold ht_W ht_P cn_
  rw [List.length_map, List.countP_eq_length_filter]
