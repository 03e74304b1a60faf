/-! the reference's way through the lists of lengths, and the least cost that it finds -/
def en_nx : List Nat → Option (List Nat)
  | [] => none
  | x :: xs => match en_nx xs with
    | some ys => some (x :: ys)
    | none => if x < 6 then some (List.replicate (xs.length + 1) (x + 1)) else none
def en_ef : Nat → List Nat → List (List Nat)
  | 0, _ => []
  | n + 1, v => v :: (match en_nx v with
    | none => []
    | some w => en_ef n w)
def en_gen : Nat → Nat → List (List Nat)
  | 0, _ => [[]]
  | k + 1, lo => [1, 2, 3, 4, 5, 6].flatMap fun x => if lo ≤ x then (en_gen k x).map (fun v => x :: v) else []
theorem en_mem : ∀ (v : List Nat) (lo : Nat), v.Pairwise (fun x y => x ≤ y) → (∀ x ∈ v, lo ≤ x ∧ 1 ≤ x ∧ x ≤ 6) → v ∈ en_gen v.length lo
  | [], _, _, _ => List.mem_singleton.mpr rfl
  | x :: v, lo, hs, h => by
    rw [List.pairwise_cons] at hs
    have hx := h x List.mem_cons_self
    have ih := en_mem v x hs.2 fun y hy => ⟨hs.1 y hy, (h y (List.mem_cons_of_mem _ hy)).2⟩
    show x :: v ∈ [1, 2, 3, 4, 5, 6].flatMap _
    refine List.mem_flatMap.mpr ⟨x, ?_, ?_⟩
    · have h1 := hx.2.1
      have h2 := hx.2.2
      have : x = 1 ∨ x = 2 ∨ x = 3 ∨ x = 4 ∨ x = 5 ∨ x = 6 := by omega
      simpa using this
    · rw [if_pos hx.1]
      exact List.mem_map_of_mem ih
theorem en_genok : ∀ (k lo : Nat) (v : List Nat), v ∈ en_gen k lo → v.length = k ∧ ∀ x ∈ v, 1 ≤ x ∧ x ≤ 6
  | 0, _, v, h => by
    rw [List.mem_singleton.mp h]
    exact ⟨rfl, fun x hx => by cases hx⟩
  | k + 1, lo, v, h => by
    obtain ⟨x, hx, hv⟩ := List.mem_flatMap.mp (show v ∈ [1, 2, 3, 4, 5, 6].flatMap _ from h)
    by_cases hl : lo ≤ x
    · rw [if_pos hl] at hv
      obtain ⟨w, hw, rfl⟩ := List.mem_map.mp hv
      have ih := en_genok k x w hw
      refine ⟨by simp [ih.1], ?_⟩
      intro y hy
      cases hy with
      | head =>
        have : x = 1 ∨ x = 2 ∨ x = 3 ∨ x = 4 ∨ x = 5 ∨ x = 6 := by simpa using hx
        omega
      | tail _ hy => exact ih.2 y hy
    · rw [if_neg hl] at hv
      cases hv
theorem en_a1 : en_ef 800 (List.replicate 1 1) = en_gen 1 1 := by decide +kernel
theorem en_a2 : en_ef 800 (List.replicate 2 1) = en_gen 2 1 := by decide +kernel
theorem en_a3 : en_ef 800 (List.replicate 3 1) = en_gen 3 1 := by decide +kernel
theorem en_a4 : en_ef 800 (List.replicate 4 1) = en_gen 4 1 := by decide +kernel
theorem en_a5 : en_ef 800 (List.replicate 5 1) = en_gen 5 1 := by decide +kernel
theorem en_a6 : en_ef 800 (List.replicate 6 1) = en_gen 6 1 := by decide +kernel
theorem en_a7 : en_ef 800 (List.replicate 7 1) = en_gen 7 1 := by decide +kernel
theorem en_all (K : Nat) (h1 : 1 ≤ K) (h7 : K ≤ 7) : en_ef 800 (List.replicate K 1) = en_gen K 1 := by
  have : K = 1 ∨ K = 2 ∨ K = 3 ∨ K = 4 ∨ K = 5 ∨ K = 6 ∨ K = 7 := by omega
  rcases this with rfl | rfl | rfl | rfl | rfl | rfl | rfl
  · exact en_a1
  · exact en_a2
  · exact en_a3
  · exact en_a4
  · exact en_a5
  · exact en_a6
  · exact en_a7
/-- one way's turn: the least so far, and the new one -/
def en_t (o : List Nat) (least : Nat) (v : List Nat) : Nat :=
  if hf_kr (o.zip v) ≤ 64 ∧ (least = 0 ∨ hf_c (o.zip v) < least) then hf_c (o.zip v) else least
def en_f (o : List Nat) (least : Nat) : List (List Nat) → Nat
  | [] => least
  | v :: vs => en_f o (en_t o least v) vs
/-- all codes tried cost R or more, one of them R: then R is found -/
theorem en_min (o : List Nat) (R : Nat) (hR : 0 < R) : ∀ (vs : List (List Nat)) (least : Nat), (least = 0 ∨ R ≤ least) →
    (∀ v ∈ vs, hf_kr (o.zip v) ≤ 64 → R ≤ hf_c (o.zip v)) →
    (least = R ∨ ∃ v ∈ vs, hf_kr (o.zip v) ≤ 64 ∧ hf_c (o.zip v) ≤ R) → en_f o least vs = R
  | [], least, _, _, h => by
    rcases h with h | ⟨v, hv, _⟩
    · exact h
    · cases hv
  | v :: vs, least, h0, hl, h => by
    have hv := hl v List.mem_cons_self
    have hl' : ∀ w ∈ vs, hf_kr (o.zip w) ≤ 64 → R ≤ hf_c (o.zip w) := fun w hw => hl w (List.mem_cons_of_mem _ hw)
    show en_f o (en_t o least v) vs = R
    apply en_min o R hR vs _ ?_ hl'
    · unfold en_t
      by_cases c : hf_kr (o.zip v) ≤ 64 ∧ (least = 0 ∨ hf_c (o.zip v) < least)
      · rw [if_pos c]
        have hc := hv c.1
        rcases h with h | ⟨w, hw, k1, k2⟩
        · left; omega
        · cases hw with
          | head => left; omega
          | tail _ hw => exact Or.inr ⟨w, hw, k1, k2⟩
      · rw [if_neg c]
        rcases h with h | ⟨w, hw, k1, k2⟩
        · exact Or.inl h
        · cases hw with
          | head =>
            left
            have hc := hv k1
            have : ¬ (least = 0 ∨ hf_c (o.zip v) < least) := fun z => c ⟨k1, z⟩
            omega
          | tail _ hw => exact Or.inr ⟨w, hw, k1, k2⟩
    · unfold en_t
      by_cases c : hf_kr (o.zip v) ≤ 64 ∧ (least = 0 ∨ hf_c (o.zip v) < least)
      · rw [if_pos c]; exact Or.inr (hv c.1)
      · rw [if_neg c]; exact h0
