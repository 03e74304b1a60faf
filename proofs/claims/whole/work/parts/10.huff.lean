/-! Huffman's lower bound over lists of pairs (weight, length), lengths at most 6, Kraft's sum in 64ths -/
def hf_kr : List (Nat × Nat) → Nat
  | [] => 0
  | p :: ps => 2 ^ (6 - p.2) + hf_kr ps
def hf_c : List (Nat × Nat) → Nat
  | [] => 0
  | p :: ps => p.1 * p.2 + hf_c ps
theorem hf_krP {a b : List (Nat × Nat)} (h : a.Perm b) : hf_kr a = hf_kr b := by
  induction h with
  | nil => rfl
  | cons x _ ih => simp only [hf_kr, ih]
  | swap x y l => simp only [hf_kr]; exact Nat.add_left_comm _ _ _
  | trans _ _ h1 h2 => exact h1.trans h2
theorem hf_cP {a b : List (Nat × Nat)} (h : a.Perm b) : hf_c a = hf_c b := by
  induction h with
  | nil => rfl
  | cons x _ ih => simp only [hf_c, ih]
  | swap x y l => simp only [hf_c]; exact Nat.add_left_comm _ _ _
  | trans _ _ h1 h2 => exact h1.trans h2
theorem hf_re {a w l0 l : Nat} (h : a ≤ w) (hl : l0 ≤ l) : a * l + w * l0 ≤ a * l0 + w * l := by
  obtain ⟨d, rfl⟩ := Nat.exists_eq_add_of_le h
  obtain ⟨e, rfl⟩ := Nat.exists_eq_add_of_le hl
  simp only [Nat.add_mul, Nat.mul_add]
  omega
/-- a's length is carried through the list: where a longer one stands, the two lengths change places -/
theorem hf_bub (a : Nat) : ∀ (xs : List (Nat × Nat)) (l0 : Nat), l0 ≤ 6 → (∀ p ∈ xs, a ≤ p.1 ∧ p.2 ≤ 6) →
    ∃ (M : Nat) (ys : List (Nat × Nat)), l0 ≤ M ∧ M ≤ 6 ∧ ys.map Prod.fst = xs.map Prod.fst ∧ (∀ p ∈ ys, p.2 ≤ M) ∧
      hf_kr ys + 2 ^ (6 - M) = hf_kr xs + 2 ^ (6 - l0) ∧ a * M + hf_c ys ≤ a * l0 + hf_c xs ∧
      (∀ B, l0 ≤ B → (∀ p ∈ xs, p.2 ≤ B) → M ≤ B) ∧ (∀ B, B ≤ l0 → (∀ p ∈ xs, B ≤ p.2) → ∀ p ∈ ys, B ≤ p.2) := by
  intro xs
  induction xs with
  | nil =>
    intro l0 h0 _
    exact ⟨l0, [], Nat.le_refl _, h0, rfl, (fun p hp => by cases hp), rfl, Nat.le_refl _, (fun B hB _ => hB), (fun _ _ _ p hp => by cases hp)⟩
  | cons x xs ih =>
    intro l0 h0 hx
    obtain ⟨w, l⟩ := x
    have hw := hx (w, l) List.mem_cons_self
    have hr : ∀ p ∈ xs, a ≤ p.1 ∧ p.2 ≤ 6 := fun p hp => hx p (List.mem_cons_of_mem _ hp)
    dsimp only at hw
    by_cases hl : l ≤ l0
    · obtain ⟨M, ys, h1, h2, h3, h4, h5, h6, h7, h8⟩ := ih l0 h0 hr
      refine ⟨M, (w, l) :: ys, h1, h2, by simp [h3], ?_, ?_, ?_, ?_, ?_⟩
      · intro p hp
        cases hp with
        | head => exact Nat.le_trans hl h1
        | tail _ hp => exact h4 p hp
      · simp only [hf_kr]; omega
      · simp only [hf_c]; omega
      · exact fun B hB h => h7 B hB fun p hp => h p (List.mem_cons_of_mem _ hp)
      · intro B hB h p hp
        cases hp with
        | head => exact h (w, l) List.mem_cons_self
        | tail _ hp => exact h8 B hB (fun p hp => h p (List.mem_cons_of_mem _ hp)) p hp
    · obtain ⟨M, ys, h1, h2, h3, h4, h5, h6, h7, h8⟩ := ih l hw.2 hr
      refine ⟨M, (w, l0) :: ys, by omega, h2, by simp [h3], ?_, ?_, ?_, ?_, ?_⟩
      · intro p hp
        cases hp with
        | head => show l0 ≤ M; omega
        | tail _ hp => exact h4 p hp
      · simp only [hf_kr]; omega
      · simp only [hf_c]
        have e := hf_re (l0 := l0) (l := l) hw.1 (by omega)
        omega
      · exact fun B _ h => h7 B (h (w, l) List.mem_cons_self) fun p hp => h p (List.mem_cons_of_mem _ hp)
      · intro B hB h p hp
        cases hp with
        | head => exact hB
        | tail _ hp => exact h8 B (h (w, l) List.mem_cons_self) (fun p hp => h p (List.mem_cons_of_mem _ hp)) p hp
theorem hf_dv (M : Nat) : ∀ xs : List (Nat × Nat), (∀ p ∈ xs, p.2 ≤ M) → 2 ^ (6 - M) ∣ hf_kr xs
  | [], _ => ⟨0, rfl⟩
  | x :: xs, h => by
    have hx := h x List.mem_cons_self
    exact Nat.dvd_add (Nat.pow_dvd_pow 2 (by omega)) (hf_dv M xs fun p hp => h p (List.mem_cons_of_mem _ hp))
theorem hf_gap {D a b : Nat} (ha : D ∣ a) (hb : D ∣ b) (h : a < b) : a + D ≤ b := by
  obtain ⟨u, rfl⟩ := ha
  obtain ⟨v, rfl⟩ := hb
  have huv : u < v := by
    apply Nat.lt_of_not_le
    intro hh
    exact absurd h (Nat.not_lt.mpr (Nat.mul_le_mul_left D hh))
  have := Nat.mul_le_mul_left D (Nat.succ_le_of_lt huv)
  rw [Nat.mul_succ] at this
  exact this
theorem hf_p2 {L : Nat} (h1 : 1 ≤ L) (h6 : L ≤ 6) : 2 ^ (6 - (L - 1)) = 2 ^ (6 - L) + 2 ^ (6 - L) := by
  have e : 6 - (L - 1) = (6 - L) + 1 := by omega
  rw [e, Nat.pow_succ]; omega
theorem hf_step {a b la lb : Nat} {xs : List (Nat × Nat)} (hab : a ≤ b) (hla : la ≤ 6) (hlb : lb ≤ 6)
    (hx : ∀ p ∈ xs, b ≤ p.1 ∧ p.2 ≤ 6) (hk : 2 ^ (6 - la) + (2 ^ (6 - lb) + hf_kr xs) ≤ 64) :
    ∃ (c : Nat) (ys : List (Nat × Nat)), c ≤ 6 ∧ ys.map Prod.fst = xs.map Prod.fst ∧ (∀ p ∈ ys, p.2 ≤ 6) ∧
      2 ^ (6 - c) + hf_kr ys ≤ 64 ∧ (a + b) * c + hf_c ys + (a + b) ≤ a * la + (b * lb + hf_c xs) := by
  have hin : ∀ p ∈ (b, lb) :: xs, a ≤ p.1 ∧ p.2 ≤ 6 := by
    intro p hp
    cases hp with
    | head => exact ⟨hab, hlb⟩
    | tail _ hp => exact ⟨Nat.le_trans hab (hx p hp).1, (hx p hp).2⟩
  obtain ⟨M, zs, h1, h2, h3, h4, h5, h6, _, _⟩ := hf_bub a ((b, lb) :: xs) la hla hin
  cases zs with
  | nil => simp at h3
  | cons z zs =>
    obtain ⟨b', m⟩ := z
    simp only [List.map_cons, List.cons.injEq] at h3
    obtain ⟨hb', h3⟩ := h3
    subst hb'
    have hm : m ≤ M := h4 (b', m) List.mem_cons_self
    have hz : ∀ p ∈ zs, b' ≤ p.1 ∧ p.2 ≤ 6 := by
      intro p hp
      have hp1 : p.1 ∈ xs.map Prod.fst := by rw [← h3]; exact List.mem_map_of_mem hp
      obtain ⟨q, hq, e⟩ := List.mem_map.mp hp1
      exact ⟨by rw [← e]; exact (hx q hq).1, Nat.le_trans (h4 p (List.mem_cons_of_mem _ hp)) h2⟩
    obtain ⟨L, ys, g1, g2, g3, g4, g5, g6, g7, _⟩ := hf_bub b' zs m (by omega) hz
    have hLM : L ≤ M := g7 M hm fun p hp => h4 p (List.mem_cons_of_mem _ hp)
    simp only [hf_kr, hf_c] at h5 h6
    have hK : hf_kr ys + 2 ^ (6 - L) + 2 ^ (6 - M) ≤ 64 := by omega
    have hpos : 0 < 2 ^ (6 - M) := Nat.pow_pos (by decide)
    have hK2 : hf_kr ys + 2 ^ (6 - L) + 2 ^ (6 - L) ≤ 64 := by
      by_cases e : L = M
      · rw [e] at hK ⊢; exact hK
      · refine hf_gap (Nat.dvd_add (hf_dv L ys g4) (Nat.dvd_refl _)) ?_ (by omega)
        exact (show (64 : Nat) = 2 ^ 6 from rfl) ▸ Nat.pow_dvd_pow 2 (by omega)
    have hL1 : 1 ≤ L := by
      apply Nat.pos_of_ne_zero
      intro e
      subst e
      simp at hK2
    refine ⟨L - 1, ys, by omega, g3.trans h3, fun p hp => Nat.le_trans (g4 p hp) g2, ?_, ?_⟩
    · rw [hf_p2 hL1 g2]; omega
    · have e : (a + b') * (L - 1) + (a + b') = a * L + b' * L := by
        obtain ⟨k, rfl⟩ := Nat.exists_eq_add_of_le hL1
        simp only [Nat.add_sub_cancel_left, Nat.add_mul, Nat.mul_add]
        omega
      have e2 : a * L ≤ a * M := Nat.mul_le_mul_left a hLM
      omega
theorem hf_pull {x : Nat} {ys : List Nat} {ps : List (Nat × Nat)} (h : (ps.map Prod.fst).Perm (x :: ys)) :
    ∃ (l : Nat) (qs : List (Nat × Nat)), ps.Perm ((x, l) :: qs) ∧ (qs.map Prod.fst).Perm ys := by
  have hm : x ∈ ps.map Prod.fst := h.symm.subset List.mem_cons_self
  obtain ⟨p, hp, rfl⟩ := List.mem_map.mp hm
  have e := List.perm_cons_erase hp
  exact ⟨p.2, ps.erase p, e, ((e.map Prod.fst).symm.trans h).cons_inv⟩
/-- R bounds from below the cost of every code for the weights ws -/
def hf_LB (ws : List Nat) (R : Nat) : Prop :=
  ∀ ps : List (Nat × Nat), (ps.map Prod.fst).Perm ws → (∀ p ∈ ps, p.2 ≤ 6) → hf_kr ps ≤ 64 → R ≤ hf_c ps
theorem hf_LB1 (ws : List Nat) : hf_LB ws 0 := fun _ _ _ _ => Nat.zero_le _
theorem hf_LBp {a b : List Nat} {R : Nat} (h : a.Perm b) (H : hf_LB a R) : hf_LB b R :=
  fun ps hp h6 hk => H ps (hp.trans h.symm) h6 hk
theorem hf_LBs {a b R : Nat} {ws : List Nat} (hab : a ≤ b) (hb : ∀ x ∈ ws, b ≤ x) (H : hf_LB ((a + b) :: ws) R) :
    hf_LB (a :: b :: ws) (R + (a + b)) := by
  intro ps hp h6 hk
  obtain ⟨la, qs, p1, p2⟩ := hf_pull hp
  obtain ⟨lb, rs, q1, q2⟩ := hf_pull p2
  have pp : ps.Perm ((a, la) :: (b, lb) :: rs) := p1.trans (q1.cons _)
  have hmem : ∀ p ∈ (a, la) :: (b, lb) :: rs, p.2 ≤ 6 := fun p hp => h6 p (pp.symm.subset hp)
  have hr : ∀ p ∈ rs, b ≤ p.1 ∧ p.2 ≤ 6 := fun p hp =>
    ⟨hb _ (q2.subset (List.mem_map_of_mem hp)), hmem p (List.mem_cons_of_mem _ (List.mem_cons_of_mem _ hp))⟩
  rw [hf_krP pp] at hk
  rw [hf_cP pp]
  simp only [hf_kr, hf_c] at hk ⊢
  obtain ⟨c, ys, g1, g2, g3, g4, g5⟩ := hf_step hab (hmem (a, la) List.mem_cons_self)
    (hmem (b, lb) (List.mem_cons_of_mem _ List.mem_cons_self)) hr hk
  have := H ((a + b, c) :: ys) (by
    simp only [List.map_cons, g2]
    exact q2.cons _) (by
    intro p hp
    cases hp with
    | head => exact g1
    | tail _ hp => exact g3 p hp) (by simp only [hf_kr]; exact g4)
  simp only [hf_c] at this
  dsimp only at g5
  omega
theorem hf_krA : ∀ a b : List (Nat × Nat), hf_kr (a ++ b) = hf_kr a + hf_kr b
  | [], b => by simp [hf_kr]
  | x :: a, b => by simp only [List.cons_append, hf_kr, hf_krA a b]; omega
theorem hf_cA : ∀ a b : List (Nat × Nat), hf_c (a ++ b) = hf_c a + hf_c b
  | [], b => by simp [hf_c]
  | x :: a, b => by simp only [List.cons_append, hf_c, hf_cA a b]; omega
/-- a code for weights in descending order can be had with lengths in ascending order, no dearer -/
theorem hf_sort : ∀ (n : Nat) (ws : List Nat) (ps : List (Nat × Nat)), ws.length = n → ws.Pairwise (fun x y => y ≤ x) →
    (ps.map Prod.fst).Perm ws → (∀ p ∈ ps, 1 ≤ p.2 ∧ p.2 ≤ 6) →
    ∃ ls : List Nat, ls.length = n ∧ ls.Pairwise (fun x y => x ≤ y) ∧ (∀ l ∈ ls, 1 ≤ l ∧ l ≤ 6) ∧
      (∀ B, (∀ p ∈ ps, p.2 ≤ B) → ∀ l ∈ ls, l ≤ B) ∧
      hf_kr (ws.zip ls) = hf_kr ps ∧ hf_c (ws.zip ls) ≤ hf_c ps := by
  intro n
  induction n with
  | zero =>
    intro ws ps hn _ hp _
    have hw : ws = [] := List.length_eq_zero_iff.mp hn
    subst hw
    have hps : ps = [] := by
      have := hp.length_eq
      simp at this
      exact this
    subst hps
    exact ⟨[], rfl, List.Pairwise.nil, (fun l hl => by cases hl), (fun _ _ l hl => by cases hl), rfl, Nat.le_refl _⟩
  | succ n ih =>
    intro ws ps hn hs hp hl
    rcases List.eq_nil_or_concat ws with rfl | ⟨vs, a, rfl⟩
    · simp at hn
    · rw [List.concat_eq_append] at *
      have hvn : vs.length = n := by simp at hn; exact hn
      rw [List.pairwise_append] at hs
      obtain ⟨hs1, _, hs3⟩ := hs
      have hp' : (ps.map Prod.fst).Perm (a :: vs) := hp.trans List.perm_append_comm
      obtain ⟨l, qs, p1, p2⟩ := hf_pull hp'
      have hmem : ∀ p ∈ (a, l) :: qs, 1 ≤ p.2 ∧ p.2 ≤ 6 := fun p hp => hl p (p1.symm.subset hp)
      have hl0 := hmem (a, l) List.mem_cons_self
      dsimp only at hl0
      have hq : ∀ p ∈ qs, a ≤ p.1 ∧ p.2 ≤ 6 := fun p hp =>
        ⟨hs3 _ (p2.subset (List.mem_map_of_mem hp)) a (List.mem_singleton.mpr rfl), (hmem p (List.mem_cons_of_mem _ hp)).2⟩
      obtain ⟨M, ys, h1, h2, h3, h4, h5, h6, h7, h8⟩ := hf_bub a qs l hl0.2 hq
      have hy1 : ∀ p ∈ ys, 1 ≤ p.2 := h8 1 hl0.1 fun p hp => (hmem p (List.mem_cons_of_mem _ hp)).1
      obtain ⟨ls, k1, k2, k3, k4, k5, k6⟩ := ih vs ys hvn hs1 (by rw [h3]; exact p2) fun p hp =>
        ⟨hy1 p hp, Nat.le_trans (h4 p hp) h2⟩
      refine ⟨ls ++ [M], by simp [k1], ?_, ?_, ?_, ?_, ?_⟩
      · rw [List.pairwise_append]
        refine ⟨k2, List.pairwise_singleton _ _, ?_⟩
        intro x hx y hy
        rw [List.mem_singleton.mp hy]
        exact k4 M h4 x hx
      · intro x hx
        rcases List.mem_append.mp hx with hx | hx
        · exact k3 x hx
        · rw [List.mem_singleton.mp hx]; exact ⟨by omega, h2⟩
      · intro B hB x hx
        have hBm : M ≤ B := h7 B (hB (a, l) (p1.symm.subset List.mem_cons_self)) fun p hp =>
          hB p (p1.symm.subset (List.mem_cons_of_mem _ hp))
        rcases List.mem_append.mp hx with hx | hx
        · exact Nat.le_trans (k4 M h4 x hx) hBm
        · rw [List.mem_singleton.mp hx]; exact hBm
      · rw [List.zip_append (by rw [hvn, k1]), hf_krA, k5, hf_krP p1]
        simp only [List.zip_cons_cons, List.zip_nil_right, hf_kr]
        omega
      · rw [List.zip_append (by rw [hvn, k1]), hf_cA, hf_cP p1]
        simp only [List.zip_cons_cons, List.zip_nil_right, hf_c]
        omega
