/-! runs of ranks 0 as symbols, and back -/
def rl_rn : Nat → Nat → List Nat
  | 0, _ => []
  | f + 1, m => if m = 0 then [] else if m % 2 = 1 then 0 :: rl_rn f ((m - 1) / 2) else 1 :: rl_rn f ((m - 2) / 2)
theorem rl_rn0 (f : Nat) : rl_rn f 0 = [] := by cases f <;> rfl
theorem rl_odd {f m : Nat} (h : m % 2 = 1) : rl_rn (f + 1) m = 0 :: rl_rn f ((m - 1) / 2) := by
  show (if m = 0 then [] else if m % 2 = 1 then 0 :: rl_rn f ((m - 1) / 2) else 1 :: rl_rn f ((m - 2) / 2)) = _
  rw [if_neg (by omega), if_pos h]
theorem rl_even {f m : Nat} (h0 : 0 < m) (h : ¬ m % 2 = 1) : rl_rn (f + 1) m = 1 :: rl_rn f ((m - 2) / 2) := by
  show (if m = 0 then [] else if m % 2 = 1 then 0 :: rl_rn f ((m - 1) / 2) else 1 :: rl_rn f ((m - 2) / 2)) = _
  rw [if_neg (by omega), if_neg h]
theorem rl_len : ∀ f m, (rl_rn f m).length ≤ m
  | 0, _ => Nat.zero_le _
  | f + 1, m => by
    by_cases h0 : m = 0
    · subst h0; rw [rl_rn0]; exact Nat.le_refl _
    · by_cases h : m % 2 = 1
      · rw [rl_odd h]
        have := rl_len f ((m - 1) / 2)
        simp only [List.length_cons]; omega
      · rw [rl_even (by omega) h]
        have := rl_len f ((m - 2) / 2)
        simp only [List.length_cons]; omega
theorem rl_le1 : ∀ f m, ∀ x ∈ rl_rn f m, x ≤ 1
  | 0, _, x, h => by cases h
  | f + 1, m, x, hx => by
    by_cases h0 : m = 0
    · subst h0; rw [rl_rn0] at hx; cases hx
    · by_cases h : m % 2 = 1
      · rw [rl_odd h] at hx
        cases hx with
        | head => omega
        | tail _ hx => exact rl_le1 f _ x hx
      · rw [rl_even (by omega) h] at hx
        cases hx with
        | head => omega
        | tail _ hx => exact rl_le1 f _ x hx
/-- one symbol read: the ranks so far, and what the next symbol of a run is worth -/
def rl_st (s : List Nat × Nat) (k : Nat) : List Nat × Nat :=
  if k ≤ 1 then (s.1 ++ List.replicate ((k + 1) * s.2) 0, s.2 * 2) else (s.1 ++ [k - 1], 1)
theorem rl_back : ∀ (f m : Nat) (x : List Nat) (w : Nat), m < 2 ^ f → ∃ w', (rl_rn f m).foldl rl_st (x, w) = (x ++ List.replicate (m * w) 0, w')
  | 0, m, x, w, h => by
    have : m = 0 := by omega
    subst this
    exact ⟨w, by simp [rl_rn]⟩
  | f + 1, m, x, w, h => by
    rw [Nat.pow_succ] at h
    by_cases h0 : m = 0
    · subst h0
      exact ⟨w, by simp [rl_rn0]⟩
    · by_cases c : m % 2 = 1
      · rw [rl_odd c]
        obtain ⟨w', e⟩ := rl_back f ((m - 1) / 2) (x ++ List.replicate (1 * w) 0) (w * 2) (by omega)
        refine ⟨w', ?_⟩
        show (rl_rn f ((m - 1) / 2)).foldl rl_st (x ++ List.replicate ((0 + 1) * w) 0, w * 2) = _
        rw [show (0 + 1) * w = 1 * w from rfl, e, List.append_assoc, List.replicate_append_replicate]
        congr 3
        obtain ⟨d, hd⟩ : ∃ d, m = 2 * d + 1 := ⟨(m - 1) / 2, by omega⟩
        subst hd
        have : (2 * d + 1 - 1) / 2 = d := by omega
        rw [this, Nat.add_mul, Nat.mul_comm w 2, ← Nat.mul_assoc, Nat.mul_comm d 2]
        omega
      · rw [rl_even (by omega) c]
        obtain ⟨w', e⟩ := rl_back f ((m - 2) / 2) (x ++ List.replicate (2 * w) 0) (w * 2) (by omega)
        refine ⟨w', ?_⟩
        show (rl_rn f ((m - 2) / 2)).foldl rl_st (x ++ List.replicate ((1 + 1) * w) 0, w * 2) = _
        rw [show (1 + 1) * w = 2 * w from rfl, e, List.append_assoc, List.replicate_append_replicate]
        congr 3
        obtain ⟨d, hd⟩ : ∃ d, m = 2 * d + 2 := ⟨(m - 2) / 2, by omega⟩
        subst hd
        have : (2 * d + 2 - 2) / 2 = d := by omega
        rw [this, Nat.add_mul, Nat.mul_comm w 2, ← Nat.mul_assoc, Nat.mul_comm d 2]
        omega
/-- the symbols of the first i ranks, and the zeros not yet written -/
def rl_f (rk : Nat → Nat) : Nat → List Nat × Nat
  | 0 => ([], 0)
  | i + 1 => if rk i = 0 then ((rl_f rk i).1, (rl_f rk i).2 + 1) else ((rl_f rk i).1 ++ rl_rn 6 (rl_f rk i).2 ++ [rk i + 1], 0)
def rl_sy (rk : Nat → Nat) (n : Nat) : List Nat := (rl_f rk n).1 ++ rl_rn 6 (rl_f rk n).2
theorem rl_fz {rk : Nat → Nat} {i : Nat} (h : rk i = 0) : rl_f rk (i + 1) = ((rl_f rk i).1, (rl_f rk i).2 + 1) := by
  show (if rk i = 0 then _ else _) = _
  rw [if_pos h]
theorem rl_fn {rk : Nat → Nat} {i : Nat} (h : ¬ rk i = 0) : rl_f rk (i + 1) = ((rl_f rk i).1 ++ rl_rn 6 (rl_f rk i).2 ++ [rk i + 1], 0) := by
  show (if rk i = 0 then _ else _) = _
  rw [if_neg h]
theorem rl_fl (rk : Nat → Nat) : ∀ i, (rl_f rk i).1.length + (rl_f rk i).2 ≤ i
  | 0 => Nat.le_refl _
  | i + 1 => by
    have ih := rl_fl rk i
    by_cases h : rk i = 0
    · rw [rl_fz h]; dsimp only; omega
    · rw [rl_fn h]
      have := rl_len 6 (rl_f rk i).2
      simp only [List.length_append, List.length_cons, List.length_nil]
      omega
theorem rl_syl (rk : Nat → Nat) (n : Nat) : (rl_sy rk n).length ≤ n := by
  have h1 := rl_fl rk n
  have h2 := rl_len 6 (rl_f rk n).2
  unfold rl_sy
  rw [List.length_append]; omega
theorem rl_f7 {rk : Nat → Nat} {n : Nat} (h : ∀ i, i < n → rk i < 6) : ∀ i, i ≤ n → ∀ x ∈ (rl_f rk i).1, x < 7
  | 0, _, x, hx => by cases hx
  | i + 1, hi, x, hx => by
    by_cases c : rk i = 0
    · rw [rl_fz c] at hx
      exact rl_f7 h i (by omega) x hx
    · rw [rl_fn c] at hx
      have hr := h i (by omega)
      rcases List.mem_append.mp hx with hx | hx
      · rcases List.mem_append.mp hx with hx | hx
        · exact rl_f7 h i (by omega) x hx
        · have := rl_le1 6 _ x hx; omega
      · rw [List.mem_singleton.mp hx]; omega
theorem rl_sy7 {rk : Nat → Nat} {n : Nat} (h : ∀ i, i < n → rk i < 6) : ∀ x ∈ rl_sy rk n, x < 7 := by
  intro x hx
  rcases List.mem_append.mp hx with hx | hx
  · exact rl_f7 h n (Nat.le_refl _) x hx
  · have := rl_le1 6 _ x hx; omega
/-- reading back what the first i ranks wrote gives all of them but the zeros that wait -/
theorem rl_inv (rk : Nat → Nat) : ∀ i, i ≤ 32 → ∃ L, (rl_f rk i).1.foldl rl_st ([], 1) = (L, 1) ∧ L ++ List.replicate (rl_f rk i).2 0 = (List.range i).map rk
  | 0, _ => ⟨[], rfl, rfl⟩
  | i + 1, hi => by
    obtain ⟨L, e1, e2⟩ := rl_inv rk i (by omega)
    have hz := rl_fl rk i
    by_cases c : rk i = 0
    · rw [rl_fz c]
      refine ⟨L, e1, ?_⟩
      rw [List.range_succ, List.map_append, ← e2, List.append_assoc]
      congr 1
      rw [List.replicate_succ']
      simp [c]
    · rw [rl_fn c]
      obtain ⟨w', e⟩ := rl_back 6 (rl_f rk i).2 L 1 (by omega)
      refine ⟨(List.range (i + 1)).map rk, ?_, by simp⟩
      rw [List.foldl_append, List.foldl_append, e1, e, Nat.mul_one, e2]
      show rl_st _ (rk i + 1) = _
      unfold rl_st
      rw [if_neg (by omega), List.range_succ, List.map_append]
      rfl
theorem rl_syinv (rk : Nat → Nat) (n : Nat) (hn : n ≤ 32) : ((rl_sy rk n).foldl rl_st ([], 1)).1 = (List.range n).map rk := by
  obtain ⟨L, e1, e2⟩ := rl_inv rk n hn
  have hz := rl_fl rk n
  obtain ⟨w', e⟩ := rl_back 6 (rl_f rk n).2 L 1 (by omega)
  unfold rl_sy
  rw [List.foldl_append, e1, e, Nat.mul_one, e2]
/-! the row of letters -/
def mf_pl (row : Nat → Nat) (c : Nat) : Nat → Nat
  | 0 => 0
  | k + 1 => if row k = c then k else mf_pl row c k
def mf_mv (row : Nat → Nat) (r : Nat) : Nat → Nat := fun k => if k = 0 then row r else if k ≤ r then row (k - 1) else row k
def mf_row (c : Nat → Nat) : Nat → Nat → Nat
  | 0 => fun k => k
  | i + 1 => mf_mv (mf_row c i) (mf_pl (mf_row c i) (c i) 6)
def mf_rk (c : Nat → Nat) (i : Nat) : Nat := mf_pl (mf_row c i) (c i) 6
theorem mf_pllt {row : Nat → Nat} {c : Nat} : ∀ {k : Nat}, 0 < k → mf_pl row c k < k
  | k + 1, _ => by
    show (if row k = c then k else mf_pl row c k) < k + 1
    by_cases h : row k = c
    · rw [if_pos h]; omega
    · rw [if_neg h]
      cases k with
      | zero => show 0 < 0 + 1; omega
      | succ k =>
        have := mf_pllt (row := row) (c := c) (k := k + 1) (by omega)
        omega
theorem mf_plok {row : Nat → Nat} {c : Nat} : ∀ {k : Nat}, (∃ j, j < k ∧ row j = c) → row (mf_pl row c k) = c
  | 0, ⟨j, hj, _⟩ => absurd hj (Nat.not_lt_zero j)
  | k + 1, ⟨j, hj, e⟩ => by
    show row (if row k = c then k else mf_pl row c k) = c
    by_cases h : row k = c
    · rw [if_pos h]; exact h
    · rw [if_neg h]
      refine mf_plok ⟨j, ?_, e⟩
      have : j ≠ k := fun z => h (z ▸ e)
      omega
theorem mf_all {row : Nat → Nat} {r : Nat} (hr : r < 6) (h : ∀ c, c < 6 → ∃ j, j < 6 ∧ row j = c) : ∀ c, c < 6 → ∃ j, j < 6 ∧ mf_mv row r j = c := by
  intro c hc
  obtain ⟨j, hj, e⟩ := h c hc
  by_cases h1 : j = r
  · exact ⟨0, by omega, by unfold mf_mv; rw [if_pos rfl, ← h1]; exact e⟩
  · by_cases h2 : j < r
    · exact ⟨j + 1, by omega, by unfold mf_mv; rw [if_neg (by omega), if_pos (by omega)]; exact e⟩
    · exact ⟨j, hj, by unfold mf_mv; rw [if_neg (by omega), if_neg (by omega)]; exact e⟩
theorem mf_rows (c : Nat → Nat) : ∀ i, ∀ x, x < 6 → ∃ j, j < 6 ∧ mf_row c i j = x
  | 0, x, hx => ⟨x, hx, rfl⟩
  | i + 1, x, hx => mf_all (mf_pllt (by omega)) (mf_rows c i) x hx
theorem mf_lt {row : Nat → Nat} {r : Nat} (hr : r < 6) (h : ∀ j, j < 6 → row j < 6) : ∀ j, j < 6 → mf_mv row r j < 6 := by
  intro j hj
  unfold mf_mv
  by_cases h0 : j = 0
  · rw [if_pos h0]; exact h r hr
  · rw [if_neg h0]
    by_cases h1 : j ≤ r
    · rw [if_pos h1]; exact h _ (by omega)
    · rw [if_neg h1]; exact h _ hj
theorem mf_rowlt (c : Nat → Nat) : ∀ i j, j < 6 → mf_row c i j < 6
  | 0, j, hj => hj
  | i + 1, j, hj => mf_lt (mf_pllt (by omega)) (mf_rowlt c i) j hj
theorem mf_rklt (c : Nat → Nat) (i : Nat) : mf_rk c i < 6 := mf_pllt (by omega)
theorem mf_back (c : Nat → Nat) (i : Nat) (h : c i < 6) : mf_row c i (mf_rk c i) = c i := mf_plok (mf_rows c i (c i) h)
/-! a code's bits, and back -/
def pc_e (P : Nat → List Nat) : List Nat → List Nat
  | [] => []
  | s :: ss => P s ++ pc_e P ss
def pc_d (find : List Nat → Option Nat) : List Nat → List Nat → List Nat
  | _, [] => []
  | cur, b :: bs => match find (cur ++ [b]) with
    | some k => k :: pc_d find [] bs
    | none => pc_d find (cur ++ [b]) bs
theorem pc_one {find : List Nat → Option Nat} {s : Nat} (bs : List Nat) : ∀ (rest cur : List Nat), rest ≠ [] → find (cur ++ rest) = some s →
    (∀ u v, u ≠ [] → v ≠ [] → u ++ v = rest → find (cur ++ u) = none) → pc_d find cur (rest ++ bs) = s :: pc_d find [] bs
  | [], _, h, _, _ => absurd rfl h
  | b :: rest, cur, _, hs, hn => by
    show (match find (cur ++ [b]) with
      | some k => k :: pc_d find [] (rest ++ bs)
      | none => pc_d find (cur ++ [b]) (rest ++ bs)) = _
    cases rest with
    | nil => rw [hs]; rfl
    | cons b' rest =>
      rw [hn [b] (b' :: rest) (by simp) (by simp) rfl]
      refine pc_one bs (b' :: rest) (cur ++ [b]) (by simp) (by rw [List.append_assoc]; exact hs) ?_
      intro u v hu hv e
      rw [List.append_assoc]
      exact hn (b :: u) v (by simp) hv (by rw [List.cons_append, e])
theorem pc_back {find : List Nat → Option Nat} {P : Nat → List Nat} : ∀ (ss : List Nat), (∀ s ∈ ss, P s ≠ [] ∧ find (P s) = some s ∧
    ∀ u v, u ≠ [] → v ≠ [] → u ++ v = P s → find u = none) → pc_d find [] (pc_e P ss) = ss
  | [], _ => rfl
  | s :: ss, h => by
    obtain ⟨h1, h2, h3⟩ := h s List.mem_cons_self
    show pc_d find [] (P s ++ pc_e P ss) = _
    rw [pc_one (pc_e P ss) (P s) [] h1 h2 h3, pc_back ss fun x hx => h x (List.mem_cons_of_mem _ hx)]
