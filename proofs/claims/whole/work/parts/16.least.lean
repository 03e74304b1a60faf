/-! the tree at its beginning and at its end; the reference's sorting; the least cost is the tree's -/
theorem ht_sm1 (g : Nat → Nat) (v : Nat) : ∀ n, ht_sm n (fun k => if k = v then g k else 0) = if v < n then g v else 0
  | 0 => rfl
  | n + 1 => by
    show ht_sm n (fun k => if k = v then g k else 0) + (if n = v then g n else 0) = _
    rw [ht_sm1 g v n]
    by_cases h : n = v
    · subst h
      rw [if_neg (by omega), if_pos rfl, if_pos (by omega)]; omega
    · by_cases h2 : v < n
      · rw [if_pos h2, if_neg h, if_pos (by omega)]; rfl
      · rw [if_neg h2, if_neg h, if_neg (by omega)]
def ht_P (w : Nat → Nat) : List Nat := (List.range 7).filter (fun k => decide (0 < w k))
def ht_W (w : Nat → Nat) : List Nat := (ht_P w).map w
def ht_op0 (w : Nat → Nat) : Nat → Bool := fun v => decide (v < 7 ∧ 0 < w v)
theorem ht_Pm {w : Nat → Nat} {k : Nat} : k ∈ ht_P w ↔ k < 7 ∧ 0 < w k := by
  unfold ht_P
  rw [List.mem_filter, List.mem_range, decide_eq_true_iff]
theorem ht_PN (w : Nat → Nat) : (ht_N (ht_op0 w)).Perm (ht_P w) := by
  have hd : (ht_P w).Nodup := List.Pairwise.filter _ List.nodup_range
  rw [List.perm_ext_iff_of_nodup (ht_Nd _) hd]
  intro a
  rw [ht_Nm, ht_Pm]
  unfold ht_op0
  rw [decide_eq_true_iff]
  constructor
  · exact fun h => h.2
  · exact fun h => ⟨by omega, h⟩
theorem ht_0 (w wt : Nat → Nat) (sd : Nat → Nat) (hwt : ∀ v, v < 7 → wt v = w v) :
    ht_I w (ht_W w) (ht_P w).length 0 (ht_op0 w) wt (fun _ => none) sd (fun k => k) (fun _ => []) 0 := by
  have ho : ∀ v, ht_op0 w v = true → v < 7 ∧ 0 < w v := by
    intro v hv
    unfold ht_op0 at hv
    exact decide_eq_true_iff.mp hv
  refine ⟨?_, ?_, ?_, ?_, ?_, ?_, ?_, ?_, ?_, ?_, ?_⟩
  · exact fun v hv => ⟨by have := ho v hv; omega, rfl⟩
  · exact fun _ _ => rfl
  · exact fun k hk hw => ⟨by unfold ht_op0; exact decide_eq_true_iff.mpr ⟨hk, hw⟩, rfl, Nat.le_refl _, fun b hb => by cases hb⟩
  · intro v hv
    have := ho v hv
    rw [ht_sm1 w v 7, if_pos this.1, hwt v this.1]
  · intro v hv
    have hv' := ho v hv
    have : ht_sm 7 (fun k => if 0 < w k ∧ k = v then 2 ^ (6 - ([] : List Nat).length) else 0) = ht_sm 7 (fun k => if k = v then (fun _ => 64) k else 0) := by
      refine ht_smc fun k _ => ?_
      by_cases e : k = v
      · subst e
        rw [if_pos ⟨hv'.2, rfl⟩, if_pos rfl]; rfl
      · rw [if_neg (fun z => e z.2), if_neg e]
    rw [this, ht_sm1 _ v 7, if_pos hv'.1]
  · exact fun k k' _ _ _ _ hne e => absurd e hne
  · have : ht_sm 7 (fun k => w k * ([] : List Nat).length) = ht_sm 7 (fun _ => 0) := ht_smc fun k _ => rfl
    rw [this, ht_sm0]
  · intro R' h
    refine hf_LBp ?_ h
    unfold ht_L ht_W
    have e : (ht_N (ht_op0 w)).map wt = (ht_N (ht_op0 w)).map w := by
      refine List.map_congr_left fun v hv => ?_
      exact hwt v (ho v (ht_Nm.mp hv).2).1
    rw [e]
    exact (ht_PN w).map w
  · intro k _ hw
    refine ⟨?_, rfl⟩
    unfold ht_op0
    exact decide_eq_false_iff_not.mpr fun z => by omega
  · exact (ht_PN w).length_eq
  · exact fun h => absurd h (by omega)
/-- a code of the least cost -/
def ht_C (w : Nat → Nat) (Q : Nat → List Nat) (R : Nat) : Prop :=
  (∀ k, k < 7 → 0 < w k → 1 ≤ (Q k).length ∧ (Q k).length ≤ 6 ∧ ∀ b ∈ Q k, b < 2) ∧ (∀ k, k < 7 → w k = 0 → Q k = []) ∧
  (∀ k k', k < 7 → k' < 7 → 0 < w k → 0 < w k' → k ≠ k' → ¬ Q k <:+ Q k') ∧
  ht_sm 7 (fun k => if 0 < w k then 2 ^ (6 - (Q k).length) else 0) ≤ 64 ∧ ht_sm 7 (fun k => w k * (Q k).length) = R ∧
  ∀ ps : List (Nat × Nat), (ps.map Prod.fst).Perm (ht_W w) → (∀ p ∈ ps, 1 ≤ p.2 ∧ p.2 ≤ 6) → hf_kr ps ≤ 64 → R ≤ hf_c ps
theorem ht_one {op : Nat → Bool} (h : (ht_N op).length = 1) {u v : Nat} (hu : u < 13) (hv : v < 13) (ou : op u = true) (ov : op v = true) : u = v := by
  have m1 := ht_Nm.mpr ⟨hu, ou⟩
  have m2 := ht_Nm.mpr ⟨hv, ov⟩
  obtain ⟨x, hx⟩ := List.length_eq_one_iff.mp h
  rw [hx] at m1 m2
  rw [List.mem_singleton.mp m1, List.mem_singleton.mp m2]
/-- the tree's end, two kinds or more -/
theorem ht_end {w : Nat → Nat} {K j : Nat} {op : Nat → Bool} {wt : Nat → Nat} {par : Nat → Option Nat} {sd : Nat → Nat} {A : Nat → Nat} {Q : Nat → List Nat} {R : Nat}
    (I : ht_I w (ht_W w) K j op wt par sd A Q R) (hj : j ≤ 6) (h1 : 1 ≤ j) (hK : j + 1 = K) :
    ht_C w (fun k => if 0 < w k then Q k else []) R ∧ (∀ k, k < 7 → 0 < w k → ht_ch par sd k (Q k) (6 + j)) ∧ par (6 + j) = none ∧ ∀ k, k < 7 → w k = 0 → par k = none := by
  obtain ⟨i1, i2, i3, i4, i5, i6, i7, i8, i9, i10, i11⟩ := I
  have hroot := i11 h1
  have hlen : (ht_N op).length = 1 := by omega
  have hA : ∀ k, k < 7 → 0 < w k → A k = 6 + j := fun k hk hw => by
    have a := (i3 k hk hw).1
    exact ht_one hlen (by have := (i1 _ a).1; omega) (by omega) a hroot
  refine ⟨⟨?_, ?_, ?_, ?_, ?_, ?_⟩, ?_, (i1 _ hroot).2, fun k hk hw => (i9 k hk hw).2⟩
  · intro k hk hw
    obtain ⟨_, a2, a3, a4⟩ := i3 k hk hw
    dsimp only
    rw [if_pos hw]
    refine ⟨?_, by omega, a4⟩
    cases e : Q k with
    | nil =>
      rw [e, hA k hk hw] at a2
      have : k = 6 + j := a2
      omega
    | cons b q => simp
  · intro k _ hw
    dsimp only
    rw [if_neg (by omega)]
  · intro k k' hk hk' hw hw' hne
    dsimp only
    rw [if_pos hw, if_pos hw']
    exact i6 k k' hk hk' hw hw' hne ((hA k hk hw).trans (hA k' hk' hw').symm)
  · rw [← i5 _ hroot]
    refine Nat.le_of_eq (ht_smc fun k hk => ?_)
    by_cases hw : 0 < w k
    · dsimp only
      rw [if_pos hw, if_pos hw, if_pos ⟨hw, hA k hk hw⟩]
    · rw [if_neg hw, if_neg (fun z => hw z.1)]
  · rw [← i7]
    refine ht_smc fun k _ => ?_
    by_cases hw : 0 < w k
    · dsimp only
      rw [if_pos hw]
    · have : w k = 0 := by omega
      rw [this]; simp
  · intro ps hp h6 hk
    have := i8 0 (hf_LB1 _) ps hp (fun p hp => (h6 p hp).2) hk
    omega
  · intro k hk hw
    have := (i3 k hk hw).2.1
    rw [hA k hk hw] at this
    exact this
/-- one kind alone: one bit -/
theorem ht_C1 {w : Nat → Nat} (h : (ht_P w).length = 1) : ht_C w (fun k => if 0 < w k then [0] else []) (ht_sm 7 w) := by
  obtain ⟨x, hx⟩ := List.length_eq_one_iff.mp h
  have hone : ∀ k, k < 7 → 0 < w k → k = x := fun k hk hw => by
    have := ht_Pm.mpr ⟨hk, hw⟩
    rw [hx] at this
    exact List.mem_singleton.mp this
  have hx' : x < 7 ∧ 0 < w x := ht_Pm.mp (by rw [hx]; exact List.mem_singleton.mpr rfl)
  have hs : ht_sm 7 w = w x := by
    have : ht_sm 7 w = ht_sm 7 (fun k => if k = x then w k else 0) := ht_smc fun k hk => by
      by_cases e : k = x
      · rw [if_pos e]
      · rw [if_neg e]
        apply Classical.byContradiction
        intro z
        exact e (hone k hk (by omega))
    rw [this, ht_sm1 w x 7, if_pos hx'.1]
  refine ⟨?_, ?_, ?_, ?_, ?_, ?_⟩
  · intro k _ hw
    dsimp only
    rw [if_pos hw]
    exact ⟨by decide, by decide, fun b hb => by rw [List.mem_singleton.mp hb]; omega⟩
  · intro k _ hw
    dsimp only
    rw [if_neg (by omega)]
  · intro k k' hk hk' hw hw' hne
    exact absurd ((hone k hk hw).trans (hone k' hk' hw').symm) hne
  · have : ht_sm 7 (fun k => if 0 < w k then 2 ^ (6 - (if 0 < w k then [0] else []).length) else 0) = ht_sm 7 (fun k => if k = x then (fun _ => 32) k else 0) := ht_smc fun k hk => by
      by_cases hw : 0 < w k
      · dsimp only
        rw [if_pos hw, if_pos hw, if_pos (hone k hk hw)]; rfl
      · rw [if_neg hw, if_neg (fun z : k = x => hw (by rw [z]; exact hx'.2))]
    rw [this, ht_sm1 _ x 7, if_pos hx'.1]
    decide
  · refine ht_smc fun k _ => ?_
    by_cases hw : 0 < w k
    · dsimp only
      rw [if_pos hw]; simp
    · have : w k = 0 := by omega
      rw [this]; simp
  · intro ps hp h6 _
    rw [hs]
    unfold ht_W at hp
    rw [hx] at hp
    have hp' : (ps.map Prod.fst) = [w x] := List.perm_singleton.mp hp
    cases ps with
    | nil => simp at hp'
    | cons p ps =>
      simp only [List.map_cons, List.cons.injEq] at hp'
      have := (h6 p List.mem_cons_self).1
      simp only [hf_c]
      rw [hp'.1]
      have h2 : w x * 1 ≤ w x * p.2 := Nat.mul_le_mul_left _ this
      omega
/-! sums as lists -/
theorem ht_cl (w : Nat → Nat) (Q : Nat → List Nat) : ∀ n, hf_c (((List.range n).filter (fun k => decide (0 < w k))).map (fun k => (w k, (Q k).length))) = ht_sm n (fun k => w k * (Q k).length)
  | 0 => rfl
  | n + 1 => by
    rw [List.range_succ, List.filter_append, List.map_append, hf_cA, ht_cl w Q n]
    show _ + _ = ht_sm n (fun k => w k * (Q k).length) + w n * (Q n).length
    congr 1
    by_cases h : 0 < w n
    · simp [h, hf_c]
    · have : w n = 0 := by omega
      simp [this, hf_c]
theorem ht_kl (w : Nat → Nat) (Q : Nat → List Nat) : ∀ n, hf_kr (((List.range n).filter (fun k => decide (0 < w k))).map (fun k => (w k, (Q k).length))) = ht_sm n (fun k => if 0 < w k then 2 ^ (6 - (Q k).length) else 0)
  | 0 => rfl
  | n + 1 => by
    rw [List.range_succ, List.filter_append, List.map_append, hf_krA, ht_kl w Q n]
    show _ + _ = ht_sm n (fun k => if 0 < w k then 2 ^ (6 - (Q k).length) else 0) + (if 0 < w n then 2 ^ (6 - (Q n).length) else 0)
    congr 1
    by_cases h : 0 < w n
    · simp [h, hf_kr]
    · simp [h, hf_kr]
/-- the reference's way through the lengths finds the cost of a code of the least cost -/
theorem ht_least {w : Nat → Nat} {Q : Nat → List Nat} {R : Nat} (C : ht_C w Q R) {o : List Nat} (hp : o.Perm (ht_W w)) (hs : o.Pairwise (fun x y => y ≤ x)) (h0 : 0 < o.length) :
    en_f o 0 (en_gen o.length 1) = R := by
  obtain ⟨c1, c2, c3, c4, c5, c6⟩ := C
  have hc := ht_cl w Q 7
  have hk := ht_kl w Q 7
  generalize hps : (((List.range 7).filter (fun k => decide (0 < w k))).map (fun k => (w k, (Q k).length))) = ps at hc hk
  rw [c5] at hc
  have hmem : ∀ p ∈ ps, 1 ≤ p.1 ∧ 1 ≤ p.2 ∧ p.2 ≤ 6 := by
    intro p hp
    rw [← hps] at hp
    obtain ⟨k, hk, rfl⟩ := List.mem_map.mp hp
    have hk' : k < 7 ∧ 0 < w k := ht_Pm.mp hk
    have := c1 k hk'.1 hk'.2
    exact ⟨hk'.2, this.1, this.2.1⟩
  have hfst : ps.map Prod.fst = ht_W w := by
    rw [← hps, List.map_map]
    rfl
  obtain ⟨ls, l1, l2, l3, _, l5, l6⟩ := hf_sort o.length o ps rfl hs (by rw [hfst]; exact hp.symm) fun p hp => (hmem p hp).2
  have hR : 0 < R := by
    rw [← hc]
    cases ps with
    | nil =>
      have := hp.length_eq
      rw [← hfst] at this
      have h2 : o.length = 0 := this
      omega
    | cons p ps =>
      have := hmem p List.mem_cons_self
      have : 0 < p.1 * p.2 := Nat.mul_pos this.1 this.2.1
      simp only [hf_c]
      omega
  refine en_min o R hR _ 0 (Or.inl rfl) ?_ (Or.inr ⟨ls, ?_, ?_, ?_⟩)
  · intro v hv hkr
    obtain ⟨g1, g2⟩ := en_genok _ _ v hv
    refine c6 _ ?_ ?_ hkr
    · rw [List.map_fst_zip (by omega)]
      exact hp
    · intro p hp
      exact g2 p.2 (List.of_mem_zip (show (p.1, p.2) ∈ o.zip v from hp)).2
  · have := en_mem ls 1 l2 fun x hx => ⟨(l3 x hx).1, l3 x hx⟩
    rw [l1] at this
    exact this
  · rw [l5, hk]; exact c4
  · rw [← hc]; exact l6
/-! the reference's sorting: 36 comparisons of neighbours -/
def bs_g (s : Nat) : Nat → Nat := fun i => if i = s then s + 1 else if i = s + 1 then s else i
def bs_s (a : Nat → Nat) (s : Nat) : Nat → Nat := if a s < a (s + 1) then fun i => a (bs_g s i) else a
def bs_i (a : Nat → Nat) : Nat → Nat → Nat
  | 0 => a
  | k + 1 => bs_s (bs_i a k) (k % 6)
theorem bs_gp {s : Nat} (h : s < 6) (a : Nat → Nat) : ((List.range 7).map (fun i => a (bs_g s i))).Perm ((List.range 7).map a) := by
  have := (cn_perm (n := 7) (f := bs_g s) (fun i hi => by unfold bs_g; split <;> (try split) <;> omega) (fun i j hi hj e => by
    unfold bs_g at e
    split at e <;> split at e <;> (try split at e) <;> (try split at e) <;> omega)).map a
  rw [List.map_map] at this
  exact this
theorem bs_p (a : Nat → Nat) : ∀ k, ((List.range 7).map (bs_i a k)).Perm ((List.range 7).map a)
  | 0 => List.Perm.refl _
  | k + 1 => by
    show ((List.range 7).map (bs_s (bs_i a k) (k % 6))).Perm _
    unfold bs_s
    by_cases h : bs_i a k (k % 6) < bs_i a k (k % 6 + 1)
    · rw [if_pos h]
      exact (bs_gp (by omega) _).trans (bs_p a k)
    · rw [if_neg h]
      exact bs_p a k
def bs_J (a : Nat → Nat) (p s : Nat) : Prop :=
  (∀ i j, i < j → j < 7 → 7 ≤ j + p → a j ≤ a i) ∧ (∀ m, (m = s ∧ s + p ≤ 6 ∨ m + p = 6 ∧ 6 ≤ s + p) → ∀ i, i < m → a m ≤ a i)
theorem bs_J1 {a : Nat → Nat} {p s : Nat} (hs : s < 6) (J : bs_J a p s) : bs_J (bs_s a s) p (s + 1) := by
  obtain ⟨j1, j2⟩ := J
  unfold bs_s
  by_cases h : a s < a (s + 1)
  · rw [if_pos h]
    have hp : s + p < 6 := by
      apply Nat.lt_of_not_le
      intro hc
      have := j1 s (s + 1) (by omega) (by omega) (by omega)
      omega
    have j2' := j2 s (Or.inl ⟨rfl, by omega⟩)
    constructor
    · intro i j hij hj hjp
      have e : bs_g s j = j := by unfold bs_g; rw [if_neg (by omega), if_neg (by omega)]
      dsimp only
      rw [e]
      refine j1 _ _ ?_ hj hjp
      unfold bs_g
      split
      · omega
      · split <;> omega
    · intro m hm i hi
      have em : m = s + 1 := by omega
      subst em
      have e : bs_g s (s + 1) = s := by unfold bs_g; rw [if_neg (by omega), if_pos rfl]
      dsimp only
      rw [e]
      unfold bs_g
      by_cases c : i = s
      · rw [if_pos c]; omega
      · rw [if_neg c, if_neg (by omega)]
        exact j2' i (by omega)
  · rw [if_neg h]
    refine ⟨j1, ?_⟩
    intro m hm i hi
    by_cases c : s + p < 6
    · have em : m = s + 1 := by omega
      subst em
      by_cases d : i = s
      · subst d; omega
      · have := j2 s (Or.inl ⟨rfl, by omega⟩) i (by omega)
        omega
    · exact j2 m (by omega) i hi
theorem bs_J2 {a : Nat → Nat} {p : Nat} (hp : p < 6) (J : bs_J a p 6) : bs_J a (p + 1) 0 := by
  obtain ⟨j1, j2⟩ := J
  constructor
  · intro i j hij hj hjp
    by_cases c : 7 ≤ j + p
    · exact j1 i j hij hj c
    · exact j2 j (by omega) i hij
  · intro m hm i hi
    have : m = 0 := by omega
    omega
theorem bs_J3 (a : Nat → Nat) : ∀ k, k ≤ 36 → bs_J (bs_i a k) (k / 6) (k % 6)
  | 0, _ => ⟨fun i j _ h1 h2 => absurd h2 (by omega), fun m hm i hi => by omega⟩
  | k + 1, hk => by
    have ih := bs_J1 (by omega : k % 6 < 6) (bs_J3 a k (by omega))
    by_cases c : k % 6 = 5
    · have e1 : (k + 1) / 6 = k / 6 + 1 := by omega
      have e2 : (k + 1) % 6 = 0 := by omega
      rw [e1, e2]
      rw [c] at ih
      have := bs_J2 (by omega) ih
      rw [← c] at this
      exact this
    · have e1 : (k + 1) / 6 = k / 6 := by omega
      have e2 : (k + 1) % 6 = k % 6 + 1 := by omega
      rw [e1, e2]
      exact ih
theorem bs_ok (a : Nat → Nat) : ∀ i j, i < j → j < 7 → bs_i a 36 j ≤ bs_i a 36 i := fun i j hij hj =>
  (bs_J3 a 36 (by omega)).1 i j hij hj (by omega)
