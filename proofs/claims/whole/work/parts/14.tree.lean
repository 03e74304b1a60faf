/-! the code's tree as it grows -/
def ht_sm : Nat → (Nat → Nat) → Nat
  | 0, _ => 0
  | n + 1, g => ht_sm n g + g n
theorem ht_smc : ∀ {n : Nat} {g h : Nat → Nat}, (∀ i, i < n → g i = h i) → ht_sm n g = ht_sm n h
  | 0, _, _, _ => rfl
  | n + 1, g, h, e => by
    show ht_sm n g + g n = ht_sm n h + h n
    rw [ht_smc (fun i hi => e i (by omega)), e n (by omega)]
theorem ht_sma : ∀ (n : Nat) (g h : Nat → Nat), ht_sm n (fun i => g i + h i) = ht_sm n g + ht_sm n h
  | 0, _, _ => rfl
  | n + 1, g, h => by
    show ht_sm n (fun i => g i + h i) + (g n + h n) = ht_sm n g + g n + (ht_sm n h + h n)
    rw [ht_sma n g h]; omega
theorem ht_sm0 : ∀ (n : Nat), ht_sm n (fun _ => 0) = 0
  | 0 => rfl
  | n + 1 => ht_sm0 n
def ht_ch (par : Nat → Option Nat) (sd : Nat → Nat) : Nat → List Nat → Nat → Prop
  | k, [], v => k = v
  | k, b :: Q, v => ∃ p, par k = some p ∧ sd k = b ∧ ht_ch par sd p Q v
/-- what is hung elsewhere leaves a chain as it is -/
theorem ht_chf {par par' : Nat → Option Nat} {sd sd' : Nat → Nat} (h : ∀ u p, par u = some p → par' u = some p ∧ sd' u = sd u) :
    ∀ (Q : List Nat) (k v : Nat), ht_ch par sd k Q v → ht_ch par' sd' k Q v
  | [], _, _, e => e
  | _ :: Q, _, _, ⟨p, e1, e2, e3⟩ => ⟨p, (h _ p e1).1, (h _ p e1).2.trans e2, ht_chf h Q p _ e3⟩
theorem ht_chx {par par' : Nat → Option Nat} {sd sd' : Nat → Nat} (h : ∀ u p, par u = some p → par' u = some p ∧ sd' u = sd u) {v nd b : Nat}
    (h1 : par' v = some nd) (h2 : sd' v = b) :
    ∀ (Q : List Nat) (k : Nat), ht_ch par sd k Q v → ht_ch par' sd' k (Q ++ [b]) nd
  | [], _, e => ⟨nd, e ▸ h1, e ▸ h2, rfl⟩
  | _ :: Q, _, ⟨p, e1, e2, e3⟩ => ⟨p, (h _ p e1).1, (h _ p e1).2.trans e2, ht_chx h h1 h2 Q p e3⟩
def ht_N (op : Nat → Bool) : List Nat := (List.range 13).filter op
def ht_L (op : Nat → Bool) (wt : Nat → Nat) : List Nat := (ht_N op).map wt
def ht_op (op : Nat → Bool) (f s nd : Nat) : Nat → Bool := fun v => if v = nd then true else if v = f ∨ v = s then false else op v
def ht_wt (wt : Nat → Nat) (f s nd : Nat) : Nat → Nat := fun v => if v = nd then wt f + wt s else wt v
def ht_par (par : Nat → Option Nat) (f s nd : Nat) : Nat → Option Nat := fun v => if v = f ∨ v = s then some nd else par v
def ht_sd (sd : Nat → Nat) (f s : Nat) : Nat → Nat := fun v => if v = s then 1 else if v = f then 0 else sd v
def ht_A (A : Nat → Nat) (f s nd : Nat) : Nat → Nat := fun k => if A k = f ∨ A k = s then nd else A k
def ht_Q (A : Nat → Nat) (Q : Nat → List Nat) (f s : Nat) : Nat → List Nat := fun k => if A k = f then Q k ++ [0] else if A k = s then Q k ++ [1] else Q k
/-- w: how often each kind occurs; j nodes are joined; A k: the root above k now, Q k: the sides from k up to it; R: what the joins cost -/
def ht_I (w : Nat → Nat) (W0 : List Nat) (K j : Nat) (op : Nat → Bool) (wt : Nat → Nat) (par : Nat → Option Nat) (sd : Nat → Nat) (A : Nat → Nat) (Q : Nat → List Nat) (R : Nat) : Prop :=
  (∀ v, op v = true → v < 7 + j ∧ par v = none) ∧ (∀ v, 7 + j ≤ v → par v = none) ∧
  (∀ k, k < 7 → 0 < w k → op (A k) = true ∧ ht_ch par sd k (Q k) (A k) ∧ (Q k).length ≤ j ∧ ∀ b ∈ Q k, b < 2) ∧
  (∀ v, op v = true → wt v = ht_sm 7 (fun k => if A k = v then w k else 0)) ∧
  (∀ v, op v = true → ht_sm 7 (fun k => if 0 < w k ∧ A k = v then 2 ^ (6 - (Q k).length) else 0) = 64) ∧
  (∀ k k', k < 7 → k' < 7 → 0 < w k → 0 < w k' → k ≠ k' → A k = A k' → ¬ Q k <:+ Q k') ∧
  ht_sm 7 (fun k => w k * (Q k).length) = R ∧
  (∀ R', hf_LB (ht_L op wt) R' → hf_LB W0 (R' + R)) ∧
  (∀ k, k < 7 → w k = 0 → op k = false ∧ par k = none) ∧
  (ht_N op).length + j = K ∧ (1 ≤ j → op (6 + j) = true)
theorem ht_Nm {op : Nat → Bool} {v : Nat} : v ∈ ht_N op ↔ v < 13 ∧ op v = true := by
  unfold ht_N
  rw [List.mem_filter, List.mem_range]
theorem ht_Nd (op : Nat → Bool) : (ht_N op).Nodup := List.Pairwise.filter _ List.nodup_range
theorem ht_Np {op : Nat → Bool} {f s : Nat} (hf : f < 13) (hs : s < 13) (of : op f = true) (os : op s = true) (hfs : f ≠ s) :
    (ht_N op).Perm (f :: s :: ht_N (fun v => op v && !(v == f) && !(v == s))) := by
  rw [List.perm_ext_iff_of_nodup (ht_Nd op) (by
    rw [List.nodup_cons, List.nodup_cons]
    refine ⟨?_, ?_, ht_Nd _⟩
    · intro h
      rcases List.mem_cons.mp h with h | h
      · exact hfs h
      · have := (ht_Nm.mp h).2
        simp at this
    · intro h
      have := (ht_Nm.mp h).2
      simp at this)]
  intro a
  rw [List.mem_cons, List.mem_cons, ht_Nm, ht_Nm]
  constructor
  · intro ⟨h1, h2⟩
    by_cases e1 : a = f
    · exact Or.inl e1
    · by_cases e2 : a = s
      · exact Or.inr (Or.inl e2)
      · exact Or.inr (Or.inr ⟨h1, by simp [h2, e1, e2]⟩)
  · intro h
    rcases h with rfl | rfl | ⟨h1, h2⟩
    · exact ⟨hf, of⟩
    · exact ⟨hs, os⟩
    · simp only [Bool.and_eq_true] at h2
      exact ⟨h1, h2.1.1⟩
theorem ht_Nq {op : Nat → Bool} {f s nd : Nat} (hn : nd < 13) (on : op nd = false) :
    (ht_N (ht_op op f s nd)).Perm (nd :: ht_N (fun v => op v && !(v == f) && !(v == s))) := by
  rw [List.perm_ext_iff_of_nodup (ht_Nd _) (by
    rw [List.nodup_cons]
    refine ⟨?_, ht_Nd _⟩
    intro h
    have := (ht_Nm.mp h).2
    simp [on] at this)]
  intro a
  rw [List.mem_cons, ht_Nm, ht_Nm]
  unfold ht_op
  constructor
  · intro ⟨h1, h2⟩
    by_cases e0 : a = nd
    · exact Or.inl e0
    · rw [if_neg e0] at h2
      by_cases e : a = f ∨ a = s
      · rw [if_pos e] at h2; cases h2
      · rw [if_neg e] at h2
        exact Or.inr ⟨h1, by simp [h2, not_or.mp e]⟩
  · intro h
    rcases h with rfl | ⟨h1, h2⟩
    · exact ⟨hn, by rw [if_pos rfl]⟩
    · simp only [Bool.and_eq_true, Bool.not_eq_true', beq_eq_false_iff_ne] at h2
      refine ⟨h1, ?_⟩
      rw [if_neg (fun e => by rw [e, on] at h2; exact absurd h2.1.1 (by simp)), if_neg (fun e => by
        rcases e with e | e
        · exact h2.1.2 e
        · exact h2.2 e)]
      exact h2.1.1
theorem ht_suf {u v : List Nat} (h : u ++ [0] <:+ v ++ [1]) : False := by
  obtain ⟨x, hx⟩ := h
  rw [← List.append_assoc] at hx
  have := (List.append_inj' hx rfl).2
  simp at this
theorem ht_suf' {u v : List Nat} (h : u ++ [1] <:+ v ++ [0]) : False := by
  obtain ⟨x, hx⟩ := h
  rw [← List.append_assoc] at hx
  have := (List.append_inj' hx rfl).2
  simp at this
theorem ht_step {w : Nat → Nat} {W0 : List Nat} {K j : Nat} {op : Nat → Bool} {wt : Nat → Nat} {par : Nat → Option Nat} {sd : Nat → Nat} {A : Nat → Nat} {Q : Nat → List Nat} {R : Nat}
    (I : ht_I w W0 K j op wt par sd A Q R) (hj : j < 6) {f s : Nat} (of : op f = true) (os : op s = true) (hfs : f ≠ s)
    (mf : ∀ v, op v = true → wt f ≤ wt v) (ms : ∀ v, op v = true → v ≠ f → wt s ≤ wt v) :
    ht_I w W0 K (j + 1) (ht_op op f s (7 + j)) (ht_wt wt f s (7 + j)) (ht_par par f s (7 + j)) (ht_sd sd f s) (ht_A A f s (7 + j)) (ht_Q A Q f s) (R + (wt f + wt s)) := by
  obtain ⟨i1, i2, i3, i4, i5, i6, i7, i8, i9, i10, i11⟩ := I
  have hf := (i1 f of).1
  have hs := (i1 s os).1
  have on : op (7 + j) = false := by
    cases e : op (7 + j) with
    | false => rfl
    | true => have := (i1 _ e).1; omega
  have hchk : ∀ u p, par u = some p → ht_par par f s (7 + j) u = some p ∧ ht_sd sd f s u = sd u := by
    intro u p hu
    have h1 : u ≠ f := fun e => by rw [e, (i1 f of).2] at hu; cases hu
    have h2 : u ≠ s := fun e => by rw [e, (i1 s os).2] at hu; cases hu
    unfold ht_par ht_sd
    rw [if_neg (by simp [h1, h2]), if_neg h2, if_neg h1]
    exact ⟨hu, rfl⟩
  have hopn : ∀ v, ht_op op f s (7 + j) v = true → v = 7 + j ∨ (v ≠ 7 + j ∧ v ≠ f ∧ v ≠ s ∧ op v = true) := by
    intro v hv
    unfold ht_op at hv
    by_cases e0 : v = 7 + j
    · exact Or.inl e0
    · rw [if_neg e0] at hv
      by_cases e : v = f ∨ v = s
      · rw [if_pos e] at hv; cases hv
      · rw [if_neg e] at hv
        exact Or.inr ⟨e0, (not_or.mp e).1, (not_or.mp e).2, hv⟩
  refine ⟨?_, ?_, ?_, ?_, ?_, ?_, ?_, ?_, ?_, ?_, ?_⟩
  · intro v hv
    rcases hopn v hv with rfl | ⟨e0, e1, e2, ho⟩
    · refine ⟨by omega, ?_⟩
      unfold ht_par
      rw [if_neg (by omega)]
      exact i2 _ (Nat.le_refl _)
    · have := i1 v ho
      refine ⟨by omega, ?_⟩
      unfold ht_par
      rw [if_neg (by simp [e1, e2])]
      exact this.2
  · intro v hv
    unfold ht_par
    rw [if_neg (by omega)]
    exact i2 v (by omega)
  · intro k hk hw
    obtain ⟨a1, a2, a3, a4⟩ := i3 k hk hw
    unfold ht_A ht_Q
    by_cases ef : A k = f
    · rw [if_pos (Or.inl ef), if_pos ef]
      refine ⟨by unfold ht_op; rw [if_pos rfl], ?_, by simp; omega, ?_⟩
      · refine ht_chx hchk (v := f) ?_ ?_ (Q k) k (ef ▸ a2)
        · unfold ht_par; rw [if_pos (Or.inl rfl)]
        · unfold ht_sd; rw [if_neg hfs, if_pos rfl]
      · intro b hb
        rcases List.mem_append.mp hb with hb | hb
        · exact a4 b hb
        · rw [List.mem_singleton.mp hb]; omega
    · by_cases es : A k = s
      · rw [if_pos (Or.inr es), if_neg ef, if_pos es]
        refine ⟨by unfold ht_op; rw [if_pos rfl], ?_, by simp; omega, ?_⟩
        · refine ht_chx hchk (v := s) ?_ ?_ (Q k) k (es ▸ a2)
          · unfold ht_par; rw [if_pos (Or.inr rfl)]
          · unfold ht_sd; rw [if_pos rfl]
        · intro b hb
          rcases List.mem_append.mp hb with hb | hb
          · exact a4 b hb
          · rw [List.mem_singleton.mp hb]; omega
      · rw [if_neg (by simp [ef, es]), if_neg ef, if_neg es]
        have hA := (i1 _ a1).1
        refine ⟨?_, ht_chf hchk _ _ _ a2, by omega, a4⟩
        unfold ht_op
        rw [if_neg (by omega), if_neg (by simp [ef, es])]
        exact a1
  · intro v hv
    rcases hopn v hv with rfl | ⟨e0, e1, e2, ho⟩
    · unfold ht_wt
      rw [if_pos rfl, i4 f of, i4 s os, ← ht_sma]
      refine ht_smc fun k hk => ?_
      by_cases hw : 0 < w k
      · have hA := (i1 _ (i3 k hk hw).1).1
        unfold ht_A
        by_cases ef : A k = f
        · rw [if_pos ef, if_neg (by omega), if_pos (by rw [if_pos (Or.inl ef)])]; omega
        · by_cases es : A k = s
          · rw [if_neg ef, if_pos es, if_pos (by rw [if_pos (Or.inr es)])]; omega
          · rw [if_neg ef, if_neg es, if_neg (by rw [if_neg (by simp [ef, es])]; omega)]
      · have : w k = 0 := by omega
        rw [this]; simp
    · unfold ht_wt
      rw [if_neg e0, i4 v ho]
      refine ht_smc fun k hk => ?_
      unfold ht_A
      by_cases e : A k = f ∨ A k = s
      · rw [if_pos e, if_neg (by omega), if_neg (by omega)]
      · rw [if_neg e]
  · intro v hv
    rcases hopn v hv with rfl | ⟨e0, e1, e2, ho⟩
    · have hd : ∀ g : Nat → Nat, ht_sm 7 (fun k => g k + g k) = ht_sm 7 g + ht_sm 7 g := fun g => ht_sma 7 g g
      have key : ht_sm 7 (fun k => (if 0 < w k ∧ ht_A A f s (7 + j) k = 7 + j then 2 ^ (6 - (ht_Q A Q f s k).length) else 0) + (if 0 < w k ∧ ht_A A f s (7 + j) k = 7 + j then 2 ^ (6 - (ht_Q A Q f s k).length) else 0)) = 64 + 64 := by
        rw [show (64 : Nat) + 64 = ht_sm 7 (fun k => if 0 < w k ∧ A k = f then 2 ^ (6 - (Q k).length) else 0) + ht_sm 7 (fun k => if 0 < w k ∧ A k = s then 2 ^ (6 - (Q k).length) else 0) from by rw [i5 f of, i5 s os], ← ht_sma]
        refine ht_smc fun k hk => ?_
        by_cases hw : 0 < w k
        · have hA := (i1 _ (i3 k hk hw).1).1
          have hl := (i3 k hk hw).2.2.1
          have hp : 2 ^ (6 - (Q k).length) = 2 ^ (6 - ((Q k).length + 1)) + 2 ^ (6 - ((Q k).length + 1)) := by
            have := hf_p2 (L := (Q k).length + 1) (by omega) (by omega)
            rw [← this]; rfl
          unfold ht_A ht_Q
          by_cases ef : A k = f
          · have ns : ¬ A k = s := by omega
            simp only [ef, hw, true_or, if_true, true_and, List.length_append, List.length_cons, List.length_nil, Nat.zero_add, hfs, if_false, hp]
            omega
          · by_cases es : A k = s
            · have nsf : ¬ s = f := fun z => hfs z.symm
              simp only [es, hw, or_true, if_true, true_and, List.length_append, List.length_cons, List.length_nil, Nat.zero_add, nsf, if_false, hp]
            · have nA : ¬ A k = 7 + j := by omega
              simp only [ef, es, hw, or_false, if_false, true_and, nA]
        · simp only [hw, false_and, if_false]
      rw [hd] at key
      omega
    · rw [← i5 v ho]
      refine ht_smc fun k hk => ?_
      unfold ht_A ht_Q
      by_cases e : A k = f ∨ A k = s
      · rw [if_pos e]
        rw [if_neg (fun z => by omega), if_neg (fun z => by
          rcases e with e | e
          · exact e1 (z.2 ▸ e)
          · exact e2 (z.2 ▸ e))]
      · rw [if_neg e, if_neg (not_or.mp e).1, if_neg (not_or.mp e).2]
  · intro k k' hk hk' hw hw' hne hA hsuf
    have hAk := (i1 _ (i3 k hk hw).1).1
    have hAk' := (i1 _ (i3 k' hk' hw').1).1
    have old := i6 k k' hk hk' hw hw' hne
    unfold ht_A at hA
    unfold ht_Q at hsuf
    by_cases ef : A k = f
    · rw [if_pos (Or.inl ef)] at hA
      rw [if_pos ef] at hsuf
      by_cases ef' : A k' = f
      · rw [if_pos ef'] at hsuf
        exact old (ef.trans ef'.symm) (List.suffix_append_self_iff.mp hsuf)
      · by_cases es' : A k' = s
        · rw [if_neg ef', if_pos es'] at hsuf
          exact ht_suf hsuf
        · rw [if_neg (by simp [ef', es'])] at hA; omega
    · by_cases es : A k = s
      · rw [if_pos (Or.inr es)] at hA
        rw [if_neg ef, if_pos es] at hsuf
        by_cases ef' : A k' = f
        · rw [if_pos ef'] at hsuf
          exact ht_suf' hsuf
        · by_cases es' : A k' = s
          · rw [if_neg ef', if_pos es'] at hsuf
            exact old (es.trans es'.symm) (List.suffix_append_self_iff.mp hsuf)
          · rw [if_neg (by simp [ef', es'])] at hA; omega
      · rw [if_neg (by simp [ef, es])] at hA
        rw [if_neg ef, if_neg es] at hsuf
        by_cases e' : A k' = f ∨ A k' = s
        · rw [if_pos e'] at hA; omega
        · rw [if_neg e'] at hA
          rw [if_neg (not_or.mp e').1, if_neg (not_or.mp e').2] at hsuf
          exact old hA hsuf
  · rw [i4 f of, i4 s os, ← i7, ← ht_sma, ← ht_sma]
    refine ht_smc fun k hk => ?_
    unfold ht_Q
    by_cases ef : A k = f
    · have ns : ¬ A k = s := by omega
      rw [if_pos ef, if_pos ef, if_neg ns, List.length_append, Nat.mul_add]
      simp
    · by_cases es : A k = s
      · rw [if_neg ef, if_pos es, if_neg ef, if_pos es, List.length_append, Nat.mul_add]
        simp
      · rw [if_neg ef, if_neg es, if_neg ef, if_neg es]; omega
  · intro R' h
    have h13 : 7 + j < 13 := by omega
    have p1 := (ht_Np (op := op) (by omega : f < 13) (by omega : s < 13) of os hfs).map wt
    have p2 := (ht_Nq (op := op) (f := f) (s := s) h13 on).map (ht_wt wt f s (7 + j))
    have hG : (ht_N (fun v => op v && !(v == f) && !(v == s))).map (ht_wt wt f s (7 + j)) = (ht_N (fun v => op v && !(v == f) && !(v == s))).map wt := by
      refine List.map_congr_left fun v hv => ?_
      have := (ht_Nm.mp hv).2
      simp only [Bool.and_eq_true] at this
      have hv' := (i1 v this.1.1).1
      unfold ht_wt
      rw [if_neg (by omega)]
    rw [List.map_cons, hG] at p2
    rw [List.map_cons, List.map_cons] at p1
    have hnd : ht_wt wt f s (7 + j) (7 + j) = wt f + wt s := by unfold ht_wt; rw [if_pos rfl]
    rw [hnd] at p2
    have h1 := hf_LBp p2 h
    have h2 := hf_LBs (mf s os) (fun x hx => by
      obtain ⟨v, hv, rfl⟩ := List.mem_map.mp hx
      have := (ht_Nm.mp hv).2
      simp only [Bool.and_eq_true, Bool.not_eq_true', beq_eq_false_iff_ne] at this
      exact ms v this.1.1 this.1.2) h1
    have h3 := i8 _ (hf_LBp p1.symm h2)
    rw [show R' + (R + (wt f + wt s)) = R' + (wt f + wt s) + R from by omega]
    exact h3
  · intro k hk hw
    have := i9 k hk hw
    have h1 : k ≠ f := fun e => by rw [e, of] at this; exact absurd this.1 (by simp)
    have h2 : k ≠ s := fun e => by rw [e, os] at this; exact absurd this.1 (by simp)
    unfold ht_op ht_par
    rw [if_neg (by omega), if_neg (by simp [h1, h2]), if_neg (by simp [h1, h2])]
    exact this
  · have l1 := (ht_Np (op := op) (by omega : f < 13) (by omega : s < 13) of os hfs).length_eq
    have l2 := (ht_Nq (op := op) (f := f) (s := s) (by omega : 7 + j < 13) on).length_eq
    simp only [List.length_cons] at l1 l2
    omega
  · intro _
    unfold ht_op
    rw [if_pos (by omega)]
