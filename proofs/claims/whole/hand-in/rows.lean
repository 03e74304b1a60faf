section
theorem pk_us {f : Nat → Int32} {k : Nat} {x : Int32} : upd f k x k = x := if_pos rfl
theorem pk_un {f : Nat → Int32} {k j : Nat} {x : Int32} (h : j ≠ k) : upd f k x j = f j := if_neg h
theorem pk_sub {a b : Nat} (h : b ≤ a) : nI a - nI b = nI (a - b) := by
  obtain ⟨c, rfl⟩ : ∃ c, a = c + b := ⟨a - b, by omega⟩
  rw [← nI_add, Int32.add_sub_cancel, Nat.add_sub_cancel]
theorem pk_m1 (n : Nat) : nI (n + 1) + (-1) = nI n := by
  rw [← nI_1, Int32.add_assoc, show (1 : Int32) + (-1) = 0 from rfl, Int32.add_zero]
theorem pk_mul (a b : Nat) : nI a * nI b = nI (a * b) := (Int32.ofNat_mul a b).symm
theorem pk_div {a d : Nat} (ha : a < 2 ^ 31) (h0 : 0 < d) (hd : d < 2 ^ 31) : nI a / nI d = nI (a / d) := by
  apply Int32.toInt_inj.mp
  rw [lg_idiv_nonneg (by rw [nI_toInt ha]; omega) (by rw [nI_toInt hd]; omega), nI_toInt ha, nI_toInt hd, nI_toInt (Nat.lt_of_le_of_lt (Nat.div_le_self a d) ha)]
  first | rfl | exact (Int.natCast_ediv _ _).symm
theorem pk_rem {a d : Nat} (ha : a < 2 ^ 31) (h0 : 0 < d) (hd : d < 2 ^ 31) : nI a - nI a / nI d * nI d = nI (a % d) := by
  rw [pk_div ha h0 hd, pk_mul, pk_sub (Nat.div_mul_le_self a d)]
  exact congrArg nI (by have := Nat.div_add_mod' a d; omega)
theorem pk_ix (x : Int32) {n : Nat} (hn : n < 2 ^ 31) : x < 0 ∨ nI n ≤ x ∨ ∃ j : Nat, j < n ∧ x = nI j := by
  by_cases h : x < 0
  · exact Or.inl h
  · obtain ⟨j, hj, rfl⟩ := nI_of h
    by_cases h2 : j < n
    · exact Or.inr (Or.inr ⟨j, h2, rfl⟩)
    · exact Or.inr (Or.inl (nI_le (by omega) hj))
theorem pk_le {x y : Int32} {A B : Prop} (a b : Nat) (f : a ≤ b → A) (g : b < a → B) (hx : x = nI a := by rfl) (hy : y = nI b := by rfl) (ha : a < 2 ^ 31 := by omega) (hb : b < 2 ^ 31 := by omega) : (x ≤ y → A) ∧ (¬ x ≤ y → B) := by
  subst hx hy
  rw [nI_leI ha hb]
  exact ⟨f, fun z => g (by omega)⟩
theorem pk_lt {x y : Int32} {A B : Prop} (a b : Nat) (f : a < b → A) (g : b ≤ a → B) (hx : x = nI a := by rfl) (hy : y = nI b := by rfl) (ha : a < 2 ^ 31 := by omega) (hb : b < 2 ^ 31 := by omega) : (x < y → A) ∧ (¬ x < y → B) := by
  subst hx hy
  rw [nI_ltI ha hb]
  exact ⟨f, fun z => g (by omega)⟩
theorem pk_eq {x y : Int32} {A B : Prop} (a b : Nat) (f : a = b → A) (g : a ≠ b → B) (hx : x = nI a := by rfl) (hy : y = nI b := by rfl) (ha : a < 2 ^ 31 := by omega) (hb : b < 2 ^ 31 := by omega) : (x = y → A) ∧ (¬ x = y → B) := by
  subst hx hy
  rw [nI_eq ha hb]
  exact ⟨f, g⟩
theorem pk_in {x : Int32} (n N : Nat) (h : n < N) (hx : x = nI n := by rfl) (hN : N < 2 ^ 31 := by omega) : vp_in x N := by
  subst hx
  exact vp_in_nI h hN
theorem pk_cl {x : Int32} (n : Nat) (hx : x = nI n := by rfl) (h : n < 2 ^ 31 := by omega) : x.toNatClampNeg = n := by
  subst hx
  exact nI_clamp h
theorem pk_tn {n : Nat} (h : n < 2 ^ 32) : (nI n).toBitVec.toNat = n := Nat.mod_eq_of_lt h
theorem pk_and (x : Int32) {m : Int32} (k : Nat) (hm : m.toBitVec.toNat = 2 ^ k - 1) : x &&& m = nI (x.toBitVec.toNat % 2 ^ k) := by
  apply Int32.toBitVec_inj.mp
  apply BitVec.eq_of_toNat_eq
  rw [Int32.toBitVec_and, BitVec.toNat_and, hm, Nat.and_two_pow_sub_one_eq_mod]
  show _ = (BitVec.ofNat 32 _).toNat
  rw [BitVec.toNat_ofNat]
  exact (Nat.mod_eq_of_lt (Nat.lt_of_le_of_lt (Nat.mod_le _ _) x.toBitVec.isLt)).symm
theorem pk_andN {n : Nat} (h : n < 2 ^ 32) {m : Int32} (k : Nat) (hm : m.toBitVec.toNat = 2 ^ k - 1) : nI n &&& m = nI (n % 2 ^ k) := by
  rw [pk_and _ k hm, pk_tn h]
theorem pk_shl (a s : Int32) (k : Nat) (hs : (s.toBitVec.smod 32).toNat = k) : (a <<< s).toBitVec.toNat = a.toBitVec.toNat * 2 ^ k % 2 ^ 32 := by
  show (a.toBitVec <<< (s.toBitVec.smod 32).toNat).toNat = _
  rw [hs, BitVec.toNat_shiftLeft, Nat.shiftLeft_eq]
theorem pk_shlN {n : Nat} (s : Int32) (k : Nat) (hs : (s.toBitVec.smod 32).toNat = k) (h : n * 2 ^ k < 2 ^ 32) : nI n <<< s = nI (n * 2 ^ k) := by
  apply Int32.toBitVec_inj.mp
  apply BitVec.eq_of_toNat_eq
  have hn : n < 2 ^ 32 := Nat.lt_of_le_of_lt (Nat.le_mul_of_pos_right n (Nat.two_pow_pos k)) h
  rw [pk_shl _ _ k hs, pk_tn hn, pk_tn h, Nat.mod_eq_of_lt h]
theorem pk_shr (a s : Int32) (k : Nat) (hs : (s.toBitVec.smod 32).toNat = k) : (a >>> s).toInt = a.toInt >>> k := by
  show (a.toBitVec.sshiftRight (s.toBitVec.smod 32).toNat).toInt = _
  rw [hs, BitVec.toInt_sshiftRight]
  rfl
theorem pk_shrN {n : Nat} (h : n < 2 ^ 31) (s : Int32) (k : Nat) (hs : (s.toBitVec.smod 32).toNat = k) : nI n >>> s = nI (n / 2 ^ k) := by
  apply Int32.toInt_inj.mp
  have h2 : n / 2 ^ k ≤ n := Nat.div_le_self _ _
  rw [pk_shr _ _ k hs, nI_toInt h, nI_toInt (by omega), Int.shiftRight_eq_div_pow]
  rfl
theorem pk_loop {σ : Type} (W : Nat → Nat → σ → Prop) (I : Nat → σ → Prop) (e i0 : Nat) (s : σ) (hi : i0 ≤ e) (h0 : I i0 s) (hx : ∀ n s, I e s → W (n + 1) e s)
    (hs : ∀ n i s, i < e → I i s → (∀ s', I (i + 1) s' → W n (i + 1) s') → W (n + 1) i s) : ∃ n, W n i0 s :=
  ⟨e + 1, loop_i W I e hx hs (e + 1) i0 s hi (by omega) h0⟩
theorem pk_loopD {σ : Type} (W : Nat → Nat → σ → Prop) (I : Nat → σ → Prop) (hx : ∀ n s, I 0 s → W (n + 1) 0 s)
    (hs : ∀ n i s, I (i + 1) s → (∀ s', I i s' → W n i s') → W (n + 1) (i + 1) s) : ∀ (e : Nat) (s : σ), I e s → W (e + 1) e s := by
  intro e
  induction e with
  | zero => exact fun s h => hx 0 s h
  | succ e ih => exact fun s h => hs (e + 1) e s h (fun s' h' => ih s' h')
theorem pk_least (P : Nat → Prop) (h : ∃ k, P k) : ∃ k, P k ∧ ∀ j, j < k → ¬ P j := by
  obtain ⟨k, hk⟩ := h
  induction k using Nat.strongRecOn with
  | ind k ih =>
    by_cases e : ∃ j, j < k ∧ P j
    · obtain ⟨j, hj, pj⟩ := e
      exact ih j hj pj
    · exact ⟨k, hk, fun j hj pj => e ⟨j, hj, pj⟩⟩
theorem s_l : ∀ n, n < 32 → ((nI n &&& 31).toBitVec.smod 32).toNat = n := by decide +kernel
end
section
/-! counting below n; the rotations of a text, their sorted places, and the way back -/
def cn_ (n : Nat) (P : Nat → Bool) : Nat := (List.range n).countP P
theorem cn_0 (P : Nat → Bool) : cn_ 0 P = 0 := rfl
theorem cn_s (n : Nat) (P : Nat → Bool) : cn_ (n + 1) P = cn_ n P + if P n then 1 else 0 := by
  unfold cn_
  rw [List.range_succ, List.countP_append]
  congr 1
  cases h : P n <;> simp [h]
theorem cn_mono {n : Nat} {P Q : Nat → Bool} (h : ∀ i, i < n → P i = true → Q i = true) : cn_ n P ≤ cn_ n Q :=
  List.countP_mono_left fun i hi => h i (List.mem_range.mp hi)
theorem cn_congr {n : Nat} {P Q : Nat → Bool} (h : ∀ i, i < n → P i = Q i) : cn_ n P = cn_ n Q :=
  Nat.le_antisymm (cn_mono fun i hi hp => by rw [← h i hi]; exact hp) (cn_mono fun i hi hp => by rw [h i hi]; exact hp)
theorem cn_lt : ∀ {n : Nat} {P Q : Nat → Bool} (_ : ∀ i, i < n → P i = true → Q i = true) (j : Nat), j < n → P j = false → Q j = true → cn_ n P < cn_ n Q
  | 0, _, _, _, j, hj, _, _ => absurd hj (Nat.not_lt_zero j)
  | n + 1, P, Q, h, j, hj, h1, h2 => by
    rw [cn_s, cn_s]
    have hm : cn_ n P ≤ cn_ n Q := cn_mono fun i hi => h i (by omega)
    by_cases e : j = n
    · subst e
      rw [h1, h2]
      simp
      omega
    · have ih := cn_lt (n := n) (P := P) (Q := Q) (fun i hi => h i (by omega)) j (by omega) h1 h2
      have hn := h n (by omega)
      cases hP : P n with
      | false => simp; omega
      | true => rw [hn hP]; simp; omega
theorem cn_all (n : Nat) : cn_ n (fun _ => true) = n := by
  unfold cn_
  rw [List.countP_eq_length.mpr (fun _ _ => rfl), List.length_range]
theorem cn_ltn {n : Nat} {P : Nat → Bool} (j : Nat) (hj : j < n) (h : P j = false) : cn_ n P < n := by
  have := cn_lt (n := n) (P := P) (Q := fun _ => true) (fun _ _ _ => rfl) j hj h rfl
  rw [cn_all] at this
  exact this
/-- as many different numbers below n as there are: no more than n -/
theorem cn_ph : ∀ (n : Nat) (l : List Nat), l.Nodup → (∀ x ∈ l, x < n) → l.length ≤ n
  | 0, l, _, h => by
    cases l with
    | nil => exact Nat.le_refl _
    | cons x l => exact absurd (h x List.mem_cons_self) (Nat.not_lt_zero x)
  | n + 1, l, hd, h => by
    by_cases hn : n ∈ l
    · have hp := List.perm_cons_erase hn
      have hd' := hp.nodup hd
      rw [List.nodup_cons] at hd'
      have ih := cn_ph n (l.erase n) hd'.2 fun x hx => by
        have h1 := h x (List.mem_of_mem_erase hx)
        have h2 : x ≠ n := fun e => hd'.1 (e ▸ hx)
        omega
      have := hp.length_eq
      simp only [List.length_cons] at this
      omega
    · have ih := cn_ph n l hd fun x hx => by
        have h1 := h x hx
        have h2 : x ≠ n := fun e => hn (e ▸ hx)
        omega
      omega
theorem cn_perm {n : Nat} {f : Nat → Nat} (hf : ∀ i, i < n → f i < n) (hi : ∀ i j, i < n → j < n → f i = f j → i = j) :
    ((List.range n).map f).Perm (List.range n) := by
  have hd : ((List.range n).map f).Nodup := by
    unfold List.Nodup
    rw [List.pairwise_map]
    refine List.Pairwise.imp_of_mem ?_ (List.nodup_range (n := n))
    intro a b ha hb hab e
    exact hab (hi a b (List.mem_range.mp ha) (List.mem_range.mp hb) e)
  rw [List.perm_ext_iff_of_nodup hd List.nodup_range]
  intro a
  constructor
  · intro ha
    obtain ⟨i, hi', rfl⟩ := List.mem_map.mp ha
    exact List.mem_range.mpr (hf i (List.mem_range.mp hi'))
  · intro ha
    apply Classical.byContradiction
    intro hc
    have := cn_ph n (a :: (List.range n).map f) (List.nodup_cons.mpr ⟨hc, hd⟩) fun x hx => by
      cases hx with
      | head => exact List.mem_range.mp ha
      | tail _ hx =>
        obtain ⟨i, hi', rfl⟩ := List.mem_map.mp hx
        exact hf i (List.mem_range.mp hi')
    simp only [List.length_cons, List.length_map, List.length_range] at this
    omega
theorem cn_surj {n : Nat} {f : Nat → Nat} (hf : ∀ i, i < n → f i < n) (hi : ∀ i j, i < n → j < n → f i = f j → i = j)
    (k : Nat) (hk : k < n) : ∃ i, i < n ∧ f i = k := by
  have := (cn_perm hf hi).symm.subset (List.mem_range.mpr hk)
  obtain ⟨i, hi', e⟩ := List.mem_map.mp this
  exact ⟨i, List.mem_range.mp hi', e⟩
theorem cn_re {n : Nat} {f : Nat → Nat} (hf : ∀ i, i < n → f i < n) (hi : ∀ i j, i < n → j < n → f i = f j → i = j)
    (P : Nat → Bool) : cn_ n P = cn_ n (fun i => P (f i)) := by
  unfold cn_
  rw [← (cn_perm hf hi).countP_eq P, List.countP_map]
  rfl
/-! lists of letters in order -/
def bw_x : List Nat → List Nat → Prop
  | a :: u, b :: v => a < b ∨ (a = b ∧ bw_x u v)
  | [], _ => False
  | _ :: _, [] => False
theorem bw_xi : ∀ u, ¬ bw_x u u
  | [] => fun h => h
  | a :: u => fun h => by
    rcases h with h | ⟨_, h⟩
    · omega
    · exact bw_xi u h
theorem bw_xt : ∀ u v w, bw_x u v → bw_x v w → bw_x u w
  | a :: u, b :: v, c :: w, h1, h2 => by
    rcases h1 with h1 | ⟨rfl, h1⟩
    · rcases h2 with h2 | ⟨rfl, _⟩
      · exact Or.inl (by omega)
      · exact Or.inl h1
    · rcases h2 with h2 | ⟨rfl, h2⟩
      · exact Or.inl h2
      · exact Or.inr ⟨rfl, bw_xt u v w h1 h2⟩
  | [], _, _, h1, _ => False.elim h1
  | _ :: _, [], _, h1, _ => False.elim h1
  | _ :: _, _ :: _, [], _, h2 => False.elim h2
theorem bw_x3 : ∀ u v : List Nat, u.length = v.length → bw_x u v ∨ u = v ∨ bw_x v u
  | [], [], _ => Or.inr (Or.inl rfl)
  | a :: u, b :: v, h => by
    have hl : u.length = v.length := by simpa using h
    rcases Nat.lt_trichotomy a b with c | c | c
    · exact Or.inl (Or.inl c)
    · subst c
      rcases bw_x3 u v hl with g | g | g
      · exact Or.inl (Or.inr ⟨rfl, g⟩)
      · exact Or.inr (Or.inl (by rw [g]))
      · exact Or.inr (Or.inr (Or.inr ⟨rfl, g⟩))
    · exact Or.inr (Or.inr (Or.inl c))
  | [], _ :: _, h => by simp at h
  | _ :: _, [], h => by simp at h
theorem bw_xa (c : Nat) : ∀ u v : List Nat, u.length = v.length → (bw_x (u ++ [c]) (v ++ [c]) ↔ bw_x u v)
  | [], [], _ => ⟨fun h => by
      rcases h with h | ⟨_, h⟩
      · exact absurd h (Nat.lt_irrefl c)
      · exact h, fun h => False.elim h⟩
  | a :: u, b :: v, h => by
    have hl : u.length = v.length := by simpa using h
    have ih := bw_xa c u v hl
    show (a < b ∨ (a = b ∧ bw_x (u ++ [c]) (v ++ [c]))) ↔ (a < b ∨ (a = b ∧ bw_x u v))
    rw [ih]
  | [], _ :: _, h => by simp at h
  | _ :: _, [], h => by simp at h
/-! rotations -/
def bw_nx (n l : Nat) : Nat := if l + 1 < n then l + 1 else 0
def bw_pv (n p : Nat) : Nat := if p = 0 then n - 1 else p - 1
def bw_r (t : Nat → Nat) (n : Nat) : Nat → Nat → List Nat
  | 0, _ => []
  | m + 1, l => t l :: bw_r t n m (bw_nx n l)
def bw_it (n : Nat) : Nat → Nat → Nat
  | 0, l => l
  | m + 1, l => bw_it n m (bw_nx n l)
theorem bw_nxlt {n l : Nat} (h : l < n) : bw_nx n l < n := by unfold bw_nx; split <;> omega
theorem bw_pvlt {n l : Nat} (h : l < n) : bw_pv n l < n := by unfold bw_pv; split <;> omega
theorem bw_np {n l : Nat} (h : l < n) : bw_nx n (bw_pv n l) = l := by unfold bw_nx bw_pv; split <;> split <;> omega
theorem bw_pn {n l : Nat} (h : l < n) : bw_pv n (bw_nx n l) = l := by unfold bw_nx bw_pv; split <;> split <;> omega
theorem bw_rl (t : Nat → Nat) (n : Nat) : ∀ m l, (bw_r t n m l).length = m
  | 0, _ => rfl
  | m + 1, l => by simp [bw_r, bw_rl t n m]
theorem bw_rs (t : Nat → Nat) (n : Nat) : ∀ m l, bw_r t n (m + 1) l = bw_r t n m l ++ [t (bw_it n m l)]
  | 0, _ => rfl
  | m + 1, l => by
    show t l :: bw_r t n (m + 1) (bw_nx n l) = (t l :: bw_r t n m (bw_nx n l)) ++ [t (bw_it n m (bw_nx n l))]
    rw [bw_rs t n m (bw_nx n l)]
    rfl
theorem bw_iv (n : Nat) : ∀ m l, l < n → m ≤ n → bw_it n m l = if l + m < n then l + m else l + m - n
  | 0, l, hl, _ => by
    show l = _
    rw [if_pos (by omega)]; omega
  | m + 1, l, hl, hm => by
    show bw_it n m (bw_nx n l) = _
    rw [bw_iv n m _ (bw_nxlt hl) (by omega)]
    unfold bw_nx
    by_cases c : l + 1 < n
    · rw [if_pos c]
      by_cases d : l + 1 + m < n
      · rw [if_pos d, if_pos (by omega)]; omega
      · rw [if_neg d, if_neg (by omega)]; omega
    · rw [if_neg c, if_pos (by omega), if_neg (by omega)]; omega
/-- the rotation that begins one place later: the first letter goes to the end -/
theorem bw_rot (t : Nat → Nat) {m l : Nat} (h : l < m + 1) : bw_r t (m + 1) (m + 1) (bw_nx (m + 1) l) = bw_r t (m + 1) m (bw_nx (m + 1) l) ++ [t l] := by
  rw [bw_rs]
  have e : bw_it (m + 1) m (bw_nx (m + 1) l) = bw_it (m + 1) (m + 1) l := rfl
  rw [e, bw_iv (m + 1) (m + 1) l h (Nat.le_refl _), if_neg (by omega)]
  congr 3
  omega
def bw_R (t : Nat → Nat) (n p : Nat) : List Nat := bw_r t n n p
def bw_B (t : Nat → Nat) (n p q : Nat) : Prop := bw_x (bw_R t n p) (bw_R t n q) ∨ (bw_R t n p = bw_R t n q ∧ p < q)
noncomputable def bw_b (t : Nat → Nat) (n p q : Nat) : Bool := @decide (bw_B t n p q) (Classical.propDecidable _)
theorem bw_bt {t : Nat → Nat} {n p q : Nat} : bw_b t n p q = true ↔ bw_B t n p q := by unfold bw_b; exact @decide_eq_true_iff _ (Classical.propDecidable _)
theorem bw_bf {t : Nat → Nat} {n p q : Nat} (h : ¬ bw_B t n p q) : bw_b t n p q = false := by
  cases e : bw_b t n p q with
  | false => rfl
  | true => exact absurd (bw_bt.mp e) h
theorem bw_Bi {t : Nat → Nat} {n p : Nat} : ¬ bw_B t n p p := fun h => by
  rcases h with h | ⟨_, h⟩
  · exact bw_xi _ h
  · omega
theorem bw_Bt {t : Nat → Nat} {n p q r : Nat} (h1 : bw_B t n p q) (h2 : bw_B t n q r) : bw_B t n p r := by
  rcases h1 with h1 | ⟨e1, h1⟩
  · rcases h2 with h2 | ⟨e2, _⟩
    · exact Or.inl (bw_xt _ _ _ h1 h2)
    · exact Or.inl (e2 ▸ h1)
  · rcases h2 with h2 | ⟨e2, h2⟩
    · exact Or.inl (e1 ▸ h2)
    · exact Or.inr ⟨e1.trans e2, by omega⟩
theorem bw_B3 {t : Nat → Nat} {n p q : Nat} (h : p ≠ q) : bw_B t n p q ∨ bw_B t n q p := by
  rcases bw_x3 (bw_R t n p) (bw_R t n q) (by unfold bw_R; rw [bw_rl, bw_rl]) with g | g | g
  · exact Or.inl (Or.inl g)
  · rcases Nat.lt_or_gt_of_ne h with c | c
    · exact Or.inl (Or.inr ⟨g, c⟩)
    · exact Or.inr (Or.inr ⟨g.symm, c⟩)
  · exact Or.inr (Or.inl g)
/-- the sorted place -/
noncomputable def bw_p (t : Nat → Nat) (n p : Nat) : Nat := cn_ n (fun q => bw_b t n q p)
theorem bw_plt {t : Nat → Nat} {n p : Nat} (h : p < n) : bw_p t n p < n := cn_ltn p h (bw_bf bw_Bi)
theorem bw_pmono {t : Nat → Nat} {n p q : Nat} (hp : p < n) (h : bw_B t n p q) : bw_p t n p < bw_p t n q :=
  cn_lt (fun _ _ hi => bw_bt.mpr (bw_Bt (bw_bt.mp hi) h)) p hp (bw_bf bw_Bi) (bw_bt.mpr h)
theorem bw_pinj {t : Nat → Nat} {n : Nat} (p q : Nat) (hp : p < n) (hq : q < n) (h : bw_p t n p = bw_p t n q) : p = q := by
  apply Classical.byContradiction
  intro hne
  rcases bw_B3 (t := t) (n := n) hne with c | c
  · have := bw_pmono hp c; omega
  · have := bw_pmono hq c; omega
theorem bw_piff {t : Nat → Nat} {n p q : Nat} (hp : p < n) (hq : q < n) : bw_p t n p < bw_p t n q ↔ bw_B t n p q := by
  constructor
  · intro h
    by_cases e : p = q
    · rw [e] at h; omega
    · rcases bw_B3 (t := t) (n := n) e with c | c
      · exact c
      · have := bw_pmono hq c; omega
  · exact bw_pmono hp
theorem bw_psurj {t : Nat → Nat} {n : Nat} (k : Nat) (hk : k < n) : ∃ p, p < n ∧ bw_p t n p = k :=
  cn_surj (fun _ h => bw_plt h) bw_pinj k hk
/-- of two rotations that begin with one letter, the later ones stand as they do -/
theorem bw_tl {t : Nat → Nat} {m s q : Nat} (hs : s < m + 1) (hq : q < m + 1) (e : t s = t q) :
    (bw_x (bw_R t (m + 1) (bw_nx (m + 1) s)) (bw_R t (m + 1) (bw_nx (m + 1) q)) ↔ bw_x (bw_R t (m + 1) s) (bw_R t (m + 1) q)) ∧
    (bw_R t (m + 1) (bw_nx (m + 1) s) = bw_R t (m + 1) (bw_nx (m + 1) q) ↔ bw_R t (m + 1) s = bw_R t (m + 1) q) := by
  unfold bw_R
  rw [bw_rot t hs, bw_rot t hq, e]
  have es : bw_r t (m + 1) (m + 1) s = t q :: bw_r t (m + 1) m (bw_nx (m + 1) s) := by rw [← e]; rfl
  have eq : bw_r t (m + 1) (m + 1) q = t q :: bw_r t (m + 1) m (bw_nx (m + 1) q) := rfl
  rw [es, eq]
  constructor
  · rw [bw_xa (t q) _ _ (by rw [bw_rl, bw_rl])]
    constructor
    · exact fun h => Or.inr ⟨rfl, h⟩
    · intro h
      rcases h with h | ⟨_, h⟩
      · exact absurd h (Nat.lt_irrefl _)
      · exact h
  · constructor
    · intro h
      rw [List.append_cancel_right h]
    · intro h
      rw [(List.cons.inj h).2]
/-- the way back: from the place of p to a place of the rotation one earlier (or of one that reads alike) -/
theorem bw_LF {t c : Nat → Nat} {m : Nat} (hc : ∀ p, p < m + 1 → c (bw_p t (m + 1) p) = t (bw_pv (m + 1) p)) {p : Nat} (hp : p < m + 1) :
    ∃ q, q < m + 1 ∧ cn_ (m + 1) (fun k => decide (c k < c (bw_p t (m + 1) p) ∨ (c k = c (bw_p t (m + 1) p) ∧ k < bw_p t (m + 1) p))) = bw_p t (m + 1) q ∧
      bw_R t (m + 1) q = bw_R t (m + 1) (bw_pv (m + 1) p) := by
  have hq0 := bw_pvlt hp
  have hpq := bw_np hp
  generalize hq : bw_pv (m + 1) p = q0 at hq0 hpq
  -- the count, over s
  have e1 : cn_ (m + 1) (fun k => decide (c k < c (bw_p t (m + 1) p) ∨ (c k = c (bw_p t (m + 1) p) ∧ k < bw_p t (m + 1) p)))
      = cn_ (m + 1) (fun s => @decide (bw_x (bw_R t (m + 1) s) (bw_R t (m + 1) q0) ∨ (bw_R t (m + 1) s = bw_R t (m + 1) q0 ∧ bw_nx (m + 1) s < bw_nx (m + 1) q0)) (Classical.propDecidable _)) := by
    rw [cn_re (f := bw_p t (m + 1)) (fun _ h => bw_plt h) bw_pinj]
    rw [cn_re (f := bw_nx (m + 1)) (fun _ h => bw_nxlt h) (fun i j hi hj e => by rw [← bw_pn hi, ← bw_pn hj, e])]
    apply cn_congr
    intro s hs
    have hs' := bw_nxlt hs
    rw [Bool.eq_iff_iff, decide_eq_true_iff, @decide_eq_true_iff _ (Classical.propDecidable _)]
    rw [hc _ hs', hc _ hp, bw_pn hs, hq, bw_piff hs' hp]
    unfold bw_B
    rw [← hpq]
    constructor
    · intro h
      rcases h with h | ⟨e, h⟩
      · exact Or.inl (Or.inl h)
      · have := bw_tl hs hq0 e
        rw [this.1, this.2] at h
        exact h
    · intro h
      by_cases e : t s = t q0
      · have := bw_tl hs hq0 e
        rw [← this.1, ← this.2] at h
        exact Or.inr ⟨e, h⟩
      · rcases h with h | ⟨h, _⟩
        · rcases h with h | ⟨h, _⟩
          · exact Or.inl h
          · exact absurd h e
        · exact absurd (List.cons.inj h).1 e
  rw [e1]
  generalize hG : (fun s => @decide (bw_x (bw_R t (m + 1) s) (bw_R t (m + 1) q0) ∨ (bw_R t (m + 1) s = bw_R t (m + 1) q0 ∧ bw_nx (m + 1) s < bw_nx (m + 1) q0)) (Classical.propDecidable _)) = G
  have hGi : ∀ s, G s = true ↔ (bw_x (bw_R t (m + 1) s) (bw_R t (m + 1) q0) ∨ (bw_R t (m + 1) s = bw_R t (m + 1) q0 ∧ bw_nx (m + 1) s < bw_nx (m + 1) q0)) := by
    intro s
    rw [← hG]
    exact @decide_eq_true_iff _ (Classical.propDecidable _)
  have hG0 : G q0 = false := by
    cases e : G q0 with
    | false => rfl
    | true =>
      rcases (hGi q0).mp e with h | ⟨_, h⟩
      · exact absurd h (bw_xi _)
      · omega
  obtain ⟨q, hql, hqe⟩ := bw_psurj (t := t) (cn_ (m + 1) G) (cn_ltn q0 hq0 hG0)
  refine ⟨q, hql, hqe.symm, ?_⟩
  rcases bw_x3 (bw_R t (m + 1) q) (bw_R t (m + 1) q0) (by unfold bw_R; rw [bw_rl, bw_rl]) with g | g | g
  · have : bw_p t (m + 1) q < cn_ (m + 1) G := by
      refine cn_lt ?_ q hql (bw_bf bw_Bi) ((hGi q).mpr (Or.inl g))
      intro s _ hs
      refine (hGi s).mpr (Or.inl ?_)
      rcases bw_bt.mp hs with h | ⟨h, _⟩
      · exact bw_xt _ _ _ h g
      · rw [h]; exact g
    omega
  · exact g
  · have : cn_ (m + 1) G < bw_p t (m + 1) q := by
      refine cn_lt ?_ q0 hq0 hG0 (bw_bt.mpr (Or.inl g))
      intro s _ hs
      refine bw_bt.mpr (Or.inl ?_)
      rcases (hGi s).mp hs with h | ⟨h, _⟩
      · exact bw_xt _ _ _ h g
      · rw [h]; exact g
    omega
/-- rotations that read alike have like last letters, and what comes one earlier reads alike -/
theorem bw_same {t : Nat → Nat} {m p q : Nat} (hp : p < m + 1) (hq : q < m + 1) (h : bw_R t (m + 1) p = bw_R t (m + 1) q) :
    t (bw_pv (m + 1) p) = t (bw_pv (m + 1) q) ∧ bw_R t (m + 1) (bw_pv (m + 1) p) = bw_R t (m + 1) (bw_pv (m + 1) q) := by
  have a1 := bw_rot t (bw_pvlt hp)
  have a2 := bw_rot t (bw_pvlt hq)
  rw [bw_np hp] at a1
  rw [bw_np hq] at a2
  unfold bw_R at h
  rw [a1, a2] at h
  have b := List.append_inj' h rfl
  have e : t (bw_pv (m + 1) p) = t (bw_pv (m + 1) q) := (List.cons.inj b.2).1
  refine ⟨e, ?_⟩
  have c1 : bw_R t (m + 1) (bw_pv (m + 1) p) = t (bw_pv (m + 1) p) :: bw_r t (m + 1) m (bw_nx (m + 1) (bw_pv (m + 1) p)) := rfl
  have c2 : bw_R t (m + 1) (bw_pv (m + 1) q) = t (bw_pv (m + 1) q) :: bw_r t (m + 1) m (bw_nx (m + 1) (bw_pv (m + 1) q)) := rfl
  rw [c1, c2, bw_np hp, bw_np hq, e, b.1]
end
section
/-! Huffman's lower bound over lists of pairs (weight, length), lengths at most 6, Kraft's sum in 64ths -/
def hf_kr : List (Nat × Nat) → Nat
  | [] => 0
  | p :: ps => 2 ^ (6 - p.2) + hf_kr ps
def hf_c : List (Nat × Nat) → Nat
  | [] => 0
  | p :: ps => p.1 * p.2 + hf_c ps
theorem hf_krP {a b : List (Nat × Nat)} (h : a.Perm b) : hf_kr a = hf_kr b := by
  induction h with
  | nil => rfl
  | cons x _ ih => simp only [hf_kr, ih]
  | swap x y l => simp only [hf_kr]; exact Nat.add_left_comm _ _ _
  | trans _ _ h1 h2 => exact h1.trans h2
theorem hf_cP {a b : List (Nat × Nat)} (h : a.Perm b) : hf_c a = hf_c b := by
  induction h with
  | nil => rfl
  | cons x _ ih => simp only [hf_c, ih]
  | swap x y l => simp only [hf_c]; exact Nat.add_left_comm _ _ _
  | trans _ _ h1 h2 => exact h1.trans h2
theorem hf_re {a w l0 l : Nat} (h : a ≤ w) (hl : l0 ≤ l) : a * l + w * l0 ≤ a * l0 + w * l := by
  obtain ⟨d, rfl⟩ := Nat.exists_eq_add_of_le h
  obtain ⟨e, rfl⟩ := Nat.exists_eq_add_of_le hl
  simp only [Nat.add_mul, Nat.mul_add]
  omega
/-- a's length is carried through the list: where a longer one stands, the two lengths change places -/
theorem hf_bub (a : Nat) : ∀ (xs : List (Nat × Nat)) (l0 : Nat), l0 ≤ 6 → (∀ p ∈ xs, a ≤ p.1 ∧ p.2 ≤ 6) →
    ∃ (M : Nat) (ys : List (Nat × Nat)), l0 ≤ M ∧ M ≤ 6 ∧ ys.map Prod.fst = xs.map Prod.fst ∧ (∀ p ∈ ys, p.2 ≤ M) ∧
      hf_kr ys + 2 ^ (6 - M) = hf_kr xs + 2 ^ (6 - l0) ∧ a * M + hf_c ys ≤ a * l0 + hf_c xs ∧
      (∀ B, l0 ≤ B → (∀ p ∈ xs, p.2 ≤ B) → M ≤ B) ∧ (∀ B, B ≤ l0 → (∀ p ∈ xs, B ≤ p.2) → ∀ p ∈ ys, B ≤ p.2) := by
  intro xs
  induction xs with
  | nil =>
    intro l0 h0 _
    exact ⟨l0, [], Nat.le_refl _, h0, rfl, (fun p hp => by cases hp), rfl, Nat.le_refl _, (fun B hB _ => hB), (fun _ _ _ p hp => by cases hp)⟩
  | cons x xs ih =>
    intro l0 h0 hx
    obtain ⟨w, l⟩ := x
    have hw := hx (w, l) List.mem_cons_self
    have hr : ∀ p ∈ xs, a ≤ p.1 ∧ p.2 ≤ 6 := fun p hp => hx p (List.mem_cons_of_mem _ hp)
    dsimp only at hw
    by_cases hl : l ≤ l0
    · obtain ⟨M, ys, h1, h2, h3, h4, h5, h6, h7, h8⟩ := ih l0 h0 hr
      refine ⟨M, (w, l) :: ys, h1, h2, by simp [h3], ?_, ?_, ?_, ?_, ?_⟩
      · intro p hp
        cases hp with
        | head => exact Nat.le_trans hl h1
        | tail _ hp => exact h4 p hp
      · simp only [hf_kr]; omega
      · simp only [hf_c]; omega
      · exact fun B hB h => h7 B hB fun p hp => h p (List.mem_cons_of_mem _ hp)
      · intro B hB h p hp
        cases hp with
        | head => exact h (w, l) List.mem_cons_self
        | tail _ hp => exact h8 B hB (fun p hp => h p (List.mem_cons_of_mem _ hp)) p hp
    · obtain ⟨M, ys, h1, h2, h3, h4, h5, h6, h7, h8⟩ := ih l hw.2 hr
      refine ⟨M, (w, l0) :: ys, by omega, h2, by simp [h3], ?_, ?_, ?_, ?_, ?_⟩
      · intro p hp
        cases hp with
        | head => show l0 ≤ M; omega
        | tail _ hp => exact h4 p hp
      · simp only [hf_kr]; omega
      · simp only [hf_c]
        have e := hf_re (l0 := l0) (l := l) hw.1 (by omega)
        omega
      · exact fun B _ h => h7 B (h (w, l) List.mem_cons_self) fun p hp => h p (List.mem_cons_of_mem _ hp)
      · intro B hB h p hp
        cases hp with
        | head => exact hB
        | tail _ hp => exact h8 B (h (w, l) List.mem_cons_self) (fun p hp => h p (List.mem_cons_of_mem _ hp)) p hp
theorem hf_dv (M : Nat) : ∀ xs : List (Nat × Nat), (∀ p ∈ xs, p.2 ≤ M) → 2 ^ (6 - M) ∣ hf_kr xs
  | [], _ => ⟨0, rfl⟩
  | x :: xs, h => by
    have hx := h x List.mem_cons_self
    exact Nat.dvd_add (Nat.pow_dvd_pow 2 (by omega)) (hf_dv M xs fun p hp => h p (List.mem_cons_of_mem _ hp))
theorem hf_gap {D a b : Nat} (ha : D ∣ a) (hb : D ∣ b) (h : a < b) : a + D ≤ b := by
  obtain ⟨u, rfl⟩ := ha
  obtain ⟨v, rfl⟩ := hb
  have huv : u < v := by
    apply Nat.lt_of_not_le
    intro hh
    exact absurd h (Nat.not_lt.mpr (Nat.mul_le_mul_left D hh))
  have := Nat.mul_le_mul_left D (Nat.succ_le_of_lt huv)
  rw [Nat.mul_succ] at this
  exact this
theorem hf_p2 {L : Nat} (h1 : 1 ≤ L) (h6 : L ≤ 6) : 2 ^ (6 - (L - 1)) = 2 ^ (6 - L) + 2 ^ (6 - L) := by
  have e : 6 - (L - 1) = (6 - L) + 1 := by omega
  rw [e, Nat.pow_succ]; omega
theorem hf_step {a b la lb : Nat} {xs : List (Nat × Nat)} (hab : a ≤ b) (hla : la ≤ 6) (hlb : lb ≤ 6)
    (hx : ∀ p ∈ xs, b ≤ p.1 ∧ p.2 ≤ 6) (hk : 2 ^ (6 - la) + (2 ^ (6 - lb) + hf_kr xs) ≤ 64) :
    ∃ (c : Nat) (ys : List (Nat × Nat)), c ≤ 6 ∧ ys.map Prod.fst = xs.map Prod.fst ∧ (∀ p ∈ ys, p.2 ≤ 6) ∧
      2 ^ (6 - c) + hf_kr ys ≤ 64 ∧ (a + b) * c + hf_c ys + (a + b) ≤ a * la + (b * lb + hf_c xs) := by
  have hin : ∀ p ∈ (b, lb) :: xs, a ≤ p.1 ∧ p.2 ≤ 6 := by
    intro p hp
    cases hp with
    | head => exact ⟨hab, hlb⟩
    | tail _ hp => exact ⟨Nat.le_trans hab (hx p hp).1, (hx p hp).2⟩
  obtain ⟨M, zs, h1, h2, h3, h4, h5, h6, _, _⟩ := hf_bub a ((b, lb) :: xs) la hla hin
  cases zs with
  | nil => simp at h3
  | cons z zs =>
    obtain ⟨b', m⟩ := z
    simp only [List.map_cons, List.cons.injEq] at h3
    obtain ⟨hb', h3⟩ := h3
    subst hb'
    have hm : m ≤ M := h4 (b', m) List.mem_cons_self
    have hz : ∀ p ∈ zs, b' ≤ p.1 ∧ p.2 ≤ 6 := by
      intro p hp
      have hp1 : p.1 ∈ xs.map Prod.fst := by rw [← h3]; exact List.mem_map_of_mem hp
      obtain ⟨q, hq, e⟩ := List.mem_map.mp hp1
      exact ⟨by rw [← e]; exact (hx q hq).1, Nat.le_trans (h4 p (List.mem_cons_of_mem _ hp)) h2⟩
    obtain ⟨L, ys, g1, g2, g3, g4, g5, g6, g7, _⟩ := hf_bub b' zs m (by omega) hz
    have hLM : L ≤ M := g7 M hm fun p hp => h4 p (List.mem_cons_of_mem _ hp)
    simp only [hf_kr, hf_c] at h5 h6
    have hK : hf_kr ys + 2 ^ (6 - L) + 2 ^ (6 - M) ≤ 64 := by omega
    have hpos : 0 < 2 ^ (6 - M) := Nat.pow_pos (by decide)
    have hK2 : hf_kr ys + 2 ^ (6 - L) + 2 ^ (6 - L) ≤ 64 := by
      by_cases e : L = M
      · rw [e] at hK ⊢; exact hK
      · refine hf_gap (Nat.dvd_add (hf_dv L ys g4) (Nat.dvd_refl _)) ?_ (by omega)
        exact (show (64 : Nat) = 2 ^ 6 from rfl) ▸ Nat.pow_dvd_pow 2 (by omega)
    have hL1 : 1 ≤ L := by
      apply Nat.pos_of_ne_zero
      intro e
      subst e
      simp at hK2
    refine ⟨L - 1, ys, by omega, g3.trans h3, fun p hp => Nat.le_trans (g4 p hp) g2, ?_, ?_⟩
    · rw [hf_p2 hL1 g2]; omega
    · have e : (a + b') * (L - 1) + (a + b') = a * L + b' * L := by
        obtain ⟨k, rfl⟩ := Nat.exists_eq_add_of_le hL1
        simp only [Nat.add_sub_cancel_left, Nat.add_mul, Nat.mul_add]
        omega
      have e2 : a * L ≤ a * M := Nat.mul_le_mul_left a hLM
      omega
theorem hf_pull {x : Nat} {ys : List Nat} {ps : List (Nat × Nat)} (h : (ps.map Prod.fst).Perm (x :: ys)) :
    ∃ (l : Nat) (qs : List (Nat × Nat)), ps.Perm ((x, l) :: qs) ∧ (qs.map Prod.fst).Perm ys := by
  have hm : x ∈ ps.map Prod.fst := h.symm.subset List.mem_cons_self
  obtain ⟨p, hp, rfl⟩ := List.mem_map.mp hm
  have e := List.perm_cons_erase hp
  exact ⟨p.2, ps.erase p, e, ((e.map Prod.fst).symm.trans h).cons_inv⟩
/-- R bounds from below the cost of every code for the weights ws -/
def hf_LB (ws : List Nat) (R : Nat) : Prop :=
  ∀ ps : List (Nat × Nat), (ps.map Prod.fst).Perm ws → (∀ p ∈ ps, p.2 ≤ 6) → hf_kr ps ≤ 64 → R ≤ hf_c ps
theorem hf_LB1 (ws : List Nat) : hf_LB ws 0 := fun _ _ _ _ => Nat.zero_le _
theorem hf_LBp {a b : List Nat} {R : Nat} (h : a.Perm b) (H : hf_LB a R) : hf_LB b R :=
  fun ps hp h6 hk => H ps (hp.trans h.symm) h6 hk
theorem hf_LBs {a b R : Nat} {ws : List Nat} (hab : a ≤ b) (hb : ∀ x ∈ ws, b ≤ x) (H : hf_LB ((a + b) :: ws) R) :
    hf_LB (a :: b :: ws) (R + (a + b)) := by
  intro ps hp h6 hk
  obtain ⟨la, qs, p1, p2⟩ := hf_pull hp
  obtain ⟨lb, rs, q1, q2⟩ := hf_pull p2
  have pp : ps.Perm ((a, la) :: (b, lb) :: rs) := p1.trans (q1.cons _)
  have hmem : ∀ p ∈ (a, la) :: (b, lb) :: rs, p.2 ≤ 6 := fun p hp => h6 p (pp.symm.subset hp)
  have hr : ∀ p ∈ rs, b ≤ p.1 ∧ p.2 ≤ 6 := fun p hp =>
    ⟨hb _ (q2.subset (List.mem_map_of_mem hp)), hmem p (List.mem_cons_of_mem _ (List.mem_cons_of_mem _ hp))⟩
  rw [hf_krP pp] at hk
  rw [hf_cP pp]
  simp only [hf_kr, hf_c] at hk ⊢
  obtain ⟨c, ys, g1, g2, g3, g4, g5⟩ := hf_step hab (hmem (a, la) List.mem_cons_self)
    (hmem (b, lb) (List.mem_cons_of_mem _ List.mem_cons_self)) hr hk
  have := H ((a + b, c) :: ys) (by
    simp only [List.map_cons, g2]
    exact q2.cons _) (by
    intro p hp
    cases hp with
    | head => exact g1
    | tail _ hp => exact g3 p hp) (by simp only [hf_kr]; exact g4)
  simp only [hf_c] at this
  dsimp only at g5
  omega
theorem hf_krA : ∀ a b : List (Nat × Nat), hf_kr (a ++ b) = hf_kr a + hf_kr b
  | [], b => by simp [hf_kr]
  | x :: a, b => by simp only [List.cons_append, hf_kr, hf_krA a b]; omega
theorem hf_cA : ∀ a b : List (Nat × Nat), hf_c (a ++ b) = hf_c a + hf_c b
  | [], b => by simp [hf_c]
  | x :: a, b => by simp only [List.cons_append, hf_c, hf_cA a b]; omega
/-- a code for weights in descending order can be had with lengths in ascending order, no dearer -/
theorem hf_sort : ∀ (n : Nat) (ws : List Nat) (ps : List (Nat × Nat)), ws.length = n → ws.Pairwise (fun x y => y ≤ x) →
    (ps.map Prod.fst).Perm ws → (∀ p ∈ ps, 1 ≤ p.2 ∧ p.2 ≤ 6) →
    ∃ ls : List Nat, ls.length = n ∧ ls.Pairwise (fun x y => x ≤ y) ∧ (∀ l ∈ ls, 1 ≤ l ∧ l ≤ 6) ∧
      (∀ B, (∀ p ∈ ps, p.2 ≤ B) → ∀ l ∈ ls, l ≤ B) ∧
      hf_kr (ws.zip ls) = hf_kr ps ∧ hf_c (ws.zip ls) ≤ hf_c ps := by
  intro n
  induction n with
  | zero =>
    intro ws ps hn _ hp _
    have hw : ws = [] := List.length_eq_zero_iff.mp hn
    subst hw
    have hps : ps = [] := by
      have := hp.length_eq
      simp at this
      exact this
    subst hps
    exact ⟨[], rfl, List.Pairwise.nil, (fun l hl => by cases hl), (fun _ _ l hl => by cases hl), rfl, Nat.le_refl _⟩
  | succ n ih =>
    intro ws ps hn hs hp hl
    rcases List.eq_nil_or_concat ws with rfl | ⟨vs, a, rfl⟩
    · simp at hn
    · rw [List.concat_eq_append] at *
      have hvn : vs.length = n := by simp at hn; exact hn
      rw [List.pairwise_append] at hs
      obtain ⟨hs1, _, hs3⟩ := hs
      have hp' : (ps.map Prod.fst).Perm (a :: vs) := hp.trans List.perm_append_comm
      obtain ⟨l, qs, p1, p2⟩ := hf_pull hp'
      have hmem : ∀ p ∈ (a, l) :: qs, 1 ≤ p.2 ∧ p.2 ≤ 6 := fun p hp => hl p (p1.symm.subset hp)
      have hl0 := hmem (a, l) List.mem_cons_self
      dsimp only at hl0
      have hq : ∀ p ∈ qs, a ≤ p.1 ∧ p.2 ≤ 6 := fun p hp =>
        ⟨hs3 _ (p2.subset (List.mem_map_of_mem hp)) a (List.mem_singleton.mpr rfl), (hmem p (List.mem_cons_of_mem _ hp)).2⟩
      obtain ⟨M, ys, h1, h2, h3, h4, h5, h6, h7, h8⟩ := hf_bub a qs l hl0.2 hq
      have hy1 : ∀ p ∈ ys, 1 ≤ p.2 := h8 1 hl0.1 fun p hp => (hmem p (List.mem_cons_of_mem _ hp)).1
      obtain ⟨ls, k1, k2, k3, k4, k5, k6⟩ := ih vs ys hvn hs1 (by rw [h3]; exact p2) fun p hp =>
        ⟨hy1 p hp, Nat.le_trans (h4 p hp) h2⟩
      refine ⟨ls ++ [M], by simp [k1], ?_, ?_, ?_, ?_, ?_⟩
      · rw [List.pairwise_append]
        refine ⟨k2, List.pairwise_singleton _ _, ?_⟩
        intro x hx y hy
        rw [List.mem_singleton.mp hy]
        exact k4 M h4 x hx
      · intro x hx
        rcases List.mem_append.mp hx with hx | hx
        · exact k3 x hx
        · rw [List.mem_singleton.mp hx]; exact ⟨by omega, h2⟩
      · intro B hB x hx
        have hBm : M ≤ B := h7 B (hB (a, l) (p1.symm.subset List.mem_cons_self)) fun p hp =>
          hB p (p1.symm.subset (List.mem_cons_of_mem _ hp))
        rcases List.mem_append.mp hx with hx | hx
        · exact Nat.le_trans (k4 M h4 x hx) hBm
        · rw [List.mem_singleton.mp hx]; exact hBm
      · rw [List.zip_append (by rw [hvn, k1]), hf_krA, k5, hf_krP p1]
        simp only [List.zip_cons_cons, List.zip_nil_right, hf_kr]
        omega
      · rw [List.zip_append (by rw [hvn, k1]), hf_cA, hf_cP p1]
        simp only [List.zip_cons_cons, List.zip_nil_right, hf_c]
        omega
end
section
/-! the reference's way through the lists of lengths, and the least cost that it finds -/
def en_nx : List Nat → Option (List Nat)
  | [] => none
  | x :: xs => match en_nx xs with
    | some ys => some (x :: ys)
    | none => if x < 6 then some (List.replicate (xs.length + 1) (x + 1)) else none
def en_ef : Nat → List Nat → List (List Nat)
  | 0, _ => []
  | n + 1, v => v :: (match en_nx v with
    | none => []
    | some w => en_ef n w)
def en_gen : Nat → Nat → List (List Nat)
  | 0, _ => [[]]
  | k + 1, lo => [1, 2, 3, 4, 5, 6].flatMap fun x => if lo ≤ x then (en_gen k x).map (fun v => x :: v) else []
theorem en_mem : ∀ (v : List Nat) (lo : Nat), v.Pairwise (fun x y => x ≤ y) → (∀ x ∈ v, lo ≤ x ∧ 1 ≤ x ∧ x ≤ 6) → v ∈ en_gen v.length lo
  | [], _, _, _ => List.mem_singleton.mpr rfl
  | x :: v, lo, hs, h => by
    rw [List.pairwise_cons] at hs
    have hx := h x List.mem_cons_self
    have ih := en_mem v x hs.2 fun y hy => ⟨hs.1 y hy, (h y (List.mem_cons_of_mem _ hy)).2⟩
    show x :: v ∈ [1, 2, 3, 4, 5, 6].flatMap _
    refine List.mem_flatMap.mpr ⟨x, ?_, ?_⟩
    · have h1 := hx.2.1
      have h2 := hx.2.2
      have : x = 1 ∨ x = 2 ∨ x = 3 ∨ x = 4 ∨ x = 5 ∨ x = 6 := by omega
      simpa using this
    · rw [if_pos hx.1]
      exact List.mem_map_of_mem ih
theorem en_genok : ∀ (k lo : Nat) (v : List Nat), v ∈ en_gen k lo → v.length = k ∧ ∀ x ∈ v, 1 ≤ x ∧ x ≤ 6
  | 0, _, v, h => by
    rw [List.mem_singleton.mp h]
    exact ⟨rfl, fun x hx => by cases hx⟩
  | k + 1, lo, v, h => by
    obtain ⟨x, hx, hv⟩ := List.mem_flatMap.mp (show v ∈ [1, 2, 3, 4, 5, 6].flatMap _ from h)
    by_cases hl : lo ≤ x
    · rw [if_pos hl] at hv
      obtain ⟨w, hw, rfl⟩ := List.mem_map.mp hv
      have ih := en_genok k x w hw
      refine ⟨by simp [ih.1], ?_⟩
      intro y hy
      cases hy with
      | head =>
        have : x = 1 ∨ x = 2 ∨ x = 3 ∨ x = 4 ∨ x = 5 ∨ x = 6 := by simpa using hx
        omega
      | tail _ hy => exact ih.2 y hy
    · rw [if_neg hl] at hv
      cases hv
theorem en_a1 : en_ef 800 (List.replicate 1 1) = en_gen 1 1 := by decide +kernel
theorem en_a2 : en_ef 800 (List.replicate 2 1) = en_gen 2 1 := by decide +kernel
theorem en_a3 : en_ef 800 (List.replicate 3 1) = en_gen 3 1 := by decide +kernel
theorem en_a4 : en_ef 800 (List.replicate 4 1) = en_gen 4 1 := by decide +kernel
theorem en_a5 : en_ef 800 (List.replicate 5 1) = en_gen 5 1 := by decide +kernel
theorem en_a6 : en_ef 800 (List.replicate 6 1) = en_gen 6 1 := by decide +kernel
theorem en_a7 : en_ef 800 (List.replicate 7 1) = en_gen 7 1 := by decide +kernel
theorem en_all (K : Nat) (h1 : 1 ≤ K) (h7 : K ≤ 7) : en_ef 800 (List.replicate K 1) = en_gen K 1 := by
  have : K = 1 ∨ K = 2 ∨ K = 3 ∨ K = 4 ∨ K = 5 ∨ K = 6 ∨ K = 7 := by omega
  rcases this with rfl | rfl | rfl | rfl | rfl | rfl | rfl
  · exact en_a1
  · exact en_a2
  · exact en_a3
  · exact en_a4
  · exact en_a5
  · exact en_a6
  · exact en_a7
/-- one way's turn: the least so far, and the new one -/
def en_t (o : List Nat) (least : Nat) (v : List Nat) : Nat :=
  if hf_kr (o.zip v) ≤ 64 ∧ (least = 0 ∨ hf_c (o.zip v) < least) then hf_c (o.zip v) else least
def en_f (o : List Nat) (least : Nat) : List (List Nat) → Nat
  | [] => least
  | v :: vs => en_f o (en_t o least v) vs
/-- all codes tried cost R or more, one of them R: then R is found -/
theorem en_min (o : List Nat) (R : Nat) (hR : 0 < R) : ∀ (vs : List (List Nat)) (least : Nat), (least = 0 ∨ R ≤ least) →
    (∀ v ∈ vs, hf_kr (o.zip v) ≤ 64 → R ≤ hf_c (o.zip v)) →
    (least = R ∨ ∃ v ∈ vs, hf_kr (o.zip v) ≤ 64 ∧ hf_c (o.zip v) ≤ R) → en_f o least vs = R
  | [], least, _, _, h => by
    rcases h with h | ⟨v, hv, _⟩
    · exact h
    · cases hv
  | v :: vs, least, h0, hl, h => by
    have hv := hl v List.mem_cons_self
    have hl' : ∀ w ∈ vs, hf_kr (o.zip w) ≤ 64 → R ≤ hf_c (o.zip w) := fun w hw => hl w (List.mem_cons_of_mem _ hw)
    show en_f o (en_t o least v) vs = R
    apply en_min o R hR vs _ ?_ hl'
    · unfold en_t
      by_cases c : hf_kr (o.zip v) ≤ 64 ∧ (least = 0 ∨ hf_c (o.zip v) < least)
      · rw [if_pos c]
        have hc := hv c.1
        rcases h with h | ⟨w, hw, k1, k2⟩
        · left; omega
        · cases hw with
          | head => left; omega
          | tail _ hw => exact Or.inr ⟨w, hw, k1, k2⟩
      · rw [if_neg c]
        rcases h with h | ⟨w, hw, k1, k2⟩
        · exact Or.inl h
        · cases hw with
          | head =>
            left
            have hc := hv k1
            have : ¬ (least = 0 ∨ hf_c (o.zip v) < least) := fun z => c ⟨k1, z⟩
            omega
          | tail _ hw => exact Or.inr ⟨w, hw, k1, k2⟩
    · unfold en_t
      by_cases c : hf_kr (o.zip v) ≤ 64 ∧ (least = 0 ∨ hf_c (o.zip v) < least)
      · rw [if_pos c]; exact Or.inr (hv c.1)
      · rw [if_neg c]; exact h0
end
section
/-! the code's tree as it grows -/
def ht_sm : Nat → (Nat → Nat) → Nat
  | 0, _ => 0
  | n + 1, g => ht_sm n g + g n
theorem ht_smc : ∀ {n : Nat} {g h : Nat → Nat}, (∀ i, i < n → g i = h i) → ht_sm n g = ht_sm n h
  | 0, _, _, _ => rfl
  | n + 1, g, h, e => by
    show ht_sm n g + g n = ht_sm n h + h n
    rw [ht_smc (fun i hi => e i (by omega)), e n (by omega)]
theorem ht_sma : ∀ (n : Nat) (g h : Nat → Nat), ht_sm n (fun i => g i + h i) = ht_sm n g + ht_sm n h
  | 0, _, _ => rfl
  | n + 1, g, h => by
    show ht_sm n (fun i => g i + h i) + (g n + h n) = ht_sm n g + g n + (ht_sm n h + h n)
    rw [ht_sma n g h]; omega
theorem ht_sm0 : ∀ (n : Nat), ht_sm n (fun _ => 0) = 0
  | 0 => rfl
  | n + 1 => ht_sm0 n
def ht_ch (par : Nat → Option Nat) (sd : Nat → Nat) : Nat → List Nat → Nat → Prop
  | k, [], v => k = v
  | k, b :: Q, v => ∃ p, par k = some p ∧ sd k = b ∧ ht_ch par sd p Q v
/-- what is hung elsewhere leaves a chain as it is -/
theorem ht_chf {par par' : Nat → Option Nat} {sd sd' : Nat → Nat} (h : ∀ u p, par u = some p → par' u = some p ∧ sd' u = sd u) :
    ∀ (Q : List Nat) (k v : Nat), ht_ch par sd k Q v → ht_ch par' sd' k Q v
  | [], _, _, e => e
  | _ :: Q, _, _, ⟨p, e1, e2, e3⟩ => ⟨p, (h _ p e1).1, (h _ p e1).2.trans e2, ht_chf h Q p _ e3⟩
theorem ht_chx {par par' : Nat → Option Nat} {sd sd' : Nat → Nat} (h : ∀ u p, par u = some p → par' u = some p ∧ sd' u = sd u) {v nd b : Nat}
    (h1 : par' v = some nd) (h2 : sd' v = b) :
    ∀ (Q : List Nat) (k : Nat), ht_ch par sd k Q v → ht_ch par' sd' k (Q ++ [b]) nd
  | [], _, e => ⟨nd, e ▸ h1, e ▸ h2, rfl⟩
  | _ :: Q, _, ⟨p, e1, e2, e3⟩ => ⟨p, (h _ p e1).1, (h _ p e1).2.trans e2, ht_chx h h1 h2 Q p e3⟩
def ht_N (op : Nat → Bool) : List Nat := (List.range 13).filter op
def ht_L (op : Nat → Bool) (wt : Nat → Nat) : List Nat := (ht_N op).map wt
def ht_op (op : Nat → Bool) (f s nd : Nat) : Nat → Bool := fun v => if v = nd then true else if v = f ∨ v = s then false else op v
def ht_wt (wt : Nat → Nat) (f s nd : Nat) : Nat → Nat := fun v => if v = nd then wt f + wt s else wt v
def ht_par (par : Nat → Option Nat) (f s nd : Nat) : Nat → Option Nat := fun v => if v = f ∨ v = s then some nd else par v
def ht_sd (sd : Nat → Nat) (f s : Nat) : Nat → Nat := fun v => if v = s then 1 else if v = f then 0 else sd v
def ht_A (A : Nat → Nat) (f s nd : Nat) : Nat → Nat := fun k => if A k = f ∨ A k = s then nd else A k
def ht_Q (A : Nat → Nat) (Q : Nat → List Nat) (f s : Nat) : Nat → List Nat := fun k => if A k = f then Q k ++ [0] else if A k = s then Q k ++ [1] else Q k
/-- w: how often each kind occurs; j nodes are joined; A k: the root above k now, Q k: the sides from k up to it; R: what the joins cost -/
def ht_I (w : Nat → Nat) (W0 : List Nat) (K j : Nat) (op : Nat → Bool) (wt : Nat → Nat) (par : Nat → Option Nat) (sd : Nat → Nat) (A : Nat → Nat) (Q : Nat → List Nat) (R : Nat) : Prop :=
  (∀ v, op v = true → v < 7 + j ∧ par v = none) ∧ (∀ v, 7 + j ≤ v → par v = none) ∧
  (∀ k, k < 7 → 0 < w k → op (A k) = true ∧ ht_ch par sd k (Q k) (A k) ∧ (Q k).length ≤ j ∧ ∀ b ∈ Q k, b < 2) ∧
  (∀ v, op v = true → wt v = ht_sm 7 (fun k => if A k = v then w k else 0)) ∧
  (∀ v, op v = true → ht_sm 7 (fun k => if 0 < w k ∧ A k = v then 2 ^ (6 - (Q k).length) else 0) = 64) ∧
  (∀ k k', k < 7 → k' < 7 → 0 < w k → 0 < w k' → k ≠ k' → A k = A k' → ¬ Q k <:+ Q k') ∧
  ht_sm 7 (fun k => w k * (Q k).length) = R ∧
  (∀ R', hf_LB (ht_L op wt) R' → hf_LB W0 (R' + R)) ∧
  (∀ k, k < 7 → w k = 0 → op k = false ∧ par k = none) ∧
  (ht_N op).length + j = K ∧ (1 ≤ j → op (6 + j) = true)
theorem ht_Nm {op : Nat → Bool} {v : Nat} : v ∈ ht_N op ↔ v < 13 ∧ op v = true := by
  unfold ht_N
  rw [List.mem_filter, List.mem_range]
theorem ht_Nd (op : Nat → Bool) : (ht_N op).Nodup := List.Pairwise.filter _ List.nodup_range
theorem ht_Np {op : Nat → Bool} {f s : Nat} (hf : f < 13) (hs : s < 13) (of : op f = true) (os : op s = true) (hfs : f ≠ s) :
    (ht_N op).Perm (f :: s :: ht_N (fun v => op v && !(v == f) && !(v == s))) := by
  rw [List.perm_ext_iff_of_nodup (ht_Nd op) (by
    rw [List.nodup_cons, List.nodup_cons]
    refine ⟨?_, ?_, ht_Nd _⟩
    · intro h
      rcases List.mem_cons.mp h with h | h
      · exact hfs h
      · have := (ht_Nm.mp h).2
        simp at this
    · intro h
      have := (ht_Nm.mp h).2
      simp at this)]
  intro a
  rw [List.mem_cons, List.mem_cons, ht_Nm, ht_Nm]
  constructor
  · intro ⟨h1, h2⟩
    by_cases e1 : a = f
    · exact Or.inl e1
    · by_cases e2 : a = s
      · exact Or.inr (Or.inl e2)
      · exact Or.inr (Or.inr ⟨h1, by simp [h2, e1, e2]⟩)
  · intro h
    rcases h with rfl | rfl | ⟨h1, h2⟩
    · exact ⟨hf, of⟩
    · exact ⟨hs, os⟩
    · simp only [Bool.and_eq_true] at h2
      exact ⟨h1, h2.1.1⟩
theorem ht_Nq {op : Nat → Bool} {f s nd : Nat} (hn : nd < 13) (on : op nd = false) :
    (ht_N (ht_op op f s nd)).Perm (nd :: ht_N (fun v => op v && !(v == f) && !(v == s))) := by
  rw [List.perm_ext_iff_of_nodup (ht_Nd _) (by
    rw [List.nodup_cons]
    refine ⟨?_, ht_Nd _⟩
    intro h
    have := (ht_Nm.mp h).2
    simp [on] at this)]
  intro a
  rw [List.mem_cons, ht_Nm, ht_Nm]
  unfold ht_op
  constructor
  · intro ⟨h1, h2⟩
    by_cases e0 : a = nd
    · exact Or.inl e0
    · rw [if_neg e0] at h2
      by_cases e : a = f ∨ a = s
      · rw [if_pos e] at h2; cases h2
      · rw [if_neg e] at h2
        exact Or.inr ⟨h1, by simp [h2, not_or.mp e]⟩
  · intro h
    rcases h with rfl | ⟨h1, h2⟩
    · exact ⟨hn, by rw [if_pos rfl]⟩
    · simp only [Bool.and_eq_true, Bool.not_eq_true', beq_eq_false_iff_ne] at h2
      refine ⟨h1, ?_⟩
      rw [if_neg (fun e => by rw [e, on] at h2; exact absurd h2.1.1 (by simp)), if_neg (fun e => by
        rcases e with e | e
        · exact h2.1.2 e
        · exact h2.2 e)]
      exact h2.1.1
theorem ht_suf {u v : List Nat} (h : u ++ [0] <:+ v ++ [1]) : False := by
  obtain ⟨x, hx⟩ := h
  rw [← List.append_assoc] at hx
  have := (List.append_inj' hx rfl).2
  simp at this
theorem ht_suf' {u v : List Nat} (h : u ++ [1] <:+ v ++ [0]) : False := by
  obtain ⟨x, hx⟩ := h
  rw [← List.append_assoc] at hx
  have := (List.append_inj' hx rfl).2
  simp at this
theorem ht_step {w : Nat → Nat} {W0 : List Nat} {K j : Nat} {op : Nat → Bool} {wt : Nat → Nat} {par : Nat → Option Nat} {sd : Nat → Nat} {A : Nat → Nat} {Q : Nat → List Nat} {R : Nat}
    (I : ht_I w W0 K j op wt par sd A Q R) (hj : j < 6) {f s : Nat} (of : op f = true) (os : op s = true) (hfs : f ≠ s)
    (mf : ∀ v, op v = true → wt f ≤ wt v) (ms : ∀ v, op v = true → v ≠ f → wt s ≤ wt v) :
    ht_I w W0 K (j + 1) (ht_op op f s (7 + j)) (ht_wt wt f s (7 + j)) (ht_par par f s (7 + j)) (ht_sd sd f s) (ht_A A f s (7 + j)) (ht_Q A Q f s) (R + (wt f + wt s)) := by
  obtain ⟨i1, i2, i3, i4, i5, i6, i7, i8, i9, i10, i11⟩ := I
  have hf := (i1 f of).1
  have hs := (i1 s os).1
  have on : op (7 + j) = false := by
    cases e : op (7 + j) with
    | false => rfl
    | true => have := (i1 _ e).1; omega
  have hchk : ∀ u p, par u = some p → ht_par par f s (7 + j) u = some p ∧ ht_sd sd f s u = sd u := by
    intro u p hu
    have h1 : u ≠ f := fun e => by rw [e, (i1 f of).2] at hu; cases hu
    have h2 : u ≠ s := fun e => by rw [e, (i1 s os).2] at hu; cases hu
    unfold ht_par ht_sd
    rw [if_neg (by simp [h1, h2]), if_neg h2, if_neg h1]
    exact ⟨hu, rfl⟩
  have hopn : ∀ v, ht_op op f s (7 + j) v = true → v = 7 + j ∨ (v ≠ 7 + j ∧ v ≠ f ∧ v ≠ s ∧ op v = true) := by
    intro v hv
    unfold ht_op at hv
    by_cases e0 : v = 7 + j
    · exact Or.inl e0
    · rw [if_neg e0] at hv
      by_cases e : v = f ∨ v = s
      · rw [if_pos e] at hv; cases hv
      · rw [if_neg e] at hv
        exact Or.inr ⟨e0, (not_or.mp e).1, (not_or.mp e).2, hv⟩
  refine ⟨?_, ?_, ?_, ?_, ?_, ?_, ?_, ?_, ?_, ?_, ?_⟩
  · intro v hv
    rcases hopn v hv with rfl | ⟨e0, e1, e2, ho⟩
    · refine ⟨by omega, ?_⟩
      unfold ht_par
      rw [if_neg (by omega)]
      exact i2 _ (Nat.le_refl _)
    · have := i1 v ho
      refine ⟨by omega, ?_⟩
      unfold ht_par
      rw [if_neg (by simp [e1, e2])]
      exact this.2
  · intro v hv
    unfold ht_par
    rw [if_neg (by omega)]
    exact i2 v (by omega)
  · intro k hk hw
    obtain ⟨a1, a2, a3, a4⟩ := i3 k hk hw
    unfold ht_A ht_Q
    by_cases ef : A k = f
    · rw [if_pos (Or.inl ef), if_pos ef]
      refine ⟨by unfold ht_op; rw [if_pos rfl], ?_, by simp; omega, ?_⟩
      · refine ht_chx hchk (v := f) ?_ ?_ (Q k) k (ef ▸ a2)
        · unfold ht_par; rw [if_pos (Or.inl rfl)]
        · unfold ht_sd; rw [if_neg hfs, if_pos rfl]
      · intro b hb
        rcases List.mem_append.mp hb with hb | hb
        · exact a4 b hb
        · rw [List.mem_singleton.mp hb]; omega
    · by_cases es : A k = s
      · rw [if_pos (Or.inr es), if_neg ef, if_pos es]
        refine ⟨by unfold ht_op; rw [if_pos rfl], ?_, by simp; omega, ?_⟩
        · refine ht_chx hchk (v := s) ?_ ?_ (Q k) k (es ▸ a2)
          · unfold ht_par; rw [if_pos (Or.inr rfl)]
          · unfold ht_sd; rw [if_pos rfl]
        · intro b hb
          rcases List.mem_append.mp hb with hb | hb
          · exact a4 b hb
          · rw [List.mem_singleton.mp hb]; omega
      · rw [if_neg (by simp [ef, es]), if_neg ef, if_neg es]
        have hA := (i1 _ a1).1
        refine ⟨?_, ht_chf hchk _ _ _ a2, by omega, a4⟩
        unfold ht_op
        rw [if_neg (by omega), if_neg (by simp [ef, es])]
        exact a1
  · intro v hv
    rcases hopn v hv with rfl | ⟨e0, e1, e2, ho⟩
    · unfold ht_wt
      rw [if_pos rfl, i4 f of, i4 s os, ← ht_sma]
      refine ht_smc fun k hk => ?_
      by_cases hw : 0 < w k
      · have hA := (i1 _ (i3 k hk hw).1).1
        unfold ht_A
        by_cases ef : A k = f
        · rw [if_pos ef, if_neg (by omega), if_pos (by rw [if_pos (Or.inl ef)])]; omega
        · by_cases es : A k = s
          · rw [if_neg ef, if_pos es, if_pos (by rw [if_pos (Or.inr es)])]; omega
          · rw [if_neg ef, if_neg es, if_neg (by rw [if_neg (by simp [ef, es])]; omega)]
      · have : w k = 0 := by omega
        rw [this]; simp
    · unfold ht_wt
      rw [if_neg e0, i4 v ho]
      refine ht_smc fun k hk => ?_
      unfold ht_A
      by_cases e : A k = f ∨ A k = s
      · rw [if_pos e, if_neg (by omega), if_neg (by omega)]
      · rw [if_neg e]
  · intro v hv
    rcases hopn v hv with rfl | ⟨e0, e1, e2, ho⟩
    · have hd : ∀ g : Nat → Nat, ht_sm 7 (fun k => g k + g k) = ht_sm 7 g + ht_sm 7 g := fun g => ht_sma 7 g g
      have key : ht_sm 7 (fun k => (if 0 < w k ∧ ht_A A f s (7 + j) k = 7 + j then 2 ^ (6 - (ht_Q A Q f s k).length) else 0) + (if 0 < w k ∧ ht_A A f s (7 + j) k = 7 + j then 2 ^ (6 - (ht_Q A Q f s k).length) else 0)) = 64 + 64 := by
        rw [show (64 : Nat) + 64 = ht_sm 7 (fun k => if 0 < w k ∧ A k = f then 2 ^ (6 - (Q k).length) else 0) + ht_sm 7 (fun k => if 0 < w k ∧ A k = s then 2 ^ (6 - (Q k).length) else 0) from by rw [i5 f of, i5 s os], ← ht_sma]
        refine ht_smc fun k hk => ?_
        by_cases hw : 0 < w k
        · have hA := (i1 _ (i3 k hk hw).1).1
          have hl := (i3 k hk hw).2.2.1
          have hp : 2 ^ (6 - (Q k).length) = 2 ^ (6 - ((Q k).length + 1)) + 2 ^ (6 - ((Q k).length + 1)) := by
            have := hf_p2 (L := (Q k).length + 1) (by omega) (by omega)
            rw [← this]; rfl
          unfold ht_A ht_Q
          by_cases ef : A k = f
          · have ns : ¬ A k = s := by omega
            simp only [ef, hw, true_or, if_true, true_and, List.length_append, List.length_cons, List.length_nil, Nat.zero_add, hfs, if_false, hp]
            omega
          · by_cases es : A k = s
            · have nsf : ¬ s = f := fun z => hfs z.symm
              simp only [es, hw, or_true, if_true, true_and, List.length_append, List.length_cons, List.length_nil, Nat.zero_add, nsf, if_false, hp]
            · have nA : ¬ A k = 7 + j := by omega
              simp only [ef, es, hw, or_false, if_false, true_and, nA]
        · simp only [hw, false_and, if_false]
      rw [hd] at key
      omega
    · rw [← i5 v ho]
      refine ht_smc fun k hk => ?_
      unfold ht_A ht_Q
      by_cases e : A k = f ∨ A k = s
      · rw [if_pos e]
        rw [if_neg (fun z => by omega), if_neg (fun z => by
          rcases e with e | e
          · exact e1 (z.2 ▸ e)
          · exact e2 (z.2 ▸ e))]
      · rw [if_neg e, if_neg (not_or.mp e).1, if_neg (not_or.mp e).2]
  · intro k k' hk hk' hw hw' hne hA hsuf
    have hAk := (i1 _ (i3 k hk hw).1).1
    have hAk' := (i1 _ (i3 k' hk' hw').1).1
    have old := i6 k k' hk hk' hw hw' hne
    unfold ht_A at hA
    unfold ht_Q at hsuf
    by_cases ef : A k = f
    · rw [if_pos (Or.inl ef)] at hA
      rw [if_pos ef] at hsuf
      by_cases ef' : A k' = f
      · rw [if_pos ef'] at hsuf
        exact old (ef.trans ef'.symm) (List.suffix_append_self_iff.mp hsuf)
      · by_cases es' : A k' = s
        · rw [if_neg ef', if_pos es'] at hsuf
          exact ht_suf hsuf
        · rw [if_neg (by simp [ef', es'])] at hA; omega
    · by_cases es : A k = s
      · rw [if_pos (Or.inr es)] at hA
        rw [if_neg ef, if_pos es] at hsuf
        by_cases ef' : A k' = f
        · rw [if_pos ef'] at hsuf
          exact ht_suf' hsuf
        · by_cases es' : A k' = s
          · rw [if_neg ef', if_pos es'] at hsuf
            exact old (es.trans es'.symm) (List.suffix_append_self_iff.mp hsuf)
          · rw [if_neg (by simp [ef', es'])] at hA; omega
      · rw [if_neg (by simp [ef, es])] at hA
        rw [if_neg ef, if_neg es] at hsuf
        by_cases e' : A k' = f ∨ A k' = s
        · rw [if_pos e'] at hA; omega
        · rw [if_neg e'] at hA
          rw [if_neg (not_or.mp e').1, if_neg (not_or.mp e').2] at hsuf
          exact old hA hsuf
  · rw [i4 f of, i4 s os, ← i7, ← ht_sma, ← ht_sma]
    refine ht_smc fun k hk => ?_
    unfold ht_Q
    by_cases ef : A k = f
    · have ns : ¬ A k = s := by omega
      rw [if_pos ef, if_pos ef, if_neg ns, List.length_append, Nat.mul_add]
      simp
    · by_cases es : A k = s
      · rw [if_neg ef, if_pos es, if_neg ef, if_pos es, List.length_append, Nat.mul_add]
        simp
      · rw [if_neg ef, if_neg es, if_neg ef, if_neg es]; omega
  · intro R' h
    have h13 : 7 + j < 13 := by omega
    have p1 := (ht_Np (op := op) (by omega : f < 13) (by omega : s < 13) of os hfs).map wt
    have p2 := (ht_Nq (op := op) (f := f) (s := s) h13 on).map (ht_wt wt f s (7 + j))
    have hG : (ht_N (fun v => op v && !(v == f) && !(v == s))).map (ht_wt wt f s (7 + j)) = (ht_N (fun v => op v && !(v == f) && !(v == s))).map wt := by
      refine List.map_congr_left fun v hv => ?_
      have := (ht_Nm.mp hv).2
      simp only [Bool.and_eq_true] at this
      have hv' := (i1 v this.1.1).1
      unfold ht_wt
      rw [if_neg (by omega)]
    rw [List.map_cons, hG] at p2
    rw [List.map_cons, List.map_cons] at p1
    have hnd : ht_wt wt f s (7 + j) (7 + j) = wt f + wt s := by unfold ht_wt; rw [if_pos rfl]
    rw [hnd] at p2
    have h1 := hf_LBp p2 h
    have h2 := hf_LBs (mf s os) (fun x hx => by
      obtain ⟨v, hv, rfl⟩ := List.mem_map.mp hx
      have := (ht_Nm.mp hv).2
      simp only [Bool.and_eq_true, Bool.not_eq_true', beq_eq_false_iff_ne] at this
      exact ms v this.1.1 this.1.2) h1
    have h3 := i8 _ (hf_LBp p1.symm h2)
    rw [show R' + (R + (wt f + wt s)) = R' + (wt f + wt s) + R from by omega]
    exact h3
  · intro k hk hw
    have := i9 k hk hw
    have h1 : k ≠ f := fun e => by rw [e, of] at this; exact absurd this.1 (by simp)
    have h2 : k ≠ s := fun e => by rw [e, os] at this; exact absurd this.1 (by simp)
    unfold ht_op ht_par
    rw [if_neg (by omega), if_neg (by simp [h1, h2]), if_neg (by simp [h1, h2])]
    exact this
  · have l1 := (ht_Np (op := op) (by omega : f < 13) (by omega : s < 13) of os hfs).length_eq
    have l2 := (ht_Nq (op := op) (f := f) (s := s) (by omega : 7 + j < 13) on).length_eq
    simp only [List.length_cons] at l1 l2
    omega
  · intro _
    unfold ht_op
    rw [if_pos (by omega)]
end
section
/-! the tree at its beginning and at its end; the reference's sorting; the least cost is the tree's -/
theorem ht_sm1 (g : Nat → Nat) (v : Nat) : ∀ n, ht_sm n (fun k => if k = v then g k else 0) = if v < n then g v else 0
  | 0 => rfl
  | n + 1 => by
    show ht_sm n (fun k => if k = v then g k else 0) + (if n = v then g n else 0) = _
    rw [ht_sm1 g v n]
    by_cases h : n = v
    · subst h
      rw [if_neg (by omega), if_pos rfl, if_pos (by omega)]; omega
    · by_cases h2 : v < n
      · rw [if_pos h2, if_neg h, if_pos (by omega)]; rfl
      · rw [if_neg h2, if_neg h, if_neg (by omega)]
def ht_P (w : Nat → Nat) : List Nat := (List.range 7).filter (fun k => decide (0 < w k))
def ht_W (w : Nat → Nat) : List Nat := (ht_P w).map w
def ht_op0 (w : Nat → Nat) : Nat → Bool := fun v => decide (v < 7 ∧ 0 < w v)
theorem ht_Pm {w : Nat → Nat} {k : Nat} : k ∈ ht_P w ↔ k < 7 ∧ 0 < w k := by
  unfold ht_P
  rw [List.mem_filter, List.mem_range, decide_eq_true_iff]
theorem ht_PN (w : Nat → Nat) : (ht_N (ht_op0 w)).Perm (ht_P w) := by
  have hd : (ht_P w).Nodup := List.Pairwise.filter _ List.nodup_range
  rw [List.perm_ext_iff_of_nodup (ht_Nd _) hd]
  intro a
  rw [ht_Nm, ht_Pm]
  unfold ht_op0
  rw [decide_eq_true_iff]
  constructor
  · exact fun h => h.2
  · exact fun h => ⟨by omega, h⟩
theorem ht_0 (w wt : Nat → Nat) (sd : Nat → Nat) (hwt : ∀ v, v < 7 → wt v = w v) :
    ht_I w (ht_W w) (ht_P w).length 0 (ht_op0 w) wt (fun _ => none) sd (fun k => k) (fun _ => []) 0 := by
  have ho : ∀ v, ht_op0 w v = true → v < 7 ∧ 0 < w v := by
    intro v hv
    unfold ht_op0 at hv
    exact decide_eq_true_iff.mp hv
  refine ⟨?_, ?_, ?_, ?_, ?_, ?_, ?_, ?_, ?_, ?_, ?_⟩
  · exact fun v hv => ⟨by have := ho v hv; omega, rfl⟩
  · exact fun _ _ => rfl
  · exact fun k hk hw => ⟨by unfold ht_op0; exact decide_eq_true_iff.mpr ⟨hk, hw⟩, rfl, Nat.le_refl _, fun b hb => by cases hb⟩
  · intro v hv
    have := ho v hv
    rw [ht_sm1 w v 7, if_pos this.1, hwt v this.1]
  · intro v hv
    have hv' := ho v hv
    have : ht_sm 7 (fun k => if 0 < w k ∧ k = v then 2 ^ (6 - ([] : List Nat).length) else 0) = ht_sm 7 (fun k => if k = v then (fun _ => 64) k else 0) := by
      refine ht_smc fun k _ => ?_
      by_cases e : k = v
      · subst e
        rw [if_pos ⟨hv'.2, rfl⟩, if_pos rfl]; rfl
      · rw [if_neg (fun z => e z.2), if_neg e]
    rw [this, ht_sm1 _ v 7, if_pos hv'.1]
  · exact fun k k' _ _ _ _ hne e => absurd e hne
  · have : ht_sm 7 (fun k => w k * ([] : List Nat).length) = ht_sm 7 (fun _ => 0) := ht_smc fun k _ => rfl
    rw [this, ht_sm0]
  · intro R' h
    refine hf_LBp ?_ h
    unfold ht_L ht_W
    have e : (ht_N (ht_op0 w)).map wt = (ht_N (ht_op0 w)).map w := by
      refine List.map_congr_left fun v hv => ?_
      exact hwt v (ho v (ht_Nm.mp hv).2).1
    rw [e]
    exact (ht_PN w).map w
  · intro k _ hw
    refine ⟨?_, rfl⟩
    unfold ht_op0
    exact decide_eq_false_iff_not.mpr fun z => by omega
  · exact (ht_PN w).length_eq
  · exact fun h => absurd h (by omega)
/-- a code of the least cost -/
def ht_C (w : Nat → Nat) (Q : Nat → List Nat) (R : Nat) : Prop :=
  (∀ k, k < 7 → 0 < w k → 1 ≤ (Q k).length ∧ (Q k).length ≤ 6 ∧ ∀ b ∈ Q k, b < 2) ∧ (∀ k, k < 7 → w k = 0 → Q k = []) ∧
  (∀ k k', k < 7 → k' < 7 → 0 < w k → 0 < w k' → k ≠ k' → ¬ Q k <:+ Q k') ∧
  ht_sm 7 (fun k => if 0 < w k then 2 ^ (6 - (Q k).length) else 0) ≤ 64 ∧ ht_sm 7 (fun k => w k * (Q k).length) = R ∧
  ∀ ps : List (Nat × Nat), (ps.map Prod.fst).Perm (ht_W w) → (∀ p ∈ ps, 1 ≤ p.2 ∧ p.2 ≤ 6) → hf_kr ps ≤ 64 → R ≤ hf_c ps
theorem ht_one {op : Nat → Bool} (h : (ht_N op).length = 1) {u v : Nat} (hu : u < 13) (hv : v < 13) (ou : op u = true) (ov : op v = true) : u = v := by
  have m1 := ht_Nm.mpr ⟨hu, ou⟩
  have m2 := ht_Nm.mpr ⟨hv, ov⟩
  obtain ⟨x, hx⟩ := List.length_eq_one_iff.mp h
  rw [hx] at m1 m2
  rw [List.mem_singleton.mp m1, List.mem_singleton.mp m2]
/-- the tree's end, two kinds or more -/
theorem ht_end {w : Nat → Nat} {K j : Nat} {op : Nat → Bool} {wt : Nat → Nat} {par : Nat → Option Nat} {sd : Nat → Nat} {A : Nat → Nat} {Q : Nat → List Nat} {R : Nat}
    (I : ht_I w (ht_W w) K j op wt par sd A Q R) (hj : j ≤ 6) (h1 : 1 ≤ j) (hK : j + 1 = K) :
    ht_C w (fun k => if 0 < w k then Q k else []) R ∧ (∀ k, k < 7 → 0 < w k → ht_ch par sd k (Q k) (6 + j)) ∧ par (6 + j) = none ∧ ∀ k, k < 7 → w k = 0 → par k = none := by
  obtain ⟨i1, i2, i3, i4, i5, i6, i7, i8, i9, i10, i11⟩ := I
  have hroot := i11 h1
  have hlen : (ht_N op).length = 1 := by omega
  have hA : ∀ k, k < 7 → 0 < w k → A k = 6 + j := fun k hk hw => by
    have a := (i3 k hk hw).1
    exact ht_one hlen (by have := (i1 _ a).1; omega) (by omega) a hroot
  refine ⟨⟨?_, ?_, ?_, ?_, ?_, ?_⟩, ?_, (i1 _ hroot).2, fun k hk hw => (i9 k hk hw).2⟩
  · intro k hk hw
    obtain ⟨_, a2, a3, a4⟩ := i3 k hk hw
    dsimp only
    rw [if_pos hw]
    refine ⟨?_, by omega, a4⟩
    cases e : Q k with
    | nil =>
      rw [e, hA k hk hw] at a2
      have : k = 6 + j := a2
      omega
    | cons b q => simp
  · intro k _ hw
    dsimp only
    rw [if_neg (by omega)]
  · intro k k' hk hk' hw hw' hne
    dsimp only
    rw [if_pos hw, if_pos hw']
    exact i6 k k' hk hk' hw hw' hne ((hA k hk hw).trans (hA k' hk' hw').symm)
  · rw [← i5 _ hroot]
    refine Nat.le_of_eq (ht_smc fun k hk => ?_)
    by_cases hw : 0 < w k
    · dsimp only
      rw [if_pos hw, if_pos hw, if_pos ⟨hw, hA k hk hw⟩]
    · rw [if_neg hw, if_neg (fun z => hw z.1)]
  · rw [← i7]
    refine ht_smc fun k _ => ?_
    by_cases hw : 0 < w k
    · dsimp only
      rw [if_pos hw]
    · have : w k = 0 := by omega
      rw [this]; simp
  · intro ps hp h6 hk
    have := i8 0 (hf_LB1 _) ps hp (fun p hp => (h6 p hp).2) hk
    omega
  · intro k hk hw
    have := (i3 k hk hw).2.1
    rw [hA k hk hw] at this
    exact this
/-- one kind alone: one bit -/
theorem ht_C1 {w : Nat → Nat} (h : (ht_P w).length = 1) : ht_C w (fun k => if 0 < w k then [0] else []) (ht_sm 7 w) := by
  obtain ⟨x, hx⟩ := List.length_eq_one_iff.mp h
  have hone : ∀ k, k < 7 → 0 < w k → k = x := fun k hk hw => by
    have := ht_Pm.mpr ⟨hk, hw⟩
    rw [hx] at this
    exact List.mem_singleton.mp this
  have hx' : x < 7 ∧ 0 < w x := ht_Pm.mp (by rw [hx]; exact List.mem_singleton.mpr rfl)
  have hs : ht_sm 7 w = w x := by
    have : ht_sm 7 w = ht_sm 7 (fun k => if k = x then w k else 0) := ht_smc fun k hk => by
      by_cases e : k = x
      · rw [if_pos e]
      · rw [if_neg e]
        apply Classical.byContradiction
        intro z
        exact e (hone k hk (by omega))
    rw [this, ht_sm1 w x 7, if_pos hx'.1]
  refine ⟨?_, ?_, ?_, ?_, ?_, ?_⟩
  · intro k _ hw
    dsimp only
    rw [if_pos hw]
    exact ⟨by decide, by decide, fun b hb => by rw [List.mem_singleton.mp hb]; omega⟩
  · intro k _ hw
    dsimp only
    rw [if_neg (by omega)]
  · intro k k' hk hk' hw hw' hne
    exact absurd ((hone k hk hw).trans (hone k' hk' hw').symm) hne
  · have : ht_sm 7 (fun k => if 0 < w k then 2 ^ (6 - (if 0 < w k then [0] else []).length) else 0) = ht_sm 7 (fun k => if k = x then (fun _ => 32) k else 0) := ht_smc fun k hk => by
      by_cases hw : 0 < w k
      · dsimp only
        rw [if_pos hw, if_pos hw, if_pos (hone k hk hw)]; rfl
      · rw [if_neg hw, if_neg (fun z : k = x => hw (by rw [z]; exact hx'.2))]
    rw [this, ht_sm1 _ x 7, if_pos hx'.1]
    decide
  · refine ht_smc fun k _ => ?_
    by_cases hw : 0 < w k
    · dsimp only
      rw [if_pos hw]; simp
    · have : w k = 0 := by omega
      rw [this]; simp
  · intro ps hp h6 _
    rw [hs]
    unfold ht_W at hp
    rw [hx] at hp
    have hp' : (ps.map Prod.fst) = [w x] := List.perm_singleton.mp hp
    cases ps with
    | nil => simp at hp'
    | cons p ps =>
      simp only [List.map_cons, List.cons.injEq] at hp'
      have := (h6 p List.mem_cons_self).1
      simp only [hf_c]
      rw [hp'.1]
      have h2 : w x * 1 ≤ w x * p.2 := Nat.mul_le_mul_left _ this
      omega
/-! sums as lists -/
theorem ht_cl (w : Nat → Nat) (Q : Nat → List Nat) : ∀ n, hf_c (((List.range n).filter (fun k => decide (0 < w k))).map (fun k => (w k, (Q k).length))) = ht_sm n (fun k => w k * (Q k).length)
  | 0 => rfl
  | n + 1 => by
    rw [List.range_succ, List.filter_append, List.map_append, hf_cA, ht_cl w Q n]
    show _ + _ = ht_sm n (fun k => w k * (Q k).length) + w n * (Q n).length
    congr 1
    by_cases h : 0 < w n
    · simp [h, hf_c]
    · have : w n = 0 := by omega
      simp [this, hf_c]
theorem ht_kl (w : Nat → Nat) (Q : Nat → List Nat) : ∀ n, hf_kr (((List.range n).filter (fun k => decide (0 < w k))).map (fun k => (w k, (Q k).length))) = ht_sm n (fun k => if 0 < w k then 2 ^ (6 - (Q k).length) else 0)
  | 0 => rfl
  | n + 1 => by
    rw [List.range_succ, List.filter_append, List.map_append, hf_krA, ht_kl w Q n]
    show _ + _ = ht_sm n (fun k => if 0 < w k then 2 ^ (6 - (Q k).length) else 0) + (if 0 < w n then 2 ^ (6 - (Q n).length) else 0)
    congr 1
    by_cases h : 0 < w n
    · simp [h, hf_kr]
    · simp [h, hf_kr]
/-- the reference's way through the lengths finds the cost of a code of the least cost -/
theorem ht_least {w : Nat → Nat} {Q : Nat → List Nat} {R : Nat} (C : ht_C w Q R) {o : List Nat} (hp : o.Perm (ht_W w)) (hs : o.Pairwise (fun x y => y ≤ x)) (h0 : 0 < o.length) :
    en_f o 0 (en_gen o.length 1) = R := by
  obtain ⟨c1, c2, c3, c4, c5, c6⟩ := C
  have hc := ht_cl w Q 7
  have hk := ht_kl w Q 7
  generalize hps : (((List.range 7).filter (fun k => decide (0 < w k))).map (fun k => (w k, (Q k).length))) = ps at hc hk
  rw [c5] at hc
  have hmem : ∀ p ∈ ps, 1 ≤ p.1 ∧ 1 ≤ p.2 ∧ p.2 ≤ 6 := by
    intro p hp
    rw [← hps] at hp
    obtain ⟨k, hk, rfl⟩ := List.mem_map.mp hp
    have hk' : k < 7 ∧ 0 < w k := ht_Pm.mp hk
    have := c1 k hk'.1 hk'.2
    exact ⟨hk'.2, this.1, this.2.1⟩
  have hfst : ps.map Prod.fst = ht_W w := by
    rw [← hps, List.map_map]
    rfl
  obtain ⟨ls, l1, l2, l3, _, l5, l6⟩ := hf_sort o.length o ps rfl hs (by rw [hfst]; exact hp.symm) fun p hp => (hmem p hp).2
  have hR : 0 < R := by
    rw [← hc]
    cases ps with
    | nil =>
      have := hp.length_eq
      rw [← hfst] at this
      have h2 : o.length = 0 := this
      omega
    | cons p ps =>
      have := hmem p List.mem_cons_self
      have : 0 < p.1 * p.2 := Nat.mul_pos this.1 this.2.1
      simp only [hf_c]
      omega
  refine en_min o R hR _ 0 (Or.inl rfl) ?_ (Or.inr ⟨ls, ?_, ?_, ?_⟩)
  · intro v hv hkr
    obtain ⟨g1, g2⟩ := en_genok _ _ v hv
    refine c6 _ ?_ ?_ hkr
    · rw [List.map_fst_zip (by omega)]
      exact hp
    · intro p hp
      exact g2 p.2 (List.of_mem_zip (show (p.1, p.2) ∈ o.zip v from hp)).2
  · have := en_mem ls 1 l2 fun x hx => ⟨(l3 x hx).1, l3 x hx⟩
    rw [l1] at this
    exact this
  · rw [l5, hk]; exact c4
  · rw [← hc]; exact l6
/-! the reference's sorting: 36 comparisons of neighbours -/
def bs_g (s : Nat) : Nat → Nat := fun i => if i = s then s + 1 else if i = s + 1 then s else i
def bs_s (a : Nat → Nat) (s : Nat) : Nat → Nat := if a s < a (s + 1) then fun i => a (bs_g s i) else a
def bs_i (a : Nat → Nat) : Nat → Nat → Nat
  | 0 => a
  | k + 1 => bs_s (bs_i a k) (k % 6)
theorem bs_gp {s : Nat} (h : s < 6) (a : Nat → Nat) : ((List.range 7).map (fun i => a (bs_g s i))).Perm ((List.range 7).map a) := by
  have := (cn_perm (n := 7) (f := bs_g s) (fun i hi => by unfold bs_g; split <;> (try split) <;> omega) (fun i j hi hj e => by
    unfold bs_g at e
    split at e <;> split at e <;> (try split at e) <;> (try split at e) <;> omega)).map a
  rw [List.map_map] at this
  exact this
theorem bs_p (a : Nat → Nat) : ∀ k, ((List.range 7).map (bs_i a k)).Perm ((List.range 7).map a)
  | 0 => List.Perm.refl _
  | k + 1 => by
    show ((List.range 7).map (bs_s (bs_i a k) (k % 6))).Perm _
    unfold bs_s
    by_cases h : bs_i a k (k % 6) < bs_i a k (k % 6 + 1)
    · rw [if_pos h]
      exact (bs_gp (by omega) _).trans (bs_p a k)
    · rw [if_neg h]
      exact bs_p a k
def bs_J (a : Nat → Nat) (p s : Nat) : Prop :=
  (∀ i j, i < j → j < 7 → 7 ≤ j + p → a j ≤ a i) ∧ (∀ m, (m = s ∧ s + p ≤ 6 ∨ m + p = 6 ∧ 6 ≤ s + p) → ∀ i, i < m → a m ≤ a i)
theorem bs_J1 {a : Nat → Nat} {p s : Nat} (hs : s < 6) (J : bs_J a p s) : bs_J (bs_s a s) p (s + 1) := by
  obtain ⟨j1, j2⟩ := J
  unfold bs_s
  by_cases h : a s < a (s + 1)
  · rw [if_pos h]
    have hp : s + p < 6 := by
      apply Nat.lt_of_not_le
      intro hc
      have := j1 s (s + 1) (by omega) (by omega) (by omega)
      omega
    have j2' := j2 s (Or.inl ⟨rfl, by omega⟩)
    constructor
    · intro i j hij hj hjp
      have e : bs_g s j = j := by unfold bs_g; rw [if_neg (by omega), if_neg (by omega)]
      dsimp only
      rw [e]
      refine j1 _ _ ?_ hj hjp
      unfold bs_g
      split
      · omega
      · split <;> omega
    · intro m hm i hi
      have em : m = s + 1 := by omega
      subst em
      have e : bs_g s (s + 1) = s := by unfold bs_g; rw [if_neg (by omega), if_pos rfl]
      dsimp only
      rw [e]
      unfold bs_g
      by_cases c : i = s
      · rw [if_pos c]; omega
      · rw [if_neg c, if_neg (by omega)]
        exact j2' i (by omega)
  · rw [if_neg h]
    refine ⟨j1, ?_⟩
    intro m hm i hi
    by_cases c : s + p < 6
    · have em : m = s + 1 := by omega
      subst em
      by_cases d : i = s
      · subst d; omega
      · have := j2 s (Or.inl ⟨rfl, by omega⟩) i (by omega)
        omega
    · exact j2 m (by omega) i hi
theorem bs_J2 {a : Nat → Nat} {p : Nat} (hp : p < 6) (J : bs_J a p 6) : bs_J a (p + 1) 0 := by
  obtain ⟨j1, j2⟩ := J
  constructor
  · intro i j hij hj hjp
    by_cases c : 7 ≤ j + p
    · exact j1 i j hij hj c
    · exact j2 j (by omega) i hij
  · intro m hm i hi
    have : m = 0 := by omega
    omega
theorem bs_J3 (a : Nat → Nat) : ∀ k, k ≤ 36 → bs_J (bs_i a k) (k / 6) (k % 6)
  | 0, _ => ⟨fun i j _ h1 h2 => absurd h2 (by omega), fun m hm i hi => by omega⟩
  | k + 1, hk => by
    have ih := bs_J1 (by omega : k % 6 < 6) (bs_J3 a k (by omega))
    by_cases c : k % 6 = 5
    · have e1 : (k + 1) / 6 = k / 6 + 1 := by omega
      have e2 : (k + 1) % 6 = 0 := by omega
      rw [e1, e2]
      rw [c] at ih
      have := bs_J2 (by omega) ih
      rw [← c] at this
      exact this
    · have e1 : (k + 1) / 6 = k / 6 := by omega
      have e2 : (k + 1) % 6 = k % 6 + 1 := by omega
      rw [e1, e2]
      exact ih
theorem bs_ok (a : Nat → Nat) : ∀ i j, i < j → j < 7 → bs_i a 36 j ≤ bs_i a 36 i := fun i j hij hj =>
  (bs_J3 a 36 (by omega)).1 i j hij hj (by omega)
end
section
/-! runs of ranks 0 as symbols, and back -/
def rl_rn : Nat → Nat → List Nat
  | 0, _ => []
  | f + 1, m => if m = 0 then [] else if m % 2 = 1 then 0 :: rl_rn f ((m - 1) / 2) else 1 :: rl_rn f ((m - 2) / 2)
theorem rl_rn0 (f : Nat) : rl_rn f 0 = [] := by cases f <;> rfl
theorem rl_odd {f m : Nat} (h : m % 2 = 1) : rl_rn (f + 1) m = 0 :: rl_rn f ((m - 1) / 2) := by
  show (if m = 0 then [] else if m % 2 = 1 then 0 :: rl_rn f ((m - 1) / 2) else 1 :: rl_rn f ((m - 2) / 2)) = _
  rw [if_neg (by omega), if_pos h]
theorem rl_even {f m : Nat} (h0 : 0 < m) (h : ¬ m % 2 = 1) : rl_rn (f + 1) m = 1 :: rl_rn f ((m - 2) / 2) := by
  show (if m = 0 then [] else if m % 2 = 1 then 0 :: rl_rn f ((m - 1) / 2) else 1 :: rl_rn f ((m - 2) / 2)) = _
  rw [if_neg (by omega), if_neg h]
theorem rl_len : ∀ f m, (rl_rn f m).length ≤ m
  | 0, _ => Nat.zero_le _
  | f + 1, m => by
    by_cases h0 : m = 0
    · subst h0; rw [rl_rn0]; exact Nat.le_refl _
    · by_cases h : m % 2 = 1
      · rw [rl_odd h]
        have := rl_len f ((m - 1) / 2)
        simp only [List.length_cons]; omega
      · rw [rl_even (by omega) h]
        have := rl_len f ((m - 2) / 2)
        simp only [List.length_cons]; omega
theorem rl_le1 : ∀ f m, ∀ x ∈ rl_rn f m, x ≤ 1
  | 0, _, x, h => by cases h
  | f + 1, m, x, hx => by
    by_cases h0 : m = 0
    · subst h0; rw [rl_rn0] at hx; cases hx
    · by_cases h : m % 2 = 1
      · rw [rl_odd h] at hx
        cases hx with
        | head => omega
        | tail _ hx => exact rl_le1 f _ x hx
      · rw [rl_even (by omega) h] at hx
        cases hx with
        | head => omega
        | tail _ hx => exact rl_le1 f _ x hx
/-- one symbol read: the ranks so far, and what the next symbol of a run is worth -/
def rl_st (s : List Nat × Nat) (k : Nat) : List Nat × Nat :=
  if k ≤ 1 then (s.1 ++ List.replicate ((k + 1) * s.2) 0, s.2 * 2) else (s.1 ++ [k - 1], 1)
theorem rl_back : ∀ (f m : Nat) (x : List Nat) (w : Nat), m < 2 ^ f → ∃ w', (rl_rn f m).foldl rl_st (x, w) = (x ++ List.replicate (m * w) 0, w')
  | 0, m, x, w, h => by
    have : m = 0 := by omega
    subst this
    exact ⟨w, by simp [rl_rn]⟩
  | f + 1, m, x, w, h => by
    rw [Nat.pow_succ] at h
    by_cases h0 : m = 0
    · subst h0
      exact ⟨w, by simp [rl_rn0]⟩
    · by_cases c : m % 2 = 1
      · rw [rl_odd c]
        obtain ⟨w', e⟩ := rl_back f ((m - 1) / 2) (x ++ List.replicate (1 * w) 0) (w * 2) (by omega)
        refine ⟨w', ?_⟩
        show (rl_rn f ((m - 1) / 2)).foldl rl_st (x ++ List.replicate ((0 + 1) * w) 0, w * 2) = _
        rw [show (0 + 1) * w = 1 * w from rfl, e, List.append_assoc, List.replicate_append_replicate]
        congr 3
        obtain ⟨d, hd⟩ : ∃ d, m = 2 * d + 1 := ⟨(m - 1) / 2, by omega⟩
        subst hd
        have : (2 * d + 1 - 1) / 2 = d := by omega
        rw [this, Nat.add_mul, Nat.mul_comm w 2, ← Nat.mul_assoc, Nat.mul_comm d 2]
        omega
      · rw [rl_even (by omega) c]
        obtain ⟨w', e⟩ := rl_back f ((m - 2) / 2) (x ++ List.replicate (2 * w) 0) (w * 2) (by omega)
        refine ⟨w', ?_⟩
        show (rl_rn f ((m - 2) / 2)).foldl rl_st (x ++ List.replicate ((1 + 1) * w) 0, w * 2) = _
        rw [show (1 + 1) * w = 2 * w from rfl, e, List.append_assoc, List.replicate_append_replicate]
        congr 3
        obtain ⟨d, hd⟩ : ∃ d, m = 2 * d + 2 := ⟨(m - 2) / 2, by omega⟩
        subst hd
        have : (2 * d + 2 - 2) / 2 = d := by omega
        rw [this, Nat.add_mul, Nat.mul_comm w 2, ← Nat.mul_assoc, Nat.mul_comm d 2]
        omega
/-- the symbols of the first i ranks, and the zeros not yet written -/
def rl_f (rk : Nat → Nat) : Nat → List Nat × Nat
  | 0 => ([], 0)
  | i + 1 => if rk i = 0 then ((rl_f rk i).1, (rl_f rk i).2 + 1) else ((rl_f rk i).1 ++ rl_rn 6 (rl_f rk i).2 ++ [rk i + 1], 0)
def rl_sy (rk : Nat → Nat) (n : Nat) : List Nat := (rl_f rk n).1 ++ rl_rn 6 (rl_f rk n).2
theorem rl_fz {rk : Nat → Nat} {i : Nat} (h : rk i = 0) : rl_f rk (i + 1) = ((rl_f rk i).1, (rl_f rk i).2 + 1) := by
  show (if rk i = 0 then _ else _) = _
  rw [if_pos h]
theorem rl_fn {rk : Nat → Nat} {i : Nat} (h : ¬ rk i = 0) : rl_f rk (i + 1) = ((rl_f rk i).1 ++ rl_rn 6 (rl_f rk i).2 ++ [rk i + 1], 0) := by
  show (if rk i = 0 then _ else _) = _
  rw [if_neg h]
theorem rl_fl (rk : Nat → Nat) : ∀ i, (rl_f rk i).1.length + (rl_f rk i).2 ≤ i
  | 0 => Nat.le_refl _
  | i + 1 => by
    have ih := rl_fl rk i
    by_cases h : rk i = 0
    · rw [rl_fz h]; dsimp only; omega
    · rw [rl_fn h]
      have := rl_len 6 (rl_f rk i).2
      simp only [List.length_append, List.length_cons, List.length_nil]
      omega
theorem rl_syl (rk : Nat → Nat) (n : Nat) : (rl_sy rk n).length ≤ n := by
  have h1 := rl_fl rk n
  have h2 := rl_len 6 (rl_f rk n).2
  unfold rl_sy
  rw [List.length_append]; omega
theorem rl_f7 {rk : Nat → Nat} {n : Nat} (h : ∀ i, i < n → rk i < 6) : ∀ i, i ≤ n → ∀ x ∈ (rl_f rk i).1, x < 7
  | 0, _, x, hx => by cases hx
  | i + 1, hi, x, hx => by
    by_cases c : rk i = 0
    · rw [rl_fz c] at hx
      exact rl_f7 h i (by omega) x hx
    · rw [rl_fn c] at hx
      have hr := h i (by omega)
      rcases List.mem_append.mp hx with hx | hx
      · rcases List.mem_append.mp hx with hx | hx
        · exact rl_f7 h i (by omega) x hx
        · have := rl_le1 6 _ x hx; omega
      · rw [List.mem_singleton.mp hx]; omega
theorem rl_sy7 {rk : Nat → Nat} {n : Nat} (h : ∀ i, i < n → rk i < 6) : ∀ x ∈ rl_sy rk n, x < 7 := by
  intro x hx
  rcases List.mem_append.mp hx with hx | hx
  · exact rl_f7 h n (Nat.le_refl _) x hx
  · have := rl_le1 6 _ x hx; omega
/-- reading back what the first i ranks wrote gives all of them but the zeros that wait -/
theorem rl_inv (rk : Nat → Nat) : ∀ i, i ≤ 32 → ∃ L, (rl_f rk i).1.foldl rl_st ([], 1) = (L, 1) ∧ L ++ List.replicate (rl_f rk i).2 0 = (List.range i).map rk
  | 0, _ => ⟨[], rfl, rfl⟩
  | i + 1, hi => by
    obtain ⟨L, e1, e2⟩ := rl_inv rk i (by omega)
    have hz := rl_fl rk i
    by_cases c : rk i = 0
    · rw [rl_fz c]
      refine ⟨L, e1, ?_⟩
      rw [List.range_succ, List.map_append, ← e2, List.append_assoc]
      congr 1
      rw [List.replicate_succ']
      simp [c]
    · rw [rl_fn c]
      obtain ⟨w', e⟩ := rl_back 6 (rl_f rk i).2 L 1 (by omega)
      refine ⟨(List.range (i + 1)).map rk, ?_, by simp⟩
      rw [List.foldl_append, List.foldl_append, e1, e, Nat.mul_one, e2]
      show rl_st _ (rk i + 1) = _
      unfold rl_st
      rw [if_neg (by omega), List.range_succ, List.map_append]
      rfl
theorem rl_syinv (rk : Nat → Nat) (n : Nat) (hn : n ≤ 32) : ((rl_sy rk n).foldl rl_st ([], 1)).1 = (List.range n).map rk := by
  obtain ⟨L, e1, e2⟩ := rl_inv rk n hn
  have hz := rl_fl rk n
  obtain ⟨w', e⟩ := rl_back 6 (rl_f rk n).2 L 1 (by omega)
  unfold rl_sy
  rw [List.foldl_append, e1, e, Nat.mul_one, e2]
/-! the row of letters -/
def mf_pl (row : Nat → Nat) (c : Nat) : Nat → Nat
  | 0 => 0
  | k + 1 => if row k = c then k else mf_pl row c k
def mf_mv (row : Nat → Nat) (r : Nat) : Nat → Nat := fun k => if k = 0 then row r else if k ≤ r then row (k - 1) else row k
def mf_row (c : Nat → Nat) : Nat → Nat → Nat
  | 0 => fun k => k
  | i + 1 => mf_mv (mf_row c i) (mf_pl (mf_row c i) (c i) 6)
def mf_rk (c : Nat → Nat) (i : Nat) : Nat := mf_pl (mf_row c i) (c i) 6
theorem mf_pllt {row : Nat → Nat} {c : Nat} : ∀ {k : Nat}, 0 < k → mf_pl row c k < k
  | k + 1, _ => by
    show (if row k = c then k else mf_pl row c k) < k + 1
    by_cases h : row k = c
    · rw [if_pos h]; omega
    · rw [if_neg h]
      cases k with
      | zero => show 0 < 0 + 1; omega
      | succ k =>
        have := mf_pllt (row := row) (c := c) (k := k + 1) (by omega)
        omega
theorem mf_plok {row : Nat → Nat} {c : Nat} : ∀ {k : Nat}, (∃ j, j < k ∧ row j = c) → row (mf_pl row c k) = c
  | 0, ⟨j, hj, _⟩ => absurd hj (Nat.not_lt_zero j)
  | k + 1, ⟨j, hj, e⟩ => by
    show row (if row k = c then k else mf_pl row c k) = c
    by_cases h : row k = c
    · rw [if_pos h]; exact h
    · rw [if_neg h]
      refine mf_plok ⟨j, ?_, e⟩
      have : j ≠ k := fun z => h (z ▸ e)
      omega
theorem mf_all {row : Nat → Nat} {r : Nat} (hr : r < 6) (h : ∀ c, c < 6 → ∃ j, j < 6 ∧ row j = c) : ∀ c, c < 6 → ∃ j, j < 6 ∧ mf_mv row r j = c := by
  intro c hc
  obtain ⟨j, hj, e⟩ := h c hc
  by_cases h1 : j = r
  · exact ⟨0, by omega, by unfold mf_mv; rw [if_pos rfl, ← h1]; exact e⟩
  · by_cases h2 : j < r
    · exact ⟨j + 1, by omega, by unfold mf_mv; rw [if_neg (by omega), if_pos (by omega)]; exact e⟩
    · exact ⟨j, hj, by unfold mf_mv; rw [if_neg (by omega), if_neg (by omega)]; exact e⟩
theorem mf_rows (c : Nat → Nat) : ∀ i, ∀ x, x < 6 → ∃ j, j < 6 ∧ mf_row c i j = x
  | 0, x, hx => ⟨x, hx, rfl⟩
  | i + 1, x, hx => mf_all (mf_pllt (by omega)) (mf_rows c i) x hx
theorem mf_lt {row : Nat → Nat} {r : Nat} (hr : r < 6) (h : ∀ j, j < 6 → row j < 6) : ∀ j, j < 6 → mf_mv row r j < 6 := by
  intro j hj
  unfold mf_mv
  by_cases h0 : j = 0
  · rw [if_pos h0]; exact h r hr
  · rw [if_neg h0]
    by_cases h1 : j ≤ r
    · rw [if_pos h1]; exact h _ (by omega)
    · rw [if_neg h1]; exact h _ hj
theorem mf_rowlt (c : Nat → Nat) : ∀ i j, j < 6 → mf_row c i j < 6
  | 0, j, hj => hj
  | i + 1, j, hj => mf_lt (mf_pllt (by omega)) (mf_rowlt c i) j hj
theorem mf_rklt (c : Nat → Nat) (i : Nat) : mf_rk c i < 6 := mf_pllt (by omega)
theorem mf_back (c : Nat → Nat) (i : Nat) (h : c i < 6) : mf_row c i (mf_rk c i) = c i := mf_plok (mf_rows c i (c i) h)
/-! a code's bits, and back -/
def pc_e (P : Nat → List Nat) : List Nat → List Nat
  | [] => []
  | s :: ss => P s ++ pc_e P ss
def pc_d (find : List Nat → Option Nat) : List Nat → List Nat → List Nat
  | _, [] => []
  | cur, b :: bs => match find (cur ++ [b]) with
    | some k => k :: pc_d find [] bs
    | none => pc_d find (cur ++ [b]) bs
theorem pc_one {find : List Nat → Option Nat} {s : Nat} (bs : List Nat) : ∀ (rest cur : List Nat), rest ≠ [] → find (cur ++ rest) = some s →
    (∀ u v, u ≠ [] → v ≠ [] → u ++ v = rest → find (cur ++ u) = none) → pc_d find cur (rest ++ bs) = s :: pc_d find [] bs
  | [], _, h, _, _ => absurd rfl h
  | b :: rest, cur, _, hs, hn => by
    show (match find (cur ++ [b]) with
      | some k => k :: pc_d find [] (rest ++ bs)
      | none => pc_d find (cur ++ [b]) (rest ++ bs)) = _
    cases rest with
    | nil => rw [hs]; rfl
    | cons b' rest =>
      rw [hn [b] (b' :: rest) (by simp) (by simp) rfl]
      refine pc_one bs (b' :: rest) (cur ++ [b]) (by simp) (by rw [List.append_assoc]; exact hs) ?_
      intro u v hu hv e
      rw [List.append_assoc]
      exact hn (b :: u) v (by simp) hv (by rw [List.cons_append, e])
theorem pc_back {find : List Nat → Option Nat} {P : Nat → List Nat} : ∀ (ss : List Nat), (∀ s ∈ ss, P s ≠ [] ∧ find (P s) = some s ∧
    ∀ u v, u ≠ [] → v ≠ [] → u ++ v = P s → find u = none) → pc_d find [] (pc_e P ss) = ss
  | [], _ => rfl
  | s :: ss, h => by
    obtain ⟨h1, h2, h3⟩ := h s List.mem_cons_self
    show pc_d find [] (P s ++ pc_e P ss) = _
    rw [pc_one (pc_e P ss) (P s) [] h1 h2 h3, pc_back ss fun x hx => h x (List.mem_cons_of_mem _ hx)]
end
section
/-! the code as numbers, the search for a kind, the bits' number; the sorted counts -/
def pc_v : List Nat → Nat
  | [] => 0
  | b :: Q => b + 2 * pc_v Q
theorem pc_vlt : ∀ Q : List Nat, (∀ b ∈ Q, b < 2) → pc_v Q < 2 ^ Q.length
  | [], _ => by decide
  | b :: Q, h => by
    have h1 := h b List.mem_cons_self
    have ih := pc_vlt Q fun x hx => h x (List.mem_cons_of_mem _ hx)
    simp only [pc_v, List.length_cons, Nat.pow_succ]
    omega
theorem pc_vinj : ∀ Q U : List Nat, (∀ b ∈ Q, b < 2) → (∀ b ∈ U, b < 2) → Q.length = U.length → pc_v Q = pc_v U → Q = U
  | [], [], _, _, _, _ => rfl
  | b :: Q, c :: U, h1, h2, hl, hv => by
    have b1 := h1 b List.mem_cons_self
    have c1 := h2 c List.mem_cons_self
    simp only [pc_v] at hv
    have e : b = c := by omega
    have ih := pc_vinj Q U (fun x hx => h1 x (List.mem_cons_of_mem _ hx)) (fun x hx => h2 x (List.mem_cons_of_mem _ hx)) (by simpa using hl) (by omega)
    rw [e, ih]
  | [], _ :: _, _, _, h, _ => by simp at h
  | _ :: _, [], _, _, h, _ => by simp at h
theorem pc_va : ∀ (Q : List Nat) (b : Nat), pc_v (Q ++ [b]) = pc_v Q + 2 ^ Q.length * b
  | [], b => by simp [pc_v]
  | c :: Q, b => by
    simp only [List.cons_append, pc_v, List.length_cons, pc_va Q b, Nat.pow_succ, Nat.mul_add]
    have : 2 ^ Q.length * 2 * b = 2 * (2 ^ Q.length * b) := by rw [Nat.mul_comm (2 ^ Q.length) 2, Nat.mul_assoc]
    omega
/-- bit number i of a code's number -/
theorem pc_bit : ∀ (Q : List Nat) (i : Nat), (∀ b ∈ Q, b < 2) → pc_v Q / 2 ^ i % 2 = Q.getD i 0
  | [], i, _ => by simp [pc_v]
  | b :: Q, 0, h => by
    have := h b List.mem_cons_self
    simp only [pc_v, List.getD_cons_zero, Nat.pow_zero, Nat.div_one]
    omega
  | b :: Q, i + 1, h => by
    have hb := h b List.mem_cons_self
    have ih := pc_bit Q i fun x hx => h x (List.mem_cons_of_mem _ hx)
    rw [List.getD_cons_succ, ← ih, Nat.pow_succ, Nat.mul_comm (2 ^ i) 2, ← Nat.div_div_eq_div_mul]
    simp only [pc_v]
    congr 2
    omega
/-- the first kind, from number 7 - f on, whose sides are r -/
def pc_fd (Q : Nat → List Nat) (r : List Nat) : Nat → Option Nat
  | 0 => none
  | f + 1 => if Q (6 - f) = r then some (6 - f) else pc_fd Q r f
theorem pc_fdn {Q : Nat → List Nat} {r : List Nat} : ∀ f, f ≤ 7 → (∀ k, k < 7 → Q k ≠ r) → pc_fd Q r f = none
  | 0, _, _ => rfl
  | f + 1, hf, h => by
    show (if Q (6 - f) = r then _ else _) = _
    rw [if_neg (h _ (by omega))]
    exact pc_fdn f (by omega) h
theorem pc_fds {Q : Nat → List Nat} {r : List Nat} {s : Nat} (hs : s < 7) (e : Q s = r) : ∀ f, f ≤ 7 → 7 ≤ s + f → (∀ k, k < 7 → Q k = r → k = s) → pc_fd Q r f = some s
  | 0, _, h0, _ => by omega
  | f + 1, hf, h0, h => by
    show (if Q (6 - f) = r then _ else _) = _
    by_cases c : Q (6 - f) = r
    · rw [if_pos c, h _ (by omega) c]
    · rw [if_neg c]
      have : s ≠ 6 - f := fun z => c (z ▸ e)
      exact pc_fds hs e f (by omega) (by omega) h
def pc_find (Q : Nat → List Nat) (cur : List Nat) : Option Nat := pc_fd Q cur.reverse 7
theorem pc_ok {w : Nat → Nat} {Q : Nat → List Nat} {R : Nat} (C : ht_C w Q R) {s : Nat} (hs : s < 7) (hw : 0 < w s) :
    (Q s).reverse ≠ [] ∧ pc_find Q (Q s).reverse = some s ∧ ∀ u v, u ≠ [] → v ≠ [] → u ++ v = (Q s).reverse → pc_find Q u = none := by
  obtain ⟨c1, c2, c3, _, _, _⟩ := C
  have hq := c1 s hs hw
  refine ⟨?_, ?_, ?_⟩
  · intro e
    have := congrArg List.length e
    simp at this
    rw [this] at hq
    simp at hq
  · unfold pc_find
    rw [List.reverse_reverse]
    refine pc_fds hs rfl 7 (Nat.le_refl _) (by omega) ?_
    intro k hk e
    apply Classical.byContradiction
    intro hne
    by_cases hk0 : 0 < w k
    · exact c3 k s hk hs hk0 hw hne (by rw [e]; exact List.suffix_refl _)
    · rw [c2 k hk (by omega)] at e
      rw [← e] at hq
      simp at hq
  · intro u v hu hv e
    unfold pc_find
    refine pc_fdn 7 (Nat.le_refl _) ?_
    intro k hk ek
    have e2 : v.reverse ++ u.reverse = Q s := by
      rw [← List.reverse_append, e, List.reverse_reverse]
    by_cases hk0 : 0 < w k
    · by_cases hne : k = s
      · subst hne
        rw [ek] at e2
        have := congrArg List.length e2
        simp at this
        exact hv this
      · exact c3 k s hk hs hk0 hw hne ⟨v.reverse, by rw [ek]; exact e2⟩
    · rw [c2 k hk (by omega)] at ek
      have := congrArg List.length ek
      simp at this
      exact hu (List.length_eq_zero_iff.mp this.symm)
/-- the number of bits -/
theorem pc_el (Q : Nat → List Nat) : ∀ ss : List Nat, (∀ s ∈ ss, s < 7) → (pc_e (fun k => (Q k).reverse) ss).length = ht_sm 7 (fun k => ss.count k * (Q k).length)
  | [], _ => by
    have : ht_sm 7 (fun k => ([] : List Nat).count k * (Q k).length) = ht_sm 7 (fun _ => 0) := ht_smc fun k _ => by simp
    rw [this, ht_sm0]
    rfl
  | s :: ss, h => by
    have hs := h s List.mem_cons_self
    have ih := pc_el Q ss fun x hx => h x (List.mem_cons_of_mem _ hx)
    show ((Q s).reverse ++ pc_e (fun k => (Q k).reverse) ss).length = _
    rw [List.length_append, List.length_reverse, ih]
    have : ht_sm 7 (fun k => (s :: ss).count k * (Q k).length) = ht_sm 7 (fun k => (if k = s then (fun k => (Q k).length) k else 0) + ss.count k * (Q k).length) := ht_smc fun k _ => by
      rw [List.count_cons]
      by_cases e : k = s
      · subst e
        simp [Nat.add_mul]
        omega
      · have : ¬ s = k := fun z => e z.symm
        simp [e, this]
    rw [this, ht_sma, ht_sm1 _ s 7, if_pos hs]
theorem pc_eb {P : Nat → List Nat} : ∀ ss : List Nat, (∀ s ∈ ss, ∀ b ∈ P s, b < 2) → ∀ b ∈ pc_e P ss, b < 2
  | [], _, b, hb => by cases hb
  | s :: ss, h, b, hb => by
    rcases List.mem_append.mp (show b ∈ P s ++ pc_e P ss from hb) with hb | hb
    · exact h s List.mem_cons_self b hb
    · exact pc_eb ss (fun x hx => h x (List.mem_cons_of_mem _ hx)) b hb
/-! the sorted counts: the positive ones stand first -/
theorem bs_dn {P : Nat → Bool} : ∀ n, (∀ i j, i < j → j < n → P j = true → P i = true) → ∀ i, i < n → (P i = true ↔ i < cn_ n P)
  | 0, _, i, hi => absurd hi (Nat.not_lt_zero i)
  | n + 1, h, i, hi => by
    rw [cn_s]
    have hle : cn_ n P ≤ n := by
      have := cn_mono (n := n) (P := P) (Q := fun _ => true) (fun _ _ _ => rfl)
      rw [cn_all] at this
      exact this
    cases e : P n with
    | true =>
      have hall : cn_ n P = n := by
        rw [cn_congr (Q := fun _ => true) fun j hj => h j n hj (by omega) e, cn_all]
      rw [hall]
      simp only [if_true]
      refine ⟨fun _ => hi, fun _ => ?_⟩
      by_cases c : i = n
      · rw [c]; exact e
      · exact h i n (by omega) (by omega) e
    | false =>
      simp only [Bool.false_eq_true, if_false, Nat.add_zero]
      by_cases c : i = n
      · subst c
        rw [e]
        constructor
        · intro z; cases z
        · intro z; omega
      · exact bs_dn n (fun i j hij hj => h i j hij (by omega)) i (by omega)
theorem bs_rg : ∀ K, K ≤ 7 → (List.range 7).filter (fun s => decide (s < K)) = List.range K := by
  intro K hK
  have : K = 0 ∨ K = 1 ∨ K = 2 ∨ K = 3 ∨ K = 4 ∨ K = 5 ∨ K = 6 ∨ K = 7 := by omega
  rcases this with rfl | rfl | rfl | rfl | rfl | rfl | rfl | rfl <;> decide
theorem bs_o (w : Nat → Nat) : ((List.range (cn_ 7 (fun s => decide (0 < bs_i w 36 s)))).map (bs_i w 36)).Perm (ht_W w) := by
  have hs := bs_ok w
  have hp := bs_p w 36
  generalize bs_i w 36 = a at hs hp
  have hd := bs_dn (P := fun s => decide (0 < a s)) 7 (fun i j hij hj h => by
    have := hs i j hij hj
    have := decide_eq_true_iff.mp h
    exact decide_eq_true_iff.mpr (by omega))
  generalize hK : cn_ 7 (fun s => decide (0 < a s)) = K at hd
  have hK7 : K ≤ 7 := by
    rw [← hK]
    have := cn_mono (n := 7) (P := fun s => decide (0 < a s)) (Q := fun _ => true) (fun _ _ _ => rfl)
    rw [cn_all] at this
    exact this
  have e1 : (List.range 7).filter (fun s => decide (0 < a s)) = List.range K := by
    rw [← bs_rg K hK7]
    refine List.filter_congr fun s hs => ?_
    have := hd s (List.mem_range.mp hs)
    rw [Bool.eq_iff_iff, this, decide_eq_true_iff]
  have e2 : ht_W w = ((List.range 7).map w).filter (fun x => decide (0 < x)) := by
    unfold ht_W ht_P
    rw [List.filter_map]
    rfl
  have e3 : (List.range K).map a = ((List.range 7).map a).filter (fun x => decide (0 < x)) := by
    rw [List.filter_map, ← e1]
    rfl
  rw [e2, e3]
  exact hp.filter _
theorem bs_os (w : Nat → Nat) (K : Nat) (hK : K ≤ 7) : ((List.range K).map (bs_i w 36)).Pairwise (fun x y => y ≤ x) := by
  rw [List.pairwise_map]
  refine List.Pairwise.imp_of_mem ?_ (List.pairwise_lt_range (n := K))
  intro i j hi hj hij
  exact bs_ok w i j hij (by have := List.mem_range.mp hj; omega)
/-- kinds: the same number before the sorting and after it -/
theorem bs_k (w : Nat → Nat) : cn_ 7 (fun s => decide (0 < bs_i w 36 s)) = cn_ 7 (fun s => decide (0 < w s)) := by
  have h := (bs_o w).length_eq
  rw [List.length_map, List.length_range] at h
  rw [h]
  unfold ht_W ht_P cn_
  rw [List.length_map, List.countP_eq_length_filter]
end
section
/-! X's sorting: the column and the mark -/
def wk_f (t : Nat → Nat) : Nat → Int32 := fun i => nI (t i)
theorem wk_at {t : Nat → Nat} {l : Nat} (h : l < 2 ^ 31) : wk_f t (nI l).toNatClampNeg = nI (t l) := by
  show nI (t _) = _
  rw [nI_clamp h]
theorem wk_cl {a : Nat → Int32} {l : Nat} (h : l < 2 ^ 31) : a (nI l).toNatClampNeg = a l := by rw [nI_clamp h]
theorem wk_cla {a : Nat → Int32} {l : Nat} {x : Int32} (h : l < 2 ^ 31) (e : a l = x) : a (nI l).toNatClampNeg = x := by rw [nI_clamp h]; exact e
/-- the column, as a function of the place -/
noncomputable def bw_c (t : Nat → Nat) (n : Nat) (i : Nat) : Nat :=
  @dite _ (∃ p, p < n ∧ bw_p t n p = i) (Classical.propDecidable _) (fun h => t (bw_pv n (Classical.choose h))) (fun _ => 0)
theorem bw_cp {t : Nat → Nat} {n p : Nat} (hp : p < n) : bw_c t n (bw_p t n p) = t (bw_pv n p) := by
  have h : ∃ q, q < n ∧ bw_p t n q = bw_p t n p := ⟨p, hp, rfl⟩
  unfold bw_c
  rw [dif_pos h]
  have hc := Classical.choose_spec h
  rw [bw_pinj _ _ hc.1 hp hc.2]
theorem bw_c6 {t : Nat → Nat} (ht : ∀ i, t i < 6) (n i : Nat) : bw_c t n i < 6 := by
  unfold bw_c
  split
  · exact ht _
  · omega
theorem bw_cag {t : Nat → Nat} {n : Nat} {a : Nat → Int32} (h : ∀ p, p < n → a (bw_p t n p) = nI (t (bw_pv n p))) : ∀ i, i < n → a i = nI (bw_c t n i) := by
  intro i hi
  obtain ⟨p, hp, rfl⟩ := bw_psurj (t := t) i hi
  rw [h p hp, bw_cp hp]
section
variable {le mk sc ok bc rc rr : Int32} {tx co ro rk sl nw np ns no ln cb bi rs rd rm rt : Nat → Int32}
theorem xs_72 {post : Int32 → Prop} {J : Int32 → Int32 → Int32 → Prop} {x1 x2 z : Int32} {n r k : Nat} (hn : n ≤ 32) (hr : r < n) (hk : k < n)
    (h : J z (nI (bw_nx n r)) (nI (k + 1))) : wX_sortsBefore_72 post J x1 x2 (nI r) (nI k) z (nI n) mk sc ok bc rc rr tx co ro rk sl nw np ns no ln cb bi rs rd rm rt := by
  unfold bw_nx at h
  refine pk_le n (r + 1) (fun hc => nm_r (nI_1 k) ?_) (fun hc => nm_r (nI_1 r) (nm_r (nI_1 k) ?_)) rfl (nI_1 r)
  · rw [if_neg (by omega)] at h; exact h
  · rw [if_pos (by omega)] at h; exact h
theorem xs_8 {post : Int32 → Prop} {t : Nat → Nat} {n p q : Nat} (ht : ∀ i, t i < 6) (hn : n ≤ 32) (hp : p < n) (hq : q < n) : ∀ (m k l r : Nat), k + m = n → l < n → r < n →
    ((bw_x (bw_r t n m l) (bw_r t n m r) ∨ (bw_r t n m l = bw_r t n m r ∧ p < q)) → post 1) →
    (¬ (bw_x (bw_r t n m l) (bw_r t n m r) ∨ (bw_r t n m l = bw_r t n m r ∧ p < q)) → post 0) →
    wX_sortsBefore_8 post (nI p) (nI q) (nI n) mk sc ok bc rc rr (wk_f t) co ro rk sl nw np ns no ln cb bi rs rd rm rt (m + 1) (nI l) (nI r) (nI k) := by
  intro m
  induction m with
  | zero =>
    intro k l r hk hl hr h1 h0
    refine pk_le n k (fun _ => pk_le q p (fun hc => h0 ?_) (fun hc => h1 (Or.inr ⟨rfl, hc⟩))) (fun hc => absurd hc (by omega))
    intro hz
    rcases hz with hz | ⟨_, hz⟩
    · exact hz
    · omega
  | succ m ih =>
    intro k l r hk hl hr h1 h0
    have hl6 := ht l
    have hr6 := ht r
    refine pk_le n k (fun hc => absurd hc (by omega)) (fun _ => ⟨pk_in l 32 (by omega), pk_in r 32 (by omega), ?_⟩)
    refine pk_eq (t l) (t r) (fun he => ?_) (fun hne => ⟨pk_in l 32 (by omega), pk_in r 32 (by omega), ?_⟩) (wk_at (by omega)) (wk_at (by omega))
    · have hr' := bw_nxlt hr
      have hl' := bw_nxlt hl
      have hP : (bw_x (bw_r t n (m + 1) l) (bw_r t n (m + 1) r) ∨ (bw_r t n (m + 1) l = bw_r t n (m + 1) r ∧ p < q)) ↔
          (bw_x (bw_r t n m (bw_nx n l)) (bw_r t n m (bw_nx n r)) ∨ (bw_r t n m (bw_nx n l) = bw_r t n m (bw_nx n r) ∧ p < q)) := by
        show ((t l < t r ∨ (t l = t r ∧ bw_x (bw_r t n m (bw_nx n l)) (bw_r t n m (bw_nx n r)))) ∨ (t l :: bw_r t n m (bw_nx n l) = t r :: bw_r t n m (bw_nx n r) ∧ p < q)) ↔ _
        rw [he]
        simp
      rw [hP] at h1 h0
      have hI := ih (k + 1) (bw_nx n l) (bw_nx n r) (by omega) hl' hr' h1 h0
      refine pk_le n (l + 1) (fun hc => xs_72 hn hr (by omega) ?_) (fun hc => ?_) rfl (nI_1 l)
      · have e : bw_nx n l = 0 := by unfold bw_nx; rw [if_neg (by omega)]
        rw [e] at hI
        exact hI
      · have e : bw_nx n l = l + 1 := by unfold bw_nx; rw [if_pos (by omega)]
        rw [e] at hI
        rw [nI_1 l]
        exact xs_72 hn hr (by omega) hI
    · refine pk_le (t r) (t l) (fun hc => h0 ?_) (fun hc => h1 (Or.inl (Or.inl hc))) (wk_at (by omega)) (wk_at (by omega))
      intro hz
      rcases hz with hz | ⟨hz, _⟩
      · rcases hz with hz | ⟨hz, _⟩
        · omega
        · exact hne hz
      · exact hne (List.cons.inj hz).1
theorem xs_before {post : Int32 → Prop} {t : Nat → Nat} {n p q : Nat} (ht : ∀ i, t i < 6) (hn : n ≤ 32) (hp : p < n) (hq : q < n)
    (h1 : bw_B t n p q → post 1) (h0 : ¬ bw_B t n p q → post 0) : wpX_sortsBefore post (nI n, mk, sc, ok, bc, rc, rr, wk_f t, co, ro, rk, sl, nw, np, ns, no, ln, cb, bi, rs, rd, rm, rt) (nI p) (nI q) :=
  ⟨n + 1, xs_8 ht hn hp hq n 0 p q (by omega) hp hq h1 h0⟩
theorem xs_4 {post : Int32 → Prop} {t : Nat → Nat} {n p : Nat} (ht : ∀ i, t i < 6) (hn : n ≤ 32) (hp : p < n) (h : post (nI (bw_p t n p))) : ∀ (m i : Nat), i + m = n →
    wX_sortedPlace_4 post (nI p) (nI n) mk sc ok bc rc rr (wk_f t) co ro rk sl nw np ns no ln cb bi rs rd rm rt (m + 1) (nI (cn_ i (fun q => bw_b t n q p))) (nI i) := by
  intro m
  induction m with
  | zero =>
    intro i hi
    have e : i = n := by omega
    subst e
    exact pk_le i i (fun _ => h) (fun hc => absurd hc (by omega))
  | succ m ih =>
    intro i hi
    have hI := ih (i + 1) (by omega)
    rw [cn_s] at hI
    refine pk_le n i (fun hc => absurd hc (by omega)) (fun _ => xs_before ht hn (by omega) hp (fun hB => ?_) (fun hB => ?_))
    · rw [bw_bt.mpr hB, if_pos rfl] at hI
      exact br_f (by decide) (nm_r (nI_1 _) (nm_r (nI_1 i) hI))
    · rw [bw_bf hB] at hI
      exact br_t rfl (nm_r (nI_1 i) hI)
theorem xs_place {post : Int32 → Prop} {t : Nat → Nat} {n p : Nat} (ht : ∀ i, t i < 6) (hn : n ≤ 32) (hp : p < n) (h : post (nI (bw_p t n p))) :
    wpX_sortedPlace post (nI n, mk, sc, ok, bc, rc, rr, wk_f t, co, ro, rk, sl, nw, np, ns, no, ln, cb, bi, rs, rd, rm, rt) (nI p) :=
  ⟨n + 1, xs_4 ht hn hp h n 0 (by omega)⟩
theorem xs_46 {post : SX → Prop} {J : Int32 → Int32 → (Nat → Int32) → (Nat → Int32) → (Nat → Int32) → (Nat → Int32) → (Nat → Int32) → (Nat → Int32) → (Nat → Int32) → (Nat → Int32) → (Nat → Int32) → (Nat → Int32) → (Nat → Int32) → (Nat → Int32) → (Nat → Int32) → (Nat → Int32) → (Nat → Int32) → (Nat → Int32) → Prop}
    {t : Nat → Nat} {n i g z : Nat} (hi : i < 32) (hz : z < 32) (hg : g < 32)
    (h : J (nI (i + 1)) (if i = 0 then nI g else mk) (wk_f t) (upd co g (nI (t z))) ro rk sl nw np ns no ln cb bi rs rd rm rt) :
    wX_makeColumn_46 post J (nI i) (nI g) (nI z) (nI g) (nI n) mk sc ok bc rc rr (wk_f t) co ro rk sl nw np ns no ln cb bi rs rd rm rt := by
  refine ⟨pk_in z 32 hz, pk_in g 32 hg, nm_r (e' := upd co g (nI (t z))) ?_ (pk_eq i 0 (fun hc => nm_r (nI_1 i) ?_) (fun hc => nm_r (nI_1 i) ?_))⟩
  · rw [wk_at (by omega), nI_clamp (by omega)]
  · rw [if_pos hc] at h; exact h
  · rw [if_neg hc] at h; exact h
theorem xs_7 {post : SX → Prop} {t : Nat → Nat} {n : Nat} (ht : ∀ i, t i < 6) (hn : n ≤ 32)
    (h : ∀ (mk : Int32) (co : Nat → Int32), (0 < n → mk = nI (bw_p t n 0)) → (∀ p, p < n → co (bw_p t n p) = nI (t (bw_pv n p))) → post (nI n, mk, sc, ok, bc, rc, rr, wk_f t, co, ro, rk, sl, nw, np, ns, no, ln, cb, bi, rs, rd, rm, rt)) :
    ∀ (m i : Nat) (mk : Int32) (co : Nat → Int32), i + m = n → (0 < i → mk = nI (bw_p t n 0)) → (∀ p, p < i → co (bw_p t n p) = nI (t (bw_pv n p))) →
    wX_makeColumn_7 post (nI n) sc ok bc rc rr (m + 1) (nI i) mk (wk_f t) co ro rk sl nw np ns no ln cb bi rs rd rm rt := by
  intro m
  induction m with
  | zero =>
    intro i mk co hi hm hc
    have e : i = n := by omega
    subst e
    exact pk_le i i (fun _ => h mk co hm hc) (fun hc => absurd hc (by omega))
  | succ m ih =>
    intro i mk co hi hm hc
    refine pk_le n i (fun hc => absurd hc (by omega)) (fun _ => xs_place ht hn (by omega) ?_)
    have hg := bw_plt (t := t) (n := n) (p := i) (by omega)
    have hpv := bw_pvlt (n := n) (l := i) (by omega)
    have hI := ih (i + 1) (if i = 0 then nI (bw_p t n i) else mk) (upd co (bw_p t n i) (nI (t (bw_pv n i)))) (by omega) (by
      intro _
      by_cases e : i = 0
      · subst e; rw [if_pos rfl]
      · rw [if_neg e]; exact hm (by omega)) (by
      intro p hp
      by_cases e : p = i
      · subst e; exact pk_us
      · rw [pk_un (fun z => e (bw_pinj p i (by omega) (by omega) z))]
        exact hc p (by omega))
    refine pk_eq i 0 (fun e => ?_) (fun e => ?_)
    · have e2 : nI n - 1 = nI (bw_pv n i) := by
        unfold bw_pv; rw [if_pos e]; exact pk_sub (b := 1) (by omega)
      rw [e2]
      exact xs_46 (by omega) (by omega) (by omega) hI
    · have e2 : nI i - 1 = nI (bw_pv n i) := by
        unfold bw_pv; rw [if_neg e]; exact pk_sub (b := 1) (by omega)
      rw [e2]
      exact xs_46 (by omega) (by omega) (by omega) hI
theorem xs_col {post : SX → Prop} {t : Nat → Nat} {n : Nat} (ht : ∀ i, t i < 6) (hn : n ≤ 32)
    (h : ∀ (mk : Int32) (co : Nat → Int32), (0 < n → mk = nI (bw_p t n 0)) → (∀ i, i < n → co i = nI (bw_c t n i)) → post (nI n, mk, sc, ok, bc, rc, rr, wk_f t, co, ro, rk, sl, nw, np, ns, no, ln, cb, bi, rs, rd, rm, rt)) :
    wpX_makeColumn post (nI n, mk, sc, ok, bc, rc, rr, wk_f t, co, ro, rk, sl, nw, np, ns, no, ln, cb, bi, rs, rd, rm, rt) :=
  ⟨n + 1, xs_7 ht hn (fun mk co h1 h2 => h mk co h1 (bw_cag h2)) n 0 0 co (by omega) (fun z => absurd z (by omega)) (fun p hp => absurd hp (by omega))⟩
end
end
section
/-! X's row and ranks -/
section
variable {le mk sc ok bc rc rr : Int32} {tx co ro rk sl nw np ns no ln cb bi rs rd rm rt : Nat → Int32}
theorem xr_2 {post : SX → Prop} (h : ∀ ro : Nat → Int32, (∀ j, j < 6 → ro j = nI j) → post (le, mk, sc, ok, bc, rc, rr, tx, co, ro, rk, sl, nw, np, ns, no, ln, cb, bi, rs, rd, rm, rt)) : ∀ (m i : Nat) (ro : Nat → Int32), i + m = 6 → (∀ j, j < i → ro j = nI j) →
    wX_resetRow_2 post le mk sc ok bc rc rr (m + 1) (nI i) tx co ro rk sl nw np ns no ln cb bi rs rd rm rt := by
  intro m
  induction m with
  | zero =>
    intro i ro hi hr
    have e : i = 6 := by omega
    subst e
    exact pk_le 6 6 (fun _ => h ro hr) (fun hc => absurd hc (by omega))
  | succ m ih =>
    intro i ro hi hr
    refine pk_le 6 i (fun hc => absurd hc (by omega)) (fun _ => ⟨pk_in i 6 (by omega), nm_e (nm_r (nI_1 i) (ih (i + 1) _ (by omega) ?_))⟩)
    intro j hj
    rw [nI_clamp (by omega)]
    by_cases e : j = i
    · subst e; exact pk_us
    · rw [pk_un e]; exact hr j (by omega)
theorem xr_reset {post : SX → Prop} (h : ∀ ro : Nat → Int32, (∀ j, j < 6 → ro j = nI j) → post (le, mk, sc, ok, bc, rc, rr, tx, co, ro, rk, sl, nw, np, ns, no, ln, cb, bi, rs, rd, rm, rt)) : wpX_resetRow post (le, mk, sc, ok, bc, rc, rr, tx, co, ro, rk, sl, nw, np, ns, no, ln, cb, bi, rs, rd, rm, rt) :=
  ⟨7, xr_2 h 6 0 ro (by omega) (fun j hj => absurd hj (by omega))⟩
theorem xr_4 {post : Int32 → Prop} {row : Nat → Nat} {c : Nat} (hc6 : c < 6) (hr6 : ∀ j, j < 6 → row j < 6) (hr : ∀ j, j < 6 → ro j = nI (row j)) (h : post (nI (mf_pl row c 6))) : ∀ (m k : Nat), k + m = 6 →
    wX_placeInRow_4 post (nI c) le mk sc ok bc rc rr tx co ro rk sl nw np ns no ln cb bi rs rd rm rt (m + 1) (nI (mf_pl row c k)) (nI k) := by
  intro m
  induction m with
  | zero =>
    intro k hk
    have e : k = 6 := by omega
    subst e
    exact pk_le 6 6 (fun _ => h) (fun hc => absurd hc (by omega))
  | succ m ih =>
    intro k hk
    have hI := ih (k + 1) (by omega)
    have h6 := hr6 k (by omega)
    have e : mf_pl row c (k + 1) = if row k = c then k else mf_pl row c k := rfl
    rw [e] at hI
    refine pk_le 6 k (fun hc => absurd hc (by omega)) (fun _ => ⟨pk_in k 6 (by omega), pk_eq (row k) c (fun hc => nm_r (nI_1 k) ?_) (fun hc => nm_r (nI_1 k) ?_) (wk_cla (by omega) (hr k (by omega)))⟩)
    · rw [if_pos hc] at hI; exact hI
    · rw [if_neg hc] at hI; exact hI
theorem xr_place {post : Int32 → Prop} {row : Nat → Nat} {c : Nat} (hc6 : c < 6) (hr6 : ∀ j, j < 6 → row j < 6) (hr : ∀ j, j < 6 → ro j = nI (row j)) (h : post (nI (mf_pl row c 6))) :
    wpX_placeInRow post (le, mk, sc, ok, bc, rc, rr, tx, co, ro, rk, sl, nw, np, ns, no, ln, cb, bi, rs, rd, rm, rt) (nI c) := ⟨7, xr_4 hc6 hr6 hr h 6 0 (by omega)⟩
theorem xr_9 {post : SX → Prop} {x : Int32} : ∀ (k : Nat) (ro : Nat → Int32), k < 6 → (∀ ro' : Nat → Int32, (∀ j, j < 6 → ro' j = if j = 0 then x else if j ≤ k then ro (j - 1) else ro j) → post (le, mk, sc, ok, bc, rc, rr, tx, co, ro', rk, sl, nw, np, ns, no, ln, cb, bi, rs, rd, rm, rt)) →
    wX_moveToFront_9 post x le mk sc ok bc rc rr (k + 1) (nI k) tx co ro rk sl nw np ns no ln cb bi rs rd rm rt := by
  intro k
  induction k with
  | zero =>
    intro ro hk h
    refine pk_le 0 0 (fun _ => nm_e (h _ ?_)) (fun hc => absurd hc (by omega))
    intro j hj
    by_cases e : j = 0
    · subst e; rw [if_pos rfl]; exact pk_us
    · rw [if_neg e, if_neg (by omega)]; exact pk_un e
  | succ k ih =>
    intro ro hk h
    refine pk_le (k + 1) 0 (fun hc => absurd hc (by omega)) (fun _ => ⟨pk_in k 6 (by omega) (nI_pred k), pk_in (k + 1) 6 (by omega), nm_e (nm_r (pk_m1 k) (ih _ (by omega) ?_))⟩)
    intro ro' hr
    refine h ro' ?_
    intro j hj
    rw [hr j hj]
    by_cases e : j = 0
    · rw [if_pos e, if_pos e]
    · rw [if_neg e, if_neg e, nI_clamp (by omega), nI_pred, nI_clamp (by omega)]
      by_cases e2 : j ≤ k
      · rw [if_pos e2, if_pos (by omega), pk_un (by omega)]
      · rw [if_neg e2]
        by_cases e3 : j = k + 1
        · subst e3; rw [if_pos (by omega), pk_us]; rfl
        · rw [if_neg (by omega), pk_un (by omega)]
theorem xr_front {post : SX → Prop} {row : Nat → Nat} {r : Nat} (hr6 : r < 6) (hr : ∀ j, j < 6 → ro j = nI (row j))
    (h : ∀ ro : Nat → Int32, (∀ j, j < 6 → ro j = nI (mf_mv row r j)) → post (le, mk, sc, ok, bc, rc, rr, tx, co, ro, rk, sl, nw, np, ns, no, ln, cb, bi, rs, rd, rm, rt)) : wpX_moveToFront post (le, mk, sc, ok, bc, rc, rr, tx, co, ro, rk, sl, nw, np, ns, no, ln, cb, bi, rs, rd, rm, rt) (nI r) := by
  refine ⟨pk_in r 6 hr6, nm_r (wk_cla (by omega) (hr r hr6)) ⟨r + 1, xr_9 r ro hr6 ?_⟩⟩
  intro ro' h'
  refine h ro' ?_
  intro j hj
  rw [h' j hj]
  unfold mf_mv
  by_cases e : j = 0
  · rw [if_pos e, if_pos e]
  · rw [if_neg e, if_neg e]
    by_cases e2 : j ≤ r
    · rw [if_pos e2, if_pos e2]; exact hr _ (by omega)
    · rw [if_neg e2, if_neg e2]; exact hr _ hj
theorem xr_6 {post : SX → Prop} {c : Nat → Nat} {n : Nat} (hn : n ≤ 32) (hc6 : ∀ i, c i < 6) (hc : ∀ i, i < n → co i = nI (c i))
    (h : ∀ ro rk : Nat → Int32, (∀ j, j < n → rk j = nI (mf_rk c j)) → post (nI n, mk, sc, ok, bc, rc, rr, tx, co, ro, rk, sl, nw, np, ns, no, ln, cb, bi, rs, rd, rm, rt)) : ∀ (m i : Nat) (ro rk : Nat → Int32), i + m = n → (∀ j, j < i → rk j = nI (mf_rk c j)) → (∀ j, j < 6 → ro j = nI (mf_row c i j)) →
    wX_makeRanks_6 post (m + 1) (nI i) (nI n) mk sc ok bc rc rr tx co ro rk sl nw np ns no ln cb bi rs rd rm rt := by
  intro m
  induction m with
  | zero =>
    intro i ro rk hi h1 h2
    have e : i = n := by omega
    subst e
    exact pk_le i i (fun _ => h ro rk h1) (fun hc => absurd hc (by omega))
  | succ m ih =>
    intro i ro rk hi h1 h2
    refine pk_le n i (fun hc => absurd hc (by omega)) (fun _ => ⟨pk_in i 32 (by omega), ?_⟩)
    rw [wk_cla (by omega) (hc i (by omega))]
    refine xr_place (hc6 i) (mf_rowlt c i) h2 ⟨pk_in i 32 (by omega), nm_e (xr_front (mf_rklt c i) h2 ?_)⟩
    intro ro' h3
    refine nm_r (nI_1 i) (ih (i + 1) ro' _ (by omega) ?_ h3)
    intro j hj
    rw [nI_clamp (by omega)]
    by_cases e : j = i
    · subst e; exact pk_us
    · rw [pk_un e]; exact h1 j (by omega)
theorem xr_ranks {post : SX → Prop} {c : Nat → Nat} {n : Nat} (hn : n ≤ 32) (hc6 : ∀ i, c i < 6) (hc : ∀ i, i < n → co i = nI (c i))
    (h : ∀ ro rk : Nat → Int32, (∀ j, j < n → rk j = nI (mf_rk c j)) → post (nI n, mk, sc, ok, bc, rc, rr, tx, co, ro, rk, sl, nw, np, ns, no, ln, cb, bi, rs, rd, rm, rt)) : wpX_makeRanks post (nI n, mk, sc, ok, bc, rc, rr, tx, co, ro, rk, sl, nw, np, ns, no, ln, cb, bi, rs, rd, rm, rt) := by
  unfold wpX_makeRanks
  dsimp only
  refine xr_reset ?_
  intro ro' hr
  exact ⟨n + 1, xr_6 hn hc6 hc h n 0 ro' rk (by omega) (fun j hj => absurd hj (by omega)) hr⟩
end
end
section
/-! X's symbols -/
def wk_L (a : Nat → Int32) (L : List Nat) : Prop := ∀ i, i < L.length → a i = nI (L.getD i 0)
theorem wk_L0 (a : Nat → Int32) : wk_L a [] := fun i hi => absurd hi (Nat.not_lt_zero i)
theorem wk_Ls {a : Nat → Int32} {L : List Nat} {x : Nat} (h : wk_L a L) : wk_L (upd a L.length (nI x)) (L ++ [x]) := by
  intro i hi
  rw [List.length_append] at hi
  have hi' : i < L.length + 1 := hi
  by_cases e : i = L.length
  · subst e
    rw [pk_us, List.getD_eq_getElem?_getD, List.getElem?_append_right (Nat.le_refl _), Nat.sub_self]
    rfl
  · rw [pk_un e, List.getD_eq_getElem?_getD, List.getElem?_append_left (by omega), ← List.getD_eq_getElem?_getD]
    exact h i (by omega)
section
variable {le mk sc ok bc rc rr : Int32} {tx co ro rk sl nw np ns no ln cb bi rs rd rm rt : Nat → Int32}
theorem xy_add {post : SX → Prop} {L : List Nat} {x : Nat} (hl : L.length < 32) (hL : wk_L sl L)
    (h : ∀ sl : Nat → Int32, wk_L sl (L ++ [x]) → post (le, mk, nI (L ++ [x]).length, ok, bc, rc, rr, tx, co, ro, rk, sl, nw, np, ns, no, ln, cb, bi, rs, rd, rm, rt)) : wpX_addSymbol post (le, mk, nI L.length, ok, bc, rc, rr, tx, co, ro, rk, sl, nw, np, ns, no, ln, cb, bi, rs, rd, rm, rt) (nI x) := by
  refine pk_le 32 L.length (fun hc => absurd hc (by omega)) (fun _ => ⟨pk_in L.length 32 hl, nm_r (e' := upd sl L.length (nI x)) (by rw [nI_clamp (by omega)]) (nm_r (nI_1 _) ?_)⟩)
  have := h _ (wk_Ls hL (x := x))
  rw [List.length_append] at this
  exact this
theorem xy_4 {post : SX → Prop} : ∀ (f s m : Nat) (L : List Nat) (sl : Nat → Int32), m < 2 ^ f → s + f ≤ 32 → L.length + m ≤ 32 → m ≤ 32 → wk_L sl L →
    (∀ sl : Nat → Int32, wk_L sl (L ++ rl_rn f m) → post (le, mk, nI (L ++ rl_rn f m).length, ok, bc, rc, rr, tx, co, ro, rk, sl, nw, np, ns, no, ln, cb, bi, rs, rd, rm, rt)) →
    wX_addRun_4 post (f + 1) (nI m) (nI s) le mk (nI L.length) ok bc rc rr tx co ro rk sl nw np ns no ln cb bi rs rd rm rt := by
  intro f
  induction f with
  | zero =>
    intro s m L sl hm hs hl hm2 hL h
    have e : m = 0 := by omega
    subst e
    have h' := h sl (by show wk_L sl (L ++ []); rw [List.append_nil]; exact hL)
    have e2 : L ++ rl_rn 0 0 = L := List.append_nil L
    rw [e2] at h'
    exact pk_le 32 s (fun _ => h') (fun _ => pk_le 0 0 (fun _ => h') (fun hc => absurd hc (by omega)))
  | succ f ih =>
    intro s m L sl hm hs hl hm2 hL h
    rw [Nat.pow_succ] at hm
    refine pk_le 32 s (fun hc => absurd hc (by omega)) (fun _ => pk_le m 0 (fun hc => ?_) (fun hc => ⟨by decide, ?_⟩))
    · have e : m = 0 := by omega
      subst e
      have e2 : L ++ rl_rn (f + 1) 0 = L := by rw [rl_rn0, List.append_nil]
      rw [e2] at h
      exact h sl hL
    · refine pk_eq (m % 2) 1 (fun ho => ?_) (fun ho => ?_) (pk_rem (d := 2) (by omega) (by omega) (by omega))
      · refine xy_add (x := 0) (by omega) hL ?_
        intro sl' hL'
        refine ⟨by decide, nm_r (e' := nI ((m - 1) / 2)) ?_ (nm_r (nI_1 s) (ih (s + 1) _ _ sl' (by omega) (by omega) ?_ (by omega) hL' ?_))⟩
        · rw [show nI m - 1 = nI (m - 1) from pk_sub (b := 1) (by omega)]
          exact pk_div (d := 2) (by omega) (by omega) (by omega)
        · rw [List.length_append]; show L.length + 1 + _ ≤ 32; omega
        · intro sl2 h2
          have e2 : L ++ [0] ++ rl_rn f ((m - 1) / 2) = L ++ rl_rn (f + 1) m := by rw [rl_odd ho, List.append_assoc]; rfl
          rw [e2] at h2 ⊢
          exact h sl2 h2
      · refine xy_add (x := 1) (by omega) hL ?_
        intro sl' hL'
        refine ⟨by decide, nm_r (e' := nI ((m - 2) / 2)) ?_ (nm_r (nI_1 s) (ih (s + 1) _ _ sl' (by omega) (by omega) ?_ (by omega) hL' ?_))⟩
        · rw [show nI m - 2 = nI (m - 2) from pk_sub (b := 2) (by omega)]
          exact pk_div (d := 2) (by omega) (by omega) (by omega)
        · rw [List.length_append]; show L.length + 1 + _ ≤ 32; omega
        · intro sl2 h2
          have e2 : L ++ [1] ++ rl_rn f ((m - 2) / 2) = L ++ rl_rn (f + 1) m := by rw [rl_even (by omega) ho, List.append_assoc]; rfl
          rw [e2] at h2 ⊢
          exact h sl2 h2
theorem xy_run {post : SX → Prop} {m : Nat} {L : List Nat} (hl : L.length + m ≤ 32) (hL : wk_L sl L)
    (h : ∀ sl : Nat → Int32, wk_L sl (L ++ rl_rn 6 m) → post (le, mk, nI (L ++ rl_rn 6 m).length, ok, bc, rc, rr, tx, co, ro, rk, sl, nw, np, ns, no, ln, cb, bi, rs, rd, rm, rt)) : wpX_addRun post (le, mk, nI L.length, ok, bc, rc, rr, tx, co, ro, rk, sl, nw, np, ns, no, ln, cb, bi, rs, rd, rm, rt) (nI m) :=
  ⟨7, xy_4 6 0 m L sl (by omega) (by omega) hl (by omega) hL h⟩
theorem xy_9 {post : SX → Prop} {r : Nat → Nat} {n : Nat} (hn : n ≤ 32) (hr6 : ∀ i, r i < 6) (hr : ∀ i, i < n → rk i = nI (r i))
    (h : ∀ sl : Nat → Int32, wk_L sl (rl_sy r n) → post (nI n, mk, nI (rl_sy r n).length, ok, bc, rc, rr, tx, co, ro, rk, sl, nw, np, ns, no, ln, cb, bi, rs, rd, rm, rt)) : ∀ (m i : Nat) (sl : Nat → Int32), i + m = n → wk_L sl (rl_f r i).1 →
    wX_makeSymbols_9 post (m + 1) (nI (rl_f r i).2) (nI i) (nI n) mk (nI (rl_f r i).1.length) ok bc rc rr tx co ro rk sl nw np ns no ln cb bi rs rd rm rt := by
  intro m
  induction m with
  | zero =>
    intro i sl hi hL
    have e : i = n := by omega
    subst e
    have hl := rl_fl r i
    exact pk_le i i (fun _ => xy_run (by omega) hL h) (fun hc => absurd hc (by omega))
  | succ m ih =>
    intro i sl hi hL
    have hl := rl_fl r i
    have h6 := hr6 i
    refine pk_le n i (fun hc => absurd hc (by omega)) (fun _ => ⟨pk_in i 32 (by omega), pk_eq (r i) 0 (fun hz => ?_) (fun hz => ?_) (wk_cla (by omega) (hr i (by omega)))⟩)
    · have hI := ih (i + 1) sl (by omega)
      rw [rl_fz hz] at hI
      exact nm_r (nI_1 _) (nm_r (nI_1 i) (hI hL))
    · refine xy_run (by omega) hL ?_
      intro sl' hL'
      refine ⟨pk_in i 32 (by omega), ?_⟩
      have e : rk (nI i).toNatClampNeg + 1 = nI (r i + 1) := by rw [wk_cla (by omega) (hr i (by omega)), nI_1]
      have hl2 := rl_len 6 (rl_f r i).2
      rw [e]
      refine xy_add (by rw [List.length_append]; omega) hL' ?_
      intro sl2 h2
      have hI := ih (i + 1) sl2 (by omega)
      rw [rl_fn hz] at hI
      exact nm_r (nI_1 i) (hI h2)
theorem xy_sym {post : SX → Prop} {r : Nat → Nat} {n : Nat} (hn : n ≤ 32) (hr6 : ∀ i, r i < 6) (hr : ∀ i, i < n → rk i = nI (r i))
    (h : ∀ sl : Nat → Int32, wk_L sl (rl_sy r n) → post (nI n, mk, nI (rl_sy r n).length, ok, bc, rc, rr, tx, co, ro, rk, sl, nw, np, ns, no, ln, cb, bi, rs, rd, rm, rt)) : wpX_makeSymbols post (nI n, mk, sc, ok, bc, rc, rr, tx, co, ro, rk, sl, nw, np, ns, no, ln, cb, bi, rs, rd, rm, rt) :=
  ⟨n + 1, xy_9 hn hr6 hr h n 0 sl (by omega) (wk_L0 sl)⟩
end
end
section
/-! X's tree: the beginning -/
theorem wk_mid {a : Nat → Int32} {P R : List Nat} {x : Nat} (h : wk_L a (P ++ x :: R)) : a P.length = nI x := by
  have := h P.length (by rw [List.length_append, List.length_cons]; omega)
  rw [List.getD_eq_getElem?_getD, List.getElem?_append_right (Nat.le_refl _), Nat.sub_self] at this
  exact this
theorem cn_one {P Q : Nat → Bool} {x : Nat} : ∀ n, x < n → (∀ i, i < n → i ≠ x → P i = Q i) → P x = false → Q x = true → cn_ n Q = cn_ n P + 1
  | 0, hx, _, _, _ => absurd hx (Nat.not_lt_zero x)
  | n + 1, hx, h, h1, h2 => by
    rw [cn_s, cn_s]
    by_cases e : x = n
    · subst e
      rw [h1, h2, cn_congr (P := Q) (Q := P) fun i hi => (h i (by omega) (by omega)).symm]
      simp
    · rw [cn_one n (by omega) (fun i hi => h i (by omega)) h1 h2, h n (by omega) (fun z => e z.symm)]
      omega
def wk_b (b : Bool) : Int32 := if b then 1 else 0
def wk_p (p : Option Nat) : Int32 := match p with
  | none => -1
  | some q => nI q
def wk_K (L : List Nat) : Nat := cn_ 7 (fun s => decide (0 < L.count s))
theorem wk_Ks {L : List Nat} {x : Nat} (hx : x < 7) : wk_K (L ++ [x]) = if L.count x = 0 then wk_K L + 1 else wk_K L := by
  unfold wk_K
  by_cases e : L.count x = 0
  · rw [if_pos e]
    refine cn_one 7 hx ?_ ?_ ?_
    · intro i _ hne
      have : ¬ x = i := fun z => hne z.symm
      simp [List.count_append, List.count_cons, this]
    · simp [e]
    · simp [List.count_append]
  · rw [if_neg e]
    refine cn_congr fun i _ => ?_
    by_cases c : x = i
    · subst c
      have h1 : 0 < (L ++ [x]).count x := by rw [List.count_append]; omega
      have h2 : 0 < L.count x := by omega
      rw [decide_eq_true h1, decide_eq_true h2]
    · simp [List.count_append, List.count_cons, c]
theorem wk_cs (L : List Nat) (x v : Nat) : (L ++ [x]).count v = if v = x then L.count v + 1 else L.count v := by
  rw [List.count_append, List.count_cons]
  by_cases c : v = x
  · subst c; simp
  · have : ¬ x = v := fun z => c z.symm
    simp [c, this]
theorem wk_Kn (L : List Nat) : wk_K L ≤ 7 := by
  have := cn_mono (n := 7) (P := fun s => decide (0 < L.count s)) (Q := fun _ => true) (fun _ _ _ => rfl)
  rw [cn_all] at this
  exact this
theorem wk_n0 : vp_nar .boolean 0 = 0 := by decide
theorem wk_n1 : vp_nar .boolean 1 = 1 := by decide
section
variable {le mk sc ok bc rc rr : Int32} {tx co ro rk sl nw np ns no ln cb bi rs rd rm rt : Nat → Int32}
theorem xt_90 {post : SX → Prop} {J : Int32 → Int32 → (Nat → Int32) → (Nat → Int32) → (Nat → Int32) → (Nat → Int32) → (Nat → Int32) → (Nat → Int32) → (Nat → Int32) → (Nat → Int32) → (Nat → Int32) → (Nat → Int32) → (Nat → Int32) → (Nat → Int32) → (Nat → Int32) → (Nat → Int32) → (Nat → Int32) → (Nat → Int32) → Prop}
    {i x c : Nat} (hx : x < 7) (hc : nw x = nI c) (h : J (nI (i + 1)) ok tx co ro rk sl (upd nw x (nI (c + 1))) np ns no ln cb bi rs rd rm rt) : wX_startTree_90 post J (nI i) (nI x) le mk sc ok bc rc rr tx co ro rk sl nw np ns no ln cb bi rs rd rm rt := by
  refine ⟨pk_in x 13 (by omega), pk_in x 13 (by omega), nm_r (e' := upd nw x (nI (c + 1))) ?_ (nm_r (nI_1 i) h)⟩
  rw [nI_clamp (by omega), hc, nI_1]
theorem xt_49 {post : SX → Prop} {L : List Nat} (hl : L.length ≤ 32) (h7 : ∀ x ∈ L, x < 7) (hL : wk_L sl L)
    (h : ∀ nw no : Nat → Int32, (∀ v, v < 13 → nw v = nI (L.count v)) → (∀ v, v < 13 → no v = wk_b (decide (0 < L.count v))) → post (le, mk, nI L.length, nI (wk_K L), bc, rc, rr, tx, co, ro, rk, sl, nw, np, ns, no, ln, cb, bi, rs, rd, rm, rt)) :
    ∀ (R P : List Nat) (nw no : Nat → Int32), P ++ R = L → (∀ v, v < 13 → nw v = nI (P.count v)) → (∀ v, v < 13 → no v = wk_b (decide (0 < P.count v))) →
    wX_startTree_49 post le mk (nI L.length) bc rc rr (R.length + 1) (nI P.length) (nI (wk_K P)) tx co ro rk sl nw np ns no ln cb bi rs rd rm rt := by
  intro R
  induction R with
  | nil =>
    intro P nw no hP h1 h2
    rw [List.append_nil] at hP
    subst hP
    exact pk_le P.length P.length (fun _ => h nw no h1 h2) (fun hc => absurd hc (by omega))
  | cons x R ih =>
    intro P nw no hP h1 h2
    have hlen := congrArg List.length hP
    rw [List.length_append, List.length_cons] at hlen
    have hx : x < 7 := h7 x (by rw [← hP]; simp)
    have hsx : sl P.length = nI x := wk_mid (R := R) (by rw [hP]; exact hL)
    have hcx : P.count x ≤ P.length := List.count_le_length
    refine pk_le L.length P.length (fun hc => absurd hc (by omega)) (fun _ => ⟨pk_in P.length 32 (by omega), nm_r (wk_cla (by omega) hsx) ⟨pk_in x 13 (by omega), ?_⟩⟩)
    have hI := ih (P ++ [x]) (upd nw x (nI (P.count x + 1)))
    rw [List.length_append, wk_Ks hx] at hI
    have hn : ∀ v, v < 13 → upd nw x (nI (P.count x + 1)) v = nI ((P ++ [x]).count v) := by
      intro v hv
      rw [wk_cs]
      by_cases e : v = x
      · subst e; rw [pk_us, if_pos rfl]
      · rw [pk_un e, if_neg e]; exact h1 v hv
    refine pk_eq (P.count x) 0 (fun hc => ?_) (fun hc => ?_) (wk_cla (by omega) (h1 x (by omega)))
    · rw [if_pos hc] at hI
      refine ⟨pk_in x 13 (by omega), nm_r (e' := upd no x 1) (by rw [nI_clamp (by omega), wk_n1]) (nm_r (nI_1 _) (xt_90 hx (h1 x (by omega)) ?_))⟩
      refine hI _ (by rw [List.append_assoc]; exact hP) hn ?_
      intro v hv
      by_cases e : v = x
      · subst e
        rw [pk_us, wk_cs, if_pos rfl, decide_eq_true (by omega)]; rfl
      · rw [pk_un e, wk_cs, if_neg e]; exact h2 v hv
    · rw [if_neg hc] at hI
      refine xt_90 hx (h1 x (by omega)) ?_
      refine hI _ (by rw [List.append_assoc]; exact hP) hn ?_
      intro v hv
      rw [h2 v hv, wk_cs]
      by_cases e : v = x
      · subst e
        rw [if_pos rfl, decide_eq_true (by omega), decide_eq_true (by omega)]
      · rw [if_neg e]
theorem xt_2 {post : SX → Prop} (h : ∀ nw np ns no : Nat → Int32, (∀ v, v < 13 → nw v = 0 ∧ np v = -1 ∧ ns v = 0 ∧ no v = 0) →
      ∃ n49 : Nat, wX_startTree_49 post le mk sc bc rc rr n49 0 0 tx co ro rk sl nw np ns no ln cb bi rs rd rm rt) : ∀ (m i : Nat) (nw np ns no : Nat → Int32), i + m = 13 → (∀ v, v < i → nw v = 0 ∧ np v = -1 ∧ ns v = 0 ∧ no v = 0) →
    wX_startTree_2 post le mk sc ok bc rc rr (m + 1) (nI i) tx co ro rk sl nw np ns no ln cb bi rs rd rm rt := by
  intro m
  induction m with
  | zero =>
    intro i nw np ns no hi h1
    have e : i = 13 := by omega
    subst e
    exact pk_le 13 13 (fun _ => h nw np ns no h1) (fun hc => absurd hc (by omega))
  | succ m ih =>
    intro i nw np ns no hi h1
    have hin := pk_in (x := nI i) i 13 (by omega)
    refine pk_le 13 i (fun hc => absurd hc (by omega)) (fun _ => ⟨hin, nm_e ⟨hin, nm_e ⟨hin, nm_e ⟨hin, nm_e (nm_r (nI_1 i) (ih (i + 1) _ _ _ _ (by omega) ?_))⟩⟩⟩⟩)
    intro v hv
    rw [nI_clamp (by omega), wk_n0]
    by_cases e : v = i
    · subst e; exact ⟨pk_us, pk_us, pk_us, pk_us⟩
    · rw [pk_un e, pk_un e, pk_un e, pk_un e]; exact h1 v (by omega)
theorem xt_start {post : SX → Prop} {L : List Nat} (hl : L.length ≤ 32) (h7 : ∀ x ∈ L, x < 7) (hL : wk_L sl L)
    (h : ∀ nw np ns no : Nat → Int32, (∀ v, v < 13 → nw v = nI (L.count v)) → (∀ v, v < 13 → np v = -1) → (∀ v, v < 13 → ns v = 0) → (∀ v, v < 13 → no v = wk_b (decide (0 < L.count v))) → post (le, mk, nI L.length, nI (wk_K L), bc, rc, rr, tx, co, ro, rk, sl, nw, np, ns, no, ln, cb, bi, rs, rd, rm, rt)) :
    wpX_startTree post (le, mk, nI L.length, ok, bc, rc, rr, tx, co, ro, rk, sl, nw, np, ns, no, ln, cb, bi, rs, rd, rm, rt) := by
  refine ⟨14, xt_2 ?_ 13 0 nw np ns no (by omega) (fun v hv => absurd hv (by omega))⟩
  intro nw np ns no h0
  refine ⟨L.length + 1, xt_49 hl h7 hL (fun nw no h1 h2 => h nw np ns no h1 (fun v hv => (h0 v hv).2.1) (fun v hv => (h0 v hv).2.2.1) h2) L [] nw no rfl (fun v hv => (h0 v hv).1) (fun v hv => (h0 v hv).2.2.2)⟩
theorem xt_4 {post : Int32 → Prop} {op : Nat → Bool} {wt : Nat → Nat} (hw : ∀ v, v < 13 → wt v < 2 ^ 31) (hno : ∀ v, v < 13 → no v = wk_b (op v)) (hnw : ∀ v, v < 13 → nw v = nI (wt v)) (hex : ∃ v, v < 13 ∧ op v = true)
    (h : ∀ f, f < 13 → op f = true → (∀ v, v < 13 → op v = true → wt f ≤ wt v) → post (nI f)) : ∀ (m i b : Nat), i + m = 13 → b < i →
    ((op b = true ∧ ∀ v, v < i → op v = true → wt b ≤ wt v) ∨ (op b = false ∧ ∀ v, v < i → op v = false)) →
    wX_lightestOpenNode_4 post le mk sc ok bc rc rr tx co ro rk sl nw np ns no ln cb bi rs rd rm rt (m + 1) (nI b) (nI i) := by
  intro m
  induction m with
  | zero =>
    intro i b hi hb hc
    have e : i = 13 := by omega
    subst e
    refine pk_le 13 13 (fun _ => ?_) (fun hc => absurd hc (by omega))
    rcases hc with ⟨c1, c2⟩ | ⟨_, c2⟩
    · exact h b hb c1 c2
    · obtain ⟨v, hv, ho⟩ := hex
      rw [c2 v hv] at ho
      cases ho
  | succ m ih =>
    intro i b hi hb hc
    have hi13 : i < 13 := by omega
    have hb13 : b < 13 := by omega
    have hin := pk_in (x := nI i) i 13 hi13
    have hbn := pk_in (x := nI b) b 13 hb13
    refine pk_le 13 i (fun hc => absurd hc (by omega)) (fun _ => ⟨hin, ?_⟩)
    cases ho : op i with
    | false =>
      refine br_t (by rw [nI_clamp (by omega), hno i hi13, ho]; rfl) (nm_r (nI_1 i) (ih (i + 1) b (by omega) (by omega) ?_))
      rcases hc with ⟨c1, c2⟩ | ⟨c1, c2⟩
      · refine Or.inl ⟨c1, fun v hv hv2 => ?_⟩
        by_cases e : v = i
        · subst e; rw [ho] at hv2; cases hv2
        · exact c2 v (by omega) hv2
      · refine Or.inr ⟨c1, fun v hv => ?_⟩
        by_cases e : v = i
        · subst e; exact ho
        · exact c2 v (by omega)
    | true =>
      refine br_f (by rw [nI_clamp (by omega), hno i hi13, ho]; decide) ⟨hbn, ?_⟩
      rcases hc with ⟨c1, c2⟩ | ⟨c1, c2⟩
      · refine br_f (by rw [nI_clamp (by omega), hno b hb13, c1]; decide) ⟨hin, hbn, ?_⟩
        have w1 := hw b hb13
        have w2 := hw i hi13
        refine pk_le (wt b) (wt i) (fun hle => nm_r (nI_1 i) (ih (i + 1) b (by omega) (by omega) ?_)) (fun hlt => nm_r (nI_1 i) (ih (i + 1) i (by omega) (by omega) ?_)) (wk_cla (by omega) (hnw b hb13)) (wk_cla (by omega) (hnw i hi13)) w1 w2
        · refine Or.inl ⟨c1, fun v hv hv2 => ?_⟩
          by_cases e : v = i
          · subst e; exact hle
          · exact c2 v (by omega) hv2
        · refine Or.inl ⟨ho, fun v hv hv2 => ?_⟩
          by_cases e : v = i
          · subst e; exact Nat.le_refl _
          · have := c2 v (by omega) hv2; omega
      · refine br_t (by rw [nI_clamp (by omega), hno b hb13, c1]; rfl) (nm_r (nI_1 i) (ih (i + 1) i (by omega) (by omega) ?_))
        refine Or.inl ⟨ho, fun v hv hv2 => ?_⟩
        by_cases e : v = i
        · subst e; exact Nat.le_refl _
        · rw [c2 v (by omega)] at hv2; cases hv2
theorem xt_light {post : Int32 → Prop} {op : Nat → Bool} {wt : Nat → Nat} (hw : ∀ v, v < 13 → wt v < 2 ^ 31) (hno : ∀ v, v < 13 → no v = wk_b (op v)) (hnw : ∀ v, v < 13 → nw v = nI (wt v)) (hex : ∃ v, v < 13 ∧ op v = true)
    (h : ∀ f, f < 13 → op f = true → (∀ v, v < 13 → op v = true → wt f ≤ wt v) → post (nI f)) : wpX_lightestOpenNode post (le, mk, sc, ok, bc, rc, rr, tx, co, ro, rk, sl, nw, np, ns, no, ln, cb, bi, rs, rd, rm, rt) := by
  refine ⟨13, xt_4 hw hno hnw hex h 12 1 0 (by omega) (by omega) ?_⟩
  cases ho : op 0 with
  | false =>
    refine Or.inr ⟨rfl, fun v hv => ?_⟩
    have e : v = 0 := by omega
    subst e; exact ho
  | true =>
    refine Or.inl ⟨rfl, fun v hv _ => ?_⟩
    have e : v = 0 := by omega
    subst e; exact Nat.le_refl _
theorem xt_hang {post : SX → Prop} {f p s : Nat} (hf : f < 13) (h : post (le, mk, sc, ok, bc, rc, rr, tx, co, ro, rk, sl, nw, upd np f (nI p), upd ns f (nI s), upd no f 0, ln, cb, bi, rs, rd, rm, rt)) : wpX_hangUnder post (le, mk, sc, ok, bc, rc, rr, tx, co, ro, rk, sl, nw, np, ns, no, ln, cb, bi, rs, rd, rm, rt) (nI f) (nI p) (nI s) := by
  have hin := pk_in (x := nI f) f 13 hf
  have e := nI_clamp (n := f) (by omega)
  exact ⟨hin, nm_r (by rw [e]) ⟨hin, nm_r (by rw [e]) ⟨hin, nm_r (by rw [e, wk_n0]) h⟩⟩⟩
end
end
section
/-! X's tree grows; the codes are taken from it -/
def xg_R (op : Nat → Bool) (wt : Nat → Nat) (par : Nat → Option Nat) (sd : Nat → Nat) (nw np ns no : Nat → Int32) : Prop :=
  ∀ v, v < 13 → no v = wk_b (op v) ∧ nw v = nI (wt v) ∧ np v = wk_p (par v) ∧ ns v = nI (sd v)
theorem xg_two {op : Nat → Bool} (h : 2 ≤ (ht_N op).length) (f : Nat) : ∃ v, v < 13 ∧ v ≠ f ∧ op v = true := by
  have hd := ht_Nd op
  cases e : ht_N op with
  | nil => rw [e] at h; simp at h
  | cons a l =>
    cases e2 : l with
    | nil => rw [e, e2] at h; simp at h
    | cons b l2 =>
      rw [e, e2, List.nodup_cons] at hd
      have ha := ht_Nm.mp (show a ∈ ht_N op by rw [e]; simp)
      have hb := ht_Nm.mp (show b ∈ ht_N op by rw [e, e2]; simp)
      by_cases c : a = f
      · refine ⟨b, hb.1, ?_, hb.2⟩
        intro z
        exact hd.1 (by rw [c, z]; simp)
      · exact ⟨a, ha.1, c, ha.2⟩
theorem xg_rep {op : Nat → Bool} {wt : Nat → Nat} {par : Nat → Option Nat} {sd : Nat → Nat} {nw np ns no : Nat → Int32} (h : xg_R op wt par sd nw np ns no) {f s nd : Nat} (hfs : f ≠ s) (hf : f ≠ nd) (hs : s ≠ nd) :
    xg_R (ht_op op f s nd) (ht_wt wt f s nd) (ht_par par f s nd) (ht_sd sd f s) (upd nw nd (nI (wt f + wt s))) (upd (upd np f (nI nd)) s (nI nd)) (upd (upd ns f (nI 0)) s (nI 1)) (upd (upd (upd no f 0) s 0) nd 1) := by
  intro v hv
  obtain ⟨h1, h2, h3, h4⟩ := h v hv
  unfold ht_op ht_wt ht_par ht_sd
  refine ⟨?_, ?_, ?_, ?_⟩
  · by_cases e : v = nd
    · subst e; rw [pk_us, if_pos rfl]; rfl
    · rw [pk_un e, if_neg e]
      by_cases e2 : v = s
      · subst e2; rw [pk_us, if_pos (Or.inr rfl)]; rfl
      · rw [pk_un e2]
        by_cases e3 : v = f
        · subst e3; rw [pk_us, if_pos (Or.inl rfl)]; rfl
        · rw [pk_un e3, if_neg (by simp [e2, e3])]; exact h1
  · by_cases e : v = nd
    · subst e; rw [pk_us, if_pos rfl]
    · rw [pk_un e, if_neg e]; exact h2
  · by_cases e2 : v = s
    · subst e2; rw [pk_us, if_pos (Or.inr rfl)]; rfl
    · rw [pk_un e2]
      by_cases e3 : v = f
      · subst e3; rw [pk_us, if_pos (Or.inl rfl)]; rfl
      · rw [pk_un e3, if_neg (by simp [e2, e3])]; exact h3
  · by_cases e2 : v = s
    · subst e2; rw [pk_us, if_pos rfl]
    · rw [pk_un e2, if_neg e2]
      by_cases e3 : v = f
      · subst e3; rw [pk_us, if_pos rfl]
      · rw [pk_un e3, if_neg e3]; exact h4
section
variable {le mk sc ok bc rc rr : Int32} {tx co ro rk sl nw np ns no ln cb bi rs rd rm rt : Nat → Int32}
theorem xg_5 {post : SX → Prop} {w : Nat → Nat} {K : Nat} (hK : K ≤ 7)
    (h : ∀ (j : Nat) (op : Nat → Bool) (wt : Nat → Nat) (par : Nat → Option Nat) (sd A : Nat → Nat) (Q : Nat → List Nat) (R : Nat) (nw np ns no : Nat → Int32),
      ht_I w (ht_W w) K j op wt par sd A Q R → xg_R op wt par sd nw np ns no → (∀ v p, par v = some p → p < 13) → (∀ v, v < 7 → wt v = w v) → j ≤ 6 → (K = j + 1 ∨ (K ≤ 1 ∧ j = 0)) → post (le, mk, sc, nI K, bc, rc, rr, tx, co, ro, rk, sl, nw, np, ns, no, ln, cb, bi, rs, rd, rm, rt)) :
    ∀ (m j : Nat) (op : Nat → Bool) (wt : Nat → Nat) (par : Nat → Option Nat) (sd A : Nat → Nat) (Q : Nat → List Nat) (R : Nat) (nw np ns no : Nat → Int32), j + m = 6 → (1 ≤ j → j + 1 ≤ K) →
      ht_I w (ht_W w) K j op wt par sd A Q R → xg_R op wt par sd nw np ns no → (∀ v p, par v = some p → p < 13) → (∀ v, v < 7 → wt v = w v) → (∀ v, wt v ≤ 32 * 2 ^ j) →
    wX_growTree_5 post (m + 1) (nI (7 + j)) (nI (1 + j)) le mk sc (nI K) bc rc rr tx co ro rk sl nw np ns no ln cb bi rs rd rm rt := by
  intro m
  induction m with
  | zero =>
    intro j op wt par sd A Q R nw np ns no hj hjK hI hR hp hw hb
    exact pk_le K (1 + j) (fun hc => h j op wt par sd A Q R nw np ns no hI hR hp hw (by omega) (by omega)) (fun hc => absurd hc (by omega))
  | succ m ih =>
    intro j op wt par sd A Q R nw np ns no hj hjK hI hR hp hw hb
    refine pk_le K (1 + j) (fun hc => h j op wt par sd A Q R nw np ns no hI hR hp hw (by omega) (by omega)) (fun hc => pk_le 13 (7 + j) (fun hc => absurd hc (by omega)) (fun _ => ?_))
    have hpw : 2 ^ j ≤ 2 ^ 6 := Nat.pow_le_pow_right (by decide) (by omega)
    have hbig : ∀ v, v < 13 → wt v < 2 ^ 31 := fun v _ => by have := hb v; omega
    have hlen := hI.2.2.2.2.2.2.2.2.2.1
    have hin := hI.1
    have hlen2 : 2 ≤ (ht_N op).length := by omega
    obtain ⟨v0, hv0, _, ho0⟩ := xg_two hlen2 13
    refine xt_light hbig (fun v hv => (hR v hv).1) (fun v hv => (hR v hv).2.1) ⟨v0, hv0, ho0⟩ ?_
    intro f hf of mf
    refine xt_hang (s := 0) hf ?_
    obtain ⟨v1, hv1, hvf, ho1⟩ := xg_two hlen2 f
    refine xt_light (op := fun v => if v = f then false else op v) hbig ?_ (fun v hv => (hR v hv).2.1) ⟨v1, hv1, by rw [if_neg hvf]; exact ho1⟩ ?_
    · intro v hv
      by_cases e : v = f
      · subst e; rw [pk_us, if_pos rfl]; rfl
      · rw [pk_un e, if_neg e]; exact (hR v hv).1
    intro s hs os1 ms1
    have hsf : f ≠ s := by
      intro z
      subst z
      rw [if_pos rfl] at os1
      cases os1
    have os : op s = true := by
      rw [if_neg (fun z => hsf z.symm)] at os1
      exact os1
    have hf7 := (hin f of).1
    have hs7 := (hin s os).1
    refine xt_hang (s := 1) hs ?_
    have hn13 : 7 + j < 13 := by omega
    have hinn := pk_in (x := nI (7 + j)) (7 + j) 13 hn13
    have e1 := nI_clamp (n := 7 + j) (by omega)
    refine ⟨pk_in f 13 hf, pk_in s 13 hs, hinn, nm_r (e' := upd nw (7 + j) (nI (wt f + wt s))) ?_ ⟨hinn, nm_r (e' := upd (upd (upd no f 0) s 0) (7 + j) 1) (by rw [e1, wk_n1]) (nm_r (nI_1 _) (nm_r (nI_1 _) ?_))⟩⟩
    · rw [e1, nI_clamp (n := f) (by omega), nI_clamp (n := s) (by omega), (hR f hf).2.1, (hR s hs).2.1, nI_add]
    · refine ih (j + 1) _ _ _ _ _ _ _ _ _ _ _ (by omega) (by omega) (ht_step hI (by omega) of os hsf ?_ ?_) (xg_rep hR hsf (by omega) (by omega)) ?_ ?_ ?_
      · exact fun v hv => mf v (by have := (hin v hv).1; omega) hv
      · intro v hv hne
        exact ms1 v (by have := (hin v hv).1; omega) (by rw [if_neg hne]; exact hv)
      · intro v p hvp
        unfold ht_par at hvp
        by_cases c : v = f ∨ v = s
        · rw [if_pos c] at hvp
          cases hvp
          omega
        · rw [if_neg c] at hvp
          exact hp v p hvp
      · intro v hv
        unfold ht_wt
        rw [if_neg (by omega)]
        exact hw v hv
      · intro v
        have a1 := hb f
        have a2 := hb s
        have a3 := hb v
        rw [Nat.pow_succ]
        unfold ht_wt
        by_cases c : v = 7 + j
        · rw [if_pos c]; omega
        · rw [if_neg c]; omega
theorem xg_grow {post : SX → Prop} {L : List Nat} (hl : L.length ≤ 32) (h7 : ∀ x ∈ L, x < 7)
    (h1 : ∀ v, v < 13 → nw v = nI (L.count v)) (h2 : ∀ v, v < 13 → np v = -1) (h3 : ∀ v, v < 13 → ns v = 0) (h4 : ∀ v, v < 13 → no v = wk_b (decide (0 < L.count v)))
    (h : ∀ (j : Nat) (op : Nat → Bool) (wt : Nat → Nat) (par : Nat → Option Nat) (sd A : Nat → Nat) (Q : Nat → List Nat) (R : Nat) (nw np ns no : Nat → Int32),
      ht_I (fun v => L.count v) (ht_W (fun v => L.count v)) (wk_K L) j op wt par sd A Q R → xg_R op wt par sd nw np ns no → (∀ v p, par v = some p → p < 13) → (∀ v, v < 7 → wt v = L.count v) → j ≤ 6 → (wk_K L = j + 1 ∨ (wk_K L ≤ 1 ∧ j = 0)) → post (le, mk, sc, nI (wk_K L), bc, rc, rr, tx, co, ro, rk, sl, nw, np, ns, no, ln, cb, bi, rs, rd, rm, rt)) :
    wpX_growTree post (le, mk, sc, nI (wk_K L), bc, rc, rr, tx, co, ro, rk, sl, nw, np, ns, no, ln, cb, bi, rs, rd, rm, rt) := by
  have hKP : (ht_P (fun v => L.count v)).length = wk_K L := by
    unfold ht_P wk_K cn_
    rw [List.countP_eq_length_filter]
  have hI := ht_0 (fun v => L.count v) (fun v => L.count v) (fun _ => 0) (fun _ _ => rfl)
  rw [hKP] at hI
  refine ⟨7, xg_5 (wk_Kn L) h 6 0 _ _ _ _ _ _ _ nw np ns no (by omega) (fun z => absurd z (by omega)) hI ?_ (fun v p hvp => by cases hvp) (fun _ _ => rfl) ?_⟩
  · intro v hv
    refine ⟨?_, h1 v hv, h2 v hv, h3 v hv⟩
    rw [h4 v hv]
    unfold ht_op0
    congr 1
    by_cases c : v < 7
    · simp [c]
    · have : L.count v = 0 := List.count_eq_zero.mpr fun hm => c (h7 v hm)
      simp [this]
  · intro v
    have : L.count v ≤ L.length := List.count_le_length
    show L.count v ≤ 32 * 2 ^ 0
    omega
theorem xg_or : ∀ d, d < 6 → ∀ a, a < 64 → ∀ b, b < 2 → a < 2 ^ d → nI a ||| (nI b <<< (nI d &&& 31)) = nI (a + 2 ^ d * b) := by decide +kernel
theorem xg_m1 {p : Nat} (h : p < 13) : ¬ nI p = -1 := by
  intro z
  have := congrArg Int32.toInt z
  rw [nI_toInt (by omega)] at this
  have e : (-1 : Int32).toInt = -1 := by decide
  omega
def xg_F (w : Nat) (C : List Nat) : List Nat := if C = [] ∧ 0 < w then [0] else C
theorem xg_71 {post : SX → Prop} {k : Nat} {x y : Int32} (hk : k < 7) (h : post (le, mk, sc, ok, bc, rc, rr, tx, co, ro, rk, sl, nw, np, ns, no, upd ln k x, upd cb k y, bi, rs, rd, rm, rt)) : wX_takeCodeFromTree_71 post (nI k) x y le mk sc ok bc rc rr tx co ro rk sl nw np ns no ln cb bi rs rd rm rt := by
  have hin := pk_in (x := nI k) k 7 hk
  have e := nI_clamp (n := k) (by omega)
  exact ⟨hin, nm_r (by rw [e]) ⟨hin, nm_r (by rw [e]) h⟩⟩
theorem xg_56 {post : SX → Prop} {k w : Nat} {C : List Nat} (hk : k < 7) (hl : C.length ≤ 6) (hw : nw k = nI w) (hw2 : w < 2 ^ 31)
    (h : post (le, mk, sc, ok, bc, rc, rr, tx, co, ro, rk, sl, nw, np, ns, no, upd ln k (nI (xg_F w C).length), upd cb k (nI (pc_v (xg_F w C))), bi, rs, rd, rm, rt)) : wX_takeCodeFromTree_56 post (nI k) (nI C.length) (nI (pc_v C)) le mk sc ok bc rc rr tx co ro rk sl nw np ns no ln cb bi rs rd rm rt := by
  refine pk_eq C.length 0 (fun hc => ⟨pk_in k 13 (by omega), pk_le w 0 (fun hc2 => xg_71 hk ?_) (fun hc2 => xg_71 hk ?_) (wk_cla (by omega) hw) rfl hw2⟩) (fun hc => xg_71 hk ?_)
  · have e : xg_F w C = C := by unfold xg_F; rw [if_neg (fun z => by omega)]
    rw [e] at h; exact h
  · have e0 : C = [] := List.length_eq_zero_iff.mp hc
    have e : xg_F w C = [0] := by unfold xg_F; rw [if_pos ⟨e0, hc2⟩]
    rw [e] at h
    subst e0
    exact h
  · have e : xg_F w C = C := by unfold xg_F; rw [if_neg (fun z => hc (by rw [z.1]; rfl))]
    rw [e] at h; exact h
theorem xg_10 {post : SX → Prop} {k : Nat} {par : Nat → Option Nat} {sd : Nat → Nat} (hR : ∀ v, v < 13 → np v = wk_p (par v) ∧ ns v = nI (sd v)) (hp : ∀ v p, par v = some p → p < 13) {v : Nat} (hv : par v = none) :
    ∀ (Q U : List Nat) (x : Nat), x < 13 → ht_ch par sd x Q v → (∀ b ∈ Q, b < 2) → (∀ b ∈ U, b < 2) → U.length + Q.length ≤ 6 →
    wX_takeCodeFromTree_56 post (nI k) (nI (U ++ Q).length) (nI (pc_v (U ++ Q))) le mk sc ok bc rc rr tx co ro rk sl nw np ns no ln cb bi rs rd rm rt → wX_takeCodeFromTree_10 post (nI k) le mk sc ok bc rc rr tx co ro rk sl nw np ns no ln cb bi rs rd rm rt (Q.length + 1) (nI x) (nI U.length) (nI (pc_v U)) (nI U.length) := by
  intro Q
  induction Q with
  | nil =>
    intro U x hx hch _ _ hl h
    rw [List.append_nil] at h
    have e : x = v := hch
    subst e
    refine pk_le 6 U.length (fun _ => h) (fun _ => ⟨pk_in x 13 hx, br_t ?_ h⟩) rfl rfl (by omega) (by simp at hl; omega)
    rw [nI_clamp (by omega), (hR x hx).1, hv]
    rfl
  | cons b Q ih =>
    intro U x hx hch hb hU hl h
    obtain ⟨p, e1, e2, e3⟩ := hch
    rw [List.length_cons] at hl
    have hb2 := hb b List.mem_cons_self
    have hp13 := hp x p e1
    have hin := pk_in (x := nI x) x 13 hx
    have ec := nI_clamp (n := x) (by omega)
    have hnp : np x = nI p := by rw [(hR x hx).1, e1]; rfl
    have hvU := pc_vlt U hU
    have hv6 : pc_v U < 64 := Nat.lt_of_lt_of_le hvU (Nat.pow_le_pow_right (n := 2) (j := 6) (by decide) (by omega))
    refine pk_le 6 U.length (fun hc => absurd hc (by omega)) (fun _ => ⟨hin, br_f ?_ ⟨hin, nm_r (e' := nI (pc_v (U ++ [b]))) ?_ (nm_r (nI_1 _) ⟨hin, nm_r (e' := nI p) (by rw [ec, hnp]) (nm_r (nI_1 _) ?_)⟩)⟩⟩)
    · rw [ec, hnp]; exact xg_m1 hp13
    · rw [ec, (hR x hx).2, e2, xg_or U.length (by omega) (pc_v U) hv6 b hb2 hvU, pc_va]
    · have hI := ih (U ++ [b]) p hp13 e3 (fun y hy => hb y (List.mem_cons_of_mem _ hy)) (fun y hy => by
        rcases List.mem_append.mp hy with hy | hy
        · exact hU y hy
        · rw [List.mem_singleton.mp hy]; exact hb2) (by rw [List.length_append]; simp; omega) (by rw [List.append_assoc]; exact h)
      rw [List.length_append] at hI
      exact hI
theorem xg_take {post : SX → Prop} {k w : Nat} {par : Nat → Option Nat} {sd : Nat → Nat} {C : List Nat} (hk : k < 7) (hR : ∀ v, v < 13 → np v = wk_p (par v) ∧ ns v = nI (sd v)) (hp : ∀ v p, par v = some p → p < 13)
    (hC : ∃ v, ht_ch par sd k C v ∧ par v = none) (hb : ∀ b ∈ C, b < 2) (hl : C.length ≤ 6) (hw : nw k = nI w) (hw2 : w < 2 ^ 31)
    (h : post (le, mk, sc, ok, bc, rc, rr, tx, co, ro, rk, sl, nw, np, ns, no, upd ln k (nI (xg_F w C).length), upd cb k (nI (pc_v (xg_F w C))), bi, rs, rd, rm, rt)) : wpX_takeCodeFromTree post (le, mk, sc, ok, bc, rc, rr, tx, co, ro, rk, sl, nw, np, ns, no, ln, cb, bi, rs, rd, rm, rt) (nI k) := by
  obtain ⟨v, hch, hv⟩ := hC
  exact ⟨C.length + 1, xg_10 hR hp hv C [] k (by omega) hch hb (fun b hb => by cases hb) (by simp; exact hl) (xg_56 hk hl hw hw2 h)⟩
theorem xg_pure {w : Nat → Nat} {K j : Nat} {op : Nat → Bool} {wt : Nat → Nat} {par : Nat → Option Nat} {sd A : Nat → Nat} {Q : Nat → List Nat} {R : Nat} (hKP : (ht_P w).length = K)
    (I : ht_I w (ht_W w) K j op wt par sd A Q R) (hj : j ≤ 6) (hK : K = j + 1 ∨ (K ≤ 1 ∧ j = 0)) :
    ∃ (C : Nat → List Nat) (R' : Nat), ht_C w (fun k => xg_F (w k) (C k)) R' ∧ ∀ k, k < 7 → (∃ v, ht_ch par sd k (C k) v ∧ par v = none) ∧ (∀ b ∈ C k, b < 2) ∧ (C k).length ≤ 6 := by
  by_cases h1 : 1 ≤ j
  · obtain ⟨c, c1, c2, c3⟩ := ht_end I hj h1 (by omega)
    refine ⟨fun k => if 0 < w k then Q k else [], R, ?_, ?_⟩
    · have e : (fun k => if k < 7 then xg_F (w k) (if 0 < w k then Q k else []) else xg_F (w k) (if 0 < w k then Q k else [])) = (fun k => xg_F (w k) (if 0 < w k then Q k else [])) := by
        funext k; split <;> rfl
      have key : ∀ k, k < 7 → xg_F (w k) (if 0 < w k then Q k else []) = if 0 < w k then Q k else [] := by
        intro k hk
        unfold xg_F
        by_cases hw : 0 < w k
        · have := (c.1 k hk hw).1
          dsimp only at this
          rw [if_neg]
          intro z
          rw [z.1] at this
          simp at this
        · rw [if_neg (fun z => hw z.2)]
      obtain ⟨d1, d2, d3, d4, d5, d6⟩ := c
      refine ⟨?_, ?_, ?_, ?_, ?_, d6⟩
      · intro k hk hw
        dsimp only
        rw [key k hk]
        exact d1 k hk hw
      · intro k hk hw
        dsimp only
        rw [key k hk]
        exact d2 k hk hw
      · intro k k' hk hk' hw hw' hne
        dsimp only
        rw [key k hk, key k' hk']
        exact d3 k k' hk hk' hw hw' hne
      · rw [ht_smc (h := fun k => if 0 < w k then 2 ^ (6 - (if 0 < w k then Q k else []).length) else 0) fun k hk => by dsimp only; rw [key k hk]]
        exact d4
      · rw [ht_smc (h := fun k => w k * (if 0 < w k then Q k else []).length) fun k hk => by dsimp only; rw [key k hk]]
        exact d5
    · intro k hk
      dsimp only
      by_cases hw : 0 < w k
      · rw [if_pos hw]
        have := c.1 k hk hw
        dsimp only at this
        rw [if_pos hw] at this
        exact ⟨⟨6 + j, c1 k hk hw, c2⟩, this.2.2, this.2.1⟩
      · rw [if_neg hw]
        exact ⟨⟨k, rfl, c3 k hk (by omega)⟩, (fun b hb => by cases hb), by simp⟩
  · have hj0 : j = 0 := by omega
    subst hj0
    obtain ⟨i1, _, i3, _, _, _, _, _, i9, _, _⟩ := I
    have hpar : ∀ k, k < 7 → par k = none := by
      intro k hk
      by_cases hw : 0 < w k
      · obtain ⟨a1, a2, a3, _⟩ := i3 k hk hw
        have e : Q k = [] := List.length_eq_zero_iff.mp (by omega)
        rw [e] at a2
        have e2 : k = A k := a2
        rw [e2]
        exact (i1 _ a1).2
      · exact (i9 k hk (by omega)).2
    have hch : ∀ k, k < 7 → (∃ v, ht_ch par sd k [] v ∧ par v = none) ∧ (∀ b ∈ ([] : List Nat), b < 2) ∧ ([] : List Nat).length ≤ 6 := fun k hk =>
      ⟨⟨k, rfl, hpar k hk⟩, (fun b hb => by cases hb), by simp⟩
    by_cases hK1 : K = 1
    · refine ⟨fun _ => [], ht_sm 7 w, ?_, hch⟩
      have := ht_C1 (w := w) (by omega)
      have e : (fun k => xg_F (w k) []) = (fun k => if 0 < w k then [0] else []) := by
        funext k
        unfold xg_F
        by_cases hw : 0 < w k
        · rw [if_pos ⟨rfl, hw⟩, if_pos hw]
        · rw [if_neg (fun z => hw z.2), if_neg hw]
      rw [e]
      exact this
    · have hP0 : ht_P w = [] := List.length_eq_zero_iff.mp (by omega)
      have hw0 : ∀ k, k < 7 → w k = 0 := by
        intro k hk
        apply Classical.byContradiction
        intro z
        have := ht_Pm.mpr ⟨hk, (by omega : 0 < w k)⟩
        rw [hP0] at this
        cases this
      refine ⟨fun _ => [], 0, ⟨?_, ?_, ?_, ?_, ?_, ?_⟩, hch⟩
      · intro k hk hw; have := hw0 k hk; omega
      · intro k hk hw
        unfold xg_F
        dsimp only
        rw [if_neg (fun z => by omega)]
      · intro k k' hk _ hw; have := hw0 k hk; omega
      · rw [ht_smc (h := fun _ => 0) fun k hk => by rw [hw0 k hk]; rfl, ht_sm0]; omega
      · rw [ht_smc (h := fun _ => 0) fun k hk => by rw [hw0 k hk]; simp, ht_sm0]
      · intro ps _ _ _; exact Nat.zero_le _
theorem xg_mc {post : SX → Prop} {w : Nat → Nat} {par : Nat → Option Nat} {sd : Nat → Nat} {C : Nat → List Nat} (hR : ∀ v, v < 13 → np v = wk_p (par v) ∧ ns v = nI (sd v)) (hp : ∀ v p, par v = some p → p < 13)
    (hC : ∀ k, k < 7 → (∃ v, ht_ch par sd k (C k) v ∧ par v = none) ∧ (∀ b ∈ C k, b < 2) ∧ (C k).length ≤ 6) (hw : ∀ k, k < 7 → nw k = nI (w k)) (hw2 : ∀ k, w k < 2 ^ 31)
    (h : ∀ ln cb : Nat → Int32, (∀ k, k < 7 → ln k = nI (xg_F (w k) (C k)).length ∧ cb k = nI (pc_v (xg_F (w k) (C k)))) → post (le, mk, sc, ok, bc, rc, rr, tx, co, ro, rk, sl, nw, np, ns, no, ln, cb, bi, rs, rd, rm, rt)) : ∀ (m i : Nat) (ln cb : Nat → Int32), i + m = 7 →
    (∀ k, k < i → ln k = nI (xg_F (w k) (C k)).length ∧ cb k = nI (pc_v (xg_F (w k) (C k)))) → wX_makeCode_10 post (m + 1) (nI i) le mk sc ok bc rc rr tx co ro rk sl nw np ns no ln cb bi rs rd rm rt := by
  intro m
  induction m with
  | zero =>
    intro i ln cb hi h1
    have e : i = 7 := by omega
    subst e
    exact pk_le 7 7 (fun _ => h ln cb h1) (fun hc => absurd hc (by omega))
  | succ m ih =>
    intro i ln cb hi h1
    obtain ⟨a1, a2, a3⟩ := hC i (by omega)
    refine pk_le 7 i (fun hc => absurd hc (by omega)) (fun _ => xg_take (by omega) hR hp a1 a2 a3 (hw i (by omega)) (hw2 i) (nm_r (nI_1 i) (ih (i + 1) _ _ (by omega) ?_)))
    intro k hk
    by_cases e : k = i
    · subst e; exact ⟨pk_us, pk_us⟩
    · rw [pk_un e, pk_un e]; exact h1 k (by omega)
theorem xg_code {post : SX → Prop} {L : List Nat} (hl : L.length ≤ 32) (h7 : ∀ x ∈ L, x < 7) (hL : wk_L sl L)
    (h : ∀ (nw np ns no ln cb : Nat → Int32) (Q : Nat → List Nat) (R : Nat), ht_C (fun v => L.count v) Q R → (∀ k, k < 7 → ln k = nI (Q k).length ∧ cb k = nI (pc_v (Q k))) → post (le, mk, nI L.length, nI (wk_K L), bc, rc, rr, tx, co, ro, rk, sl, nw, np, ns, no, ln, cb, bi, rs, rd, rm, rt)) :
    wpX_makeCode post (le, mk, nI L.length, ok, bc, rc, rr, tx, co, ro, rk, sl, nw, np, ns, no, ln, cb, bi, rs, rd, rm, rt) := by
  unfold wpX_makeCode
  dsimp only
  refine xt_start hl h7 hL ?_
  intro nw np ns no h1 h2 h3 h4
  refine xg_grow hl h7 h1 h2 h3 h4 ?_
  intro j op wt par sd A Q R nw np ns no hI hR hp hw hj hK
  have hKP : (ht_P (fun v => L.count v)).length = wk_K L := by
    unfold ht_P wk_K cn_
    rw [List.countP_eq_length_filter]
  obtain ⟨C, R', hC, hch⟩ := xg_pure hKP hI hj hK
  exact ⟨8, xg_mc (w := fun v => L.count v) (fun v hv => (hR v hv).2.2) hp hch (fun k hk => by rw [(hR k (by omega)).2.1, hw k hk]) (fun k => by
    have : L.count k ≤ L.length := List.count_le_length
    omega) (fun ln cb hlc => h nw np ns no ln cb _ R' hC hlc) 7 0 ln cb (by omega) (fun k hk => absurd hk (by omega))⟩
end
end
section
/-! X's bits, and back to symbols -/
theorem xb_tk : ∀ (q : List Nat) (d : Nat), d < q.length → q.take (d + 1) = q.take d ++ [q.getD d 0]
  | [], d, h => absurd h (Nat.not_lt_zero d)
  | x :: q, 0, _ => rfl
  | x :: q, d + 1, h => by
    show x :: q.take (d + 1) = x :: (q.take d ++ [q.getD d 0])
    rw [xb_tk q d (by simpa using h)]
theorem pc_ea (F : Nat → List Nat) : ∀ P R : List Nat, pc_e F (P ++ R) = pc_e F P ++ pc_e F R
  | [], R => rfl
  | x :: P, R => by
    show F x ++ pc_e F (P ++ R) = F x ++ pc_e F P ++ pc_e F R
    rw [pc_ea F P R, List.append_assoc]
theorem pc_e1 (F : Nat → List Nat) (x : Nat) : pc_e F [x] = F x := List.append_nil _
theorem pc_el6 {F : Nat → List Nat} : ∀ P : List Nat, (∀ x ∈ P, (F x).length ≤ 6) → (pc_e F P).length ≤ 6 * P.length
  | [], _ => Nat.le_refl _
  | x :: P, h => by
    have h1 := h x List.mem_cons_self
    have ih := pc_el6 P fun y hy => h y (List.mem_cons_of_mem _ hy)
    show (F x ++ pc_e F P).length ≤ _
    rw [List.length_append, List.length_cons]
    omega
section
variable {le mk sc ok bc rc rr : Int32} {tx co ro rk sl nw np ns no ln cb bi rs rd rm rt : Nat → Int32}
theorem xb_add {post : SX → Prop} {B : List Nat} {x : Nat} (hl : B.length < 192) (hB : wk_L bi B)
    (h : ∀ bi : Nat → Int32, wk_L bi (B ++ [x]) → post (le, mk, sc, ok, nI (B ++ [x]).length, rc, rr, tx, co, ro, rk, sl, nw, np, ns, no, ln, cb, bi, rs, rd, rm, rt)) : wpX_addBit post (le, mk, sc, ok, nI B.length, rc, rr, tx, co, ro, rk, sl, nw, np, ns, no, ln, cb, bi, rs, rd, rm, rt) (nI x) := by
  refine pk_le 192 B.length (fun hc => absurd hc (by omega)) (fun _ => ⟨pk_in B.length 192 hl, nm_r (e' := upd bi B.length (nI x)) (by rw [nI_clamp (by omega)]) (nm_r (nI_1 _) ?_)⟩)
  have := h _ (wk_Ls hB (x := x))
  rw [List.length_append] at this
  exact this
theorem xb_bit {q : List Nat} {d : Nat} (hb : ∀ b ∈ q, b < 2) (hl : q.length ≤ 6) (hd : d < 6) : (nI (pc_v q) >>> (nI d &&& 31)) &&& 1 = nI (q.getD d 0) := by
  have h1 := pc_vlt q hb
  have h2 : pc_v q < 64 := Nat.lt_of_lt_of_le h1 (Nat.pow_le_pow_right (n := 2) (j := 6) (by decide) hl)
  have h3 : pc_v q / 2 ^ d ≤ pc_v q := Nat.div_le_self _ _
  rw [pk_shrN (by omega) (nI d &&& 31) d (s_l d (by omega)), pk_andN (by omega) (m := 1) 1 (by decide)]
  rw [← pc_bit q d hb]
theorem xb_31 {post : SX → Prop} {J : Int32 → Int32 → Int32 → Int32 → Int32 → Int32 → Int32 → Int32 → (Nat → Int32) → (Nat → Int32) → (Nat → Int32) → (Nat → Int32) → (Nat → Int32) → (Nat → Int32) → (Nat → Int32) → (Nat → Int32) → (Nat → Int32) → (Nat → Int32) → (Nat → Int32) → (Nat → Int32) → (Nat → Int32) → (Nat → Int32) → (Nat → Int32) → (Nat → Int32) → Prop}
    {i k : Nat} {q : List Nat} (hk : k < 7) (hb : ∀ b ∈ q, b < 2) (hl : q.length ≤ 6) (hc : cb k = nI (pc_v q)) :
    ∀ (d : Nat) (B : List Nat) (bi : Nat → Int32), d ≤ q.length → B.length + d ≤ 192 → wk_L bi B →
    (∀ bi : Nat → Int32, wk_L bi (B ++ (q.take d).reverse) → J (nI (i + 1)) le mk sc ok (nI (B ++ (q.take d).reverse).length) rc rr tx co ro rk sl nw np ns no ln cb bi rs rd rm rt) →
    wX_writeBits_31 post J (nI i) (nI k) (d + 1) (nI d + (-1)) le mk sc ok (nI B.length) rc rr tx co ro rk sl nw np ns no ln cb bi rs rd rm rt := by
  intro d
  induction d with
  | zero =>
    intro B bi _ _ hB h
    have e : B ++ (q.take 0).reverse = B := List.append_nil B
    rw [e] at h
    exact br_t (by decide) (nm_r (nI_1 i) (h bi hB))
  | succ d ih =>
    intro B bi hd hl2 hB h
    rw [pk_m1 d]
    refine br_f (nI_pos (by omega)) ⟨pk_in k 7 hk, ?_⟩
    rw [wk_cla (by omega) hc, xb_bit hb hl (by omega)]
    refine xb_add (by omega) hB ?_
    intro bi' hB'
    refine nm_e (ih _ bi' (by omega) (by rw [List.length_append]; simp; omega) hB' ?_)
    have e : B ++ [q.getD d 0] ++ (q.take d).reverse = B ++ (q.take (d + 1)).reverse := by
      rw [xb_tk q d (by omega), List.reverse_append, List.append_assoc]; rfl
    rw [e]
    exact h
theorem xb_7 {post : SX → Prop} {L : List Nat} {Q : Nat → List Nat} (hl : L.length ≤ 32) (h7 : ∀ x ∈ L, x < 7) (hL : wk_L sl L) (hQ : ∀ k, k < 7 → (Q k).length ≤ 6 ∧ ∀ b ∈ Q k, b < 2)
    (hlc : ∀ k, k < 7 → ln k = nI (Q k).length ∧ cb k = nI (pc_v (Q k)))
    (h : ∀ bi : Nat → Int32, wk_L bi (pc_e (fun k => (Q k).reverse) L) → post (le, mk, nI L.length, ok, nI (pc_e (fun k => (Q k).reverse) L).length, rc, rr, tx, co, ro, rk, sl, nw, np, ns, no, ln, cb, bi, rs, rd, rm, rt)) :
    ∀ (R P : List Nat) (bi : Nat → Int32), P ++ R = L → wk_L bi (pc_e (fun k => (Q k).reverse) P) →
    wX_writeBits_7 post (R.length + 1) (nI P.length) le mk (nI L.length) ok (nI (pc_e (fun k => (Q k).reverse) P).length) rc rr tx co ro rk sl nw np ns no ln cb bi rs rd rm rt := by
  intro R
  induction R with
  | nil =>
    intro P bi hP hB
    rw [List.append_nil] at hP
    subst hP
    exact pk_le P.length P.length (fun _ => h bi hB) (fun hc => absurd hc (by omega))
  | cons x R ih =>
    intro P bi hP hB
    have hlen := congrArg List.length hP
    rw [List.length_append, List.length_cons] at hlen
    have hx : x < 7 := h7 x (by rw [← hP]; simp)
    have hsx : sl P.length = nI x := wk_mid (R := R) (by rw [hP]; exact hL)
    obtain ⟨q1, q2⟩ := hQ x hx
    have hP6 := pc_el6 (F := fun k => (Q k).reverse) P fun y hy => by
      rw [List.length_reverse]
      exact (hQ y (h7 y (by rw [← hP]; exact List.mem_append_left _ hy))).1
    refine pk_le L.length P.length (fun hc => absurd hc (by omega)) (fun _ => ⟨pk_in P.length 32 (by omega), nm_r (wk_cla (by omega) hsx) ⟨pk_in x 7 hx, nm_r (e' := nI (Q x).length + (-1)) ?_ ⟨(Q x).length + 1, ?_⟩⟩⟩)
    · rw [wk_cla (by omega) (hlc x hx).1, Int32.sub_eq_add_neg]
    · refine xb_31 hx q2 q1 (hlc x hx).2 _ _ bi (Nat.le_refl _) (by omega) hB ?_
      intro bi' hB'
      have e : pc_e (fun k => (Q k).reverse) P ++ ((Q x).take (Q x).length).reverse = pc_e (fun k => (Q k).reverse) (P ++ [x]) := by
        rw [pc_ea, pc_e1, List.take_length]
      rw [e] at hB' ⊢
      have hI := ih (P ++ [x]) bi' (by rw [List.append_assoc]; exact hP) hB'
      have e2 : (P ++ [x]).length = P.length + 1 := by rw [List.length_append]; rfl
      rw [e2] at hI
      exact hI
theorem xb_write {post : SX → Prop} {L : List Nat} {Q : Nat → List Nat} (hl : L.length ≤ 32) (h7 : ∀ x ∈ L, x < 7) (hL : wk_L sl L) (hQ : ∀ k, k < 7 → (Q k).length ≤ 6 ∧ ∀ b ∈ Q k, b < 2)
    (hlc : ∀ k, k < 7 → ln k = nI (Q k).length ∧ cb k = nI (pc_v (Q k)))
    (h : ∀ bi : Nat → Int32, wk_L bi (pc_e (fun k => (Q k).reverse) L) → post (le, mk, nI L.length, ok, nI (pc_e (fun k => (Q k).reverse) L).length, rc, rr, tx, co, ro, rk, sl, nw, np, ns, no, ln, cb, bi, rs, rd, rm, rt)) :
    wpX_writeBits post (le, mk, nI L.length, ok, bc, rc, rr, tx, co, ro, rk, sl, nw, np, ns, no, ln, cb, bi, rs, rd, rm, rt) :=
  ⟨L.length + 1, xb_7 hl h7 hL hQ hlc h L [] bi rfl (wk_L0 bi)⟩
theorem xb_2 {post : Int32 → Prop} {Q : Nat → List Nat} {r : List Nat} (hQ : ∀ k, k < 7 → (Q k).length ≤ 6 ∧ ∀ b ∈ Q k, b < 2) (hlc : ∀ k, k < 7 → ln k = nI (Q k).length ∧ cb k = nI (pc_v (Q k)))
    (hr : r.length ≤ 6) (hr2 : ∀ b ∈ r, b < 2) : ∀ f, f ≤ 7 → (∀ k, pc_fd Q r f = some k → post (nI k)) → (pc_fd Q r f = none → post (-1)) →
    wX_kindWithCode_2 post (nI r.length) (nI (pc_v r)) le mk sc ok bc rc rr tx co ro rk sl nw np ns no ln cb bi rs rd rm rt (f + 1) (nI (7 - f)) := by
  intro f
  induction f with
  | zero =>
    intro _ _ hn
    exact pk_le 7 7 (fun _ => hn rfl) (fun hc => absurd hc (by omega))
  | succ f ih =>
    intro hf hs hn
    have e : 7 - (f + 1) = 6 - f := by omega
    have e1 : 6 - f + 1 = 7 - f := by omega
    rw [e]
    have hk : 6 - f < 7 := by omega
    have hin := pk_in (x := nI (6 - f)) (6 - f) 7 hk
    obtain ⟨q1, q2⟩ := hQ _ hk
    have ed : pc_fd Q r (f + 1) = if Q (6 - f) = r then some (6 - f) else pc_fd Q r f := rfl
    have hv1 := pc_vlt r hr2
    have hv2 : pc_v r < 64 := Nat.lt_of_lt_of_le hv1 (Nat.pow_le_pow_right (n := 2) (j := 6) (by decide) hr)
    have hu1 := pc_vlt (Q (6 - f)) q2
    have hu2 : pc_v (Q (6 - f)) < 64 := Nat.lt_of_lt_of_le hu1 (Nat.pow_le_pow_right (n := 2) (j := 6) (by decide) q1)
    have next : Q (6 - f) ≠ r → wX_kindWithCode_2 post (nI r.length) (nI (pc_v r)) le mk sc ok bc rc rr tx co ro rk sl nw np ns no ln cb bi rs rd rm rt (f + 1) (nI (6 - f) + 1) := by
      intro hne
      rw [ed, if_neg hne] at hs hn
      rw [nI_1, e1]
      exact ih (by omega) hs hn
    refine pk_le 7 (6 - f) (fun hc => absurd hc (by omega)) (fun _ => ⟨hin, pk_eq (Q (6 - f)).length r.length (fun hl => ⟨hin, pk_eq (pc_v (Q (6 - f))) (pc_v r) (fun hv => ?_) (fun hv => nm_e (next ?_)) (wk_cla (by omega) (hlc _ hk).2)⟩) (fun hl => nm_e (next ?_)) (wk_cla (by omega) (hlc _ hk).1)⟩)
    · have he := pc_vinj _ _ q2 hr2 hl hv
      rw [ed, if_pos he] at hs
      exact hs _ rfl
    · exact fun z => hv (by rw [z])
    · exact fun z => hl (by rw [z])
theorem xb_kind {post : Int32 → Prop} {Q : Nat → List Nat} {cur : List Nat} (hQ : ∀ k, k < 7 → (Q k).length ≤ 6 ∧ ∀ b ∈ Q k, b < 2) (hlc : ∀ k, k < 7 → ln k = nI (Q k).length ∧ cb k = nI (pc_v (Q k)))
    (hr : cur.length ≤ 6) (hr2 : ∀ b ∈ cur, b < 2) (hs : ∀ k, pc_find Q cur = some k → post (nI k)) (hn : pc_find Q cur = none → post (-1)) :
    wpX_kindWithCode post (le, mk, sc, ok, bc, rc, rr, tx, co, ro, rk, sl, nw, np, ns, no, ln, cb, bi, rs, rd, rm, rt) (nI cur.length) (nI (pc_v cur.reverse)) := by
  have e : cur.length = cur.reverse.length := List.length_reverse.symm
  rw [e]
  exact ⟨8, xb_2 (r := cur.reverse) hQ hlc (by rw [List.length_reverse]; exact hr) (fun b hb => hr2 b (List.mem_reverse.mp hb)) 7 (Nat.le_refl _) hs hn⟩
theorem xb_adr {post : SX → Prop} {L : List Nat} {x : Nat} (hl : L.length < 32) (hL : wk_L rs L)
    (h : ∀ rs : Nat → Int32, wk_L rs (L ++ [x]) → post (le, mk, sc, ok, bc, nI (L ++ [x]).length, rr, tx, co, ro, rk, sl, nw, np, ns, no, ln, cb, bi, rs, rd, rm, rt)) : wpX_addReadSymbol post (le, mk, sc, ok, bc, nI L.length, rr, tx, co, ro, rk, sl, nw, np, ns, no, ln, cb, bi, rs, rd, rm, rt) (nI x) := by
  refine pk_le 32 L.length (fun hc => absurd hc (by omega)) (fun _ => ⟨pk_in L.length 32 hl, nm_r (e' := upd rs L.length (nI x)) (by rw [nI_clamp (by omega)]) (nm_r (nI_1 _) ?_)⟩)
  have := h _ (wk_Ls hL (x := x))
  rw [List.length_append] at this
  exact this
theorem xb_in {post : SX → Prop} {Q : Nat → List Nat} {B O T : List Nat} {s fu : Nat} (hQ : ∀ k, k < 7 → (Q k).length ≤ 6 ∧ ∀ b ∈ Q k, b < 2) (hlc : ∀ k, k < 7 → ln k = nI (Q k).length ∧ cb k = nI (pc_v (Q k)))
    (hB : wk_L bi B) (hB2 : B.length ≤ 192) (hs7 : s < 7) (hO : wk_L rs O) (hO2 : O.length < 32) : ∀ (rest cur P : List Nat), rest ≠ [] → P ++ (rest ++ T) = B → pc_find Q (cur ++ rest) = some s →
    (∀ u v, u ≠ [] → v ≠ [] → u ++ v = rest → pc_find Q (cur ++ u) = none) → (∀ b ∈ cur ++ rest, b < 2) → (cur ++ rest).length ≤ 6 →
    (∀ rs : Nat → Int32, wk_L rs (O ++ [s]) → wX_readBits_11 post fu 0 0 (nI (P ++ rest).length) le mk sc ok (nI B.length) (nI (O ++ [s]).length) rr tx co ro rk sl nw np ns no ln cb bi rs rd rm rt) →
    wX_readBits_11 post (fu + rest.length) (nI cur.length) (nI (pc_v cur.reverse)) (nI P.length) le mk sc ok (nI B.length) (nI O.length) rr tx co ro rk sl nw np ns no ln cb bi rs rd rm rt := by
  intro rest
  induction rest with
  | nil => intro _ _ h; exact absurd rfl h
  | cons b rest ih =>
    intro cur P _ hP hs hn hb hl h
    have hlen := congrArg List.length hP
    rw [List.length_append, List.length_append, List.length_cons] at hlen
    have hsx : bi P.length = nI b := wk_mid (R := rest ++ T) (by rw [show P ++ b :: (rest ++ T) = B from hP]; exact hB)
    have hl2 : cur.length + (rest.length + 1) ≤ 6 := by rw [List.length_append, List.length_cons] at hl; exact hl
    have hcb : ∀ y ∈ cur ++ [b], y < 2 := fun y hy => hb y (by
      rcases List.mem_append.mp hy with hy | hy
      · exact List.mem_append_left _ hy
      · rw [List.mem_singleton.mp hy]; simp)
    have e1 : (cur ++ [b]).length = cur.length + 1 := by rw [List.length_append]; rfl
    have e2 : pc_v (cur ++ [b]).reverse = b + 2 * pc_v cur.reverse := by rw [List.reverse_append]; rfl
    have ev : (2 : Int32) * nI (pc_v cur.reverse) + bi (nI P.length).toNatClampNeg = nI (pc_v (cur ++ [b]).reverse) := by
      rw [wk_cla (by omega) hsx, show (2 : Int32) * nI (pc_v cur.reverse) = nI (2 * pc_v cur.reverse) from pk_mul 2 _, nI_add, e2, Nat.add_comm]
    have ef : fu + (b :: rest).length = (fu + rest.length) + 1 := rfl
    rw [ef]
    refine pk_le B.length P.length (fun hc => absurd hc (by omega)) (fun _ => ⟨pk_in P.length 192 (by omega), nm_r ev (nm_r (e' := nI (cur ++ [b]).length) (by rw [e1, nI_1]) (xb_kind hQ hlc (by rw [e1]; omega) hcb ?_ ?_))⟩)
    · intro k hk
      cases hr : rest with
      | nil =>
        rw [hr] at hs h
        rw [hs] at hk
        cases hk
        refine br_f (xg_m1 (by omega)) (xb_adr hO2 hO ?_)
        intro rs' hO'
        have := h rs' hO'
        have e3 : (P ++ [b]).length = P.length + 1 := by rw [List.length_append]; rfl
        rw [e3] at this
        exact nm_r (nI_1 _) this
      | cons b' rest' =>
        rw [hn [b] rest (by simp) (by rw [hr]; simp) rfl] at hk
        cases hk
    · intro hk
      have hne : rest ≠ [] := by
        intro z
        rw [z] at hs
        rw [hs] at hk
        cases hk
      refine br_t rfl (nm_r (nI_1 _) ?_)
      have hI := ih (cur ++ [b]) (P ++ [b]) hne (by rw [List.append_assoc]; exact hP) (by rw [List.append_assoc]; exact hs) (by
        intro u v hu hv huv
        rw [List.append_assoc]
        exact hn (b :: u) v (by simp) hv (by rw [List.cons_append, huv])) (by rw [List.append_assoc]; exact hb) (by rw [List.append_assoc]; exact hl) (by
        rw [List.append_assoc]
        exact h)
      have e3 : (P ++ [b]).length = P.length + 1 := by rw [List.length_append]; rfl
      rw [e3] at hI
      exact hI
theorem xb_out {post : SX → Prop} {Q : Nat → List Nat} {B : List Nat} (hQ : ∀ k, k < 7 → (Q k).length ≤ 6 ∧ ∀ b ∈ Q k, b < 2) (hlc : ∀ k, k < 7 → ln k = nI (Q k).length ∧ cb k = nI (pc_v (Q k)))
    (hB : wk_L bi B) (hB2 : B.length ≤ 192) : ∀ (ss P O : List Nat) (rs : Nat → Int32), P ++ pc_e (fun k => (Q k).reverse) ss = B → O.length + ss.length ≤ 32 → wk_L rs O →
    (∀ s ∈ ss, s < 7 ∧ (Q s).reverse ≠ [] ∧ pc_find Q (Q s).reverse = some s ∧ ∀ u v, u ≠ [] → v ≠ [] → u ++ v = (Q s).reverse → pc_find Q u = none) →
    (∀ rs : Nat → Int32, wk_L rs (O ++ ss) → post (le, mk, sc, ok, nI B.length, nI (O ++ ss).length, rr, tx, co, ro, rk, sl, nw, np, ns, no, ln, cb, bi, rs, rd, rm, rt)) →
    wX_readBits_11 post (1 + (pc_e (fun k => (Q k).reverse) ss).length) 0 0 (nI P.length) le mk sc ok (nI B.length) (nI O.length) rr tx co ro rk sl nw np ns no ln cb bi rs rd rm rt := by
  intro ss
  induction ss with
  | nil =>
    intro P O rs hP _ hO _ h
    rw [show P ++ pc_e (fun k => (Q k).reverse) [] = P from List.append_nil P] at hP
    subst hP
    rw [List.append_nil] at h
    exact pk_le P.length P.length (fun _ => h rs hO) (fun hc => absurd hc (by omega))
  | cons s ss ih =>
    intro P O rs hP hl hO hok h
    obtain ⟨s7, c1, c2, c3⟩ := hok s List.mem_cons_self
    obtain ⟨q1, q2⟩ := hQ s s7
    rw [List.length_cons] at hl
    have ef : 1 + (pc_e (fun k => (Q k).reverse) (s :: ss)).length = (1 + (pc_e (fun k => (Q k).reverse) ss).length) + (Q s).reverse.length := by
      show 1 + ((Q s).reverse ++ pc_e (fun k => (Q k).reverse) ss).length = _
      rw [List.length_append]; omega
    rw [ef]
    refine xb_in (T := pc_e (fun k => (Q k).reverse) ss) hQ hlc hB hB2 s7 hO (by omega) (Q s).reverse [] P c1 hP c2 c3 (fun b hb => q2 b (List.mem_reverse.mp hb)) (by rw [List.nil_append, List.length_reverse]; exact q1) ?_
    intro rs' hO'
    refine ih (P ++ (Q s).reverse) (O ++ [s]) rs' (by rw [List.append_assoc]; exact hP) (by rw [List.length_append]; simp; omega) hO' (fun x hx => hok x (List.mem_cons_of_mem _ hx)) ?_
    rw [List.append_assoc]
    exact h
theorem xb_read {post : SX → Prop} {Q : Nat → List Nat} {L : List Nat} (hQ : ∀ k, k < 7 → (Q k).length ≤ 6 ∧ ∀ b ∈ Q k, b < 2) (hlc : ∀ k, k < 7 → ln k = nI (Q k).length ∧ cb k = nI (pc_v (Q k)))
    (hB : wk_L bi (pc_e (fun k => (Q k).reverse) L)) (hl : L.length ≤ 32)
    (hok : ∀ s ∈ L, s < 7 ∧ (Q s).reverse ≠ [] ∧ pc_find Q (Q s).reverse = some s ∧ ∀ u v, u ≠ [] → v ≠ [] → u ++ v = (Q s).reverse → pc_find Q u = none)
    (h : ∀ rs : Nat → Int32, wk_L rs L → post (le, mk, sc, ok, nI (pc_e (fun k => (Q k).reverse) L).length, nI L.length, rr, tx, co, ro, rk, sl, nw, np, ns, no, ln, cb, bi, rs, rd, rm, rt)) :
    wpX_readBits post (le, mk, sc, ok, nI (pc_e (fun k => (Q k).reverse) L).length, rc, rr, tx, co, ro, rk, sl, nw, np, ns, no, ln, cb, bi, rs, rd, rm, rt) := by
  have h6 := pc_el6 (F := fun k => (Q k).reverse) L fun y hy => by
    rw [List.length_reverse]; exact (hQ y (hok y hy).1).1
  exact ⟨_, xb_out hQ hlc hB (by omega) L [] [] rs rfl (by simp; exact hl) (wk_L0 rs) hok h⟩
end
end
section
/-! X: from the symbols back to the text -/
theorem xu_mono : ∀ (R X : List Nat) (w : Nat), X.length ≤ (R.foldl rl_st (X, w)).1.length
  | [], X, w => Nat.le_refl _
  | k :: R, X, w => by
    show X.length ≤ (R.foldl rl_st (rl_st (X, w) k)).1.length
    unfold rl_st
    by_cases h : k ≤ 1
    · rw [if_pos h]
      have := xu_mono R (X ++ List.replicate ((k + 1) * w) 0) (w * 2)
      rw [List.length_append] at this
      exact Nat.le_trans (Nat.le_add_right _ _) this
    · rw [if_neg h]
      have := xu_mono R (X ++ [k - 1]) 1
      rw [List.length_append] at this
      exact Nat.le_trans (Nat.le_add_right _ _) this
section
variable {le mk sc ok bc rc rr : Int32} {tx co ro rk sl nw np ns no ln cb bi rs rd rm rt : Nat → Int32}
theorem xu_2 {post : SX → Prop} {x c : Nat} (hc : c ≤ 32) : ∀ (m k : Nat) (L : List Nat) (rd : Nat → Int32), k + m = c → L.length + m ≤ 32 → wk_L rd L →
    (∀ rd : Nat → Int32, wk_L rd (L ++ List.replicate m x) → post (le, mk, sc, ok, bc, rc, nI (L ++ List.replicate m x).length, tx, co, ro, rk, sl, nw, np, ns, no, ln, cb, bi, rs, rd, rm, rt)) →
    wX_addReadRanks_2 post (nI x) (nI c) le mk sc ok bc rc (m + 1) (nI k) (nI L.length) tx co ro rk sl nw np ns no ln cb bi rs rd rm rt := by
  intro m
  induction m with
  | zero =>
    intro k L rd hk _ hL h
    have e : k = c := by omega
    subst e
    rw [show L ++ List.replicate 0 x = L from List.append_nil L] at h
    exact pk_le k k (fun _ => h rd hL) (fun hc => absurd hc (by omega))
  | succ m ih =>
    intro k L rd hk hl hL h
    refine pk_le c k (fun hc => absurd hc (by omega)) (fun _ => pk_le 32 L.length (fun hc => absurd hc (by omega)) (fun _ => ⟨pk_in L.length 32 (by omega), nm_r (e' := upd rd L.length (nI x)) (by rw [nI_clamp (by omega)]) (nm_r (nI_1 _) (nm_r (nI_1 k) ?_))⟩))
    have e1 : (L ++ [x]).length = L.length + 1 := by rw [List.length_append]; rfl
    have hI := ih (k + 1) (L ++ [x]) _ (by omega) (by omega) (wk_Ls hL) (by
      rw [List.append_assoc]
      exact h)
    rw [e1] at hI
    exact hI
theorem xu_add {post : SX → Prop} {x c : Nat} {L : List Nat} (hl : L.length + c ≤ 32) (hL : wk_L rd L)
    (h : ∀ rd : Nat → Int32, wk_L rd (L ++ List.replicate c x) → post (le, mk, sc, ok, bc, rc, nI (L ++ List.replicate c x).length, tx, co, ro, rk, sl, nw, np, ns, no, ln, cb, bi, rs, rd, rm, rt)) : wpX_addReadRanks post (le, mk, sc, ok, bc, rc, nI L.length, tx, co, ro, rk, sl, nw, np, ns, no, ln, cb, bi, rs, rd, rm, rt) (nI x) (nI c) :=
  ⟨c + 1, xu_2 (by omega) c 0 L rd (by omega) hl hL h⟩
theorem xu_9 {post : SX → Prop} {S : List Nat} (hS : wk_L rs S) (hS2 : S.length ≤ 32) (hS7 : ∀ x ∈ S, x < 7) : ∀ (R P X : List Nat) (w : Nat) (rd : Nat → Int32), P ++ R = S → (R.foldl rl_st (X, w)).1.length ≤ 32 → wk_L rd X →
    (∀ rd : Nat → Int32, wk_L rd (R.foldl rl_st (X, w)).1 → post (le, mk, sc, ok, bc, nI S.length, nI (R.foldl rl_st (X, w)).1.length, tx, co, ro, rk, sl, nw, np, ns, no, ln, cb, bi, rs, rd, rm, rt)) →
    wX_undoSymbols_9 post (R.length + 1) (nI w) (nI P.length) le mk sc ok bc (nI S.length) (nI X.length) tx co ro rk sl nw np ns no ln cb bi rs rd rm rt := by
  intro R
  induction R with
  | nil =>
    intro P X w rd hP _ hX h
    rw [List.append_nil] at hP
    subst hP
    exact pk_le P.length P.length (fun _ => h rd hX) (fun hc => absurd hc (by omega))
  | cons k R ih =>
    intro P X w rd hP hl hX h
    have hlen := congrArg List.length hP
    rw [List.length_append, List.length_cons] at hlen
    have hk7 : k < 7 := hS7 k (by rw [← hP]; simp)
    have hsx : rs P.length = nI k := wk_mid (R := R) (by rw [hP]; exact hS)
    have e3 : (P ++ [k]).length = P.length + 1 := by rw [List.length_append]; rfl
    have ef : (k :: R).foldl rl_st (X, w) = R.foldl rl_st (rl_st (X, w) k) := rfl
    rw [ef] at h hl
    unfold rl_st at h hl
    refine pk_le S.length P.length (fun hc => absurd hc (by omega)) (fun _ => ⟨pk_in P.length 32 (by omega), nm_r (wk_cla (by omega) hsx) (pk_lt 1 k (fun hc => ?_) (fun hc => ?_))⟩)
    · rw [if_neg (by omega)] at h hl
      have hm := xu_mono R (X ++ [k - 1]) 1
      rw [List.length_append] at hm
      have hm2 : X.length + 1 ≤ 32 := Nat.le_trans hm hl
      rw [show nI k - 1 = nI (k - 1) from pk_sub (b := 1) (by omega)]
      refine xu_add (c := 1) hm2 hX ?_
      intro rd' hX'
      have hI := ih (P ++ [k]) (X ++ [k - 1]) 1 rd' (by rw [List.append_assoc]; exact hP) hl hX' h
      rw [e3] at hI
      exact nm_r (nI_1 _) hI
    · rw [if_pos hc] at h hl
      have hm := xu_mono R (X ++ List.replicate ((k + 1) * w) 0) (w * 2)
      rw [List.length_append, List.length_replicate] at hm
      have hm2 : X.length + (k + 1) * w ≤ 32 := Nat.le_trans hm hl
      rw [show nI k + 1 = nI (k + 1) from nI_1 k, pk_mul]
      refine xu_add (x := 0) hm2 hX ?_
      intro rd' hX'
      have hI := ih (P ++ [k]) _ (w * 2) rd' (by rw [List.append_assoc]; exact hP) hl hX' h
      rw [e3] at hI
      exact nm_r (e' := nI (w * 2)) (pk_mul w 2) (nm_r (nI_1 _) hI)
theorem xu_sym {post : SX → Prop} {S X : List Nat} (hS : wk_L rs S) (hS2 : S.length ≤ 32) (hS7 : ∀ x ∈ S, x < 7) {n : Nat} (hX : (S.foldl rl_st ([], 1)).1 = X) (hX2 : X.length = n) (hn : n ≤ 32)
    (h : ∀ rd : Nat → Int32, wk_L rd X → post (le, mk, sc, ok, bc, nI S.length, nI n, tx, co, ro, rk, sl, nw, np, ns, no, ln, cb, bi, rs, rd, rm, rt)) : wpX_undoSymbols post (le, mk, sc, ok, bc, nI S.length, rr, tx, co, ro, rk, sl, nw, np, ns, no, ln, cb, bi, rs, rd, rm, rt) := by
  subst hX2
  subst hX
  exact ⟨S.length + 1, xu_9 hS hS2 hS7 S [] [] 1 rd rfl hn (wk_L0 rd) h⟩
theorem xu_6 {post : SX → Prop} {c : Nat → Nat} {n : Nat} (hn : n ≤ 32) (hc6 : ∀ i, c i < 6) (hr : ∀ i, i < n → rd i = nI (mf_rk c i))
    (h : ∀ ro rm : Nat → Int32, (∀ j, j < n → rm j = nI (c j)) → post (le, mk, sc, ok, bc, rc, nI n, tx, co, ro, rk, sl, nw, np, ns, no, ln, cb, bi, rs, rd, rm, rt)) : ∀ (m i : Nat) (ro rm : Nat → Int32), i + m = n → (∀ j, j < i → rm j = nI (c j)) → (∀ j, j < 6 → ro j = nI (mf_row c i j)) →
    wX_undoRanks_6 post (m + 1) (nI i) le mk sc ok bc rc (nI n) tx co ro rk sl nw np ns no ln cb bi rs rd rm rt := by
  intro m
  induction m with
  | zero =>
    intro i ro rm hi h1 h2
    have e : i = n := by omega
    subst e
    exact pk_le i i (fun _ => h ro rm h1) (fun hc => absurd hc (by omega))
  | succ m ih =>
    intro i ro rm hi h1 h2
    have hin := pk_in (x := nI i) i 32 (by omega)
    have hr6 := mf_rklt c i
    refine pk_le n i (fun hc => absurd hc (by omega)) (fun _ => ⟨hin, nm_r (wk_cla (by omega) (hr i (by omega))) ⟨pk_in _ 6 hr6, hin, nm_r (e' := upd rm i (nI (c i))) ?_ (xr_front hr6 h2 ?_)⟩⟩)
    · rw [nI_clamp (n := i) (by omega), wk_cla (by omega) (h2 _ hr6), mf_back c i (hc6 i)]
    · intro ro' h3
      refine nm_r (nI_1 i) (ih (i + 1) ro' _ (by omega) ?_ h3)
      intro j hj
      by_cases e : j = i
      · subst e; exact pk_us
      · rw [pk_un e]; exact h1 j (by omega)
theorem xu_ranks {post : SX → Prop} {c : Nat → Nat} {n : Nat} (hn : n ≤ 32) (hc6 : ∀ i, c i < 6) (hr : ∀ i, i < n → rd i = nI (mf_rk c i))
    (h : ∀ ro rm : Nat → Int32, (∀ j, j < n → rm j = nI (c j)) → post (le, mk, sc, ok, bc, rc, nI n, tx, co, ro, rk, sl, nw, np, ns, no, ln, cb, bi, rs, rd, rm, rt)) : wpX_undoRanks post (le, mk, sc, ok, bc, rc, nI n, tx, co, ro, rk, sl, nw, np, ns, no, ln, cb, bi, rs, rd, rm, rt) := by
  unfold wpX_undoRanks
  dsimp only
  refine xr_reset ?_
  intro ro' hr'
  exact ⟨n + 1, xu_6 hn hc6 hr h n 0 ro' rm (by omega) (fun j hj => absurd hj (by omega)) hr'⟩
theorem xu_12 {post : Int32 → Prop} {c : Nat → Nat} {n g : Nat} (hn : n ≤ 32) (hc6 : ∀ i, c i < 6) (hg : g < n) (hm : ∀ j, j < n → rm j = nI (c j))
    (h : post (nI (cn_ n (fun k => decide (c k < c g ∨ (c k = c g ∧ k < g)))))) : ∀ (m i : Nat), i + m = n →
    wX_placeOneEarlier_12 post (nI g) (nI (c g)) le mk sc ok bc rc (nI n) tx co ro rk sl nw np ns no ln cb bi rs rd rm rt (m + 1) (nI (cn_ i (fun k => decide (c k < c g ∨ (c k = c g ∧ k < g))))) (nI i) := by
  intro m
  induction m with
  | zero =>
    intro i hi
    have e : i = n := by omega
    subst e
    exact pk_le i i (fun _ => h) (fun hc => absurd hc (by omega))
  | succ m ih =>
    intro i hi
    have hI := ih (i + 1) (by omega)
    rw [cn_s] at hI
    have hin := pk_in (x := nI i) i 32 (by omega)
    have c1 := hc6 i
    have c2 := hc6 g
    have hmi : rm (nI i).toNatClampNeg = nI (c i) := wk_cla (by omega) (hm i (by omega))
    refine pk_le n i (fun hc => absurd hc (by omega)) (fun _ => ⟨hin, pk_lt (c i) (c g) (fun hlt => ?_) (fun hge => ⟨hin, pk_eq (c i) (c g) (fun he => pk_le g i (fun hle => ?_) (fun hgt => ?_)) (fun hne => ?_) hmi⟩) hmi⟩)
    · rw [decide_eq_true (Or.inl hlt), if_pos rfl] at hI
      exact nm_r (nI_1 _) (nm_r (nI_1 i) hI)
    · rw [decide_eq_false (by omega)] at hI
      exact nm_r (nI_1 i) hI
    · rw [decide_eq_true (Or.inr ⟨he, hgt⟩), if_pos rfl] at hI
      exact nm_r (nI_1 _) (nm_r (nI_1 i) hI)
    · rw [decide_eq_false (by omega)] at hI
      exact nm_r (nI_1 i) hI
theorem xu_earl {post : Int32 → Prop} {c : Nat → Nat} {n g : Nat} (hn : n ≤ 32) (hc6 : ∀ i, c i < 6) (hg : g < n) (hm : ∀ j, j < n → rm j = nI (c j))
    (h : post (nI (cn_ n (fun k => decide (c k < c g ∨ (c k = c g ∧ k < g)))))) : wpX_placeOneEarlier post (le, mk, sc, ok, bc, rc, nI n, tx, co, ro, rk, sl, nw, np, ns, no, ln, cb, bi, rs, rd, rm, rt) (nI g) :=
  ⟨pk_in g 32 (by omega), nm_r (wk_cla (by omega) (hm g hg)) ⟨n + 1, xu_12 hn hc6 hg hm h n 0 (by omega)⟩⟩
def xu_e (n d : Nat) : Nat := if d = n then 0 else d
theorem xu_pe {n d : Nat} (h : d < n) : bw_pv n (xu_e n (d + 1)) = d := by
  unfold bw_pv xu_e
  by_cases c : d + 1 = n
  · rw [if_pos c, if_pos rfl]; omega
  · rw [if_neg c, if_neg (by omega)]; omega
theorem xu_el {n d : Nat} (h : d ≤ n) (hn : 0 < n) : xu_e n d < n := by
  unfold xu_e
  split <;> omega
theorem xu_c12 {post : SX → Prop} {t : Nat → Nat} {n : Nat} (ht : ∀ i, t i < 6) (hn : n ≤ 32) (hm : ∀ j, j < n → rm j = nI (bw_c t n j))
    (h : ∀ rt : Nat → Int32, (∀ j, j < n → rt j = nI (t j)) → post (le, mk, sc, ok, bc, rc, nI n, tx, co, ro, rk, sl, nw, np, ns, no, ln, cb, bi, rs, rd, rm, rt)) : ∀ (d q : Nat) (rt : Nat → Int32), d ≤ n → q < n → bw_R t n q = bw_R t n (xu_e n d) → (∀ j, d ≤ j → j < n → rt j = nI (t j)) →
    wX_undoColumn_12 post le mk sc ok bc rc (nI n) (d + 1) (nI (bw_p t n q)) (nI d + (-1)) tx co ro rk sl nw np ns no ln cb bi rs rd rm rt := by
  intro d
  induction d with
  | zero =>
    intro q rt _ _ _ h1
    exact br_t (by decide) (h rt (fun j hj => h1 j (by omega) hj))
  | succ d ih =>
    intro q rt hd hq hR h1
    obtain ⟨m, rfl⟩ : ∃ m, n = m + 1 := ⟨n - 1, by omega⟩
    rw [pk_m1 d]
    have hplt := bw_plt (t := t) hq
    have hse := bw_same hq (xu_el hd (by omega)) hR
    rw [xu_pe (by omega)] at hse
    have hcq : bw_c t (m + 1) (bw_p t (m + 1) q) = t d := by rw [bw_cp hq, hse.1]
    refine br_f (nI_pos (by omega)) ⟨pk_in (bw_p t (m + 1) q) 32 (by omega), pk_in d 32 (by omega), nm_r (e' := upd rt d (nI (t d))) ?_ (xu_earl hn (fun i => bw_c6 ht (m + 1) i) hplt hm ?_)⟩
    · rw [nI_clamp (n := d) (by omega), wk_cla (by omega) (hm _ hplt), hcq]
    · obtain ⟨q', hq', e1, e2⟩ := bw_LF (t := t) (c := bw_c t (m + 1)) (m := m) (fun p hp => bw_cp hp) hq
      rw [e1]
      refine nm_e (ih q' _ (by omega) hq' ?_ ?_)
      · rw [e2, hse.2]
        congr 1
        unfold xu_e
        rw [if_neg (by omega)]
      · intro j hj1 hj2
        by_cases e : j = d
        · subst e; exact pk_us
        · rw [pk_un e]; exact h1 j (by omega) hj2
theorem xu_col {post : SX → Prop} {t : Nat → Nat} {n : Nat} (ht : ∀ i, t i < 6) (hn : n ≤ 32) (hm : ∀ j, j < n → rm j = nI (bw_c t n j)) (hk : 0 < n → mk = nI (bw_p t n 0))
    (h : ∀ rt : Nat → Int32, (∀ j, j < n → rt j = nI (t j)) → post (le, mk, sc, ok, bc, rc, nI n, tx, co, ro, rk, sl, nw, np, ns, no, ln, cb, bi, rs, rd, rm, rt)) : wpX_undoColumn post (le, mk, sc, ok, bc, rc, nI n, tx, co, ro, rk, sl, nw, np, ns, no, ln, cb, bi, rs, rd, rm, rt) := by
  refine nm_r (e' := nI n + (-1)) (Int32.sub_eq_add_neg _ _) ⟨n + 1, ?_⟩
  by_cases c : n = 0
  · subst c
    exact br_t (by decide) (h rt (fun j hj => absurd hj (by omega)))
  · rw [hk (by omega)]
    refine xu_c12 ht hn hm (by rw [← hk (by omega)]; exact h) n 0 rt (Nat.le_refl _) (by omega) ?_ (fun j h1 h2 => absurd h2 (by omega))
    unfold xu_e
    rw [if_pos rfl]
end
end
section
/-! X: all stages -/
/-- the symbols of a text -/
noncomputable def xo_L (t : Nat → Nat) (n : Nat) : List Nat := rl_sy (mf_rk (bw_c t n)) n
theorem xo_Ll (t : Nat → Nat) (n : Nat) : (xo_L t n).length ≤ n := rl_syl _ n
theorem xo_L7 (t : Nat → Nat) (n : Nat) : ∀ x ∈ xo_L t n, x < 7 := rl_sy7 fun i _ => mf_rklt _ i
/-- what X holds of the text t of n letters -/
def xo_ok (t : Nat → Nat) (n : Nat) (u : SX) : Prop :=
  ∃ (mk bc rc : Int32) (co ro rk sl nw np ns no ln cb bi rs rd rm rt : Nat → Int32) (Q : Nat → List Nat) (R : Nat),
    u = (nI n, mk, nI (xo_L t n).length, nI (wk_K (xo_L t n)), bc, rc, nI n, wk_f t, co, ro, rk, sl, nw, np, ns, no, ln, cb, bi, rs, rd, rm, rt) ∧ (0 < n → mk = nI (bw_p t n 0)) ∧ (∀ i, i < n → co i = nI (bw_c t n i)) ∧
    (∀ i, i < n → rk i = nI (mf_rk (bw_c t n) i)) ∧ wk_L sl (xo_L t n) ∧ ht_C (fun v => (xo_L t n).count v) Q R ∧ bc = nI R ∧ ∀ j, j < n → rt j = nI (t j)
section
variable {le mk sc ok bc rc rr : Int32} {tx co ro rk sl nw np ns no ln cb bi rs rd rm rt : Nat → Int32}
theorem xo_all {post : SX → Prop} {t : Nat → Nat} {n : Nat} (ht : ∀ i, t i < 6) (hn : n ≤ 32) (h : ∀ u, xo_ok t n u → post u) : wpX_codeAndDecode post (nI n, mk, sc, ok, bc, rc, rr, wk_f t, co, ro, rk, sl, nw, np, ns, no, ln, cb, bi, rs, rd, rm, rt) := by
  have hc6 : ∀ i, bw_c t n i < 6 := fun i => bw_c6 ht n i
  have hl := xo_Ll t n
  have h7 := xo_L7 t n
  unfold wpX_codeAndDecode
  dsimp only
  refine xs_col ht hn ?_
  intro mk co hmk hco
  refine xr_ranks hn hc6 hco ?_
  intro ro rk hrk
  refine xy_sym hn (fun i => mf_rklt _ i) hrk ?_
  intro sl hsl
  refine xg_code (L := xo_L t n) (by omega) h7 hsl ?_
  intro nw np ns no ln cb Q R hC hlc
  have hQ : ∀ k, k < 7 → (Q k).length ≤ 6 ∧ ∀ b ∈ Q k, b < 2 := by
    intro k hk
    by_cases hw : 0 < (xo_L t n).count k
    · exact ⟨(hC.1 k hk hw).2.1, (hC.1 k hk hw).2.2⟩
    · rw [hC.2.1 k hk (Nat.eq_zero_of_not_pos hw)]
      exact ⟨by simp, fun b hb => by cases hb⟩
  refine xb_write (L := xo_L t n) (Q := Q) (by omega) h7 hsl hQ hlc ?_
  intro bi hbi
  refine xb_read (L := xo_L t n) (Q := Q) hQ hlc hbi (by omega) ?_ ?_
  · intro s hs
    exact ⟨h7 s hs, pc_ok hC (h7 s hs) (List.count_pos_iff.mpr hs)⟩
  intro rs hrs
  have hX : ((xo_L t n).foldl rl_st ([], 1)).1 = (List.range n).map (mf_rk (bw_c t n)) := rl_syinv _ n hn
  refine xu_sym (S := xo_L t n) hrs (by omega) h7 hX (by simp) hn ?_
  intro rd hrd
  have hrd2 : ∀ i, i < n → rd i = nI (mf_rk (bw_c t n) i) := by
    intro i hi
    rw [hrd i (by simp; exact hi)]
    simp [hi]
  refine xu_ranks hn hc6 hrd2 ?_
  intro ro rm hrm
  refine xu_col ht hn hrm hmk ?_
  intro rt hrt
  have hb : nI (pc_e (fun k => (Q k).reverse) (xo_L t n)).length = nI R := by
    rw [pc_el Q _ h7]
    exact congrArg nI hC.2.2.2.2.1
  exact h _ ⟨mk, nI (pc_e (fun k => (Q k).reverse) (xo_L t n)).length, nI (xo_L t n).length, co, ro, rk, sl, nw, np, ns, no, ln, cb, bi, rs, rd, rm, rt, Q, R, rfl, hmk, hco, hrk, hsl, hC, hb, hrt⟩
end
end
section
/-! Y's sorting and ranks -/
def yb_i (n p k : Nat) : Nat := if p + k < n then p + k else p + k - n
theorem yb_lt {n p k : Nat} (hp : p < n) (hk : k ≤ n) : yb_i n p k < n := by unfold yb_i; split <;> omega
theorem yb_nx {n p k : Nat} (hp : p < n) (hk : k < n) : bw_nx n (yb_i n p k) = yb_i n p (k + 1) := by
  unfold bw_nx yb_i
  by_cases c : p + k < n
  · rw [if_pos c]
    by_cases d : p + k + 1 < n
    · rw [if_pos d, if_pos (by omega)]; omega
    · rw [if_neg d, if_neg (by omega)]; omega
  · rw [if_neg c, if_pos (by omega), if_neg (by omega)]; omega
theorem yb_m {n p k : Nat} (hn : n ≤ 32) (hp : p < n) (hk : k < n) (h : n ≤ p + k) : (nI p + nI k - nI n) &&& 31 = nI (yb_i n p k) := by
  rw [nI_add, pk_sub h, pk_andN (by omega) (m := 31) 5 (by decide)]
  unfold yb_i
  rw [if_neg (by omega), Nat.mod_eq_of_lt (by omega)]
section
variable {fn fc fm : Int32} {tx co rk sy ro of ln : Nat → Int32}
theorem yb_75 {post : Int32 → Prop} {J : Int32 → Prop} {x1 x2 : Int32} {t : Nat → Nat} {k l r : Nat} (ht : ∀ i, t i < 6) (hr : r < 32) (hJ : t l = t r → J (nI (k + 1))) (h1 : t l < t r → post 1) (h0 : t r < t l → post 0) :
    wY_before_75 post J x1 x2 (nI k) (nI (t l)) (nI r) fn fc fm (wk_f t) co rk sy ro of ln := by
  have a := ht l
  have b := ht r
  exact ⟨pk_in r 32 hr, nm_r (wk_at (by omega)) (pk_eq (t l) (t r) (fun e => nm_r (nI_1 k) (hJ e)) (fun hne => pk_le (t r) (t l) (fun hc => h0 (by omega)) (fun hc => h1 hc)))⟩
theorem yb_41 {post : Int32 → Prop} {J : Int32 → Prop} {x1 : Int32} {t : Nat → Nat} {n q k l : Nat} (ht : ∀ i, t i < 6) (hn : n ≤ 32) (hq : q < n) (hk : k < n) (hl : l < 32)
    (hJ : t l = t (yb_i n q k) → J (nI (k + 1))) (h1 : t l < t (yb_i n q k) → post 1) (h0 : t (yb_i n q k) < t l → post 0) :
    wY_before_41 post J x1 (nI q) (nI k) (nI l) (nI n) fc fm (wk_f t) co rk sy ro of ln := by
  have hr := yb_lt (n := n) (p := q) (k := k) hq (by omega)
  refine ⟨pk_in l 32 hl, nm_r (wk_at (by omega)) (pk_le n (q + k) (fun hc => ?_) (fun hc => ?_) rfl (nI_add q k))⟩
  · rw [yb_m hn hq hk hc]
    exact yb_75 ht (by omega) hJ h1 h0
  · have e : nI q + nI k = nI (yb_i n q k) := by unfold yb_i; rw [if_pos hc, nI_add]
    rw [e]
    exact yb_75 ht (by omega) hJ h1 h0
theorem yb_2 {post : Int32 → Prop} {t : Nat → Nat} {n p q : Nat} (ht : ∀ i, t i < 6) (hn : n ≤ 32) (hp : p < n) (hq : q < n) : ∀ (m k : Nat), k + m = n →
    ((bw_x (bw_r t n m (yb_i n p k)) (bw_r t n m (yb_i n q k)) ∨ (bw_r t n m (yb_i n p k) = bw_r t n m (yb_i n q k) ∧ p < q)) → post 1) →
    (¬ (bw_x (bw_r t n m (yb_i n p k)) (bw_r t n m (yb_i n q k)) ∨ (bw_r t n m (yb_i n p k) = bw_r t n m (yb_i n q k) ∧ p < q)) → post 0) →
    wY_before_2 post (nI p) (nI q) (nI n) fc fm (wk_f t) co rk sy ro of ln (m + 1) (nI k) := by
  intro m
  induction m with
  | zero =>
    intro k hk h1 h0
    refine pk_le n k (fun _ => pk_le q p (fun hc => h0 ?_) (fun hc => h1 (Or.inr ⟨rfl, hc⟩))) (fun hc => absurd hc (by omega))
    intro hz
    rcases hz with hz | ⟨_, hz⟩
    · exact hz
    · omega
  | succ m ih =>
    intro k hk h1 h0
    have hl := yb_lt (n := n) (p := p) (k := k) hp (by omega)
    have g1 : t (yb_i n p k) < t (yb_i n q k) → post 1 := fun hc => h1 (Or.inl (Or.inl hc))
    have g0 : t (yb_i n q k) < t (yb_i n p k) → post 0 := fun hc => h0 (by
      intro hz
      rcases hz with hz | ⟨hz, _⟩
      · rcases hz with hz | ⟨hz, _⟩
        · omega
        · omega
      · have := (List.cons.inj hz).1; omega)
    have gJ : t (yb_i n p k) = t (yb_i n q k) → wY_before_2 post (nI p) (nI q) (nI n) fc fm (wk_f t) co rk sy ro of ln (m + 1) (nI (k + 1)) := by
      intro he
      have hP : (bw_x (bw_r t n (m + 1) (yb_i n p k)) (bw_r t n (m + 1) (yb_i n q k)) ∨ (bw_r t n (m + 1) (yb_i n p k) = bw_r t n (m + 1) (yb_i n q k) ∧ p < q)) ↔
          (bw_x (bw_r t n m (yb_i n p (k + 1))) (bw_r t n m (yb_i n q (k + 1))) ∨ (bw_r t n m (yb_i n p (k + 1)) = bw_r t n m (yb_i n q (k + 1)) ∧ p < q)) := by
        rw [← yb_nx hp (by omega : k < n), ← yb_nx hq (by omega : k < n)]
        show ((t (yb_i n p k) < t (yb_i n q k) ∨ (t (yb_i n p k) = t (yb_i n q k) ∧ bw_x (bw_r t n m (bw_nx n (yb_i n p k))) (bw_r t n m (bw_nx n (yb_i n q k))))) ∨ (t (yb_i n p k) :: bw_r t n m (bw_nx n (yb_i n p k)) = t (yb_i n q k) :: bw_r t n m (bw_nx n (yb_i n q k)) ∧ p < q)) ↔ _
        rw [he]
        simp
      rw [hP] at h1 h0
      exact ih (k + 1) (by omega) h1 h0
    refine pk_le n k (fun hc => absurd hc (by omega)) (fun _ => pk_le n (p + k) (fun hc => ?_) (fun hc => ?_) rfl (nI_add p k))
    · rw [yb_m hn hp (by omega) hc]
      exact yb_41 ht hn hq (by omega) (by omega) gJ g1 g0
    · have e : nI p + nI k = nI (yb_i n p k) := by unfold yb_i; rw [if_pos hc, nI_add]
      rw [e]
      exact yb_41 ht hn hq (by omega) (by omega) gJ g1 g0
theorem yb_before {post : Int32 → Prop} {t : Nat → Nat} {n p q : Nat} (ht : ∀ i, t i < 6) (hn : n ≤ 32) (hp : p < n) (hq : q < n)
    (h1 : bw_B t n p q → post 1) (h0 : ¬ bw_B t n p q → post 0) : wpY_before post (nI n, fc, fm, wk_f t, co, rk, sy, ro, of, ln) (nI p) (nI q) := by
  have e1 : yb_i n p 0 = p := by unfold yb_i; rw [if_pos (by omega)]; rfl
  have e2 : yb_i n q 0 = q := by unfold yb_i; rw [if_pos (by omega)]; rfl
  refine ⟨n + 1, yb_2 ht hn hp hq n 0 (by omega) ?_ ?_⟩
  · rw [e1, e2]; exact h1
  · rw [e1, e2]; exact h0
theorem ys_70 {post : SY → Prop} {J : Int32 → Int32 → (Nat → Int32) → (Nat → Int32) → (Nat → Int32) → (Nat → Int32) → (Nat → Int32) → (Nat → Int32) → (Nat → Int32) → Prop}
    {t : Nat → Nat} {n i g z : Nat} (hi : i < 32) (hz : z < 32) (hg : g < 32)
    (h : J (nI (i + 1)) (if i = 0 then nI g else fm) (wk_f t) (upd co g (nI (t z))) rk sy ro of ln) :
    wY_sort_70 post J (nI i) (nI g) (nI z) (nI g) (nI n) fc fm (wk_f t) co rk sy ro of ln := by
  refine ⟨pk_in z 32 hz, pk_in g 32 hg, nm_r (e' := upd co g (nI (t z))) ?_ (pk_eq i 0 (fun hc => nm_r (nI_1 i) ?_) (fun hc => nm_r (nI_1 i) ?_))⟩
  · rw [wk_at (by omega), nI_clamp (by omega)]
  · rw [if_pos hc] at h; exact h
  · rw [if_neg hc] at h; exact h
theorem ys_14 {post : SY → Prop} {J : Int32 → Int32 → (Nat → Int32) → (Nat → Int32) → (Nat → Int32) → (Nat → Int32) → (Nat → Int32) → (Nat → Int32) → (Nat → Int32) → Prop}
    {t : Nat → Nat} {n p : Nat} (ht : ∀ i, t i < 6) (hn : n ≤ 32) (hp : p < n)
    (h : J (nI (p + 1)) (if p = 0 then nI (bw_p t n p) else fm) (wk_f t) (upd co (bw_p t n p) (nI (t (bw_pv n p)))) rk sy ro of ln) : ∀ (m i : Nat), i + m = n →
    wY_sort_14 post J (nI p) (nI n) fc fm (wk_f t) co rk sy ro of ln (m + 1) (nI (cn_ i (fun q => bw_b t n q p))) (nI i) := by
  intro m
  have hg := bw_plt (t := t) (n := n) (p := p) hp
  have hpv := bw_pvlt (n := n) (l := p) hp
  induction m with
  | zero =>
    intro i hi
    have e : i = n := by omega
    subst e
    refine pk_le i i (fun _ => pk_eq p 0 (fun e => ?_) (fun e => ?_)) (fun hc => absurd hc (by omega))
    · have e2 : nI i - 1 = nI (bw_pv i p) := by
        unfold bw_pv; rw [if_pos e]; exact pk_sub (b := 1) (by omega)
      rw [e2]
      exact ys_70 (g := bw_p t i p) (by omega) (by omega) (by omega) h
    · have e2 : nI p - 1 = nI (bw_pv i p) := by
        unfold bw_pv; rw [if_neg e]; exact pk_sub (b := 1) (by omega)
      rw [e2]
      exact ys_70 (g := bw_p t i p) (by omega) (by omega) (by omega) h
  | succ m ih =>
    intro i hi
    have hI := ih (i + 1) (by omega)
    rw [cn_s] at hI
    refine pk_le n i (fun hc => absurd hc (by omega)) (fun _ => pk_eq i p (fun e => ?_) (fun e => yb_before ht hn (by omega) hp (fun hB => ?_) (fun hB => ?_)))
    · subst e
      rw [bw_bf bw_Bi] at hI
      exact nm_r (nI_1 i) hI
    · rw [bw_bt.mpr hB, if_pos rfl] at hI
      exact br_f (by decide) (nm_r (nI_1 _) (nm_r (nI_1 i) hI))
    · rw [bw_bf hB] at hI
      exact br_t rfl (nm_r (nI_1 i) hI)
theorem ys_2 {post : SY → Prop} {t : Nat → Nat} {n : Nat} (ht : ∀ i, t i < 6) (hn : n ≤ 32)
    (h : ∀ (fm : Int32) (co : Nat → Int32), (0 < n → fm = nI (bw_p t n 0)) → (∀ p, p < n → co (bw_p t n p) = nI (t (bw_pv n p))) → post (nI n, fc, fm, wk_f t, co, rk, sy, ro, of, ln)) :
    ∀ (m i : Nat) (fm : Int32) (co : Nat → Int32), i + m = n → (0 < i → fm = nI (bw_p t n 0)) → (∀ p, p < i → co (bw_p t n p) = nI (t (bw_pv n p))) →
    wY_sort_2 post (nI n) fc (m + 1) (nI i) fm (wk_f t) co rk sy ro of ln := by
  intro m
  induction m with
  | zero =>
    intro i fm co hi hm hc
    have e : i = n := by omega
    subst e
    exact pk_le i i (fun _ => h fm co hm hc) (fun hc => absurd hc (by omega))
  | succ m ih =>
    intro i fm co hi hm hc
    have hI := ih (i + 1) (if i = 0 then nI (bw_p t n i) else fm) (upd co (bw_p t n i) (nI (t (bw_pv n i)))) (by omega) (by
      intro _
      by_cases e : i = 0
      · subst e; rw [if_pos rfl]
      · rw [if_neg e]; exact hm (by omega)) (by
      intro p hp
      by_cases e : p = i
      · subst e; exact pk_us
      · rw [pk_un (fun z => e (bw_pinj p i (by omega) (by omega) z))]
        exact hc p (by omega))
    exact pk_le n i (fun hc => absurd hc (by omega)) (fun _ => ⟨n + 1, ys_14 ht hn (by omega) hI n 0 (by omega)⟩)
theorem ys_sort {post : SY → Prop} {t : Nat → Nat} {n : Nat} (ht : ∀ i, t i < 6) (hn : n ≤ 32)
    (h : ∀ (fm : Int32) (co : Nat → Int32), (0 < n → fm = nI (bw_p t n 0)) → (∀ i, i < n → co i = nI (bw_c t n i)) → post (nI n, fc, fm, wk_f t, co, rk, sy, ro, of, ln)) :
    wpY_sort post (nI n, fc, fm, wk_f t, co, rk, sy, ro, of, ln) :=
  ⟨n + 1, ys_2 ht hn (fun fm co h1 h2 => h fm co h1 (bw_cag h2)) n 0 fm co (by omega) (fun z => absurd z (by omega)) (fun p hp => absurd hp (by omega))⟩
theorem yr_73 {post : SY → Prop} {J : Int32 → (Nat → Int32) → (Nat → Int32) → (Nat → Int32) → (Nat → Int32) → (Nat → Int32) → (Nat → Int32) → (Nat → Int32) → Prop} {i r : Nat} (hi : i < 32) (hr : r < 6) : ∀ (k : Nat) (ro : Nat → Int32), k < 6 →
    (∀ ro' : Nat → Int32, (∀ j, j < 6 → ro' j = if j = 0 then co i else if j ≤ k ∧ j ≤ r then ro (j - 1) else ro j) → J (nI (i + 1)) tx co rk sy ro' of ln) →
    wY_rankAll_73 post J (nI i) (nI r) fn fc fm (k + 1) (nI k) tx co rk sy ro of ln := by
  intro k
  induction k with
  | zero =>
    intro ro hk h
    refine pk_le 0 0 (fun _ => ⟨pk_in i 32 hi, nm_r (e' := upd ro 0 (co i)) (by rw [nI_clamp (by omega)]) (nm_r (nI_1 i) (h _ ?_))⟩) (fun hc => absurd hc (by omega))
    intro j hj
    by_cases e : j = 0
    · subst e; rw [if_pos rfl]; exact pk_us
    · rw [if_neg e, if_neg (by omega)]; exact pk_un e
  | succ k ih =>
    intro ro hk h
    refine pk_le (k + 1) 0 (fun hc => absurd hc (by omega)) (fun _ => pk_lt r (k + 1) (fun hlt => nm_r (pk_m1 k) (ih ro (by omega) ?_)) (fun hge => ⟨pk_in k 6 (by omega) (nI_pred k), pk_in (k + 1) 6 (by omega), nm_e (nm_r (pk_m1 k) (ih _ (by omega) ?_))⟩))
    · intro ro' h'
      refine h ro' ?_
      intro j hj
      rw [h' j hj]
      by_cases e : j = 0
      · rw [if_pos e, if_pos e]
      · rw [if_neg e, if_neg e]
        by_cases e2 : j ≤ k ∧ j ≤ r
        · rw [if_pos e2, if_pos (by omega)]
        · rw [if_neg e2, if_neg (by omega)]
    · intro ro' h'
      refine h ro' ?_
      intro j hj
      rw [h' j hj]
      by_cases e : j = 0
      · rw [if_pos e, if_pos e]
      · rw [if_neg e, if_neg e, nI_clamp (by omega), nI_pred, nI_clamp (by omega)]
        by_cases e2 : j ≤ k ∧ j ≤ r
        · rw [if_pos e2, if_pos (by omega), pk_un (by omega)]
        · rw [if_neg e2]
          by_cases e3 : j = k + 1
          · subst e3; rw [if_pos (by omega), pk_us]; rfl
          · rw [if_neg (by omega), pk_un (by omega)]
theorem yr_35 {post : SY → Prop} {J : Int32 → (Nat → Int32) → (Nat → Int32) → (Nat → Int32) → (Nat → Int32) → (Nat → Int32) → (Nat → Int32) → (Nat → Int32) → Prop} {i c : Nat} {row : Nat → Nat} (hi : i < 32) (hc6 : c < 6) (hc : co i = nI c)
    (hr6 : ∀ j, j < 6 → row j < 6) (hr : ∀ j, j < 6 → ro j = nI (row j)) (hok : row (mf_pl row c 6) = c)
    (h : ∀ ro' : Nat → Int32, (∀ j, j < 6 → ro' j = nI (mf_mv row (mf_pl row c 6) j)) → J (nI (i + 1)) tx co (upd rk i (nI (mf_pl row c 6))) sy ro' of ln) : ∀ (m k : Nat), k + m = 6 →
    wY_rankAll_35 post J (nI i) fn fc fm tx co rk sy ro of ln (m + 1) (nI (mf_pl row c k)) (nI k) := by
  intro m
  have hin := pk_in (x := nI i) i 32 hi
  induction m with
  | zero =>
    intro k hk
    have e : k = 6 := by omega
    subst e
    have hp6 := mf_pllt (row := row) (c := c) (k := 6) (by omega)
    refine pk_le 6 6 (fun _ => ⟨hin, nm_r (e' := upd rk i (nI (mf_pl row c 6))) (by rw [nI_clamp (by omega)]) ⟨6, yr_73 hi hp6 5 ro (by omega) ?_⟩⟩) (fun hc => absurd hc (by omega))
    intro ro' h'
    refine h ro' ?_
    intro j hj
    rw [h' j hj]
    unfold mf_mv
    by_cases e : j = 0
    · rw [if_pos e, if_pos e, hok]; exact hc
    · rw [if_neg e, if_neg e]
      by_cases e2 : j ≤ mf_pl row c 6
      · rw [if_pos (by omega), if_pos e2]; exact hr _ (by omega)
      · rw [if_neg (by omega), if_neg e2]; exact hr _ hj
  | succ m ih =>
    intro k hk
    have hI := ih (k + 1) (by omega)
    have h6 := hr6 k (by omega)
    have e : mf_pl row c (k + 1) = if row k = c then k else mf_pl row c k := rfl
    rw [e] at hI
    refine pk_le 6 k (fun hc => absurd hc (by omega)) (fun _ => ⟨pk_in k 6 (by omega), hin, pk_eq (row k) c (fun hc => nm_r (nI_1 k) ?_) (fun hc => nm_r (nI_1 k) ?_) (wk_cla (by omega) (hr k (by omega))) (wk_cla (by omega) hc)⟩)
    · rw [if_pos hc] at hI; exact hI
    · rw [if_neg hc] at hI; exact hI
theorem yr_23 {post : SY → Prop} {c : Nat → Nat} {n : Nat} (hn : n ≤ 32) (hc6 : ∀ i, c i < 6) (hc : ∀ i, i < n → co i = nI (c i))
    (h : ∀ rk ro : Nat → Int32, (∀ j, j < n → rk j = nI (mf_rk c j)) → post (nI n, fc, fm, tx, co, rk, sy, ro, of, ln)) : ∀ (m i : Nat) (rk ro : Nat → Int32), i + m = n → (∀ j, j < i → rk j = nI (mf_rk c j)) → (∀ j, j < 6 → ro j = nI (mf_row c i j)) →
    wY_rankAll_23 post (nI n) fc fm (m + 1) (nI i) tx co rk sy ro of ln := by
  intro m
  induction m with
  | zero =>
    intro i rk ro hi h1 h2
    have e : i = n := by omega
    subst e
    exact pk_le i i (fun _ => h rk ro h1) (fun hc => absurd hc (by omega))
  | succ m ih =>
    intro i rk ro hi h1 h2
    refine pk_le n i (fun hc => absurd hc (by omega)) (fun _ => ⟨7, yr_35 (by omega) (hc6 i) (hc i (by omega)) (mf_rowlt c i) h2 (mf_back c i (hc6 i)) ?_ 6 0 (by omega)⟩)
    intro ro' h3
    refine ih (i + 1) _ ro' (by omega) ?_ h3
    intro j hj
    by_cases e : j = i
    · subst e; exact pk_us
    · rw [pk_un e]; exact h1 j (by omega)
theorem yr_2 {post : SY → Prop} {n : Nat} (h : ∀ ro : Nat → Int32, (∀ j, j < 6 → ro j = nI j) → ∃ n23 : Nat, wY_rankAll_23 post (nI n) fc fm n23 0 tx co rk sy ro of ln) : ∀ (m i : Nat) (ro : Nat → Int32), i + m = 6 → (∀ j, j < i → ro j = nI j) →
    wY_rankAll_2 post (nI n) fc fm (m + 1) (nI i) tx co rk sy ro of ln := by
  intro m
  induction m with
  | zero =>
    intro i ro hi hr
    have e : i = 6 := by omega
    subst e
    exact pk_le 6 6 (fun _ => h ro hr) (fun hc => absurd hc (by omega))
  | succ m ih =>
    intro i ro hi hr
    refine pk_le 6 i (fun hc => absurd hc (by omega)) (fun _ => ⟨pk_in i 6 (by omega), nm_e (nm_r (nI_1 i) (ih (i + 1) _ (by omega) ?_))⟩)
    intro j hj
    rw [nI_clamp (by omega)]
    by_cases e : j = i
    · subst e; exact pk_us
    · rw [pk_un e]; exact hr j (by omega)
theorem yr_all {post : SY → Prop} {c : Nat → Nat} {n : Nat} (hn : n ≤ 32) (hc6 : ∀ i, c i < 6) (hc : ∀ i, i < n → co i = nI (c i))
    (h : ∀ rk ro : Nat → Int32, (∀ j, j < n → rk j = nI (mf_rk c j)) → post (nI n, fc, fm, tx, co, rk, sy, ro, of, ln)) : wpY_rankAll post (nI n, fc, fm, tx, co, rk, sy, ro, of, ln) := by
  refine ⟨7, yr_2 ?_ 6 0 ro (by omega) (fun j hj => absurd hj (by omega))⟩
  intro ro hr
  exact ⟨n + 1, yr_23 hn hc6 hc h n 0 rk ro (by omega) (fun j hj => absurd hj (by omega)) hr⟩
end
end
section
/-! Y's symbols -/
section
variable {fn fc fm : Int32} {tx co rk sy ro of ln : Nat → Int32}
theorem ye_put {post : SY → Prop} {L : List Nat} {x : Nat} (hl : L.length < 32) (hL : wk_L sy L)
    (h : ∀ sy : Nat → Int32, wk_L sy (L ++ [x]) → post (fn, nI (L ++ [x]).length, fm, tx, co, rk, sy, ro, of, ln)) : wpY_put post (fn, nI L.length, fm, tx, co, rk, sy, ro, of, ln) (nI x) := by
  refine ⟨pk_in L.length 32 hl, nm_r (e' := upd sy L.length (nI x)) (by rw [nI_clamp (by omega)]) (nm_r (nI_1 _) ?_)⟩
  have := h _ (wk_Ls hL (x := x))
  rw [List.length_append] at this
  exact this
theorem ye_4 {post : SY → Prop} : ∀ (f s m : Nat) (L : List Nat) (sy : Nat → Int32), m < 2 ^ f → s + f = 6 → L.length + m ≤ 32 → m ≤ 32 → wk_L sy L →
    (∀ sy : Nat → Int32, wk_L sy (L ++ rl_rn f m) → post (fn, nI (L ++ rl_rn f m).length, fm, tx, co, rk, sy, ro, of, ln)) →
    wY_putRun_4 post (f + 1) (nI m) (nI s) fn (nI L.length) fm tx co rk sy ro of ln := by
  intro f
  induction f with
  | zero =>
    intro s m L sy hm hs hl hm2 hL h
    have e : m = 0 := by omega
    subst e
    have h' := h sy (by show wk_L sy (L ++ []); rw [List.append_nil]; exact hL)
    have e2 : L ++ rl_rn 0 0 = L := List.append_nil L
    rw [e2] at h'
    exact pk_le 6 s (fun _ => h') (fun hc => absurd hc (by omega))
  | succ f ih =>
    intro s m L sy hm hs hl hm2 hL h
    rw [Nat.pow_succ] at hm
    refine pk_le 6 s (fun hc => absurd hc (by omega)) (fun _ => pk_le m 0 (fun hc => ?_) (fun hc => ⟨by decide, ?_⟩))
    · have e : m = 0 := by omega
      subst e
      have e2 : L ++ rl_rn (f + 1) 0 = L := by rw [rl_rn0, List.append_nil]
      rw [e2] at h
      exact h sy hL
    · refine pk_eq (m % 2) 1 (fun ho => br_f (by decide) ?_) (fun ho => br_t rfl ?_) (pk_rem (d := 2) (by omega) (by omega) (by omega))
      · refine ye_put (x := 0) (by omega) hL ?_
        intro sy' hL'
        refine br_f (by decide) ⟨by decide, nm_r (e' := nI ((m - 1) / 2)) ?_ (nm_r (nI_1 s) (ih (s + 1) _ _ sy' (by omega) (by omega) ?_ (by omega) hL' ?_))⟩
        · rw [show nI m - 1 = nI (m - 1) from pk_sub (b := 1) (by omega)]
          exact pk_div (d := 2) (by omega) (by omega) (by omega)
        · rw [List.length_append]; show L.length + 1 + _ ≤ 32; omega
        · intro sy2 h2
          have e2 : L ++ [0] ++ rl_rn f ((m - 1) / 2) = L ++ rl_rn (f + 1) m := by rw [rl_odd ho, List.append_assoc]; rfl
          rw [e2] at h2 ⊢
          exact h sy2 h2
      · refine ye_put (x := 1) (by omega) hL ?_
        intro sy' hL'
        refine br_t rfl ⟨by decide, nm_r (e' := nI ((m - 2) / 2)) ?_ (nm_r (nI_1 s) (ih (s + 1) _ _ sy' (by omega) (by omega) ?_ (by omega) hL' ?_))⟩
        · rw [show nI m - 2 = nI (m - 2) from pk_sub (b := 2) (by omega)]
          exact pk_div (d := 2) (by omega) (by omega) (by omega)
        · rw [List.length_append]; show L.length + 1 + _ ≤ 32; omega
        · intro sy2 h2
          have e2 : L ++ [1] ++ rl_rn f ((m - 2) / 2) = L ++ rl_rn (f + 1) m := by rw [rl_even (by omega) ho, List.append_assoc]; rfl
          rw [e2] at h2 ⊢
          exact h sy2 h2
theorem ye_run {post : SY → Prop} {m : Nat} {L : List Nat} (hl : L.length + m ≤ 32) (hL : wk_L sy L)
    (h : ∀ sy : Nat → Int32, wk_L sy (L ++ rl_rn 6 m) → post (fn, nI (L ++ rl_rn 6 m).length, fm, tx, co, rk, sy, ro, of, ln)) : wpY_putRun post (fn, nI L.length, fm, tx, co, rk, sy, ro, of, ln) (nI m) :=
  ⟨7, ye_4 6 0 m L sy (by omega) (by omega) hl (by omega) hL h⟩
theorem ye_17 {post : SY → Prop} {r : Nat → Nat} {n : Nat} (hn : n ≤ 32) (hr6 : ∀ i, r i < 6) (hr : ∀ i, i < n → rk i = nI (r i))
    (h : ∀ sy : Nat → Int32, wk_L sy (rl_sy r n) → post (nI n, nI (rl_sy r n).length, fm, tx, co, rk, sy, ro, of, ln)) : ∀ (m i : Nat) (sy : Nat → Int32), i + m = n → wk_L sy (rl_f r i).1 →
    wY_encode_17 post (m + 1) (nI (rl_f r i).2) (nI i) (nI n) (nI (rl_f r i).1.length) fm tx co rk sy ro of ln := by
  intro m
  induction m with
  | zero =>
    intro i sy hi hL
    have e : i = n := by omega
    subst e
    have hl := rl_fl r i
    exact pk_le i i (fun _ => ye_run (by omega) hL h) (fun hc => absurd hc (by omega))
  | succ m ih =>
    intro i sy hi hL
    have hl := rl_fl r i
    have h6 := hr6 i
    refine pk_le n i (fun hc => absurd hc (by omega)) (fun _ => ⟨pk_in i 32 (by omega), pk_eq (r i) 0 (fun hz => ?_) (fun hz => ?_) (wk_cla (by omega) (hr i (by omega)))⟩)
    · have hI := ih (i + 1) sy (by omega)
      rw [rl_fz hz] at hI
      exact nm_r (nI_1 _) (nm_r (nI_1 i) (hI hL))
    · refine ye_run (by omega) hL ?_
      intro sy' hL'
      refine ⟨pk_in i 32 (by omega), ?_⟩
      have e : rk (nI i).toNatClampNeg + 1 = nI (r i + 1) := by rw [wk_cla (by omega) (hr i (by omega)), nI_1]
      have hl2 := rl_len 6 (rl_f r i).2
      rw [e]
      refine ye_put (by rw [List.length_append]; omega) hL' ?_
      intro sy2 h2
      have hI := ih (i + 1) sy2 (by omega)
      rw [rl_fn hz] at hI
      exact nm_r (nI_1 i) (hI h2)
theorem ye_enc {post : SY → Prop} {t : Nat → Nat} {n : Nat} (ht : ∀ i, t i < 6) (hn : n ≤ 32)
    (h : ∀ (fm : Int32) (co rk sy ro : Nat → Int32), (0 < n → fm = nI (bw_p t n 0)) → (∀ i, i < n → co i = nI (bw_c t n i)) → (∀ i, i < n → rk i = nI (mf_rk (bw_c t n) i)) → wk_L sy (xo_L t n) →
      post (nI n, nI (xo_L t n).length, fm, wk_f t, co, rk, sy, ro, of, ln)) :
    wpY_encode post (nI n, fc, fm, wk_f t, co, rk, sy, ro, of, ln) := by
  unfold wpY_encode
  dsimp only
  refine ys_sort ht hn ?_
  intro fm co h1 h2
  refine yr_all hn (fun i => bw_c6 ht n i) h2 ?_
  intro rk ro h3
  exact ⟨n + 1, ye_17 hn (fun i => mf_rklt _ i) h3 (fun sy h4 => h fm co rk sy ro h1 h2 h3 h4) n 0 sy (by omega) (wk_L0 sy)⟩
end
end
section
/-! Y's counting and sorting of the counts -/
theorem yc_le {a : Nat → Nat} (h : ∀ v, a v ≤ 32) : ∀ k v, bs_i a k v ≤ 32
  | 0, v => h v
  | k + 1, v => by
    show bs_s (bs_i a k) (k % 6) v ≤ 32
    unfold bs_s
    split
    · exact yc_le h k _
    · exact yc_le h k v
section
variable {fn fc fm : Int32} {tx co rk sy ro of ln : Nat → Int32}
theorem yc_126 {post : Int32 → SY → Prop} {a : Nat → Nat} (ha : ∀ v, a v ≤ 32) (ho : ∀ v, v < 7 → of v = nI (a v)) (h : post (nI (cn_ 7 (fun s => decide (0 < a s)))) (fn, fc, fm, tx, co, rk, sy, ro, of, ln)) : ∀ (m i : Nat), i + m = 7 →
    wY_countSymbols_126 post fn fc fm tx co rk sy ro of ln (m + 1) (nI (cn_ i (fun s => decide (0 < a s)))) (nI i) := by
  intro m
  induction m with
  | zero =>
    intro i hi
    have e : i = 7 := by omega
    subst e
    exact pk_le 7 7 (fun _ => h) (fun hc => absurd hc (by omega))
  | succ m ih =>
    intro i hi
    have hI := ih (i + 1) (by omega)
    rw [cn_s] at hI
    have h32 := ha i
    refine pk_le 7 i (fun hc => absurd hc (by omega)) (fun _ => ⟨pk_in i 7 (by omega), pk_le (a i) 0 (fun hc => ?_) (fun hc => ?_) (wk_cla (by omega) (ho i (by omega)))⟩)
    · rw [decide_eq_false (by omega)] at hI
      exact nm_r (nI_1 i) hI
    · rw [decide_eq_true hc, if_pos rfl] at hI
      exact nm_r (nI_1 _) (nm_r (nI_1 i) hI)
theorem yc_58 {post : Int32 → SY → Prop} {a : Nat → Nat} (ha : ∀ v, a v ≤ 32) (h : ∀ of : Nat → Int32, (∀ v, v < 7 → of v = nI (bs_i a 36 v)) → post (nI (cn_ 7 (fun s => decide (0 < bs_i a 36 s)))) (fn, fc, fm, tx, co, rk, sy, ro, of, ln)) : ∀ (m k : Nat) (of : Nat → Int32), k + m = 36 →
    (∀ v, v < 7 → of v = nI (bs_i a k v)) → wY_countSymbols_58 post fn fc fm (m + 1) (nI k) tx co rk sy ro of ln := by
  intro m
  induction m with
  | zero =>
    intro k of hk ho
    have e : k = 36 := by omega
    subst e
    exact pk_le 36 36 (fun _ => ⟨8, yc_126 (yc_le ha 36) ho (h of ho) 7 0 (by omega)⟩) (fun hc => absurd hc (by omega))
  | succ m ih =>
    intro k of hk ho
    have hs : k % 6 < 6 := Nat.mod_lt _ (by decide)
    have hI := ih (k + 1)
    have e0 : bs_i a (k + 1) = bs_s (bs_i a k) (k % 6) := rfl
    rw [e0] at hI
    unfold bs_s at hI
    have g1 := yc_le ha k (k % 6)
    have g2 := yc_le ha k (k % 6 + 1)
    generalize hsg : k % 6 = s at hs hI g1 g2
    have in1 := pk_in (x := nI s) s 7 (by omega)
    have in2 : vp_in (nI s + 1) 7 := pk_in (s + 1) 7 (by omega) (nI_1 s)
    have c2 : (nI s + 1).toNatClampNeg = s + 1 := by rw [nI_1, nI_clamp (by omega)]
    have c1 : (nI s).toNatClampNeg = s := nI_clamp (by omega)
    refine pk_le 36 k (fun hc => absurd hc (by omega)) (fun _ => ⟨by decide, nm_r (e' := nI s) (by rw [← hsg]; exact pk_rem (d := 6) (by omega) (by omega) (by omega)) ⟨in1, in2, pk_le (bs_i a k (s + 1)) (bs_i a k s) (fun hc => ?_) (fun hc => ⟨in2, nm_e ⟨in1, in2, nm_e ⟨in1, nm_e (nm_r (nI_1 k) ?_)⟩⟩⟩) (by rw [c2]; exact ho _ (by omega)) (by rw [c1]; exact ho _ (by omega))⟩⟩)
    · rw [if_neg (by omega)] at hI
      exact nm_r (nI_1 k) (hI of (by omega) ho)
    · rw [if_pos hc] at hI
      refine hI _ (by omega) ?_
      intro v hv
      rw [c1, c2]
      unfold bs_g
      by_cases e1 : v = s
      · subst e1; rw [pk_us, if_pos rfl]; exact ho _ (by omega)
      · rw [pk_un e1, if_neg e1]
        by_cases e2 : v = s + 1
        · subst e2; rw [pk_us, if_pos rfl]; exact ho _ (by omega)
        · rw [pk_un e2, if_neg e2]; exact ho _ hv
theorem yc_27 {post : Int32 → SY → Prop} {L : List Nat} (hl : L.length ≤ 32) (h7 : ∀ x ∈ L, x < 7) (hL : wk_L sy L)
    (h : ∀ of : Nat → Int32, (∀ v, v < 7 → of v = nI (L.count v)) → ∃ n58 : Nat, wY_countSymbols_58 post fn (nI L.length) fm n58 0 tx co rk sy ro of ln) :
    ∀ (R P : List Nat) (of : Nat → Int32), P ++ R = L → (∀ v, v < 7 → of v = nI (P.count v)) → wY_countSymbols_27 post fn (nI L.length) fm (R.length + 1) (nI P.length) tx co rk sy ro of ln := by
  intro R
  induction R with
  | nil =>
    intro P of hP h1
    rw [List.append_nil] at hP
    subst hP
    exact pk_le P.length P.length (fun _ => h of h1) (fun hc => absurd hc (by omega))
  | cons x R ih =>
    intro P of hP h1
    have hlen := congrArg List.length hP
    rw [List.length_append, List.length_cons] at hlen
    have hx : x < 7 := h7 x (by rw [← hP]; simp)
    have hsx : sy (nI P.length).toNatClampNeg = nI x := wk_cla (by omega) (wk_mid (R := R) (by rw [hP]; exact hL))
    have e3 : (P ++ [x]).length = P.length + 1 := by rw [List.length_append]; rfl
    have hI := ih (P ++ [x]) (upd of x (nI (P.count x + 1))) (by rw [List.append_assoc]; exact hP) (by
      intro v hv
      rw [wk_cs]
      by_cases e : v = x
      · subst e; rw [pk_us, if_pos rfl]
      · rw [pk_un e, if_neg e]; exact h1 v hv)
    rw [e3] at hI
    refine pk_le L.length P.length (fun hc => absurd hc (by omega)) (fun _ => ⟨pk_in P.length 32 (by omega), ?_⟩)
    rw [hsx]
    refine ⟨pk_in x 7 hx, pk_in x 7 hx, nm_r (e' := upd of x (nI (P.count x + 1))) ?_ (nm_r (nI_1 _) hI)⟩
    rw [nI_clamp (by omega), h1 x hx, nI_1]
theorem yc_6 {post : Int32 → SY → Prop} (h : ∀ of : Nat → Int32, (∀ v, v < 7 → of v = 0) → ∃ n27 : Nat, wY_countSymbols_27 post fn fc fm n27 0 tx co rk sy ro of ln) : ∀ (m i : Nat) (of : Nat → Int32), i + m = 7 → (∀ v, v < i → of v = 0) →
    wY_countSymbols_6 post fn fc fm (m + 1) (nI i) tx co rk sy ro of ln := by
  intro m
  induction m with
  | zero =>
    intro i of hi h1
    have e : i = 7 := by omega
    subst e
    exact pk_le 7 7 (fun _ => h of h1) (fun hc => absurd hc (by omega))
  | succ m ih =>
    intro i of hi h1
    refine pk_le 7 i (fun hc => absurd hc (by omega)) (fun _ => ⟨pk_in i 7 (by omega), nm_e (nm_r (nI_1 i) (ih (i + 1) _ (by omega) ?_))⟩)
    intro v hv
    rw [nI_clamp (by omega)]
    by_cases e : v = i
    · subst e; exact pk_us
    · rw [pk_un e]; exact h1 v (by omega)
theorem yc_cnt {post : Int32 → SY → Prop} {t : Nat → Nat} {n : Nat} (ht : ∀ i, t i < 6) (hn : n ≤ 32)
    (h : ∀ (fc fm : Int32) (co rk sy ro of : Nat → Int32), (∀ v, v < 7 → of v = nI (bs_i (fun v => (xo_L t n).count v) 36 v)) → post (nI (wk_K (xo_L t n))) (nI n, fc, fm, wk_f t, co, rk, sy, ro, of, ln)) :
    wpY_countSymbols post (nI n, fc, fm, wk_f t, co, rk, sy, ro, of, ln) := by
  have hl := xo_Ll t n
  have h7 := xo_L7 t n
  have ha : ∀ v, (fun v => (xo_L t n).count v) v ≤ 32 := by
    intro v
    have : (xo_L t n).count v ≤ (xo_L t n).length := List.count_le_length
    show (xo_L t n).count v ≤ 32
    omega
  have hk : cn_ 7 (fun s => decide (0 < bs_i (fun v => (xo_L t n).count v) 36 s)) = wk_K (xo_L t n) := bs_k _
  unfold wpY_countSymbols
  dsimp only
  refine ye_enc ht hn ?_
  intro fm co rk sy ro _ _ _ h4
  refine ⟨8, yc_6 ?_ 7 0 of (by omega) (fun v hv => absurd hv (by omega))⟩
  intro of h0
  refine ⟨(xo_L t n).length + 1, yc_27 (by omega) h7 h4 ?_ (xo_L t n) [] of rfl h0⟩
  intro of h1
  refine ⟨37, yc_58 ha ?_ 36 0 of (by omega) h1⟩
  intro of h2
  rw [hk]
  exact h _ fm co rk sy ro of h2
end
end
section
/-! Y's search for the least cost -/
def yk_Z (of ln : Nat → Int32) (ps : List (Nat × Nat)) : Prop := ∀ (P : List (Nat × Nat)) (x : Nat × Nat) (R : List (Nat × Nat)), P ++ x :: R = ps → of P.length = nI x.1 ∧ ln P.length = nI x.2
theorem yk_zip {of ln : Nat → Int32} {o v : List Nat} (h1 : wk_L of o) (h2 : wk_L ln v) (hl : o.length = v.length) : yk_Z of ln (o.zip v) := by
  intro P x R e
  have e1 : (o.zip v).map Prod.fst = o := List.map_fst_zip (by omega)
  have e2 : (o.zip v).map Prod.snd = v := List.map_snd_zip (by omega)
  rw [← e, List.map_append, List.map_cons] at e1 e2
  have a1 := wk_mid (a := of) (P := P.map Prod.fst) (R := R.map Prod.fst) (x := x.1) (by rw [e1]; exact h1)
  have a2 := wk_mid (a := ln) (P := P.map Prod.snd) (R := R.map Prod.snd) (x := x.2) (by rw [e2]; exact h2)
  rw [List.length_map] at a1 a2
  exact ⟨a1, a2⟩
theorem yk_krb : ∀ P : List (Nat × Nat), hf_kr P ≤ 64 * P.length
  | [] => Nat.le_refl _
  | x :: P => by
    have ih := yk_krb P
    have h : 2 ^ (6 - x.2) ≤ 2 ^ 6 := Nat.pow_le_pow_right (by decide) (by omega)
    simp only [hf_kr, List.length_cons]
    omega
theorem yk_cb : ∀ P : List (Nat × Nat), (∀ x ∈ P, x.1 ≤ 32 ∧ x.2 ≤ 6) → hf_c P ≤ 192 * P.length
  | [], _ => Nat.le_refl _
  | x :: P, h => by
    have ih := yk_cb P fun y hy => h y (List.mem_cons_of_mem _ hy)
    have hx := h x List.mem_cons_self
    have h2 : x.1 * x.2 ≤ 32 * 6 := Nat.mul_le_mul hx.1 hx.2
    simp only [hf_c, List.length_cons]
    omega
theorem yk_sh : ∀ l, l < 7 → (64 : Int32) >>> (nI l &&& 31) = nI (2 ^ (6 - l)) := by decide +kernel
theorem yk_none : ∀ R : List Nat, (∀ y ∈ R, 6 ≤ y) → en_nx R = none
  | [], _ => rfl
  | x :: R, h => by
    have hx := h x List.mem_cons_self
    have ih := yk_none R fun y hy => h y (List.mem_cons_of_mem _ hy)
    show (match en_nx R with
      | some ys => some (x :: ys)
      | none => if x < 6 then some (List.replicate (R.length + 1) (x + 1)) else none) = none
    rw [ih]
    exact if_neg (by omega)
theorem yk_some {x : Nat} {R : List Nat} (hx : x < 6) (hR : ∀ y ∈ R, 6 ≤ y) : ∀ P : List Nat, en_nx (P ++ x :: R) = some (P ++ List.replicate (R.length + 1) (x + 1))
  | [] => by
    show (match en_nx R with
      | some ys => some (x :: ys)
      | none => if x < 6 then some (List.replicate (R.length + 1) (x + 1)) else none) = _
    rw [yk_none R hR]
    exact if_pos hx
  | p :: P => by
    show (match en_nx (P ++ x :: R) with
      | some ys => some (p :: ys)
      | none => if p < 6 then some (List.replicate ((P ++ x :: R).length + 1) (p + 1)) else none) = _
    rw [yk_some hx hR P]
    rfl
theorem wk_Lp {a : Nat → Int32} {P R : List Nat} (h : wk_L a (P ++ R)) : wk_L a P := by
  intro i hi
  have := h i (by rw [List.length_append]; omega)
  rw [List.getD_eq_getElem?_getD, List.getElem?_append_left hi, ← List.getD_eq_getElem?_getD] at this
  exact this
def yk_A (P : List Nat) (x2 : Int32) : Prop := (x2 = -1 ∧ ∀ y ∈ P, 6 ≤ y) ∨ ∃ (P1 : List Nat) (x : Nat) (R1 : List Nat), P = P1 ++ x :: R1 ∧ x2 = nI P1.length ∧ x < 6 ∧ ∀ y ∈ R1, 6 ≤ y
section
variable {fn fc fm : Int32} {tx co rk sy ro of ln : Nat → Int32}
theorem yk_46 {post : Int32 → SY → Prop} {K z : Nat} (hK : K ≤ 7) : ∀ (m : Nat) (Z : List Nat) (ln : Nat → Int32), Z.length + m = K → wk_L ln Z → (∀ ln : Nat → Int32, wk_L ln (Z ++ List.replicate m z) → post 1 (fn, fc, fm, tx, co, rk, sy, ro, of, ln)) →
    wY_nextLengths_46 post (nI K) (nI z) fn fc fm (m + 1) (nI Z.length) tx co rk sy ro of ln := by
  intro m
  induction m with
  | zero =>
    intro Z ln hm hZ h
    rw [show Z ++ List.replicate 0 z = Z from List.append_nil Z] at h
    exact pk_le K Z.length (fun _ => h ln hZ) (fun hc => absurd hc (by omega))
  | succ m ih =>
    intro Z ln hm hZ h
    have e3 : (Z ++ [z]).length = Z.length + 1 := by rw [List.length_append]; rfl
    refine pk_le K Z.length (fun hc => absurd hc (by omega)) (fun _ => ⟨pk_in Z.length 7 (by omega), nm_r (e' := upd ln Z.length (nI z)) (by rw [nI_clamp (by omega)]) (nm_r (nI_1 _) ?_)⟩)
    have hI := ih (Z ++ [z]) _ (by omega) (wk_Ls hZ) (by
      rw [List.append_assoc]
      exact h)
    rw [e3] at hI
    exact hI
theorem yk_4 {post : Int32 → SY → Prop} {K : Nat} {v : List Nat} (hK : K ≤ 7) (hv : v.length = K) (hv6 : ∀ y ∈ v, y ≤ 6) (hL : wk_L ln v)
    (h1 : ∀ w, en_nx v = some w → ∀ ln : Nat → Int32, wk_L ln w → post 1 (fn, fc, fm, tx, co, rk, sy, ro, of, ln)) (h0 : en_nx v = none → post 0 (fn, fc, fm, tx, co, rk, sy, ro, of, ln)) : ∀ (R P : List Nat) (x2 : Int32), P ++ R = v → yk_A P x2 →
    wY_nextLengths_4 post (nI K) fn fc fm tx co rk sy ro of ln (R.length + 1) x2 (nI P.length) := by
  intro R
  induction R with
  | nil =>
    intro P x2 hP hA
    rw [List.append_nil] at hP
    subst hP
    refine pk_le K P.length (fun _ => ?_) (fun hc => absurd hc (by omega))
    rcases hA with ⟨rfl, hA⟩ | ⟨P1, x, R1, rfl, rfl, hx, hR⟩
    · exact br_f (by decide) (h0 (yk_none P hA))
    · rw [List.length_append, List.length_cons] at hv
      have hm := wk_mid hL
      refine br_t (nI_pos' (by omega)) ⟨pk_in P1.length 7 (by omega), nm_r (e' := nI (x + 1)) (by rw [wk_cla (by omega) hm, nI_1]) ⟨R1.length + 2, yk_46 hK (R1.length + 1) P1 ln (by omega) (wk_Lp hL) ?_⟩⟩
      intro ln' hl
      exact h1 _ (yk_some hx hR P1) ln' hl
  | cons y R ih =>
    intro P x2 hP hA
    have hlen := congrArg List.length hP
    rw [List.length_append, List.length_cons] at hlen
    have hy6 : y ≤ 6 := hv6 y (by rw [← hP]; simp)
    have hm : ln P.length = nI y := wk_mid (R := R) (by rw [hP]; exact hL)
    have e3 : (P ++ [y]).length = P.length + 1 := by rw [List.length_append]; rfl
    have hI : ∀ x2, yk_A (P ++ [y]) x2 → wY_nextLengths_4 post (nI K) fn fc fm tx co rk sy ro of ln (R.length + 1) x2 (nI (P.length + 1)) := by
      intro x2 hA2
      have := ih (P ++ [y]) x2 (by rw [List.append_assoc]; exact hP) hA2
      rw [e3] at this
      exact this
    refine pk_le K P.length (fun hc => absurd hc (by omega)) (fun _ => ⟨pk_in P.length 7 (by omega), pk_le 6 y (fun hc => nm_r (nI_1 _) (hI _ ?_)) (fun hc => nm_r (nI_1 _) (hI _ ?_)) rfl (wk_cla (by omega) hm)⟩)
    · rcases hA with ⟨e, hA⟩ | ⟨P1, x, R1, e1, e2, hx, hR⟩
      · refine Or.inl ⟨e, fun z hz => ?_⟩
        rcases List.mem_append.mp hz with hz | hz
        · exact hA z hz
        · rw [List.mem_singleton.mp hz]; exact hc
      · refine Or.inr ⟨P1, x, R1 ++ [y], by rw [e1, List.append_assoc]; rfl, e2, hx, fun z hz => ?_⟩
        rcases List.mem_append.mp hz with hz | hz
        · exact hR z hz
        · rw [List.mem_singleton.mp hz]; exact hc
    · exact Or.inr ⟨P, y, [], rfl, rfl, hc, fun z hz => by cases hz⟩
theorem yk_next {post : Int32 → SY → Prop} {K : Nat} {v : List Nat} (hK : K ≤ 7) (hv : v.length = K) (hv6 : ∀ y ∈ v, y ≤ 6) (hL : wk_L ln v)
    (h1 : ∀ w, en_nx v = some w → ∀ ln : Nat → Int32, wk_L ln w → post 1 (fn, fc, fm, tx, co, rk, sy, ro, of, ln)) (h0 : en_nx v = none → post 0 (fn, fc, fm, tx, co, rk, sy, ro, of, ln)) : wpY_nextLengths post (fn, fc, fm, tx, co, rk, sy, ro, of, ln) (nI K) :=
  ⟨v.length + 1, yk_4 hK hv hv6 hL h1 h0 v [] (-1) rfl (Or.inl ⟨rfl, fun y hy => by cases hy⟩)⟩
theorem yk_c4 {post : Int32 → Prop} {K : Nat} {ps : List (Nat × Nat)} (hK : K ≤ 7) (hp : ps.length = K) (hp6 : ∀ x ∈ ps, x.2 ≤ 6) (hZ : yk_Z of ln ps) (h1 : hf_kr ps ≤ 64 → post 1) (h0 : ¬ hf_kr ps ≤ 64 → post 0) : ∀ (R P : List (Nat × Nat)), P ++ R = ps →
    wY_canBe_4 post (nI K) fn fc fm tx co rk sy ro of ln (R.length + 1) (nI (hf_kr P)) (nI P.length) := by
  intro R
  induction R with
  | nil =>
    intro P hP
    rw [List.append_nil] at hP
    subst hP
    have hb := yk_krb P
    exact pk_le K P.length (fun _ => pk_lt 64 (hf_kr P) (fun hc => h0 (by omega)) (fun hc => h1 hc)) (fun hc => absurd hc (by omega))
  | cons x R ih =>
    intro P hP
    have hlen := congrArg List.length hP
    rw [List.length_append, List.length_cons] at hlen
    have hx := hp6 x (by rw [← hP]; simp)
    have hz := (hZ P x R hP).2
    have e3 : (P ++ [x]).length = P.length + 1 := by rw [List.length_append]; rfl
    have hI := ih (P ++ [x]) (by rw [List.append_assoc]; exact hP)
    rw [e3, hf_krA] at hI
    refine pk_le K P.length (fun hc => absurd hc (by omega)) (fun _ => ⟨pk_in P.length 7 (by omega), nm_r (e' := nI (hf_kr P + hf_kr [x])) ?_ (nm_r (nI_1 _) hI)⟩)
    rw [wk_cla (by omega) hz, yk_sh x.2 (by omega), nI_add]
    rfl
theorem yk_62 {post : Int32 → SY → Prop} {J : Int32 → Int32 → Int32 → Int32 → Int32 → Int32 → (Nat → Int32) → (Nat → Int32) → (Nat → Int32) → (Nat → Int32) → (Nat → Int32) → (Nat → Int32) → (Nat → Int32) → Prop} {K le : Nat} {x4 : Int32} {o v : List Nat} (hK : K ≤ 7) (ho : o.length = K) (hv : v.length = K)
    (hp6 : ∀ x ∈ o.zip v, x.1 ≤ 32 ∧ x.2 ≤ 6) (hZ : yk_Z of ln (o.zip v)) (hle : le ≤ 2000) (h : wY_cost_115 post J (nI K) (nI (en_t o le v)) x4 fn fc fm tx co rk sy ro of ln) : ∀ (R P : List (Nat × Nat)), P ++ R = o.zip v →
    wY_cost_62 post J (nI K) (nI le) x4 fn fc fm tx co rk sy ro of ln (R.length + 1) (nI (hf_c P)) (nI P.length) := by
  intro R
  have hpl : (o.zip v).length = K := by rw [List.length_zip]; omega
  induction R with
  | nil =>
    intro P hP
    rw [List.append_nil] at hP
    have hb := yk_cb P (by rw [hP]; exact hp6)
    have hPl : P.length = K := by rw [hP]; exact hpl
    refine pk_le K P.length (fun _ => ?_) (fun hc => absurd hc (by omega))
    unfold en_t at h
    rw [← hP] at h
    refine ⟨(o.zip v).length + 1, yk_c4 hK hpl (fun x hx => (hp6 x hx).2) hZ (fun hk => br_f (by decide) ?_) (fun hk => br_t rfl ?_) (o.zip v) [] rfl⟩
    · rw [← hP] at hk
      refine pk_eq le 0 (fun e => ?_) (fun e => pk_le le (hf_c P) (fun hc => ?_) (fun hc => ?_))
      · rw [if_pos ⟨hk, Or.inl e⟩] at h
        exact h
      · rw [if_neg (fun z => by omega)] at h
        exact h
      · rw [if_pos ⟨hk, Or.inr hc⟩] at h
        exact h
    · rw [← hP] at hk
      rw [if_neg (fun z => hk z.1)] at h
      exact h
  | cons x R ih =>
    intro P hP
    have hlen := congrArg List.length hP
    rw [List.length_append, List.length_cons] at hlen
    have hz := hZ P x R hP
    have e3 : (P ++ [x]).length = P.length + 1 := by rw [List.length_append]; rfl
    have hI := ih (P ++ [x]) (by rw [List.append_assoc]; exact hP)
    rw [e3, hf_cA] at hI
    have hin := pk_in (x := nI P.length) P.length 7 (by omega)
    refine pk_le K P.length (fun hc => absurd hc (by omega)) (fun _ => ⟨hin, hin, nm_r (e' := nI (hf_c P + hf_c [x])) ?_ (nm_r (nI_1 _) hI)⟩)
    rw [wk_cla (by omega) hz.1, wk_cla (by omega) hz.2, pk_mul, nI_add]
    rfl
theorem yk_nl : ∀ v w : List Nat, (∀ y ∈ v, 1 ≤ y ∧ y ≤ 6) → en_nx v = some w → w.length = v.length ∧ ∀ y ∈ w, 1 ≤ y ∧ y ≤ 6
  | [], w, _, e => by cases e
  | x :: v, w, h, e => by
    have hx := h x List.mem_cons_self
    have e' : (match en_nx v with
      | some ys => some (x :: ys)
      | none => if x < 6 then some (List.replicate (v.length + 1) (x + 1)) else none) = some w := e
    cases hn : en_nx v with
    | some ys =>
      rw [hn] at e'
      cases e'
      have ih := yk_nl v ys (fun y hy => h y (List.mem_cons_of_mem _ hy)) hn
      refine ⟨by simp [ih.1], ?_⟩
      intro y hy
      cases hy with
      | head => exact hx
      | tail _ hy => exact ih.2 y hy
    | none =>
      rw [hn] at e'
      dsimp only at e'
      by_cases c : x < 6
      · rw [if_pos c] at e'
        cases e'
        refine ⟨by simp, ?_⟩
        intro y hy
        rw [List.eq_of_mem_replicate hy]
        omega
      · rw [if_neg c] at e'
        cases e'
theorem yk_44 {post : Int32 → SY → Prop} {K : Nat} {o : List Nat} (hK : K ≤ 7) (ho : o.length = K) (ho32 : ∀ x ∈ o, x ≤ 32) (hof : wk_L of o) : ∀ (f way : Nat) (v : List Nat) (le : Nat) (ln : Nat → Int32), way + f = 800 → v.length = K → (∀ y ∈ v, 1 ≤ y ∧ y ≤ 6) → wk_L ln v → le ≤ 2000 →
    (∀ ln : Nat → Int32, post (nI (en_f o le (en_ef f v))) (fn, fc, fm, tx, co, rk, sy, ro, of, ln)) → wY_cost_44 post (nI K) (f + 1) (nI le) 1 (nI way) fn fc fm tx co rk sy ro of ln := by
  intro f
  induction f with
  | zero =>
    intro way v le ln hw _ _ _ _ h
    exact pk_le 800 way (fun _ => h ln) (fun hc => absurd hc (by omega))
  | succ f ih =>
    intro way v le ln hw hv hv6 hL hle h
    have hp6 : ∀ x ∈ o.zip v, x.1 ≤ 32 ∧ x.2 ≤ 6 := by
      intro x hx
      have := List.of_mem_zip (show (x.1, x.2) ∈ o.zip v from hx)
      exact ⟨ho32 _ this.1, (hv6 _ this.2).2⟩
    have hpl : (o.zip v).length = K := by rw [List.length_zip]; omega
    have hcb := yk_cb (o.zip v) hp6
    have hle' : en_t o le v ≤ 2000 := by
      unfold en_t
      split <;> omega
    have eh : en_ef (f + 1) v = v :: (match en_nx v with
      | none => []
      | some w => en_ef f w) := rfl
    rw [eh] at h
    refine pk_le 800 way (fun hc => absurd hc (by omega)) (fun _ => br_f (by decide) ⟨(o.zip v).length + 1, yk_62 hK ho hv hp6 (yk_zip hof hL (by omega)) hle ?_ (o.zip v) [] rfl⟩)
    refine yk_next hK hv (fun y hy => (hv6 y hy).2) hL ?_ ?_
    · intro w hw' ln' hL'
      have hn := yk_nl v w hv6 hw'
      rw [hw'] at h
      exact nm_r (nI_1 way) (ih (way + 1) w (en_t o le v) ln' (by omega) (by omega) hn.2 hL' hle' h)
    · intro hn
      rw [hn] at h
      exact nm_r (nI_1 way) (pk_le 800 (way + 1) (fun _ => h ln) (fun _ => br_t rfl (h ln)))
theorem yk_20 {post : Int32 → SY → Prop} {x1 x2 x3 : Int32} (h : ∀ ln : Nat → Int32, (∀ v, v < 7 → ln v = 1) → ∃ n44 : Nat, wY_cost_44 post x1 n44 x2 x3 0 fn fc fm tx co rk sy ro of ln) : ∀ (m i : Nat) (ln : Nat → Int32), i + m = 7 → (∀ v, v < i → ln v = 1) →
    wY_cost_20 post x1 x2 x3 fn fc fm (m + 1) (nI i) tx co rk sy ro of ln := by
  intro m
  induction m with
  | zero =>
    intro i ln hi h1
    have e : i = 7 := by omega
    subst e
    exact pk_le 7 7 (fun _ => h ln h1) (fun hc => absurd hc (by omega))
  | succ m ih =>
    intro i ln hi h1
    refine pk_le 7 i (fun hc => absurd hc (by omega)) (fun _ => ⟨pk_in i 7 (by omega), nm_e (nm_r (nI_1 i) (ih (i + 1) _ (by omega) ?_))⟩)
    intro v hv
    rw [nI_clamp (by omega)]
    by_cases e : v = i
    · subst e; exact pk_us
    · rw [pk_un e]; exact h1 v (by omega)
theorem yk_cost {post : Int32 → SY → Prop} {t : Nat → Nat} {n : Nat} (ht : ∀ i, t i < 6) (hn : n ≤ 32) {Q : Nat → List Nat} {R : Nat} (hC : ht_C (fun v => (xo_L t n).count v) Q R)
    (h : ∀ (fc fm : Int32) (co rk sy ro of ln : Nat → Int32), post (nI R) (nI n, fc, fm, wk_f t, co, rk, sy, ro, of, ln)) : wpY_cost post (nI n, fc, fm, wk_f t, co, rk, sy, ro, of, ln) := by
  have hl := xo_Ll t n
  have h7 := xo_L7 t n
  have hKn := wk_Kn (xo_L t n)
  have hk : cn_ 7 (fun s => decide (0 < bs_i (fun v => (xo_L t n).count v) 36 s)) = wk_K (xo_L t n) := bs_k _
  have ha : ∀ v, bs_i (fun v => (xo_L t n).count v) 36 v ≤ 32 := yc_le (fun v => by
    have : (xo_L t n).count v ≤ (xo_L t n).length := List.count_le_length
    show (xo_L t n).count v ≤ 32
    omega) 36
  have hperm := bs_o (fun v => (xo_L t n).count v)
  have hsort := bs_os (fun v => (xo_L t n).count v) (wk_K (xo_L t n)) hKn
  rw [hk] at hperm
  unfold wpY_cost
  dsimp only
  refine yc_cnt ht hn ?_
  intro fc fm co rk sy ro of hof
  generalize hKe : wk_K (xo_L t n) = K at hKn hk hperm hsort
  generalize hao : bs_i (fun v => (xo_L t n).count v) 36 = a at ha hof hperm hsort
  refine pk_le K 0 (fun hc => ⟨8, yk_20 ?_ 7 0 ln (by omega) (fun v hv => absurd hv (by omega))⟩) (fun hc => ⟨8, yk_20 ?_ 7 0 ln (by omega) (fun v hv => absurd hv (by omega))⟩)
  · intro ln _
    have hR : R = 0 := by
      have h0 : ∀ k, k < 7 → (xo_L t n).count k = 0 := by
        intro k hk7
        apply Classical.byContradiction
        intro z
        have := (ht_Pm (w := fun v => (xo_L t n).count v)).mpr ⟨hk7, (Nat.pos_of_ne_zero z : 0 < (fun v => (xo_L t n).count v) k)⟩
        have hlen := hperm.length_eq
        rw [List.length_map, List.length_range] at hlen
        unfold ht_W at hlen
        rw [List.length_map] at hlen
        have hz : (ht_P (fun v => (xo_L t n).count v)) = [] := List.length_eq_zero_iff.mp (by omega)
        rw [hz] at this
        cases this
      rw [← hC.2.2.2.2.1, ht_smc (h := fun _ => 0) fun k hk7 => by dsimp only; rw [h0 k hk7]; simp, ht_sm0]
    subst hR
    exact ⟨1, pk_le 800 0 (fun hc => absurd hc (by omega)) (fun _ => br_t rfl (h fc fm co rk sy ro of ln))⟩
  · intro ln hln
    have hol : ((List.range K).map a).length = K := by simp
    have hwo : wk_L of ((List.range K).map a) := by
      intro i hi
      rw [hol] at hi
      rw [hof i (by omega)]
      simp [hi]
    have hwl : wk_L ln (List.replicate K 1) := by
      intro i hi
      rw [List.length_replicate] at hi
      rw [hln i (by omega)]
      simp [hi]
      rfl
    refine ⟨801, yk_44 hKn hol (fun x hx => ?_) hwo 800 0 (List.replicate K 1) 0 ln (by omega) (by simp) (fun y hy => ?_) hwl (by omega) ?_⟩
    · obtain ⟨i, _, rfl⟩ := List.mem_map.mp hx
      exact ha i
    · rw [List.eq_of_mem_replicate hy]; omega
    · intro ln'
      have hfin := ht_least hC hperm hsort (by rw [hol]; exact hc)
      rw [hol] at hfin
      rw [en_all K hc hKn, hfin]
      exact h fc fm co rk sy ro of ln'
end
end
section
/-! what is owed -/
def ro_Y (t : Nat → Nat) (n : Nat) (v : SY) : Prop := ∃ (fc fm : Int32) (co rk sy ro of ln : Nat → Int32), v = (nI n, fc, fm, wk_f t, co, rk, sy, ro, of, ln)
/-- one text on both sides; X holds what the stages make of it, Y's other fields are anything -/
def i_Rel (k : Nat) (u : SX) (v : SY) : Prop := ∃ (t : Nat → Nat) (n : Nat), (∀ i, t i < 6) ∧ n ≤ 32 ∧ xo_ok t n u ∧ ro_Y t n v
theorem i_up {k : Nat} {u : SX} {v : SY} (h : i_Rel k u v) : i_Rel (k + 2) u v := h
theorem ro_ng {n : Nat} {x : Int32} (hn : n < 2 ^ 31) (h : nI n ≤ x) : ¬ x < 0 := fun z => nI_pos hn (Int32.lt_of_le_of_lt h z)
theorem ro_up {t : Nat → Nat} {n j : Nat} : upd (wk_f t) n (nI j) = wk_f (fun i => if i = n then j else t i) := by
  funext i
  unfold upd wk_f
  dsimp only
  by_cases e : i = n
  · rw [if_pos e, if_pos e]
  · rw [if_neg e, if_neg e]
theorem i_vc0 : wpX_init (fun u => wpY_init (fun v => i_Rel 0 u v)) := by
  unfold wpX_init
  refine xo_all (t := fun _ => 0) (n := 0) (fun _ => by omega) (by omega) ?_
  intro u hu
  have hu' := hu
  obtain ⟨mk, bc, rc, co, ro, rk, sl, nw, np, ns, no, ln, cb, bi, rs, rd, rm, rt, Q, R, rfl, _⟩ := hu
  exact ⟨fun _ => 0, 0, fun _ => Nat.zero_lt_succ 5, by omega, hu', ⟨0, 0, fun _ => 0, fun _ => 0, fun _ => 0, fun _ => 0, fun _ => 0, fun _ => 0, rfl⟩⟩
theorem i_vc_type {k : Nat} {u : SX} {v : SY} (I : i_Rel k u v) (hk : k + 2 ≤ 1024) (v1 : Int32) : wpX_type (fun r u' => wpY_type (fun r' v' => r' = r ∧ i_Rel (k + 2) u' v') v v1) u v1 := by
  have I0 := I
  obtain ⟨t, n, ht, hn, hX, hY⟩ := I
  obtain ⟨mk, bc, rc, co, ro, rk, sl, nw, np, ns, no, ln, cb, bi, rs, rd, rm, rt, Q, R, rfl, _⟩ := hX
  obtain ⟨fc, fm, yco, yrk, ysy, yro, yof, yln, rfl⟩ := hY
  refine pk_lt n 32 (fun h32 => ?_) (fun h32 => pk_eq n 32 (fun _ => ⟨rfl, i_up I0⟩) (fun hc => absurd hc (by omega)))
  have hne : ¬ nI n = 32 := fun z => by
    have := (nI_eq (a := n) (b := 32) (by omega) (by omega)).mp z
    omega
  by_cases h0 : v1 < 0
  · exact br_t h0 (br_f hne (br_t h0 ⟨rfl, i_up I0⟩))
  · obtain ⟨j, hj, rfl⟩ := nI_of h0
    refine br_f h0 (pk_lt j 6 (fun h6 => ⟨pk_in n 32 h32, nm_r (e' := wk_f (fun i => if i = n then j else t i)) (by rw [nI_clamp (by omega)]; exact ro_up) (nm_r (nI_1 n) ?_)⟩) (fun h6 => br_f hne (br_f h0 (pk_le j 5 (fun hc => absurd hc (by omega)) (fun _ => ⟨rfl, i_up I0⟩)))))
    have ht' : ∀ i, (fun i => if i = n then j else t i) i < 6 := by
      intro i
      dsimp only
      split
      · exact h6
      · exact ht i
    refine xo_all ht' (by omega) ?_
    intro u hu
    have hu' := hu
    obtain ⟨mk, bc, rc, co, ro, rk, sl, nw, np, ns, no, ln, cb, bi, rs, rd, rm, rt, Q, R, rfl, _⟩ := hu
    refine br_f hne (br_f h0 (pk_le j 5 (fun _ => ⟨pk_in n 32 h32, nm_r (e' := wk_f (fun i => if i = n then j else t i)) (by rw [nI_clamp (by omega)]; exact ro_up) (nm_r (nI_1 n) ⟨rfl, ?_⟩)⟩) (fun hc => absurd hc (by omega))))
    exact ⟨_, n + 1, ht', by omega, hu', ⟨_, _, _, _, _, _, _, _, rfl⟩⟩
def ro_t (t : Nat → Nat) (n j i : Nat) : Nat → Nat := fun x => if n ≤ x ∧ x < n + i then t (x - j) else t x
theorem ro_t0 (t : Nat → Nat) (n j : Nat) : ro_t t n j 0 = t := by
  funext x
  unfold ro_t
  rw [if_neg (by omega)]
theorem ro_ts {t : Nat → Nat} {n j i : Nat} (hj : j ≤ n) (hi : i < j) : upd (wk_f (ro_t t n j i)) (n + i) (nI (ro_t t n j i (n - j + i))) = wk_f (ro_t t n j (i + 1)) := by
  rw [ro_up]
  congr 1
  funext x
  unfold ro_t
  by_cases e : x = n + i
  · rw [if_pos e, if_neg (by omega), if_pos (by omega)]
    congr 1
    omega
  · rw [if_neg e]
    by_cases c : n ≤ x ∧ x < n + i
    · rw [if_pos c, if_pos (by omega)]
    · rw [if_neg c, if_neg (by omega)]
theorem ro_t6 {t : Nat → Nat} (ht : ∀ i, t i < 6) (n j i : Nat) : ∀ x, ro_t t n j i x < 6 := by
  intro x
  unfold ro_t
  split
  · exact ht _
  · exact ht _
section
variable {le mk sc ok bc rc rr : Int32} {tx co ro rk sl nw np ns no ln cb bi rs rd rm rt : Nat → Int32}
theorem ro_38 {post : Int32 → SX → Prop} {t : Nat → Nat} {n j : Nat} (ht : ∀ i, t i < 6) (hj : j ≤ n) (hn : n + j ≤ 32) (h : ∀ u, xo_ok (ro_t t n j j) (n + j) u → post (nI (n + j)) u) : ∀ (m i : Nat), i + m = j →
    wX_repeat_38 post (nI j) (nI (n - j)) (nI n) mk sc ok bc rc rr (m + 1) (nI i) (wk_f (ro_t t n j i)) co ro rk sl nw np ns no ln cb bi rs rd rm rt := by
  intro m
  induction m with
  | zero =>
    intro i hi
    have e : i = j := by omega
    subst e
    refine pk_le i i (fun _ => nm_r (nI_add n i) (xo_all (ro_t6 ht n i i) hn ?_)) (fun hc => absurd hc (by omega))
    intro u hu
    have hu' := h u hu
    obtain ⟨mk, bc, rc, co, ro, rk, sl, nw, np, ns, no, ln, cb, bi, rs, rd, rm, rt, Q, R, rfl, _⟩ := hu
    exact hu'
  | succ m ih =>
    intro i hi
    have e1 := nI_add (n - j) i
    have e2 := nI_add n i
    refine pk_le j i (fun hc => absurd hc (by omega)) (fun _ => ⟨pk_in (n - j + i) 32 (by omega) e1, pk_in (n + i) 32 (by omega) e2, nm_r (e' := wk_f (ro_t t n j (i + 1))) ?_ (nm_r (nI_1 i) (ih (i + 1) (by omega)))⟩)
    rw [e1, e2, wk_at (by omega), nI_clamp (by omega)]
    exact ro_ts hj (by omega)
end
section
variable {fn fc fm : Int32} {tx co rk sy ro of ln : Nat → Int32}
theorem ro_31 {post : Int32 → SY → Prop} {t : Nat → Nat} {n j : Nat} (hj : j ≤ n) (hn : n + j ≤ 32) (h : post (nI (n + j)) (nI (n + j), fc, fm, wk_f (ro_t t n j j), co, rk, sy, ro, of, ln)) : ∀ (m i : Nat), i + m = j →
    wY_repeat_31 post (nI j) (nI n) fc fm (m + 1) (nI i) (wk_f (ro_t t n j i)) co rk sy ro of ln := by
  intro m
  induction m with
  | zero =>
    intro i hi
    have e : i = j := by omega
    subst e
    exact pk_le i i (fun _ => nm_r (nI_add n i) h) (fun hc => absurd hc (by omega))
  | succ m ih =>
    intro i hi
    have e2 := nI_add n i
    have e1 : nI n + nI i - nI j = nI (n - j + i) := by
      rw [e2, pk_sub (by omega)]
      congr 1
      omega
    refine pk_le j i (fun hc => absurd hc (by omega)) (fun _ => ⟨pk_in (n - j + i) 32 (by omega) e1, pk_in (n + i) 32 (by omega) e2, nm_r (e' := wk_f (ro_t t n j (i + 1))) ?_ (nm_r (nI_1 i) (ih (i + 1) (by omega)))⟩)
    rw [e1, e2, wk_at (by omega), nI_clamp (by omega)]
    exact ro_ts hj (by omega)
end
theorem i_vc_repeat {k : Nat} {u : SX} {v : SY} (I : i_Rel k u v) (hk : k + 2 ≤ 1024) (v1 : Int32) : wpX_repeat (fun r u' => wpY_repeat (fun r' v' => r' = r ∧ i_Rel (k + 2) u' v') v v1) u v1 := by
  have I0 := I
  obtain ⟨t, n, ht, hn, hX, hY⟩ := I
  obtain ⟨mk, bc, rc, co, ro, rk, sl, nw, np, ns, no, ln, cb, bi, rs, rd, rm, rt, Q, R, rfl, _⟩ := hX
  obtain ⟨fc, fm, yco, yrk, ysy, yro, yof, yln, rfl⟩ := hY
  by_cases h1 : v1 < 1
  · exact br_t h1 (br_t h1 ⟨rfl, i_up I0⟩)
  · obtain ⟨j, hj, rfl⟩ := nI_of (x := v1) (fun z => h1 (Int32.lt_trans z (by decide)))
    refine br_f h1 (pk_le j n (fun hjn => ?_) (fun hjn => br_f h1 (pk_le j n (fun hc => absurd hc (by omega)) (fun _ => ⟨rfl, i_up I0⟩))))
    refine pk_le (n + j) 32 (fun h32 => nm_r (pk_sub hjn) ⟨j + 1, ?_⟩) (fun h32 => br_f h1 (pk_le j n (fun _ => pk_le (n + j) 32 (fun hc => absurd hc (by omega)) (fun _ => ⟨rfl, i_up I0⟩) (nI_add n j)) (fun hc => absurd hc (by omega)))) (nI_add n j)
    have hX38 := ro_38 (post := fun r u' => wpY_repeat (fun r' v' => r' = r ∧ i_Rel (k + 2) u' v') (nI n, fc, fm, wk_f t, yco, yrk, ysy, yro, yof, yln) (nI j))
      (mk := mk) (sc := nI (xo_L t n).length) (ok := nI (wk_K (xo_L t n))) (bc := bc) (rc := rc) (rr := nI n) (co := co) (ro := ro) (rk := rk) (sl := sl) (nw := nw) (np := np) (ns := ns) (no := no) (ln := ln) (cb := cb) (bi := bi) (rs := rs) (rd := rd) (rm := rm) (rt := rt) ht hjn h32 (by
      intro u hu
      refine br_f h1 (pk_le j n (fun _ => pk_le (n + j) 32 (fun _ => ⟨j + 1, ?_⟩) (fun hc => absurd hc (by omega)) (nI_add n j)) (fun hc => absurd hc (by omega)))
      have := ro_31 (post := fun r' v' => r' = nI (n + j) ∧ i_Rel (k + 2) u v') (t := t) (n := n) (j := j) (fc := fc) (fm := fm) (co := yco) (rk := yrk) (sy := ysy) (ro := yro) (of := yof) (ln := yln) hjn h32 ⟨rfl, ⟨_, n + j, ro_t6 ht n j j, h32, hu, ⟨_, _, _, _, _, _, _, _, rfl⟩⟩⟩ j 0 (by omega)
      rw [ro_t0] at this
      exact this) j 0 (by omega)
    rw [ro_t0] at hX38
    exact hX38
theorem i_vc_clear {k : Nat} {u : SX} {v : SY} (I : i_Rel k u v) (hk : k + 2 ≤ 1024) : wpX_clear (fun r u' => wpY_clear (fun r' v' => r' = r ∧ i_Rel (k + 2) u' v') v) u := by
  obtain ⟨t, n, ht, hn, hX, hY⟩ := I
  obtain ⟨mk, bc, rc, co, ro, rk, sl, nw, np, ns, no, ln, cb, bi, rs, rd, rm, rt, Q, R, rfl, _⟩ := hX
  obtain ⟨fc, fm, yco, yrk, ysy, yro, yof, yln, rfl⟩ := hY
  unfold wpX_clear
  dsimp only
  refine xo_all (n := 0) ht (by omega) ?_
  intro u hu
  have hu' := hu
  obtain ⟨mk, bc, rc, co, ro, rk, sl, nw, np, ns, no, ln, cb, bi, rs, rd, rm, rt, Q, R, rfl, _⟩ := hu
  exact ⟨rfl, ⟨t, 0, ht, by omega, hu', ⟨_, _, _, _, _, _, _, _, rfl⟩⟩⟩
theorem i_vc_column {k : Nat} {u : SX} {v : SY} (I : i_Rel k u v) (hk : k + 2 ≤ 1024) (v1 : Int32) : wpX_column (fun r => wpY_column (fun r' v' => r' = r ∧ i_Rel (k + 2) u v') v v1) u v1 := by
  obtain ⟨t, n, ht, hn, hX, hY⟩ := I
  have hX' := hX
  have hll := xo_Ll t n
  obtain ⟨mk, bc, rc, co, ro, rk, sl, nw, np, ns, no, ln, cb, bi, rs, rd, rm, rt, Q, R, rfl, hmk, hco, hrk, hsl, hC, hbc, hrt⟩ := hX
  obtain ⟨fc, fm, yco, yrk, ysy, yro, yof, yln, rfl⟩ := hY
  unfold wpX_column wpY_column
  dsimp only
  have hrel : ∀ (fc fm : Int32) (co' rk' sy ro' of ln' : Nat → Int32), i_Rel (k + 2) (nI n, mk, nI (xo_L t n).length, nI (wk_K (xo_L t n)), bc, rc, nI n, wk_f t, co, ro, rk, sl, nw, np, ns, no, ln, cb, bi, rs, rd, rm, rt) (nI n, fc, fm, wk_f t, co', rk', sy, ro', of, ln') := fun _ _ _ _ _ _ _ _ => ⟨t, n, ht, hn, hX', ⟨_, _, _, _, _, _, _, _, rfl⟩⟩
  rcases pk_ix v1 (n := n) (by omega) with h | h | ⟨j, hj, rfl⟩
  · refine br_t h (ye_enc ht hn ?_)
    intro fm co' rk' sy ro' h1 h2 h3 h4
    exact br_t h ⟨rfl, hrel _ _ _ _ _ _ _ _⟩
  · refine br_f (ro_ng (by omega) h) (br_f (Int32.not_lt.mpr h) (ye_enc ht hn ?_))
    intro fm co' rk' sy ro' h1 h2 h3 h4
    exact br_f (ro_ng (by omega) h) (br_t h ⟨rfl, hrel _ _ _ _ _ _ _ _⟩)
  · refine br_f (nI_pos (by omega)) (br_t (nI_lt hj (by omega)) ⟨pk_in j 32 (by omega), ye_enc ht hn ?_⟩)
    intro fm co' rk' sy ro' h1 h2 h3 h4
    refine br_f (nI_pos (by omega)) (br_f (nI_ge hj (by omega)) ⟨pk_in j 32 (by omega), ?_, hrel _ _ _ _ _ _ _ _⟩)
    rw [nI_clamp (by omega)]
    exact (h2 j hj).trans (hco j hj).symm
theorem i_vc_mark {k : Nat} {u : SX} {v : SY} (I : i_Rel k u v) (hk : k + 2 ≤ 1024) : wpX_mark (fun r => wpY_mark (fun r' v' => r' = r ∧ i_Rel (k + 2) u v') v) u := by
  obtain ⟨t, n, ht, hn, hX, hY⟩ := I
  have hX' := hX
  obtain ⟨mk, bc, rc, co, ro, rk, sl, nw, np, ns, no, ln, cb, bi, rs, rd, rm, rt, Q, R, rfl, hmk, hco, hrk, hsl, hC, hbc, hrt⟩ := hX
  obtain ⟨fc, fm, yco, yrk, ysy, yro, yof, yln, rfl⟩ := hY
  unfold wpX_mark wpY_mark
  dsimp only
  refine pk_eq n 0 (fun h => ye_enc ht hn ?_) (fun h => ye_enc ht hn ?_)
  · intro fm co' rk' sy ro' h1 h2 h3 h4
    exact pk_eq n 0 (fun _ => ⟨rfl, ⟨t, n, ht, hn, hX', ⟨_, _, _, _, _, _, _, _, rfl⟩⟩⟩) (fun hc => absurd h hc)
  · intro fm co' rk' sy ro' h1 h2 h3 h4
    exact pk_eq n 0 (fun hc => absurd hc h) (fun _ => ⟨(h1 (by omega)).trans (hmk (by omega)).symm, ⟨t, n, ht, hn, hX', ⟨_, _, _, _, _, _, _, _, rfl⟩⟩⟩)
theorem i_vc_rank {k : Nat} {u : SX} {v : SY} (I : i_Rel k u v) (hk : k + 2 ≤ 1024) (v1 : Int32) : wpX_rank (fun r => wpY_rank (fun r' v' => r' = r ∧ i_Rel (k + 2) u v') v v1) u v1 := by
  obtain ⟨t, n, ht, hn, hX, hY⟩ := I
  have hX' := hX
  have hll := xo_Ll t n
  obtain ⟨mk, bc, rc, co, ro, rk, sl, nw, np, ns, no, ln, cb, bi, rs, rd, rm, rt, Q, R, rfl, hmk, hco, hrk, hsl, hC, hbc, hrt⟩ := hX
  obtain ⟨fc, fm, yco, yrk, ysy, yro, yof, yln, rfl⟩ := hY
  unfold wpX_rank wpY_rank
  dsimp only
  have hrel : ∀ (fc fm : Int32) (co' rk' sy ro' of ln' : Nat → Int32), i_Rel (k + 2) (nI n, mk, nI (xo_L t n).length, nI (wk_K (xo_L t n)), bc, rc, nI n, wk_f t, co, ro, rk, sl, nw, np, ns, no, ln, cb, bi, rs, rd, rm, rt) (nI n, fc, fm, wk_f t, co', rk', sy, ro', of, ln') := fun _ _ _ _ _ _ _ _ => ⟨t, n, ht, hn, hX', ⟨_, _, _, _, _, _, _, _, rfl⟩⟩
  rcases pk_ix v1 (n := n) (by omega) with h | h | ⟨j, hj, rfl⟩
  · refine br_t h (ye_enc ht hn ?_)
    intro fm co' rk' sy ro' h1 h2 h3 h4
    exact br_t h ⟨rfl, hrel _ _ _ _ _ _ _ _⟩
  · refine br_f (ro_ng (by omega) h) (br_f (Int32.not_lt.mpr h) (ye_enc ht hn ?_))
    intro fm co' rk' sy ro' h1 h2 h3 h4
    exact br_f (ro_ng (by omega) h) (br_t h ⟨rfl, hrel _ _ _ _ _ _ _ _⟩)
  · refine br_f (nI_pos (by omega)) (br_t (nI_lt hj (by omega)) ⟨pk_in j 32 (by omega), ye_enc ht hn ?_⟩)
    intro fm co' rk' sy ro' h1 h2 h3 h4
    refine br_f (nI_pos (by omega)) (br_f (nI_ge hj (by omega)) ⟨pk_in j 32 (by omega), ?_, hrel _ _ _ _ _ _ _ _⟩)
    rw [nI_clamp (by omega)]
    exact (h3 j hj).trans (hrk j hj).symm
theorem i_vc_symbols {k : Nat} {u : SX} {v : SY} (I : i_Rel k u v) (hk : k + 2 ≤ 1024) : wpX_symbols (fun r => wpY_symbols (fun r' v' => r' = r ∧ i_Rel (k + 2) u v') v) u := by
  obtain ⟨t, n, ht, hn, hX, hY⟩ := I
  have hX' := hX
  obtain ⟨mk, bc, rc, co, ro, rk, sl, nw, np, ns, no, ln, cb, bi, rs, rd, rm, rt, Q, R, rfl, hmk, hco, hrk, hsl, hC, hbc, hrt⟩ := hX
  obtain ⟨fc, fm, yco, yrk, ysy, yro, yof, yln, rfl⟩ := hY
  unfold wpX_symbols wpY_symbols
  dsimp only
  refine ye_enc ht hn ?_
  intro fm co' rk' sy ro' h1 h2 h3 h4
  exact ⟨rfl, ⟨t, n, ht, hn, hX', ⟨_, _, _, _, _, _, _, _, rfl⟩⟩⟩
theorem i_vc_symbol {k : Nat} {u : SX} {v : SY} (I : i_Rel k u v) (hk : k + 2 ≤ 1024) (v1 : Int32) : wpX_symbol (fun r => wpY_symbol (fun r' v' => r' = r ∧ i_Rel (k + 2) u v') v v1) u v1 := by
  obtain ⟨t, n, ht, hn, hX, hY⟩ := I
  have hX' := hX
  have hll := xo_Ll t n
  obtain ⟨mk, bc, rc, co, ro, rk, sl, nw, np, ns, no, ln, cb, bi, rs, rd, rm, rt, Q, R, rfl, hmk, hco, hrk, hsl, hC, hbc, hrt⟩ := hX
  obtain ⟨fc, fm, yco, yrk, ysy, yro, yof, yln, rfl⟩ := hY
  unfold wpX_symbol wpY_symbol
  dsimp only
  have hrel : ∀ (fc fm : Int32) (co' rk' sy ro' of ln' : Nat → Int32), i_Rel (k + 2) (nI n, mk, nI (xo_L t n).length, nI (wk_K (xo_L t n)), bc, rc, nI n, wk_f t, co, ro, rk, sl, nw, np, ns, no, ln, cb, bi, rs, rd, rm, rt) (nI n, fc, fm, wk_f t, co', rk', sy, ro', of, ln') := fun _ _ _ _ _ _ _ _ => ⟨t, n, ht, hn, hX', ⟨_, _, _, _, _, _, _, _, rfl⟩⟩
  rcases pk_ix v1 (n := (xo_L t n).length) (by omega) with h | h | ⟨j, hj, rfl⟩
  · refine br_t h (ye_enc ht hn ?_)
    intro fm co' rk' sy ro' h1 h2 h3 h4
    exact br_t h ⟨rfl, hrel _ _ _ _ _ _ _ _⟩
  · refine br_f (ro_ng (by omega) h) (br_f (Int32.not_lt.mpr h) (ye_enc ht hn ?_))
    intro fm co' rk' sy ro' h1 h2 h3 h4
    exact br_f (ro_ng (by omega) h) (br_t h ⟨rfl, hrel _ _ _ _ _ _ _ _⟩)
  · refine br_f (nI_pos (by omega)) (br_t (nI_lt hj (by omega)) ⟨pk_in j 32 (by omega), ye_enc ht hn ?_⟩)
    intro fm co' rk' sy ro' h1 h2 h3 h4
    refine br_f (nI_pos (by omega)) (br_f (nI_ge hj (by omega)) ⟨pk_in j 32 (by omega), ?_, hrel _ _ _ _ _ _ _ _⟩)
    rw [nI_clamp (by omega)]
    exact (h4 j hj).trans (hsl j hj).symm
theorem i_vc_cost {k : Nat} {u : SX} {v : SY} (I : i_Rel k u v) (hk : k + 2 ≤ 1024) : wpX_cost (fun r => wpY_cost (fun r' v' => r' = r ∧ i_Rel (k + 2) u v') v) u := by
  obtain ⟨t, n, ht, hn, hX, hY⟩ := I
  have hX' := hX
  obtain ⟨mk, bc, rc, co, ro, rk, sl, nw, np, ns, no, ln, cb, bi, rs, rd, rm, rt, Q, R, rfl, hmk, hco, hrk, hsl, hC, hbc, hrt⟩ := hX
  obtain ⟨fc, fm, yco, yrk, ysy, yro, yof, yln, rfl⟩ := hY
  unfold wpX_cost
  dsimp only
  refine yk_cost ht hn hC ?_
  intro fc fm co' rk' sy ro' of ln'
  exact ⟨hbc.symm, ⟨t, n, ht, hn, hX', ⟨_, _, _, _, _, _, _, _, rfl⟩⟩⟩
theorem i_vc_decoded {k : Nat} {u : SX} {v : SY} (I : i_Rel k u v) (hk : k + 2 ≤ 1024) (v1 : Int32) : wpX_decoded (fun r => wpY_decoded (fun r' => r' = r ∧ i_Rel (k + 2) u v) v v1) u v1 := by
  have I0 := I
  obtain ⟨t, n, ht, hn, hX, hY⟩ := I
  obtain ⟨mk, bc, rc, co, ro, rk, sl, nw, np, ns, no, ln, cb, bi, rs, rd, rm, rt, Q, R, rfl, hmk, hco, hrk, hsl, hC, hbc, hrt⟩ := hX
  obtain ⟨fc, fm, yco, yrk, ysy, yro, yof, yln, rfl⟩ := hY
  unfold wpX_decoded wpY_decoded
  dsimp only
  rcases pk_ix v1 (n := n) (by omega) with h | h | ⟨j, hj, rfl⟩
  · exact br_t h (br_t h ⟨rfl, i_up I0⟩)
  · exact br_f (ro_ng (by omega) h) (br_f (Int32.not_lt.mpr h) (br_f (ro_ng (by omega) h) (br_t h ⟨rfl, i_up I0⟩)))
  · refine br_f (nI_pos (by omega)) (br_t (nI_lt hj (by omega)) ⟨pk_in j 32 (by omega), br_f (nI_pos (by omega)) (br_f (nI_ge hj (by omega)) ⟨pk_in j 32 (by omega), ?_, i_up I0⟩)⟩)
    rw [wk_at (by omega), wk_cla (by omega) (hrt j hj)]
theorem i_vc_different {k : Nat} {u : SX} {v : SY} (I : i_Rel k u v) (hk : k + 2 ≤ 1024) : wpX_different (fun r => wpY_different (fun r' v' => r' = r ∧ i_Rel (k + 2) u v') v) u := by
  obtain ⟨t, n, ht, hn, hX, hY⟩ := I
  have hX' := hX
  obtain ⟨mk, bc, rc, co, ro, rk, sl, nw, np, ns, no, ln, cb, bi, rs, rd, rm, rt, Q, R, rfl, hmk, hco, hrk, hsl, hC, hbc, hrt⟩ := hX
  obtain ⟨fc, fm, yco, yrk, ysy, yro, yof, yln, rfl⟩ := hY
  unfold wpX_different wpY_different
  dsimp only
  refine yc_cnt ht hn ?_
  intro fc fm co' rk' sy ro' of _
  exact ⟨rfl, ⟨t, n, ht, hn, hX', ⟨_, _, _, _, _, _, _, _, rfl⟩⟩⟩
end
