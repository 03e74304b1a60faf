/-! counting below n; the rotations of a text, their sorted places, and the way back -/
def cn_ (n : Nat) (P : Nat → Bool) : Nat := (List.range n).countP P
theorem cn_0 (P : Nat → Bool) : cn_ 0 P = 0 := rfl
theorem cn_s (n : Nat) (P : Nat → Bool) : cn_ (n + 1) P = cn_ n P + if P n then 1 else 0 := by
  unfold cn_
  rw [List.range_succ, List.countP_append]
  congr 1
  cases h : P n <;> simp [h]
theorem cn_mono {n : Nat} {P Q : Nat → Bool} (h : ∀ i, i < n → P i = true → Q i = true) : cn_ n P ≤ cn_ n Q :=
  List.countP_mono_left fun i hi => h i (List.mem_range.mp hi)
theorem cn_congr {n : Nat} {P Q : Nat → Bool} (h : ∀ i, i < n → P i = Q i) : cn_ n P = cn_ n Q :=
  Nat.le_antisymm (cn_mono fun i hi hp => by rw [← h i hi]; exact hp) (cn_mono fun i hi hp => by rw [h i hi]; exact hp)
theorem cn_lt : ∀ {n : Nat} {P Q : Nat → Bool} (_ : ∀ i, i < n → P i = true → Q i = true) (j : Nat), j < n → P j = false → Q j = true → cn_ n P < cn_ n Q
  | 0, _, _, _, j, hj, _, _ => absurd hj (Nat.not_lt_zero j)
  | n + 1, P, Q, h, j, hj, h1, h2 => by
    rw [cn_s, cn_s]
    have hm : cn_ n P ≤ cn_ n Q := cn_mono fun i hi => h i (by omega)
    by_cases e : j = n
    · subst e
      rw [h1, h2]
      simp
      omega
    · have ih := cn_lt (n := n) (P := P) (Q := Q) (fun i hi => h i (by omega)) j (by omega) h1 h2
      have hn := h n (by omega)
      cases hP : P n with
      | false => simp; omega
      | true => rw [hn hP]; simp; omega
theorem cn_all (n : Nat) : cn_ n (fun _ => true) = n := by
  unfold cn_
  rw [List.countP_eq_length.mpr (fun _ _ => rfl), List.length_range]
theorem cn_ltn {n : Nat} {P : Nat → Bool} (j : Nat) (hj : j < n) (h : P j = false) : cn_ n P < n := by
  have := cn_lt (n := n) (P := P) (Q := fun _ => true) (fun _ _ _ => rfl) j hj h rfl
  rw [cn_all] at this
  exact this
/-- as many different numbers below n as there are: no more than n -/
theorem cn_ph : ∀ (n : Nat) (l : List Nat), l.Nodup → (∀ x ∈ l, x < n) → l.length ≤ n
  | 0, l, _, h => by
    cases l with
    | nil => exact Nat.le_refl _
    | cons x l => exact absurd (h x List.mem_cons_self) (Nat.not_lt_zero x)
  | n + 1, l, hd, h => by
    by_cases hn : n ∈ l
    · have hp := List.perm_cons_erase hn
      have hd' := hp.nodup hd
      rw [List.nodup_cons] at hd'
      have ih := cn_ph n (l.erase n) hd'.2 fun x hx => by
        have h1 := h x (List.mem_of_mem_erase hx)
        have h2 : x ≠ n := fun e => hd'.1 (e ▸ hx)
        omega
      have := hp.length_eq
      simp only [List.length_cons] at this
      omega
    · have ih := cn_ph n l hd fun x hx => by
        have h1 := h x hx
        have h2 : x ≠ n := fun e => hn (e ▸ hx)
        omega
      omega
theorem cn_perm {n : Nat} {f : Nat → Nat} (hf : ∀ i, i < n → f i < n) (hi : ∀ i j, i < n → j < n → f i = f j → i = j) :
    ((List.range n).map f).Perm (List.range n) := by
  have hd : ((List.range n).map f).Nodup := by
    unfold List.Nodup
    rw [List.pairwise_map]
    refine List.Pairwise.imp_of_mem ?_ (List.nodup_range (n := n))
    intro a b ha hb hab e
    exact hab (hi a b (List.mem_range.mp ha) (List.mem_range.mp hb) e)
  rw [List.perm_ext_iff_of_nodup hd List.nodup_range]
  intro a
  constructor
  · intro ha
    obtain ⟨i, hi', rfl⟩ := List.mem_map.mp ha
    exact List.mem_range.mpr (hf i (List.mem_range.mp hi'))
  · intro ha
    apply Classical.byContradiction
    intro hc
    have := cn_ph n (a :: (List.range n).map f) (List.nodup_cons.mpr ⟨hc, hd⟩) fun x hx => by
      cases hx with
      | head => exact List.mem_range.mp ha
      | tail _ hx =>
        obtain ⟨i, hi', rfl⟩ := List.mem_map.mp hx
        exact hf i (List.mem_range.mp hi')
    simp only [List.length_cons, List.length_map, List.length_range] at this
    omega
theorem cn_surj {n : Nat} {f : Nat → Nat} (hf : ∀ i, i < n → f i < n) (hi : ∀ i j, i < n → j < n → f i = f j → i = j)
    (k : Nat) (hk : k < n) : ∃ i, i < n ∧ f i = k := by
  have := (cn_perm hf hi).symm.subset (List.mem_range.mpr hk)
  obtain ⟨i, hi', e⟩ := List.mem_map.mp this
  exact ⟨i, List.mem_range.mp hi', e⟩
theorem cn_re {n : Nat} {f : Nat → Nat} (hf : ∀ i, i < n → f i < n) (hi : ∀ i j, i < n → j < n → f i = f j → i = j)
    (P : Nat → Bool) : cn_ n P = cn_ n (fun i => P (f i)) := by
  unfold cn_
  rw [← (cn_perm hf hi).countP_eq P, List.countP_map]
  rfl
/-! lists of letters in order -/
def bw_x : List Nat → List Nat → Prop
  | a :: u, b :: v => a < b ∨ (a = b ∧ bw_x u v)
  | [], _ => False
  | _ :: _, [] => False
theorem bw_xi : ∀ u, ¬ bw_x u u
  | [] => fun h => h
  | a :: u => fun h => by
    rcases h with h | ⟨_, h⟩
    · omega
    · exact bw_xi u h
theorem bw_xt : ∀ u v w, bw_x u v → bw_x v w → bw_x u w
  | a :: u, b :: v, c :: w, h1, h2 => by
    rcases h1 with h1 | ⟨rfl, h1⟩
    · rcases h2 with h2 | ⟨rfl, _⟩
      · exact Or.inl (by omega)
      · exact Or.inl h1
    · rcases h2 with h2 | ⟨rfl, h2⟩
      · exact Or.inl h2
      · exact Or.inr ⟨rfl, bw_xt u v w h1 h2⟩
  | [], _, _, h1, _ => False.elim h1
  | _ :: _, [], _, h1, _ => False.elim h1
  | _ :: _, _ :: _, [], _, h2 => False.elim h2
theorem bw_x3 : ∀ u v : List Nat, u.length = v.length → bw_x u v ∨ u = v ∨ bw_x v u
  | [], [], _ => Or.inr (Or.inl rfl)
  | a :: u, b :: v, h => by
    have hl : u.length = v.length := by simpa using h
    rcases Nat.lt_trichotomy a b with c | c | c
    · exact Or.inl (Or.inl c)
    · subst c
      rcases bw_x3 u v hl with g | g | g
      · exact Or.inl (Or.inr ⟨rfl, g⟩)
      · exact Or.inr (Or.inl (by rw [g]))
      · exact Or.inr (Or.inr (Or.inr ⟨rfl, g⟩))
    · exact Or.inr (Or.inr (Or.inl c))
  | [], _ :: _, h => by simp at h
  | _ :: _, [], h => by simp at h
theorem bw_xa (c : Nat) : ∀ u v : List Nat, u.length = v.length → (bw_x (u ++ [c]) (v ++ [c]) ↔ bw_x u v)
  | [], [], _ => ⟨fun h => by
      rcases h with h | ⟨_, h⟩
      · exact absurd h (Nat.lt_irrefl c)
      · exact h, fun h => False.elim h⟩
  | a :: u, b :: v, h => by
    have hl : u.length = v.length := by simpa using h
    have ih := bw_xa c u v hl
    show (a < b ∨ (a = b ∧ bw_x (u ++ [c]) (v ++ [c]))) ↔ (a < b ∨ (a = b ∧ bw_x u v))
    rw [ih]
  | [], _ :: _, h => by simp at h
  | _ :: _, [], h => by simp at h
/-! rotations -/
def bw_nx (n l : Nat) : Nat := if l + 1 < n then l + 1 else 0
def bw_pv (n p : Nat) : Nat := if p = 0 then n - 1 else p - 1
def bw_r (t : Nat → Nat) (n : Nat) : Nat → Nat → List Nat
  | 0, _ => []
  | m + 1, l => t l :: bw_r t n m (bw_nx n l)
def bw_it (n : Nat) : Nat → Nat → Nat
  | 0, l => l
  | m + 1, l => bw_it n m (bw_nx n l)
theorem bw_nxlt {n l : Nat} (h : l < n) : bw_nx n l < n := by unfold bw_nx; split <;> omega
theorem bw_pvlt {n l : Nat} (h : l < n) : bw_pv n l < n := by unfold bw_pv; split <;> omega
theorem bw_np {n l : Nat} (h : l < n) : bw_nx n (bw_pv n l) = l := by unfold bw_nx bw_pv; split <;> split <;> omega
theorem bw_pn {n l : Nat} (h : l < n) : bw_pv n (bw_nx n l) = l := by unfold bw_nx bw_pv; split <;> split <;> omega
theorem bw_rl (t : Nat → Nat) (n : Nat) : ∀ m l, (bw_r t n m l).length = m
  | 0, _ => rfl
  | m + 1, l => by simp [bw_r, bw_rl t n m]
theorem bw_rs (t : Nat → Nat) (n : Nat) : ∀ m l, bw_r t n (m + 1) l = bw_r t n m l ++ [t (bw_it n m l)]
  | 0, _ => rfl
  | m + 1, l => by
    show t l :: bw_r t n (m + 1) (bw_nx n l) = (t l :: bw_r t n m (bw_nx n l)) ++ [t (bw_it n m (bw_nx n l))]
    rw [bw_rs t n m (bw_nx n l)]
    rfl
theorem bw_iv (n : Nat) : ∀ m l, l < n → m ≤ n → bw_it n m l = if l + m < n then l + m else l + m - n
  | 0, l, hl, _ => by
    show l = _
    rw [if_pos (by omega)]; omega
  | m + 1, l, hl, hm => by
    show bw_it n m (bw_nx n l) = _
    rw [bw_iv n m _ (bw_nxlt hl) (by omega)]
    unfold bw_nx
    by_cases c : l + 1 < n
    · rw [if_pos c]
      by_cases d : l + 1 + m < n
      · rw [if_pos d, if_pos (by omega)]; omega
      · rw [if_neg d, if_neg (by omega)]; omega
    · rw [if_neg c, if_pos (by omega), if_neg (by omega)]; omega
/-- the rotation that begins one place later: the first letter goes to the end -/
theorem bw_rot (t : Nat → Nat) {m l : Nat} (h : l < m + 1) : bw_r t (m + 1) (m + 1) (bw_nx (m + 1) l) = bw_r t (m + 1) m (bw_nx (m + 1) l) ++ [t l] := by
  rw [bw_rs]
  have e : bw_it (m + 1) m (bw_nx (m + 1) l) = bw_it (m + 1) (m + 1) l := rfl
  rw [e, bw_iv (m + 1) (m + 1) l h (Nat.le_refl _), if_neg (by omega)]
  congr 3
  omega
def bw_R (t : Nat → Nat) (n p : Nat) : List Nat := bw_r t n n p
def bw_B (t : Nat → Nat) (n p q : Nat) : Prop := bw_x (bw_R t n p) (bw_R t n q) ∨ (bw_R t n p = bw_R t n q ∧ p < q)
noncomputable def bw_b (t : Nat → Nat) (n p q : Nat) : Bool := @decide (bw_B t n p q) (Classical.propDecidable _)
theorem bw_bt {t : Nat → Nat} {n p q : Nat} : bw_b t n p q = true ↔ bw_B t n p q := by unfold bw_b; exact @decide_eq_true_iff _ (Classical.propDecidable _)
theorem bw_bf {t : Nat → Nat} {n p q : Nat} (h : ¬ bw_B t n p q) : bw_b t n p q = false := by
  cases e : bw_b t n p q with
  | false => rfl
  | true => exact absurd (bw_bt.mp e) h
theorem bw_Bi {t : Nat → Nat} {n p : Nat} : ¬ bw_B t n p p := fun h => by
  rcases h with h | ⟨_, h⟩
  · exact bw_xi _ h
  · omega
theorem bw_Bt {t : Nat → Nat} {n p q r : Nat} (h1 : bw_B t n p q) (h2 : bw_B t n q r) : bw_B t n p r := by
  rcases h1 with h1 | ⟨e1, h1⟩
  · rcases h2 with h2 | ⟨e2, _⟩
    · exact Or.inl (bw_xt _ _ _ h1 h2)
    · exact Or.inl (e2 ▸ h1)
  · rcases h2 with h2 | ⟨e2, h2⟩
    · exact Or.inl (e1 ▸ h2)
    · exact Or.inr ⟨e1.trans e2, by omega⟩
theorem bw_B3 {t : Nat → Nat} {n p q : Nat} (h : p ≠ q) : bw_B t n p q ∨ bw_B t n q p := by
  rcases bw_x3 (bw_R t n p) (bw_R t n q) (by unfold bw_R; rw [bw_rl, bw_rl]) with g | g | g
  · exact Or.inl (Or.inl g)
  · rcases Nat.lt_or_gt_of_ne h with c | c
    · exact Or.inl (Or.inr ⟨g, c⟩)
    · exact Or.inr (Or.inr ⟨g.symm, c⟩)
  · exact Or.inr (Or.inl g)
/-- the sorted place -/
noncomputable def bw_p (t : Nat → Nat) (n p : Nat) : Nat := cn_ n (fun q => bw_b t n q p)
theorem bw_plt {t : Nat → Nat} {n p : Nat} (h : p < n) : bw_p t n p < n := cn_ltn p h (bw_bf bw_Bi)
theorem bw_pmono {t : Nat → Nat} {n p q : Nat} (hp : p < n) (h : bw_B t n p q) : bw_p t n p < bw_p t n q :=
  cn_lt (fun _ _ hi => bw_bt.mpr (bw_Bt (bw_bt.mp hi) h)) p hp (bw_bf bw_Bi) (bw_bt.mpr h)
theorem bw_pinj {t : Nat → Nat} {n : Nat} (p q : Nat) (hp : p < n) (hq : q < n) (h : bw_p t n p = bw_p t n q) : p = q := by
  apply Classical.byContradiction
  intro hne
  rcases bw_B3 (t := t) (n := n) hne with c | c
  · have := bw_pmono hp c; omega
  · have := bw_pmono hq c; omega
theorem bw_piff {t : Nat → Nat} {n p q : Nat} (hp : p < n) (hq : q < n) : bw_p t n p < bw_p t n q ↔ bw_B t n p q := by
  constructor
  · intro h
    by_cases e : p = q
    · rw [e] at h; omega
    · rcases bw_B3 (t := t) (n := n) e with c | c
      · exact c
      · have := bw_pmono hq c; omega
  · exact bw_pmono hp
theorem bw_psurj {t : Nat → Nat} {n : Nat} (k : Nat) (hk : k < n) : ∃ p, p < n ∧ bw_p t n p = k :=
  cn_surj (fun _ h => bw_plt h) bw_pinj k hk
/-- of two rotations that begin with one letter, the later ones stand as they do -/
theorem bw_tl {t : Nat → Nat} {m s q : Nat} (hs : s < m + 1) (hq : q < m + 1) (e : t s = t q) :
    (bw_x (bw_R t (m + 1) (bw_nx (m + 1) s)) (bw_R t (m + 1) (bw_nx (m + 1) q)) ↔ bw_x (bw_R t (m + 1) s) (bw_R t (m + 1) q)) ∧
    (bw_R t (m + 1) (bw_nx (m + 1) s) = bw_R t (m + 1) (bw_nx (m + 1) q) ↔ bw_R t (m + 1) s = bw_R t (m + 1) q) := by
  unfold bw_R
  rw [bw_rot t hs, bw_rot t hq, e]
  have es : bw_r t (m + 1) (m + 1) s = t q :: bw_r t (m + 1) m (bw_nx (m + 1) s) := by rw [← e]; rfl
  have eq : bw_r t (m + 1) (m + 1) q = t q :: bw_r t (m + 1) m (bw_nx (m + 1) q) := rfl
  rw [es, eq]
  constructor
  · rw [bw_xa (t q) _ _ (by rw [bw_rl, bw_rl])]
    constructor
    · exact fun h => Or.inr ⟨rfl, h⟩
    · intro h
      rcases h with h | ⟨_, h⟩
      · exact absurd h (Nat.lt_irrefl _)
      · exact h
  · constructor
    · intro h
      rw [List.append_cancel_right h]
    · intro h
      rw [(List.cons.inj h).2]
/-- the way back: from the place of p to a place of the rotation one earlier (or of one that reads alike) -/
theorem bw_LF {t c : Nat → Nat} {m : Nat} (hc : ∀ p, p < m + 1 → c (bw_p t (m + 1) p) = t (bw_pv (m + 1) p)) {p : Nat} (hp : p < m + 1) :
    ∃ q, q < m + 1 ∧ cn_ (m + 1) (fun k => decide (c k < c (bw_p t (m + 1) p) ∨ (c k = c (bw_p t (m + 1) p) ∧ k < bw_p t (m + 1) p))) = bw_p t (m + 1) q ∧
      bw_R t (m + 1) q = bw_R t (m + 1) (bw_pv (m + 1) p) := by
  have hq0 := bw_pvlt hp
  have hpq := bw_np hp
  generalize hq : bw_pv (m + 1) p = q0 at hq0 hpq
  -- the count, over s
  have e1 : cn_ (m + 1) (fun k => decide (c k < c (bw_p t (m + 1) p) ∨ (c k = c (bw_p t (m + 1) p) ∧ k < bw_p t (m + 1) p)))
      = cn_ (m + 1) (fun s => @decide (bw_x (bw_R t (m + 1) s) (bw_R t (m + 1) q0) ∨ (bw_R t (m + 1) s = bw_R t (m + 1) q0 ∧ bw_nx (m + 1) s < bw_nx (m + 1) q0)) (Classical.propDecidable _)) := by
    rw [cn_re (f := bw_p t (m + 1)) (fun _ h => bw_plt h) bw_pinj]
    rw [cn_re (f := bw_nx (m + 1)) (fun _ h => bw_nxlt h) (fun i j hi hj e => by rw [← bw_pn hi, ← bw_pn hj, e])]
    apply cn_congr
    intro s hs
    have hs' := bw_nxlt hs
    rw [Bool.eq_iff_iff, decide_eq_true_iff, @decide_eq_true_iff _ (Classical.propDecidable _)]
    rw [hc _ hs', hc _ hp, bw_pn hs, hq, bw_piff hs' hp]
    unfold bw_B
    rw [← hpq]
    constructor
    · intro h
      rcases h with h | ⟨e, h⟩
      · exact Or.inl (Or.inl h)
      · have := bw_tl hs hq0 e
        rw [this.1, this.2] at h
        exact h
    · intro h
      by_cases e : t s = t q0
      · have := bw_tl hs hq0 e
        rw [← this.1, ← this.2] at h
        exact Or.inr ⟨e, h⟩
      · rcases h with h | ⟨h, _⟩
        · rcases h with h | ⟨h, _⟩
          · exact Or.inl h
          · exact absurd h e
        · exact absurd (List.cons.inj h).1 e
  rw [e1]
  generalize hG : (fun s => @decide (bw_x (bw_R t (m + 1) s) (bw_R t (m + 1) q0) ∨ (bw_R t (m + 1) s = bw_R t (m + 1) q0 ∧ bw_nx (m + 1) s < bw_nx (m + 1) q0)) (Classical.propDecidable _)) = G
  have hGi : ∀ s, G s = true ↔ (bw_x (bw_R t (m + 1) s) (bw_R t (m + 1) q0) ∨ (bw_R t (m + 1) s = bw_R t (m + 1) q0 ∧ bw_nx (m + 1) s < bw_nx (m + 1) q0)) := by
    intro s
    rw [← hG]
    exact @decide_eq_true_iff _ (Classical.propDecidable _)
  have hG0 : G q0 = false := by
    cases e : G q0 with
    | false => rfl
    | true =>
      rcases (hGi q0).mp e with h | ⟨_, h⟩
      · exact absurd h (bw_xi _)
      · omega
  obtain ⟨q, hql, hqe⟩ := bw_psurj (t := t) (cn_ (m + 1) G) (cn_ltn q0 hq0 hG0)
  refine ⟨q, hql, hqe.symm, ?_⟩
  rcases bw_x3 (bw_R t (m + 1) q) (bw_R t (m + 1) q0) (by unfold bw_R; rw [bw_rl, bw_rl]) with g | g | g
  · have : bw_p t (m + 1) q < cn_ (m + 1) G := by
      refine cn_lt ?_ q hql (bw_bf bw_Bi) ((hGi q).mpr (Or.inl g))
      intro s _ hs
      refine (hGi s).mpr (Or.inl ?_)
      rcases bw_bt.mp hs with h | ⟨h, _⟩
      · exact bw_xt _ _ _ h g
      · rw [h]; exact g
    omega
  · exact g
  · have : cn_ (m + 1) G < bw_p t (m + 1) q := by
      refine cn_lt ?_ q0 hq0 hG0 (bw_bt.mpr (Or.inl g))
      intro s _ hs
      refine bw_bt.mpr (Or.inl ?_)
      rcases (hGi s).mp hs with h | ⟨h, _⟩
      · exact bw_xt _ _ _ h g
      · rw [h]; exact g
    omega
/-- rotations that read alike have like last letters, and what comes one earlier reads alike -/
theorem bw_same {t : Nat → Nat} {m p q : Nat} (hp : p < m + 1) (hq : q < m + 1) (h : bw_R t (m + 1) p = bw_R t (m + 1) q) :
    t (bw_pv (m + 1) p) = t (bw_pv (m + 1) q) ∧ bw_R t (m + 1) (bw_pv (m + 1) p) = bw_R t (m + 1) (bw_pv (m + 1) q) := by
  have a1 := bw_rot t (bw_pvlt hp)
  have a2 := bw_rot t (bw_pvlt hq)
  rw [bw_np hp] at a1
  rw [bw_np hq] at a2
  unfold bw_R at h
  rw [a1, a2] at h
  have b := List.append_inj' h rfl
  have e : t (bw_pv (m + 1) p) = t (bw_pv (m + 1) q) := (List.cons.inj b.2).1
  refine ⟨e, ?_⟩
  have c1 : bw_R t (m + 1) (bw_pv (m + 1) p) = t (bw_pv (m + 1) p) :: bw_r t (m + 1) m (bw_nx (m + 1) (bw_pv (m + 1) p)) := rfl
  have c2 : bw_R t (m + 1) (bw_pv (m + 1) q) = t (bw_pv (m + 1) q) :: bw_r t (m + 1) m (bw_nx (m + 1) (bw_pv (m + 1) q)) := rfl
  rw [c1, c2, bw_np hp, bw_np hq, e, b.1]
