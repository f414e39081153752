-- sets of blocks as predicates
noncomputable def c01 (p : Prop) : Nat := @ite _ p (Classical.propDecidable p) 1 0
theorem c01_t {p : Prop} (h : p) : c01 p = 1 := if_pos h
theorem c01_f {p : Prop} (h : ¬ p) : c01 p = 0 := if_neg h
theorem c01_le (p : Prop) : c01 p ≤ 1 := by
  rcases Classical.em p with h | h
  · rw [c01_t h]; exact Nat.le_refl _
  · rw [c01_f h]; exact Nat.zero_le _
theorem c01_congr {p q : Prop} (h : p ↔ q) : c01 p = c01 q := by rw [propext h]
noncomputable def pI (p : Prop) : Int32 := nI (c01 p)
theorem pI_t {p : Prop} (h : p) : pI p = 1 := by unfold pI; rw [c01_t h]; rfl
theorem pI_f {p : Prop} (h : ¬ p) : pI p = 0 := by unfold pI; rw [c01_f h]; rfl
theorem pI_0 {p : Prop} : pI p = 0 ↔ ¬ p := by
  constructor
  · intro h hp
    rw [pI_t hp] at h
    exact absurd h (by decide)
  · exact pI_f
theorem pI_1 {p : Prop} : pI p = 1 ↔ p := by
  constructor
  · intro h
    rcases Classical.em p with hp | hp
    · exact hp
    · rw [pI_f hp] at h
      exact absurd h (by decide)
  · exact pI_t
theorem pI_congr {p q : Prop} (h : p ↔ q) : pI p = pI q := by rw [propext h]
theorem if_pI {α : Type} {p : Prop} {a b : α} : (if pI p = 0 then a else b) = @ite _ p (Classical.propDecidable p) b a := by
  rcases Classical.em p with h | h
  · rw [pI_t h, if_neg (by decide), if_pos h]
  · rw [pI_f h, if_pos rfl, if_neg h]
noncomputable def num (p : Nat → Prop) : Nat → Nat
  | 0 => 0
  | m + 1 => 2 ^ m * c01 (p m) + num p m
noncomputable def cnt (p : Nat → Prop) : Nat → Nat
  | 0 => 0
  | m + 1 => cnt p m + c01 (p m)
theorem num_lt (p : Nat → Prop) : ∀ m, num p m < 2 ^ m
  | 0 => Nat.one_pos
  | m + 1 => by
    have h := num_lt p m
    have h2 : 2 ^ m * c01 (p m) ≤ 2 ^ m * 1 := Nat.mul_le_mul_left _ (c01_le _)
    show 2 ^ m * c01 (p m) + num p m < 2 ^ (m + 1)
    rw [Nat.pow_succ]
    omega
theorem c01_bit (q : Prop) (j : Nat) : (c01 q).testBit j = true ↔ (j = 0 ∧ q) := by
  rcases Classical.em q with h | h
  · rw [c01_t h]
    cases j with
    | zero => simp [h]
    | succ j => simp [Nat.testBit_succ]
  · rw [c01_f h, Nat.zero_testBit]
    simp [h]
theorem num_bit (p : Nat → Prop) : ∀ m k, (num p m).testBit k = true ↔ (k < m ∧ p k)
  | 0, k => by
    show (0 : Nat).testBit k = true ↔ _
    rw [Nat.zero_testBit]
    simp
  | m + 1, k => by
    have h := num_bit p m k
    show (2 ^ m * c01 (p m) + num p m).testBit k = true ↔ _
    rw [Nat.testBit_two_pow_mul_add _ (num_lt p m)]
    by_cases hk : k < m
    · rw [if_pos hk, h]
      constructor
      · intro q; exact ⟨by omega, q.2⟩
      · intro q; exact ⟨hk, q.2⟩
    · rw [if_neg hk, c01_bit]
      constructor
      · intro q
        have : k = m := by omega
        subst this
        exact ⟨by omega, q.2⟩
      · intro q
        have : k = m := by omega
        subst this
        exact ⟨by omega, q.2⟩
theorem num_ext {p q : Nat → Prop} {m : Nat} (h : ∀ k, k < m → (p k ↔ q k)) : num p m = num q m := by
  induction m with
  | zero => rfl
  | succ m ih =>
    show 2 ^ m * c01 (p m) + num p m = 2 ^ m * c01 (q m) + num q m
    rw [ih (fun k hk => h k (by omega)), c01_congr (h m (by omega))]
theorem cnt_ext {p q : Nat → Prop} {m : Nat} (h : ∀ k, k < m → (p k ↔ q k)) : cnt p m = cnt q m := by
  induction m with
  | zero => rfl
  | succ m ih =>
    show cnt p m + c01 (p m) = cnt q m + c01 (q m)
    rw [ih (fun k hk => h k (by omega)), c01_congr (h m (by omega))]
theorem cnt_le (p : Nat → Prop) : ∀ m, cnt p m ≤ m
  | 0 => Nat.le_refl _
  | m + 1 => by
    have h := cnt_le p m
    have h2 := c01_le (p m)
    show cnt p m + c01 (p m) ≤ m + 1
    omega
theorem cnt_mono {p q : Nat → Prop} (h : ∀ k, p k → q k) : ∀ m, cnt p m ≤ cnt q m
  | 0 => Nat.le_refl _
  | m + 1 => by
    have ih := cnt_mono h m
    show cnt p m + c01 (p m) ≤ cnt q m + c01 (q m)
    rcases Classical.em (p m) with hp | hp
    · rw [c01_t hp, c01_t (h m hp)]; omega
    · rw [c01_f hp]; omega
theorem cnt_strict {p q : Nat → Prop} (h : ∀ k, p k → q k) {i : Nat} (hq : q i) (hp : ¬ p i) : ∀ m, i < m → cnt p m < cnt q m
  | 0, hi => absurd hi (by omega)
  | m + 1, hi => by
    show cnt p m + c01 (p m) < cnt q m + c01 (q m)
    by_cases him : i = m
    · subst him
      have ih := cnt_mono h i
      rw [c01_t hq, c01_f hp]
      omega
    · have ih := cnt_strict h hq hp m (by omega)
      rcases Classical.em (p m) with hp | hp
      · rw [c01_t hp, c01_t (h m hp)]; omega
      · rw [c01_f hp]; omega
theorem cnt_cut {p : Nat → Prop} {n : Nat} (h : ∀ k, p k → k < n) : ∀ m, n ≤ m → cnt p m = cnt p n
  | 0, hm => by
    have : n = 0 := by omega
    subst this
    rfl
  | m + 1, hm => by
    by_cases hn : n = m + 1
    · rw [hn]
    · have ih := cnt_cut h m (by omega)
      show cnt p m + c01 (p m) = _
      rw [c01_f (fun q => absurd (h m q) (by omega)), ih, Nat.add_zero]
theorem cnt_add1 {p : Nat → Prop} {c : Nat} (hc : ¬ p c) : ∀ m, cnt (fun k => p k ∨ k = c) m = cnt p m + c01 (c < m)
  | 0 => by
    show 0 = 0 + _
    rw [c01_f (by omega)]
  | m + 1 => by
    have ih := cnt_add1 hc m
    show cnt (fun k => p k ∨ k = c) m + c01 (p m ∨ m = c) = cnt p m + c01 (p m) + c01 (c < m + 1)
    rw [ih]
    by_cases hm : m = c
    · subst hm
      rw [c01_f (p := m < m) (by omega), c01_t (p := p m ∨ m = m) (Or.inr rfl), c01_f hc, c01_t (by omega)]
    · rw [c01_congr (p := p m ∨ m = c) (q := p m) ⟨fun q => q.resolve_right hm, Or.inl⟩, c01_congr (p := c < m + 1) (q := c < m) (by omega)]
      omega
theorem cnt_pos {p : Nat → Prop} : ∀ {m i : Nat}, i < m → p i → 0 < cnt p m
  | 0, i, hi, _ => absurd hi (by omega)
  | m + 1, i, hi, hp => by
    show 0 < cnt p m + c01 (p m)
    by_cases h : i = m
    · subst h
      rw [c01_t hp]; omega
    · have := cnt_pos (m := m) (i := i) (by omega) hp
      omega
theorem cnt_split (p : Nat → Prop) : ∀ {i m : Nat}, i < m → p i → cnt p i < cnt p m
  | i, 0, hi, _ => absurd hi (by omega)
  | i, m + 1, hi, hp => by
    show cnt p i < cnt p m + c01 (p m)
    by_cases h : i = m
    · subst h
      rw [c01_t hp]; omega
    · have := cnt_split p (i := i) (m := m) (by omega) hp
      omega
theorem cnt_countP (p : Nat → Prop) (f : Nat → Bool) : ∀ m, (∀ k, k < m → (f k = true ↔ p k)) → (List.range m).countP f = cnt p m
  | 0, _ => rfl
  | m + 1, h => by
    have ih := cnt_countP p f m (fun k hk => h k (by omega))
    rw [List.range_succ, List.countP_append, ih]
    show cnt p m + List.countP f [m] = cnt p m + c01 (p m)
    congr 1
    have hm := h m (by omega)
    cases hf : f m with
    | true =>
      rw [c01_t (hm.mp hf)]
      simp [hf]
    | false =>
      rw [c01_f (fun q => absurd (hm.mpr q) (by rw [hf]; decide))]
      simp [hf]
theorem cnt_s (p : Nat → Prop) (m : Nat) : cnt p (m + 1) = cnt p m + c01 (p m) := rfl
theorem cnt_z (p : Nat → Prop) : cnt p 0 = 0 := rfl
/-- the set of the blocks of which p holds -/
noncomputable def bs (p : Nat → Prop) : Int64 := lN (num p 64)
theorem bs_ext {p q : Nat → Prop} (h : ∀ k, k < 64 → (p k ↔ q k)) : bs p = bs q := by
  unfold bs
  rw [num_ext h]
theorem bs_inj {p q : Nat → Prop} (h : bs p = bs q) : ∀ k, k < 64 → (p k ↔ q k) := by
  intro k hk
  have h1 := congrArg (fun x : Int64 => x.toBitVec.toNat) h
  have h2 : (lN (num p 64)).toBitVec.toNat = num p 64 := wb_tn (num_lt p 64)
  have h3 : (lN (num q 64)).toBitVec.toNat = num q 64 := wb_tn (num_lt q 64)
  have h4 : (lN (num p 64)).toBitVec.toNat = (lN (num q 64)).toBitVec.toNat := h1
  rw [h2, h3] at h4
  have a := num_bit p 64 k
  have b := num_bit q 64 k
  rw [h4] at a
  constructor
  · intro hp; exact (b.mp (a.mpr ⟨hk, hp⟩)).2
  · intro hp; exact (a.mp (b.mpr ⟨hk, hp⟩)).2
theorem bs_and (p q : Nat → Prop) : bs p &&& bs q = bs (fun k => p k ∧ q k) := by
  unfold bs
  rw [wb_and (num_lt p 64) (num_lt q 64)]
  refine congrArg lN ?_
  apply Nat.eq_of_testBit_eq
  intro k
  rw [Bool.eq_iff_iff, Nat.testBit_and, Bool.and_eq_true, num_bit, num_bit, num_bit]
  constructor
  · intro h; exact ⟨h.1.1, h.1.2, h.2.2⟩
  · intro h; exact ⟨⟨h.1, h.2.1⟩, ⟨h.1, h.2.2⟩⟩
theorem bs_or (p q : Nat → Prop) : bs p ||| bs q = bs (fun k => p k ∨ q k) := by
  unfold bs
  rw [wb_or (num_lt p 64) (num_lt q 64)]
  refine congrArg lN ?_
  apply Nat.eq_of_testBit_eq
  intro k
  rw [Bool.eq_iff_iff, Nat.testBit_or, Bool.or_eq_true, num_bit, num_bit, num_bit]
  constructor
  · intro h
    rcases h with h | h
    · exact ⟨h.1, Or.inl h.2⟩
    · exact ⟨h.1, Or.inr h.2⟩
  · intro h
    rcases h with ⟨h1, h | h⟩
    · exact Or.inl ⟨h1, h⟩
    · exact Or.inr ⟨h1, h⟩
theorem num_all : num (fun _ => True) 64 = 2 ^ 64 - 1 := by
  apply Nat.eq_of_testBit_eq
  intro k
  rw [Bool.eq_iff_iff, num_bit, Nat.testBit_two_pow_sub_one]
  simp
theorem bs_not (p : Nat → Prop) : bs p ^^^ (-1) = bs (fun k => ¬ p k) := by
  have h1 : (-1 : Int64) = lN (2 ^ 64 - 1) := by decide
  unfold bs
  rw [h1, show lN (num p 64) ^^^ lN (2 ^ 64 - 1) = lN (num p 64 ^^^ (2 ^ 64 - 1)) from wb_inj (by rw [Int64.toBitVec_xor, wb_tb, wb_tb, wb_tb]; exact BitVec.ofNat_xor.symm)]
  refine congrArg lN ?_
  apply Nat.eq_of_testBit_eq
  intro k
  rw [Nat.testBit_xor, Nat.testBit_two_pow_sub_one, Bool.eq_iff_iff, num_bit]
  have hb := num_bit p 64 k
  by_cases hk : k < 64
  · simp only [hk, decide_true, Bool.xor_true, Bool.not_eq_true', true_and]
    rw [Bool.eq_false_iff, Ne, hb]
    simp [hk]
  · simp only [hk, decide_false, Bool.xor_false, false_and]
    rw [hb]
    simp [hk]
theorem bs_0 : (0 : Int64) = bs (fun _ => False) := by
  unfold bs
  have : num (fun _ => False) 64 = 0 := by
    apply Nat.eq_of_testBit_eq
    intro k
    rw [Bool.eq_iff_iff, num_bit, Nat.zero_testBit]
    simp
  rw [this]
  rfl
theorem bs_only {k : Nat} (hk : k < 64) : f_BlockRuler_only (nI k) = bs (fun i => i = k) := by
  rw [only_lN hk]
  unfold bs
  refine congrArg lN ?_
  apply Nat.eq_of_testBit_eq
  intro i
  rw [Bool.eq_iff_iff, num_bit, Nat.testBit_two_pow]
  simp
  omega
theorem bs_holds (p : Nat → Prop) {k : Nat} (hk : k < 64) : f_BlockRuler_holds (bs p) (nI k) = pI (p k) := by
  unfold bs
  rw [holds_lN (num_lt p 64) hk]
  have h := num_bit p 64 k
  rcases Classical.em (p k) with hp | hp
  · rw [pI_t hp, if_pos (h.mpr ⟨hk, hp⟩)]
  · rw [pI_f hp, if_neg (fun q => hp (h.mp q).2)]
theorem bs_count (p : Nat → Prop) : f_Long_bitCount (bs p) = nI (cnt p 64) := by
  unfold bs
  rw [bitCount_lN (num_lt p 64), pcn_countP, cnt_countP p]
  intro k hk
  rw [num_bit]
  simp [hk]
theorem lg_cmpE (x y : Int64) : lg_cmp x y = 0 ↔ x = y := by
  unfold lg_cmp
  by_cases h : x > y
  · rw [if_pos h]
    constructor
    · intro q; exact absurd q (by decide)
    · intro q; subst q; exact absurd h (Int64.lt_irrefl)
  · rw [if_neg h]
    by_cases h2 : x = y
    · simp [h2]
    · rw [if_neg h2]
      constructor
      · intro q; exact absurd q (by decide)
      · intro q; exact absurd q h2
theorem bs_cmp0 (p : Nat → Prop) : lg_cmp (bs p) 0 = 0 ↔ ∀ k, k < 64 → ¬ p k := by
  rw [lg_cmpE, bs_0]
  constructor
  · intro h k hk hp
    exact (bs_inj h k hk).mp hp
  · intro h
    exact bs_ext (fun k hk => ⟨fun q => h k hk q, fun q => q.elim⟩)
theorem bs_least {p : Nat → Prop} (h : ∃ k, k < 64 ∧ p k) : ∃ i, i < 64 ∧ p i ∧ (∀ j, j < i → ¬ p j) ∧ f_BlockRuler_least (bs p) = nI i ∧ f_BlockRuler_withoutLeast (bs p) = bs (fun k => p k ∧ ¬ k = i) := by
  have hS := num_lt p 64
  have h0 : num p 64 ≠ 0 := by
    obtain ⟨k, hk, hp⟩ := h
    intro q
    have := (num_bit p 64 k).mpr ⟨hk, hp⟩
    rw [q, Nat.zero_testBit] at this
    exact absurd this (by decide)
  obtain ⟨i, q, e⟩ := low_ex h0
  have hi := low_lt hS e
  have hb : ∀ k, k < 64 → (p k ↔ (num p 64).testBit k = true) := fun k hk => by rw [num_bit]; simp [hk]
  refine ⟨i, hi, ?_, fun j hj => ?_, least_lN hS e, ?_⟩
  · rw [hb i hi, low_bit e, if_neg (by omega), if_pos rfl]
  · rw [hb j (by omega), low_bit e, if_pos hj]
    decide
  · obtain ⟨S', hS', h1, h2⟩ := without_lN hS e
    unfold bs
    rw [h1]
    refine congrArg lN ?_
    apply Nat.eq_of_testBit_eq
    intro k
    rw [h2, Bool.eq_iff_iff, Bool.and_eq_true, num_bit, num_bit]
    simp [and_assoc]
