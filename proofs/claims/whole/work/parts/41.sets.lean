-- sets of blocks as numbers S below 2^64: lN S
theorem set_of (x : Int64) : ∃ S, S < 2 ^ 64 ∧ x = lN S := wb_of x
theorem only_lN {k : Nat} (hk : k < 64) : f_BlockRuler_only (nI k) = lN (2 ^ k) := by
  unfold f_BlockRuler_only jshl
  have h := wb_shl 1 hk
  rw [Nat.one_mul] at h
  exact h
theorem lg_cmp0 (x : Int64) : lg_cmp x 0 = 0 ↔ x = 0 := by
  unfold lg_cmp
  by_cases h : x > 0
  · rw [if_pos h]
    constructor
    · intro q; exact absurd q (by decide)
    · intro q; subst q; exact absurd h (by decide)
  · rw [if_neg h]
    by_cases h2 : x = 0
    · simp [h2]
    · rw [if_neg h2]
      constructor
      · intro q; exact absurd q (by decide)
      · intro q; exact absurd q h2
theorem lN_eq0 {n : Nat} (h : n < 2 ^ 64) : lN n = 0 ↔ n = 0 := by
  constructor
  · intro q
    have h1 := congrArg (fun x : Int64 => x.toBitVec.toNat) q
    have h2 : (lN n).toBitVec.toNat = n := wb_tn h
    have h3 : (0 : Int64).toBitVec.toNat = 0 := by decide
    have h4 : (lN n).toBitVec.toNat = (0 : Int64).toBitVec.toNat := h1
    rw [h2, h3] at h4
    exact h4
  · intro q; subst q; rfl
theorem tbit (S k : Nat) : S.testBit k = decide (S / 2 ^ k % 2 = 1) := Nat.testBit_eq_decide_div_mod_eq
theorem holds_lN {S k : Nat} (hS : S < 2 ^ 64) (hk : k < 64) : f_BlockRuler_holds (lN S) (nI k) = if S.testBit k then 1 else 0 := by
  unfold f_BlockRuler_holds
  have h : jushr (lN S) (nI k) &&& 1 = lN (S / 2 ^ k % 2) := wb_bit hS hk
  rw [h, tbit]
  have h2 : S / 2 ^ k % 2 = 0 ∨ S / 2 ^ k % 2 = 1 := by omega
  rcases h2 with h2 | h2
  · rw [h2]; decide
  · rw [h2]; decide
/-- the lowest bit -/
theorem low_ex {S : Nat} (h : S ≠ 0) : ∃ i q, S = 2 ^ i * (2 * q + 1) := by
  induction S using Nat.strongRecOn with
  | _ S ih =>
    by_cases h2 : S % 2 = 1
    · exact ⟨0, S / 2, by omega⟩
    · obtain ⟨i, q, e⟩ := ih (S / 2) (by omega) (by omega)
      refine ⟨i + 1, q, ?_⟩
      have e3 : S = 2 * (S / 2) := by omega
      rw [e3, e, Nat.pow_succ, Nat.mul_comm (2 ^ i) 2, Nat.mul_assoc]
theorem pcn_pred : ∀ i : Nat, i < 64 → pcn 64 (2 ^ i - 1) = i := by decide +kernel
theorem low_bit {S i q : Nat} (e : S = 2 ^ i * (2 * q + 1)) (k : Nat) : S.testBit k = if k < i then false else if k = i then true else q.testBit (k - i - 1) := by
  rw [e, Nat.testBit_two_pow_mul]
  by_cases h : k < i
  · simp [h, Nat.not_le.mpr h]
  · rw [if_neg h]
    have hge : i ≤ k := Nat.le_of_not_lt h
    by_cases h2 : k = i
    · subst h2; simp
    · rw [if_neg h2]
      obtain ⟨m, hm⟩ : ∃ m, k - i = m + 1 := ⟨k - i - 1, by omega⟩
      rw [hm, Nat.testBit_succ, Nat.add_sub_cancel]
      have h4 : (2 * q + 1) / 2 = q := by omega
      simp [hge, h4]
theorem low_lt {S i q : Nat} (hS : S < 2 ^ 64) (e : S = 2 ^ i * (2 * q + 1)) : i < 64 := by
  by_cases h : i < 64
  · exact h
  · have h1 : 2 ^ 64 ≤ 2 ^ i := Nat.pow_le_pow_right (by decide) (by omega)
    have h2 : 2 ^ i * 1 ≤ 2 ^ i * (2 * q + 1) := Nat.mul_le_mul_left _ (by omega)
    omega
theorem pred_bit {S i q : Nat} (e : S = 2 ^ i * (2 * q + 1)) (k : Nat) : (S - 1).testBit k = if k < i then true else if k = i then false else q.testBit (k - i - 1) := by
  have hp : 0 < 2 ^ i := Nat.two_pow_pos i
  have e1 : S - 1 = 2 ^ i * (2 * q) + (2 ^ i - 1) := by
    rw [e, Nat.mul_add, Nat.mul_one]
    omega
  rw [e1, Nat.testBit_two_pow_mul_add _ (by omega)]
  by_cases h : k < i
  · rw [if_pos h, if_pos h, Nat.testBit_two_pow_sub_one]
    simp [h]
  · rw [if_neg h, if_neg h]
    by_cases h2 : k = i
    · subst h2
      rw [if_pos rfl, Nat.sub_self, Nat.testBit_zero]
      simp
    · rw [if_neg h2]
      obtain ⟨m, hm⟩ : ∃ m, k - i = m + 1 := ⟨k - i - 1, by omega⟩
      rw [hm, Nat.testBit_succ, Nat.add_sub_cancel]
      have h4 : 2 * q / 2 = q := by omega
      rw [h4]
theorem without_lN {S i q : Nat} (hS : S < 2 ^ 64) (e : S = 2 ^ i * (2 * q + 1)) : ∃ S', S' < 2 ^ 64 ∧ f_BlockRuler_withoutLeast (lN S) = lN S' ∧ ∀ k, S'.testBit k = (S.testBit k && !decide (k = i)) := by
  have hp : 0 < 2 ^ i := Nat.two_pow_pos i
  have h1 : 1 ≤ S := by
    rw [e]
    exact Nat.mul_pos hp (by omega)
  refine ⟨S &&& (S - 1), Nat.lt_of_le_of_lt Nat.and_le_left hS, ?_, fun k => ?_⟩
  · unfold f_BlockRuler_withoutLeast
    have h2 : lN S - 1 = lN (S - 1) := wb_sub (b := 1) h1
    rw [h2, wb_and hS (by omega)]
  · rw [Nat.testBit_and, pred_bit e, low_bit e]
    by_cases h : k < i
    · have h3 : ¬ k = i := by omega
      simp [h, h3]
    · by_cases h2 : k = i
      · subst h2; simp
      · simp [h, h2]
theorem neg_lN {S : Nat} (h1 : 1 ≤ S) (hS : S < 2 ^ 64) : - lN S = lN (2 ^ 64 - S) := by
  apply wb_inj
  rw [Int64.toBitVec_neg, wb_tb, wb_tb]
  apply BitVec.eq_of_toNat_eq
  rw [BitVec.toNat_neg, BitVec.toNat_ofNat, BitVec.toNat_ofNat, Nat.mod_eq_of_lt hS]
theorem least_lN {S i q : Nat} (hS : S < 2 ^ 64) (e : S = 2 ^ i * (2 * q + 1)) : f_BlockRuler_least (lN S) = nI i := by
  have hp : 0 < 2 ^ i := Nat.two_pow_pos i
  have hi := low_lt hS e
  have h1 : 1 ≤ S := by
    rw [e]
    exact Nat.mul_pos hp (by omega)
  have hq : q < 2 ^ (63 - i) := by
    have h2 : 2 ^ 64 = 2 ^ i * (2 * 2 ^ (63 - i)) := by
      rw [← Nat.pow_succ', ← Nat.pow_add]
      congr 1
      omega
    rw [e, h2] at hS
    have h3 := Nat.lt_of_mul_lt_mul_left hS
    omega
  have e2 : 2 ^ 64 - S = 2 ^ i * (2 * (2 ^ (63 - i) - (q + 1)) + 1) := by
    have h2 : 2 ^ 64 = 2 ^ i * (2 * 2 ^ (63 - i)) := by
      rw [← Nat.pow_succ', ← Nat.pow_add]
      congr 1
      omega
    rw [h2, e, ← Nat.mul_sub]
    congr 1
    omega
  have e3 : S &&& (2 ^ 64 - S) = 2 ^ i := by
    apply Nat.eq_of_testBit_eq
    intro k
    rw [Nat.testBit_and, low_bit e, low_bit e2, Nat.testBit_two_pow]
    by_cases h : k < i
    · have h3 : ¬ i = k := by omega
      simp [h, h3]
    · by_cases h2 : k = i
      · subst h2; simp
      · have h3 : ¬ i = k := by omega
        rw [Nat.testBit_two_pow_sub_succ hq]
        simp only [h, h2, h3, if_false, decide_false]
        cases q.testBit (k - i - 1) <;> simp
  unfold f_BlockRuler_least
  have e4 : lN S &&& - lN S = lN (2 ^ i) := by
    rw [neg_lN h1 hS, wb_and hS (by omega), e3]
  have hpi : 2 ^ i < 2 ^ 64 := wb_lt2 hi
  have e5 : lN (2 ^ i) - 1 = lN (2 ^ i - 1) := wb_sub (b := 1) hp
  rw [e4, e5, bitCount_lN (by omega), pcn_pred i hi]
