/-! ===== lN n to 2^64: shifts, and, or, masks, one bit ===== -/
theorem wb_tb (n : Nat) : (lN n).toBitVec = BitVec.ofNat 64 n := rfl
theorem wb_inj {a b : Int64} (h : a.toBitVec = b.toBitVec) : a = b := Int64.toBitVec_inj.mp h
theorem wb_tn {n : Nat} (h : n < 2 ^ 64) : (lN n).toBitVec.toNat = n := by rw [wb_tb, BitVec.toNat_ofNat, Nat.mod_eq_of_lt h]
theorem wb_of (x : Int64) : ∃ n, n < 2 ^ 64 ∧ x = lN n := ⟨x.toBitVec.toNat, x.toBitVec.isLt, wb_inj (by rw [wb_tb]; simp)⟩
theorem wb_of32 (x : Int32) : ∃ n, n < 2 ^ 32 ∧ x = nI n := ⟨x.toBitVec.toNat, x.toBitVec.isLt, Int32.toBitVec_inj.mp (by show _ = BitVec.ofNat 32 _; simp)⟩
theorem wb_c : ∀ k, k < 64 → ((nI k).toInt64 &&& 63) = lN k := by decide +kernel
theorem wb_cu : ∀ k, k < 64 → ((nI k).toInt64.toUInt64 &&& Int64.toUInt64 63) = UInt64.ofNat k := by decide +kernel
theorem wb_sm : ∀ k, k < 64 → (BitVec.ofNat 64 k).smod 64 = BitVec.ofNat 64 k := by decide +kernel
theorem wb_pw {a b : Nat} (h : a ≤ b) : 2 ^ b = 2 ^ a * 2 ^ (b - a) := by rw [← Nat.pow_add]; congr 1; omega
theorem wb_lt2 {a b : Nat} (h : a < b) : 2 ^ a < 2 ^ b := Nat.pow_lt_pow_right (by decide) h
theorem wb_mod (n : Nat) : lN n = lN (n % 2 ^ 64) := wb_inj (by rw [wb_tb, wb_tb]; apply BitVec.eq_of_toNat_eq; rw [BitVec.toNat_ofNat, BitVec.toNat_ofNat, Nat.mod_mod])
theorem wb_shr {n k : Nat} (hn : n < 2 ^ 64) (hk : k < 64) : ((lN n).toUInt64 >>> ((nI k).toInt64.toUInt64 &&& Int64.toUInt64 63)).toInt64 = lN (n / 2 ^ k) := by
  rw [wb_cu k hk]
  apply wb_inj
  apply BitVec.eq_of_toNat_eq
  show ((lN n).toUInt64 >>> UInt64.ofNat k).toNat = (BitVec.ofNat 64 _).toNat
  have h1 : (UInt64.ofNat k).toNat = k := by
    show (BitVec.ofNat 64 k).toNat = k
    rw [BitVec.toNat_ofNat, Nat.mod_eq_of_lt (by omega)]
  have h2 : (lN n).toUInt64.toNat = n := wb_tn hn
  rw [UInt64.toNat_shiftRight, h1, h2, Nat.mod_eq_of_lt hk, Nat.shiftRight_eq_div_pow, BitVec.toNat_ofNat, Nat.mod_eq_of_lt (Nat.lt_of_le_of_lt (Nat.div_le_self _ _) hn)]
theorem wb_shl (n : Nat) {k : Nat} (hk : k < 64) : lN n <<< ((nI k).toInt64 &&& 63) = lN (n * 2 ^ k) := by
  rw [wb_c k hk]
  apply wb_inj
  rw [Int64.toBitVec_shiftLeft, wb_tb, wb_tb, wb_tb, wb_sm k hk]
  apply BitVec.eq_of_toNat_eq
  rw [BitVec.shiftLeft_eq', BitVec.toNat_shiftLeft, BitVec.toNat_ofNat, BitVec.toNat_ofNat, BitVec.toNat_ofNat, Nat.mod_eq_of_lt (show k < 2 ^ 64 by omega), Nat.shiftLeft_eq, Nat.mul_mod, Nat.mod_mod, ← Nat.mul_mod]
theorem wb_and {a b : Nat} (ha : a < 2 ^ 64) (hb : b < 2 ^ 64) : lN a &&& lN b = lN (a &&& b) := by
  apply wb_inj
  rw [Int64.toBitVec_and, wb_tb, wb_tb, wb_tb]
  apply BitVec.eq_of_toNat_eq
  rw [BitVec.toNat_and, BitVec.toNat_ofNat, BitVec.toNat_ofNat, BitVec.toNat_ofNat, Nat.mod_eq_of_lt ha, Nat.mod_eq_of_lt hb, Nat.mod_eq_of_lt (Nat.and_lt_two_pow _ hb)]
theorem wb_or {a b : Nat} (ha : a < 2 ^ 64) (hb : b < 2 ^ 64) : lN a ||| lN b = lN (a ||| b) := by
  apply wb_inj
  rw [Int64.toBitVec_or, wb_tb, wb_tb, wb_tb]
  apply BitVec.eq_of_toNat_eq
  rw [BitVec.toNat_or, BitVec.toNat_ofNat, BitVec.toNat_ofNat, BitVec.toNat_ofNat, Nat.mod_eq_of_lt ha, Nat.mod_eq_of_lt hb, Nat.mod_eq_of_lt (Nat.or_lt_two_pow ha hb)]
theorem wb_mask {n k : Nat} (hn : n < 2 ^ 64) (hk : k < 64) : lN n &&& lN (2 ^ k - 1) = lN (n % 2 ^ k) := by
  rw [wb_and hn (by have := wb_lt2 hk; omega), Nat.and_two_pow_sub_one_eq_mod]
theorem wb_a1 {n : Nat} (hn : n < 2 ^ 64) : lN n &&& 1 = lN (n % 2) := wb_mask (k := 1) hn (by decide)
theorem wb_bit {n k : Nat} (hn : n < 2 ^ 64) (hk : k < 64) : ((lN n).toUInt64 >>> ((nI k).toInt64.toUInt64 &&& Int64.toUInt64 63)).toInt64 &&& 1 = lN (n / 2 ^ k % 2) := by
  rw [wb_shr hn hk, wb_a1 (Nat.lt_of_le_of_lt (Nat.div_le_self _ _) hn)]
-- sets of blocks are numbers below 2^64; Long.bitCount counts their bits
def pcn : Nat → Nat → Nat
  | 0, _ => 0
  | k + 1, n => n % 2 + pcn k (n / 2)
theorem pcn_le (k n : Nat) : pcn k n ≤ k := by
  induction k generalizing n with
  | zero => exact Nat.le_refl 0
  | succ k ih =>
    have h := ih (n / 2)
    simp only [pcn]
    omega
theorem pcn_add (j k n : Nat) : pcn (j + k) n = pcn j n + pcn k (n / 2 ^ j) := by
  induction j generalizing n with
  | zero => simp [pcn]
  | succ j ih =>
    rw [Nat.add_right_comm]
    simp only [pcn]
    rw [ih, Nat.div_div_eq_div_mul, Nat.pow_succ, Nat.mul_comm 2, Nat.add_assoc]
theorem pcn_mod (k n : Nat) : pcn k (n % 2 ^ k) = pcn k n := by
  induction k generalizing n with
  | zero => rfl
  | succ k ih =>
    simp only [pcn]
    have h1 : n % 2 ^ (k + 1) % 2 = n % 2 := by
      rw [Nat.pow_succ, Nat.mul_comm, Nat.mod_mul_right_mod]
    have h2 : n % 2 ^ (k + 1) / 2 = n / 2 % 2 ^ k := by
      rw [Nat.pow_succ, Nat.mul_comm, Nat.mod_mul_right_div_self]
    rw [h1, h2, ih]
theorem pcn_countP (k n : Nat) : pcn k n = (List.range k).countP (fun i => n.testBit i) := by
  induction k generalizing n with
  | zero => rfl
  | succ k ih =>
    rw [List.range_succ_eq_map, List.countP_cons, List.countP_map]
    simp only [pcn]
    rw [ih (n / 2)]
    have h : ((fun i => n.testBit i) ∘ Nat.succ) = fun i => (n / 2).testBit i := by
      funext i
      simp [Nat.testBit_succ]
    rw [h, Nat.testBit_zero]
    by_cases hb : n % 2 = 1
    · simp [hb]; omega
    · have : n % 2 = 0 := by omega
      simp [this]
/-- c repeated k times, a byte each -/
def rep (c : Nat) : Nat → Nat
  | 0 => 0
  | k + 1 => c + 256 * rep c k
theorem land256 {b c : Nat} (x y : Nat) (hb : b < 256) (hc : c < 256) : (b + 256 * x) &&& (c + 256 * y) = (b &&& c) + 256 * (x &&& y) := by
  have hbc : b &&& c < 2 ^ 8 := Nat.and_lt_two_pow _ hc
  apply Nat.eq_of_testBit_eq
  intro i
  rw [Nat.testBit_and, Nat.add_comm b, Nat.add_comm c, Nat.add_comm (b &&& c)]
  have e : (256 : Nat) = 2 ^ 8 := rfl
  rw [e, Nat.testBit_two_pow_mul_add _ hb, Nat.testBit_two_pow_mul_add _ hc, Nat.testBit_two_pow_mul_add _ hbc]
  by_cases hi : i < 8
  · simp [hi]
  · simp [hi]
def q1 (k n : Nat) : Nat := n - ((n / 2) &&& rep 85 k)
def q2 (k n : Nat) : Nat := (n &&& rep 51 k) + ((n / 4) &&& rep 51 k)
def q3 (k n : Nat) : Nat := (n + n / 16) &&& rep 15 k
theorem q1_b : ∀ r, r < 2 → ∀ b, b < 256 → (b / 2 + 128 * r) &&& 85 = (b / 2) &&& 85 := by decide +kernel
theorem q1_s (k x : Nat) {b : Nat} (hb : b < 256) : q1 (k + 1) (b + 256 * x) = (b - ((b / 2) &&& 85)) + 256 * q1 k x := by
  unfold q1
  have h1 : (b + 256 * x) / 2 = (b / 2 + 128 * (x % 2)) + 256 * (x / 2) := by omega
  have h2 : rep 85 (k + 1) = 85 + 256 * rep 85 k := rfl
  rw [h1, h2, land256 _ _ (by omega) (by decide), q1_b _ (by omega) _ hb]
  have h3 : (b / 2) &&& 85 ≤ b / 2 := Nat.and_le_left
  have h4 : (x / 2) &&& rep 85 k ≤ x / 2 := Nat.and_le_left
  omega
theorem q2_b : ∀ r, r < 4 → ∀ b, b < 256 → (b / 4 + 64 * r) &&& 51 = (b / 4) &&& 51 := by decide +kernel
theorem q2_s (k x : Nat) {b : Nat} (hb : b < 256) : q2 (k + 1) (b + 256 * x) = ((b &&& 51) + ((b / 4) &&& 51)) + 256 * q2 k x := by
  unfold q2
  have h1 : (b + 256 * x) / 4 = (b / 4 + 64 * (x % 4)) + 256 * (x / 4) := by omega
  have h2 : rep 51 (k + 1) = 51 + 256 * rep 51 k := rfl
  rw [h1, h2, land256 _ _ hb (by decide), land256 _ _ (by omega) (by decide), q2_b _ (by omega) _ hb]
  omega
theorem q3_b : ∀ r, r < 5 → ∀ b, b < 69 → (b + b / 16 + 16 * r) &&& 15 = (b + b / 16) &&& 15 := by decide +kernel
theorem q3_s (k x : Nat) {b : Nat} (hb : b < 69) (hx : x % 16 < 5) : q3 (k + 1) (b + 256 * x) = ((b + b / 16) &&& 15) + 256 * q3 k x := by
  unfold q3
  have h1 : (b + 256 * x) + (b + 256 * x) / 16 = (b + b / 16 + 16 * (x % 16)) + 256 * (x + x / 16) := by omega
  have h2 : rep 15 (k + 1) = 15 + 256 * rep 15 k := rfl
  rw [h1, h2, land256 _ _ (by omega) (by decide), q3_b _ hx _ hb]
def by1 (b : Nat) : Nat := b - ((b / 2) &&& 85)
def by2 (b : Nat) : Nat := (b &&& 51) + ((b / 4) &&& 51)
theorem by_1 : ∀ b, b < 256 → by1 b < 256 := by decide +kernel
theorem by_2 : ∀ b, b < 256 → by2 (by1 b) < 69 ∧ by2 (by1 b) % 16 < 5 := by decide +kernel
theorem by_3 : ∀ b, b < 256 → ((by2 (by1 b) + by2 (by1 b) / 16) &&& 15) = pcn 8 b := by decide +kernel
/-- the bytes' counts, a byte each -/
def bys : Nat → Nat → Nat
  | 0, _ => 0
  | k + 1, n => pcn 8 n + 256 * bys k (n / 256)
theorem q2_low : ∀ (k n : Nat), n < 256 ^ k → q2 k (q1 k n) % 16 < 5
  | 0, n, h => by
    have : n = 0 := by omega
    subst this
    decide
  | k + 1, n, h => by
    have e : n = n % 256 + 256 * (n / 256) := by omega
    have hb : n % 256 < 256 := Nat.mod_lt _ (by decide)
    have h1 := q1_s k (n / 256) hb
    rw [← e] at h1
    have h2 := q2_s k (q1 k (n / 256)) (by_1 _ hb)
    have h3 := (by_2 _ hb).2
    rw [h1]
    show q2 (k + 1) (by1 (n % 256) + 256 * q1 k (n / 256)) % 16 < 5
    rw [h2]
    show (by2 (by1 (n % 256)) + 256 * q2 k (q1 k (n / 256))) % 16 < 5
    omega
theorem q_all : ∀ (k n : Nat), n < 256 ^ k → q3 k (q2 k (q1 k n)) = bys k n
  | 0, n, h => by simp [q3, rep, bys]
  | k + 1, n, h => by
    have e : n = n % 256 + 256 * (n / 256) := by omega
    have hb : n % 256 < 256 := Nat.mod_lt _ (by decide)
    have hn : n / 256 < 256 ^ k := by
      rw [Nat.div_lt_iff_lt_mul (by decide)]
      rw [Nat.pow_succ] at h
      exact h
    have h1 := q1_s k (n / 256) hb
    rw [← e] at h1
    rw [h1]
    show q3 (k + 1) (q2 (k + 1) (by1 (n % 256) + 256 * q1 k (n / 256))) = _
    rw [q2_s k (q1 k (n / 256)) (by_1 _ hb)]
    show q3 (k + 1) (by2 (by1 (n % 256)) + 256 * q2 k (q1 k (n / 256))) = _
    rw [q3_s k (q2 k (q1 k (n / 256))) (by_2 _ hb).1 (q2_low k _ hn), by_3 _ hb, q_all k _ hn]
    show _ = pcn 8 n + 256 * bys k (n / 256)
    rw [show pcn 8 (n % 256) = pcn 8 n from pcn_mod 8 n]
theorem dv {a b k : Nat} (h : a < k) : (a + k * b) / k = b := by
  rw [Nat.add_mul_div_left _ _ (by omega), Nat.div_eq_of_lt h, Nat.zero_add]
theorem s8a {c0 c1 c2 t1 t2 t3 x y : Nat} (hx : x = c0 + 256 * t1) (e1 : t1 = c1 + 256 * t2) (e2 : t2 = c2 + 256 * t3) (hy : y = x + t1) : y = (c0 + c1 + 256 * (c1 + c2)) + 65536 * (t2 + t3) := by omega
theorem s8b {c0 c1 c2 c3 c4 c5 c6 c7 t2 t3 t4 t5 t6 y z : Nat} (e2 : t2 = c2 + 256 * t3) (e3 : t3 = c3 + 256 * t4) (e4 : t4 = c4 + 256 * t5) (e5 : t5 = c5 + 256 * t6) (e6 : t6 = c6 + 256 * c7) (hy : y = (c0 + c1 + 256 * (c1 + c2)) + 65536 * (t2 + t3)) (hz : z = y + (t2 + t3)) :
    z = (c0 + c1 + c2 + c3 + 256 * (c1 + c2 + c3 + c4) + 65536 * (c2 + c3 + c4 + c5) + 16777216 * (c3 + c4 + c5 + c6)) + 4294967296 * (t4 + t5 + t6 + c7) := by
  have f1 : t2 + t3 = (c2 + c3) + 256 * (t3 + t4) := by omega
  have f2 : t3 + t4 = (c3 + c4) + 256 * (t4 + t5) := by omega
  have f3 : t4 + t5 = (c4 + c5) + 256 * (t5 + t6) := by omega
  have f4 : t5 + t6 = (c5 + c6) + 256 * (t6 + c7) := by omega
  clear e2 e3 e4 e5 e6
  omega
theorem s8c {s r q w : Nat} (hs : s ≤ 64) (hw : w = s + 256 * r) : w % 128 = s := by omega
theorem sum8 {c0 c1 c2 c3 c4 c5 c6 c7 : Nat} (h0 : c0 ≤ 8) (h1 : c1 ≤ 8) (h2 : c2 ≤ 8) (h3 : c3 ≤ 8) (h4 : c4 ≤ 8) (h5 : c5 ≤ 8) (h6 : c6 ≤ 8) (h7 : c7 ≤ 8) {x y z w : Nat}
    (hx : x = c0 + 256 * (c1 + 256 * (c2 + 256 * (c3 + 256 * (c4 + 256 * (c5 + 256 * (c6 + 256 * c7)))))))
    (hy : y = x + x / 256) (hz : z = y + y / 65536) (hw : w = z + z / 4294967296) : w < 2 ^ 64 ∧ w % 128 = c0 + c1 + c2 + c3 + c4 + c5 + c6 + c7 := by
  obtain ⟨t6, e6⟩ : ∃ t, t = c6 + 256 * c7 := ⟨_, rfl⟩
  obtain ⟨t5, e5⟩ : ∃ t, t = c5 + 256 * t6 := ⟨_, rfl⟩
  obtain ⟨t4, e4⟩ : ∃ t, t = c4 + 256 * t5 := ⟨_, rfl⟩
  obtain ⟨t3, e3⟩ : ∃ t, t = c3 + 256 * t4 := ⟨_, rfl⟩
  obtain ⟨t2, e2⟩ : ∃ t, t = c2 + 256 * t3 := ⟨_, rfl⟩
  obtain ⟨t1, e1⟩ : ∃ t, t = c1 + 256 * t2 := ⟨_, rfl⟩
  rw [← e6, ← e5, ← e4, ← e3, ← e2, ← e1] at hx
  have l0 : c0 < 256 := by clear hx hy hz hw e1 e2 e3 e4 e5 e6; omega
  have a1 : x / 256 = t1 := by rw [hx]; exact dv l0
  rw [a1] at hy
  have ey := s8a hx e1 e2 hy
  have l1 : c0 + c1 + 256 * (c1 + c2) < 65536 := by clear hx hy hz hw e1 e2 e3 e4 e5 e6 ey a1; omega
  have a2 : y / 65536 = t2 + t3 := by rw [ey]; exact dv l1
  rw [a2] at hz
  have ez := s8b e2 e3 e4 e5 e6 ey hz
  have l2 : c0 + c1 + c2 + c3 + 256 * (c1 + c2 + c3 + c4) + 65536 * (c2 + c3 + c4 + c5) + 16777216 * (c3 + c4 + c5 + c6) < 4294967296 := by clear hx hy hz hw e1 e2 e3 e4 e5 e6 ey ez a1 a2; omega
  have a3 : z / 4294967296 = t4 + t5 + t6 + c7 := by rw [ez]; exact dv l2
  rw [a3] at hw
  have b6 : t6 ≤ 2056 := by clear hx hy hz hw e1 e2 e3 e4 e5 ey ez a1 a2 a3; omega
  have b5 : t5 ≤ 526344 := by clear hx hy hz hw e1 e2 e3 e4 e6 ey ez a1 a2 a3; omega
  have b4 : t4 ≤ 134744072 := by clear hx hy hz hw e1 e2 e3 e5 e6 ey ez a1 a2 a3; omega
  have hz2 : z < 4294967296 + 4294967296 * 140000000 := by
    rw [ez]
    clear hx hy hz hw e1 e2 e3 e4 e5 e6 ey ez a1 a2 a3
    omega
  have ew : w = (c0 + c1 + c2 + c3 + c4 + c5 + c6 + c7) + 256 * ((c1 + c2 + c3 + c4) + 256 * (c2 + c3 + c4 + c5) + 65536 * (c3 + c4 + c5 + c6) + 16777216 * (t4 + t5 + t6 + c7) + (t5 + t6 + c7)) := by
    rw [hw, ez]
    clear hx hy hz hw e1 e2 e3 ey ez a1 a2 a3 hz2 b4 b5 b6 h0 h1 h2 h3 h4 h5 h6 h7 l0 l1 l2
    omega
  constructor
  · rw [hw]
    clear hx hy hz hw e1 e2 e3 e4 e5 e6 ey ez a1 a2 a3 ew
    omega
  · exact s8c (q := 0) (by clear hx hy hz hw e1 e2 e3 e4 e5 e6 ey ez a1 a2 a3 ew; omega) ew
