theorem nI_mod32 (w : Nat) : nI w = nI (w % 2 ^ 32) := by
  apply Int32.toBitVec_inj.mp
  show BitVec.ofNat 32 w = BitVec.ofNat 32 (w % 2 ^ 32)
  apply BitVec.eq_of_toNat_eq
  simp
theorem nI_127 (w : Nat) : nI w &&& nI 127 = nI (w % 128) := by
  rw [nI_mod32 w]
  have h := pk_andN (n := w % 2 ^ 32) (Nat.mod_lt _ (by decide)) (m := nI 127) 7 (by decide)
  rw [h]
  congr 1
  omega

theorem rep85 : rep 85 8 = 6148914691236517205 := by decide
theorem rep51 : rep 51 8 = 3689348814741910323 := by decide
theorem rep15 : rep 15 8 = 1085102592571150095 := by decide
theorem wb_add {a b : Nat} : lN a + lN b = lN (a + b) := lN_add a b
theorem wb_sub {a b : Nat} (h : b ≤ a) : lN a - lN b = lN (a - b) := lN_sub h
theorem jushr_lN {n k : Nat} (hn : n < 2 ^ 64) (hk : k < 64) : jushr (lN n) (nI k) = lN (n / 2 ^ k) := wb_shr hn hk
theorem q1_le (k n : Nat) : q1 k n ≤ n := Nat.sub_le _ _
/-- Long.bitCount counts bits -/
theorem bitCount_lN {n : Nat} (hn : n < 2 ^ 64) : f_Long_bitCount (lN n) = nI (pcn 64 n) := by
  have hn8 : n < 256 ^ 8 := by
    have e : (256 : Nat) ^ 8 = 2 ^ 64 := by decide
    rw [e]; exact hn
  unfold f_Long_bitCount
  simp only [Lt]
  have e1 : lN n - (jushr (lN n) 1 &&& 6148914691236517205) = lN (q1 8 n) := by
    have a1 : jushr (lN n) 1 = lN (n / 2) := jushr_lN (k := 1) hn (by decide)
    have a2 : (6148914691236517205 : Int64) = lN (rep 85 8) := by rw [rep85]; rfl
    rw [a1, a2, wb_and (by omega) (by rw [rep85]; decide), wb_sub]
    · rfl
    · exact Nat.le_trans Nat.and_le_left (Nat.div_le_self _ _)
  rw [e1]
  have b1 : q1 8 n < 2 ^ 64 := Nat.lt_of_le_of_lt (q1_le 8 n) hn
  have e2 : (lN (q1 8 n) &&& 3689348814741910323) + (jushr (lN (q1 8 n)) 2 &&& 3689348814741910323) = lN (q2 8 (q1 8 n)) := by
    have a1 : jushr (lN (q1 8 n)) 2 = lN (q1 8 n / 4) := jushr_lN (k := 2) b1 (by decide)
    have a2 : (3689348814741910323 : Int64) = lN (rep 51 8) := by rw [rep51]; rfl
    rw [a1, a2, wb_and b1 (by rw [rep51]; decide), wb_and (by omega) (by rw [rep51]; decide), wb_add]
    rfl
  rw [e2]
  have b2 : q2 8 (q1 8 n) < 2 ^ 63 := by
    unfold q2
    have c1 : q1 8 n &&& rep 51 8 ≤ rep 51 8 := Nat.and_le_right
    have c2 : q1 8 n / 4 &&& rep 51 8 ≤ rep 51 8 := Nat.and_le_right
    rw [rep51] at *
    omega
  have e3 : (lN (q2 8 (q1 8 n)) + jushr (lN (q2 8 (q1 8 n))) 4) &&& 1085102592571150095 = lN (q3 8 (q2 8 (q1 8 n))) := by
    have a1 : jushr (lN (q2 8 (q1 8 n))) 4 = lN (q2 8 (q1 8 n) / 16) := jushr_lN (k := 4) (by omega) (by decide)
    have a2 : (1085102592571150095 : Int64) = lN (rep 15 8) := by rw [rep15]; rfl
    rw [a1, a2, wb_add, wb_and (by omega) (by rw [rep15]; decide)]
    rfl
  rw [e3, q_all 8 n hn8]
  obtain ⟨x, hx⟩ : ∃ x, x = bys 8 n := ⟨_, rfl⟩
  rw [← hx]
  have hx8 : x = pcn 8 n + 256 * (pcn 8 (n / 256) + 256 * (pcn 8 (n / 256 / 256) + 256 * (pcn 8 (n / 256 / 256 / 256) + 256 * (pcn 8 (n / 256 / 256 / 256 / 256) + 256 * (pcn 8 (n / 256 / 256 / 256 / 256 / 256) + 256 * (pcn 8 (n / 256 / 256 / 256 / 256 / 256 / 256) + 256 * pcn 8 (n / 256 / 256 / 256 / 256 / 256 / 256 / 256))))))) := by
    rw [hx]
    simp only [bys]
    omega
  obtain ⟨y, hy⟩ : ∃ y, y = x + x / 256 := ⟨_, rfl⟩
  obtain ⟨z, hz⟩ : ∃ z, z = y + y / 65536 := ⟨_, rfl⟩
  obtain ⟨w, hw⟩ : ∃ w, w = z + z / 4294967296 := ⟨_, rfl⟩
  obtain ⟨s1, s2⟩ := sum8 (pcn_le 8 _) (pcn_le 8 _) (pcn_le 8 _) (pcn_le 8 _) (pcn_le 8 _) (pcn_le 8 _) (pcn_le 8 _) (pcn_le 8 _) hx8 hy hz hw
  have hzw : z ≤ w := by rw [hw]; exact Nat.le_add_right _ _
  have hyz : y ≤ z := by rw [hz]; exact Nat.le_add_right _ _
  have hxy : x ≤ y := by rw [hy]; exact Nat.le_add_right _ _
  have hz64 : z < 2 ^ 64 := Nat.lt_of_le_of_lt hzw s1
  have hy64 : y < 2 ^ 64 := Nat.lt_of_le_of_lt hyz hz64
  have hx64 : x < 2 ^ 64 := Nat.lt_of_le_of_lt hxy hy64
  have e4 : lN x + jushr (lN x) 8 = lN y := by
    have a : jushr (lN x) 8 = lN (x / 256) := jushr_lN (k := 8) hx64 (by decide)
    rw [a, wb_add, hy]
  have e5 : lN y + jushr (lN y) 16 = lN z := by
    have a : jushr (lN y) 16 = lN (y / 65536) := jushr_lN (k := 16) hy64 (by decide)
    rw [a, wb_add, hz]
  have e6 : lN z + jushr (lN z) 32 = lN w := by
    have a : jushr (lN z) 32 = lN (z / 4294967296) := jushr_lN (k := 32) hz64 (by decide)
    rw [a, wb_add, hw]
  rw [e4, e5, e6, lN_i]
  have e7 : pcn 64 n = pcn 8 n + pcn 8 (n / 256) + pcn 8 (n / 256 / 256) + pcn 8 (n / 256 / 256 / 256) + pcn 8 (n / 256 / 256 / 256 / 256) + pcn 8 (n / 256 / 256 / 256 / 256 / 256) + pcn 8 (n / 256 / 256 / 256 / 256 / 256 / 256) + pcn 8 (n / 256 / 256 / 256 / 256 / 256 / 256 / 256) := by
    have h8 : ∀ k m, pcn (8 + k) m = pcn 8 m + pcn k (m / 256) := fun k m => pcn_add 8 k m
    rw [show 64 = 8 + (8 + (8 + (8 + (8 + (8 + (8 + 8)))))) from rfl, h8, h8, h8, h8, h8, h8, h8]
    simp only [Nat.add_assoc]
  rw [e7, ← s2]
  exact nI_127 w
