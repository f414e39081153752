-- numbers
theorem gdN {α : Type} {k n : Nat} {t : Option α} (h : k < n) (hn : n < 2 ^ 31) : (if nI k < 0 ∨ n ≤ Int32.toNatClampNeg (nI k) then none else t) = t := if_neg (nI_in h hn)
theorem gdX {α : Type} {x : Int32} {k n : Nat} {t : Option α} (hx : x = nI k) (h : k < n) (hn : n < 2 ^ 31) : (if x < 0 ∨ n ≤ Int32.toNatClampNeg x then none else t) = t := by
  subst hx
  exact gdN h hn
theorem ix8 (b k : Nat) : nI b * 8 + nI k = nI (8 * b + k) := by
  rw [show (8 : Int32) = nI 8 from rfl, pk_mul, nI_add, Nat.mul_comm b 8]
theorem ix8' (b k : Nat) : 8 * nI b + nI k = nI (8 * b + k) := by
  rw [show (8 : Int32) = nI 8 from rfl, pk_mul, nI_add]
theorem ix64 (b k : Nat) : 64 * nI b + nI k = nI (64 * b + k) := by
  rw [show (64 : Int32) = nI 64 from rfl, pk_mul, nI_add]
theorem not_neg {n : Nat} (h : n < 2 ^ 31) : ¬ nI n < 0 := nI_pos h
/-- a graph: n blocks, d b ways from b, the k-th ends at e b k -/
def Gr (n : Nat) (d : Nat → Nat) (e : Nat → Nat → Nat) : Prop := 1 ≤ n ∧ n ≤ 64 ∧ (∀ b, d b ≤ 8) ∧ (∀ b, n ≤ b → d b = 0) ∧ ∀ b k, b < n → k < d b → e b k < n
def dsum (d : Nat → Nat) : Nat → Nat
  | 0 => 0
  | n + 1 => dsum d n + d n
def WebB (σ : SB) (n : Nat) (d : Nat → Nat) (e : Nat → Nat → Nat) : Prop := sB_blocks σ = nI n ∧ sB_ways σ = nI (dsum d n) ∧ (∀ b, b < 64 → sB_deg σ b = nI (d b)) ∧ ∀ b k, b < n → k < d b → sB_ends σ (8 * b + k) = nI (e b k)
def WebM (τ : SM) (n : Nat) (d : Nat → Nat) (e : Nat → Nat → Nat) : Prop := sM_blocks τ = nI n ∧ (∀ b, b < 64 → sM_many τ b = nI (d b)) ∧ ∀ b k, b < n → k < d b → sM_ends τ (8 * b + k) = nI (e b k)
theorem hasB_in {σ : SB} {n j : Nat} (h : sB_blocks σ = nI n) (hn : n ≤ 64) (hj : j < n) : f_Web_hasBlock σ (nI j) = 1 := by
  unfold f_Web_hasBlock
  rw [if_neg (nI_pos (by omega)), h, if_neg (nI_ge hj (by omega))]
theorem hasB_out {σ : SB} {n : Nat} {x : Int32} (h : sB_blocks σ = nI n) (hx : x < 0 ∨ nI n ≤ x) : f_Web_hasBlock σ x = 0 := by
  unfold f_Web_hasBlock
  by_cases h1 : x < 0
  · rw [if_pos h1]
  · rw [if_neg h1, h, if_pos (hx.resolve_left h1)]
theorem isB_in {σ : SM} {n j : Nat} (h : sM_blocks σ = nI n) (hn : n ≤ 64) (hj : j < n) : f_Model_isBlock σ (nI j) = 1 := by
  unfold f_Model_isBlock
  rw [if_neg (nI_pos (by omega)), h, if_neg (nI_ge hj (by omega))]
theorem isB_out {σ : SM} {n : Nat} {x : Int32} (h : sM_blocks σ = nI n) (hx : x < 0 ∨ nI n ≤ x) : f_Model_isBlock σ x = 0 := by
  unfold f_Model_isBlock
  by_cases h1 : x < 0
  · rw [if_pos h1]
  · rw [if_neg h1, h, if_pos (hx.resolve_left h1)]
/-- an int is a block's number, or it isn't -/
theorem blk (x : Int32) {n : Nat} (hn : n ≤ 64) : (x < 0 ∨ nI n ≤ x) ∨ ∃ j, j < n ∧ x = nI j := by
  rcases pk_ix x (n := n) (by omega) with h | h | h
  · exact Or.inl (Or.inl h)
  · exact Or.inl (Or.inr h)
  · exact Or.inr h
/-- two ints are a way, or they aren't -/
theorem wayB {σ : SB} {n : Nat} {d : Nat → Nat} {e : Nat → Nat → Nat} (hG : Gr n d e) (hB : WebB σ n d e) (x y : Int32) :
    (f_Web_hasWay σ x y = some 0 ∧ ∀ {τ : SM}, WebM τ n d e → f_Model_isWay τ x y = some 0) ∨ ∃ j k, j < n ∧ k < d j ∧ x = nI j ∧ y = nI k ∧ f_Web_hasWay σ x y = some 1 ∧ ∀ {τ : SM}, WebM τ n d e → f_Model_isWay τ x y = some 1 := by
  obtain ⟨g1, g2, g3, g4, g5⟩ := hG
  obtain ⟨b1, b2, b3, b4⟩ := hB
  rcases blk x g2 with hx | ⟨j, hj, rfl⟩
  · refine Or.inl ⟨?_, fun hM => ?_⟩
    · unfold f_Web_hasWay
      rw [hasB_out b1 hx, if_pos rfl]
    · unfold f_Model_isWay
      rw [isB_out hM.1 hx, if_pos rfl]
  · have h1 : ¬ (1 : Int32) = 0 := by decide
    have hdj := g3 j
    by_cases hy : y < 0
    · refine Or.inl ⟨?_, fun hM => ?_⟩
      · unfold f_Web_hasWay
        rw [hasB_in b1 g2 hj, if_neg h1, if_pos hy]
      · unfold f_Model_isWay
        rw [isB_in hM.1 g2 hj, if_neg h1, if_pos hy]
    · by_cases hy2 : nI (d j) ≤ y
      · refine Or.inl ⟨?_, fun hM => ?_⟩
        · unfold f_Web_hasWay
          rw [hasB_in b1 g2 hj, if_neg h1, if_neg hy, gdN (by omega) (by decide), nI_clamp (by omega), b3 j (by omega), if_pos hy2]
        · unfold f_Model_isWay
          rw [isB_in hM.1 g2 hj, if_neg h1, if_neg hy, gdN (by omega) (by decide), nI_clamp (by omega), hM.2.1 j (by omega), if_pos hy2]
      · rcases pk_ix y (n := d j) (by omega) with h | h | ⟨k, hk, rfl⟩
        · exact absurd h hy
        · exact absurd h hy2
        · refine Or.inr ⟨j, k, hj, hk, rfl, rfl, ?_, fun hM => ?_⟩
          · unfold f_Web_hasWay
            rw [hasB_in b1 g2 hj, if_neg h1, if_neg hy, gdN (by omega) (by decide), nI_clamp (by omega), b3 j (by omega), if_neg hy2]
          · unfold f_Model_isWay
            rw [isB_in hM.1 g2 hj, if_neg h1, if_neg hy, gdN (by omega) (by decide), nI_clamp (by omega), hM.2.1 j (by omega), if_neg hy2]
theorem endOf_in {σ : SB} {n : Nat} {d : Nat → Nat} {e : Nat → Nat → Nat} (hG : Gr n d e) (hB : WebB σ n d e) {j k : Nat} (hj : j < n) (hk : k < d j) : f_Web_endOf σ (nI j) (nI k) = some (nI (e j k)) := by
  obtain ⟨g1, g2, g3, g4, g5⟩ := hG
  have hdj := g3 j
  unfold f_Web_endOf
  rw [ix8, gdN (by omega) (by decide), nI_clamp (by omega), hB.2.2.2 j k hj hk]
/-- class and reference, with what they have reckoned (GB, GM) -/
def RelG (GB : SB → Nat → (Nat → Nat) → (Nat → Nat → Nat) → Prop) (GM : SM → Nat → (Nat → Nat) → (Nat → Nat → Nat) → Prop) (σ : SB) (τ : SM) : Prop :=
  ∃ (n : Nat) (d : Nat → Nat) (e : Nat → Nat → Nat), Gr n d e ∧ WebB σ n d e ∧ WebM τ n d e ∧ ((sB_stale σ = 1 ∧ sM_isDone τ = 0) ∨ (sB_stale σ = 0 ∧ sM_isDone τ = 1 ∧ GB σ n d e ∧ GM τ n d e))
theorem RelG.thrown {GB : SB → Nat → (Nat → Nat) → (Nat → Nat → Nat) → Prop} {GM : SM → Nat → (Nat → Nat) → (Nat → Nat → Nat) → Prop} (hGM : ∀ τ v n d e, GM τ n d e → GM (uM_thrown τ v) n d e) {σ : SB} {τ : SM} (h : RelG GB GM σ τ) (v : Int32) : RelG GB GM σ (uM_thrown τ v) := by
  obtain ⟨n, d, e, h1, h2, h3, h4⟩ := h
  refine ⟨n, d, e, h1, h2, h3, ?_⟩
  rcases h4 with h4 | ⟨h5, h6, h7, h8⟩
  · exact Or.inl h4
  · exact Or.inr ⟨h5, h6, h7, hGM _ _ _ _ _ h8⟩
theorem p_end {GB : SB → Nat → (Nat → Nat) → (Nat → Nat → Nat) → Prop} {GM : SM → Nat → (Nat → Nat) → (Nat → Nat → Nat) → Prop} (hGM : ∀ τ v n d e, GM τ n d e → GM (uM_thrown τ v) n d e) {σ : SB} {τ : SM} (h : RelG GB GM σ τ) (x y : Int32) :
    ∃ (r : Int32) (τ' : SM), f_BlockRuler_end σ x y = some r ∧ f_Model_end τ x y = some (r, τ') ∧ RelG GB GM σ τ' := by
  have h' := h.thrown hGM 0
  obtain ⟨n, d, e, hG, hB, hM, -⟩ := h
  have hM' : WebM (uM_thrown τ 0) n d e := hM
  rcases wayB hG hB x y with ⟨w1, w2⟩ | ⟨j, k, hj, hk, rfl, rfl, w1, w2⟩
  · refine ⟨-1, _, ?_, ?_, h'⟩
    · unfold f_BlockRuler_end
      rw [w1]
      rfl
    · unfold f_Model_end
      rw [w2 hM']
      rfl
  · have hdj := hG.2.2.1 j
    have hn := hG.2.1
    refine ⟨nI (e j k), _, ?_, ?_, h'⟩
    · unfold f_BlockRuler_end
      rw [w1, Option.bind_some, if_neg (by decide), endOf_in hG hB hj hk]
      rfl
    · unfold f_Model_end
      rw [w2 hM', Option.bind_some, if_neg (by decide), ix8', gdN (by omega) (by decide), nI_clamp (by omega), hM.2.2 j k hj hk]
