def upN (f : Nat → Nat) (k v : Nat) : Nat → Nat := fun x => if x = k then v else f x
theorem upN_s {f : Nat → Nat} {k v : Nat} : upN f k v k = v := if_pos rfl
theorem upN_n {f : Nat → Nat} {k v x : Nat} (h : ¬ x = k) : upN f k v x = f x := if_neg h
def upE (e : Nat → Nat → Nat) (a i v : Nat) : Nat → Nat → Nat := fun x y => if x = a ∧ y = i then v else e x y
theorem upE_s {e : Nat → Nat → Nat} {a i v : Nat} : upE e a i v a i = v := if_pos ⟨rfl, rfl⟩
theorem upE_n {e : Nat → Nat → Nat} {a i v x y : Nat} (h : ¬ (x = a ∧ y = i)) : upE e a i v x y = e x y := if_neg h
/-- a counted loop -/
theorem loopN {St R : Type} {lp : Nat → St → Int32 → Option R} {N : Nat} {Inv : Nat → St → Prop} {done : St → R}
    (hend : ∀ f s, Inv N s → lp (f + 1) s (nI N) = some (done s))
    (hstep : ∀ f j s, j < N → Inv j s → ∃ s', lp (f + 1) s (nI j) = lp f s' (nI (j + 1)) ∧ Inv (j + 1) s') :
    ∀ k f j s, j + k = N → k < f → Inv j s → ∃ s', lp f s (nI j) = some (done s') ∧ Inv N s'
  | 0, f, j, s, hj, hf, hI => by
    obtain ⟨g, rfl⟩ : ∃ g, f = g + 1 := ⟨f - 1, by omega⟩
    have e : j = N := by omega
    subst e
    exact ⟨s, hend g s hI, hI⟩
  | k + 1, f, j, s, hj, hf, hI => by
    obtain ⟨g, rfl⟩ : ∃ g, f = g + 1 := ⟨f - 1, by omega⟩
    obtain ⟨s', h1, h2⟩ := hstep g j s (by omega) hI
    obtain ⟨s2, h3, h4⟩ := loopN hend hstep k g (j + 1) s' (by omega) (by omega) h2
    exact ⟨s2, h1.trans h3, h4⟩
theorem nI_p1m1 (n : Nat) : nI n + 1 - 1 = nI n := by rw [nI_1, nI_pred]
theorem Lt_eq {α β : Type} (e : α) (f : α → β) : Lt e f = f e := rfl
theorem gdK {α : Type} {k n : Nat} {t : Option α} (h : k < n) (hk : k < 2 ^ 31) : (if nI k < 0 ∨ n ≤ k then none else t) = t := if_neg (fun q => q.elim (nI_pos hk) (Nat.not_le.mpr h))
section WO
variable {GB : SB → Nat → (Nat → Nat) → (Nat → Nat → Nat) → Prop} {GM : SM → Nat → (Nat → Nat) → (Nat → Nat → Nat) → Prop}
theorem p_block (hGM : ∀ τ v n d e, GM τ n d e → GM (uM_thrown τ v) n d e) {σ : SB} {τ : SM} (h : RelG GB GM σ τ) :
    ∃ (r : Int32) (τ' : SM), f_Model_block τ = some (r, τ') ∧ ((∃ σ' : SB, f_BlockRuler_block σ = some (Sum.inr r, σ') ∧ sM_thrown τ' = 0 ∧ RelG GB GM σ' τ') ∨ (∃ σ' : SB, f_BlockRuler_block σ = some (Sum.inl 0, σ') ∧ sM_thrown τ' = 1 ∧ RelG GB GM σ' τ')) := by
  have h1 := h.thrown hGM 1
  obtain ⟨n, d, e, hG, hB, hM, -⟩ := h
  obtain ⟨g1, g2, g3, g4, g5⟩ := hG
  obtain ⟨b1, b2, b3, b4⟩ := hB
  obtain ⟨m1, m2, m3⟩ := hM
  by_cases hn : n = 64
  · subst hn
    refine ⟨0, uM_thrown τ 1, ?_, Or.inr ⟨σ, ?_, rfl, h1⟩⟩
    · unfold f_Model_block
      rw [m1, if_pos (show nI 64 = 64 from rfl), if_neg (by decide)]
    · unfold f_BlockRuler_block
      rw [b1, if_neg (by decide)]
  · have hlt : n < 64 := by omega
    have hne : ¬ nI n = 64 := fun q => hn ((nI_eq (a := n) (b := 64) (by omega) (by decide)).mp q)
    refine ⟨nI n, uM_blocks (uM_many (uM_isDone (uM_thrown τ 0) 0) (upd (sM_many τ) n 0)) (nI n + 1), ?_, Or.inl ⟨uB_blocks (uB_stale σ 1) (nI n + 1), ?_, rfl, n + 1, d, e, ⟨by omega, by omega, g3, fun b hb => g4 b (by omega), fun b k hb hk => ?_⟩, ⟨?_, ?_, b3, fun b k hb hk => ?_⟩, ⟨?_, fun b hb => ?_, fun b k hb hk => ?_⟩, Or.inl ⟨rfl, rfl⟩⟩⟩
    · unfold f_Model_block
      rw [m1, if_neg hne, if_pos (by decide), gdN hlt (by decide), nI_clamp (by omega), nI_p1m1]
    · unfold f_BlockRuler_block f_Web_addBlock
      have e1 : sB_blocks (uB_stale σ 1) = nI n := b1
      rw [e1, b1, if_pos (show nI n < 64 from nI_lt (b := 64) hlt (by decide))]
    · by_cases hbn : b < n
      · have := g5 b k hbn hk; omega
      · rw [g4 b (by omega)] at hk; omega
    · exact nI_1 n
    · show sB_ways σ = _
      rw [b2]
      show _ = nI (dsum d n + d n)
      rw [g4 n (Nat.le_refl n), Nat.add_zero]
    · by_cases hbn : b < n
      · exact b4 b k hbn hk
      · rw [g4 b (by omega)] at hk; omega
    · exact nI_1 n
    · show upd (sM_many τ) n 0 b = _
      by_cases hbn : b = n
      · subst hbn
        rw [pk_us, g4 b (Nat.le_refl b)]
        rfl
      · rw [pk_un hbn]; exact m2 b hb
    · by_cases hbn : b < n
      · exact m3 b k hbn hk
      · rw [g4 b (by omega)] at hk; omega
theorem ix_inj {b k j i : Nat} (hk : k < 8) (hi : i < 8) (h : 8 * b + k = 8 * j + i) : b = j ∧ k = i := by omega
theorem p_turn (hGM : ∀ τ v n d e, GM τ n d e → GM (uM_thrown τ v) n d e) {σ : SB} {τ : SM} (h : RelG GB GM σ τ) (x y z : Int32) :
    ∃ (r : Int32) (τ' : SM), f_Model_turn τ x y z = some (r, τ') ∧ ((∃ σ' : SB, f_BlockRuler_turn σ x y z = some (Sum.inr r, σ') ∧ sM_thrown τ' = 0 ∧ RelG GB GM σ' τ') ∨ (∃ σ' : SB, f_BlockRuler_turn σ x y z = some (Sum.inl 2, σ') ∧ sM_thrown τ' = 1 ∧ RelG GB GM σ' τ') ∨ (∃ σ' : SB, f_BlockRuler_turn σ x y z = some (Sum.inl 1, σ') ∧ sM_thrown τ' = 2 ∧ RelG GB GM σ' τ')) := by
  have h1 := h.thrown hGM 1
  have h2 := h.thrown hGM 2
  obtain ⟨n, d, e, hG, hB, hM, -⟩ := h
  rcases wayB hG hB x y with ⟨w1, w2⟩ | ⟨j, k, hj, hk, rfl, rfl, w1, w2⟩
  · refine ⟨0, uM_thrown τ 1, ?_, Or.inr (Or.inl ⟨σ, ?_, rfl, h1⟩)⟩
    · unfold f_Model_turn
      rw [w2 hM, Option.bind_some, if_pos rfl, if_neg (by decide)]
    · unfold f_BlockRuler_turn
      rw [w1, Option.bind_some, if_pos rfl]
  · obtain ⟨g1, g2, g3, g4, g5⟩ := id hG
    have hdj := g3 j
    rcases blk z g2 with hz | ⟨t, ht, rfl⟩
    · refine ⟨0, uM_thrown τ 2, ?_, Or.inr (Or.inr ⟨σ, ?_, rfl, h2⟩)⟩
      · unfold f_Model_turn
        rw [w2 hM, Option.bind_some, if_neg (by decide), isB_out hM.1 hz, if_pos rfl, if_neg (by decide)]
      · unfold f_BlockRuler_turn
        rw [w1, Option.bind_some, if_neg (by decide), hasB_out hB.1 hz, if_pos rfl]
    · refine ⟨nI (e j k), uM_ends (uM_isDone (uM_thrown τ 0) 0) (upd (sM_ends τ) (8 * j + k) (nI t)), ?_, Or.inl ⟨uB_ends (uB_stale σ 1) (upd (sB_ends σ) (8 * j + k) (nI t)), ?_, rfl, n, d, upE e j k t, ⟨g1, g2, g3, g4, fun b i hb hi => ?_⟩, ⟨hB.1, hB.2.1, hB.2.2.1, fun b i hb hi => ?_⟩, ⟨hM.1, hM.2.1, fun b i hb hi => ?_⟩, Or.inl ⟨rfl, rfl⟩⟩⟩
      · unfold f_Model_turn
        rw [w2 hM, Option.bind_some, if_neg (by decide), isB_in hM.1 g2 ht, if_neg (by decide), if_pos (by decide), ix8', gdN (by omega) (by decide), nI_clamp (by omega), hM.2.2 j k hj hk]
        rfl
      · unfold f_BlockRuler_turn f_Web_moveWay
        have hB' : WebB (uB_stale σ 1) n d e := hB
        rw [w1, Option.bind_some, if_neg (by decide), hasB_in hB.1 g2 ht, if_neg (by decide), endOf_in hG hB' hj hk, Option.bind_some, ix8, gdN (by omega) (by decide), nI_clamp (by omega)]
        rfl
      · by_cases hc : b = j ∧ i = k
        · rw [hc.1, hc.2, upE_s]; exact ht
        · rw [upE_n hc]; exact g5 b i hb hi
      · show upd (sB_ends σ) (8 * j + k) (nI t) (8 * b + i) = _
        by_cases hc : b = j ∧ i = k
        · obtain ⟨rfl, rfl⟩ := hc
          rw [pk_us, upE_s]
        · have hdb := g3 b
          rw [pk_un (fun q => hc (ix_inj (by omega) (by omega) q)), upE_n hc]
          exact hB.2.2.2 b i hb hi
      · show upd (sM_ends τ) (8 * j + k) (nI t) (8 * b + i) = _
        by_cases hc : b = j ∧ i = k
        · obtain ⟨rfl, rfl⟩ := hc
          rw [pk_us, upE_s]
        · have hdb := g3 b
          rw [pk_un (fun q => hc (ix_inj (by omega) (by omega) q)), upE_n hc]
          exact hM.2.2 b i hb hi
theorem dsum_upd (d : Nat → Nat) (j v : Nat) : ∀ n, dsum (upN d j v) n + (if j < n then d j else 0) = dsum d n + (if j < n then v else 0)
  | 0 => rfl
  | n + 1 => by
    have ih := dsum_upd d j v n
    show dsum (upN d j v) n + (if n = j then v else d n) + _ = dsum d n + d n + _
    by_cases h : n = j
    · subst h
      rw [if_neg (Nat.lt_irrefl n), if_neg (Nat.lt_irrefl n)] at ih
      rw [if_pos rfl, if_pos (Nat.lt_succ_self n), if_pos (Nat.lt_succ_self n)]
      omega
    · rw [if_neg h]
      by_cases h2 : j < n
      · rw [if_pos h2, if_pos h2] at ih
        rw [if_pos (by omega), if_pos (by omega)]
        omega
      · rw [if_neg h2, if_neg h2] at ih
        rw [if_neg (by omega), if_neg (by omega)]
        omega
theorem dsum_le {d : Nat → Nat} {c : Nat} (h : ∀ b, d b ≤ c) : ∀ n, dsum d n ≤ c * n
  | 0 => Nat.zero_le _
  | n + 1 => by
    have h1 := dsum_le h n
    have h2 := h n
    show dsum d n + d n ≤ c * (n + 1)
    rw [Nat.mul_succ]
    omega
theorem p_way (hGM : ∀ τ v n d e, GM τ n d e → GM (uM_thrown τ v) n d e) {σ : SB} {τ : SM} (h : RelG GB GM σ τ) (x y : Int32) :
    ∃ (r : Int32) (τ' : SM), f_Model_way τ x y = some (r, τ') ∧ ((∃ σ' : SB, f_BlockRuler_way σ x y = some (Sum.inr r, σ') ∧ sM_thrown τ' = 0 ∧ RelG GB GM σ' τ') ∨ (∃ σ' : SB, f_BlockRuler_way σ x y = some (Sum.inl 1, σ') ∧ sM_thrown τ' = 1 ∧ RelG GB GM σ' τ') ∨ (∃ σ' : SB, f_BlockRuler_way σ x y = some (Sum.inl 0, σ') ∧ sM_thrown τ' = 2 ∧ RelG GB GM σ' τ')) := by
  have h1 := h.thrown hGM 1
  have h2 := h.thrown hGM 2
  obtain ⟨n, d, e, hG, hB, hM, -⟩ := h
  obtain ⟨g1, g2, g3, g4, g5⟩ := id hG
  obtain ⟨b1, b2, b3, b4⟩ := id hB
  obtain ⟨m1, m2, m3⟩ := id hM
  rcases blk x g2 with hx | ⟨j, hj, rfl⟩
  · refine ⟨0, uM_thrown τ 1, ?_, Or.inr (Or.inl ⟨σ, ?_, rfl, h1⟩)⟩
    · unfold f_Model_way
      rw [isB_out m1 hx, if_pos rfl, if_neg (by decide)]
    · unfold f_BlockRuler_way
      rw [hasB_out b1 hx, if_pos rfl]
  rcases blk y g2 with hy | ⟨t, ht, rfl⟩
  · refine ⟨0, uM_thrown τ 1, ?_, Or.inr (Or.inl ⟨σ, ?_, rfl, h1⟩)⟩
    · unfold f_Model_way
      rw [isB_in m1 g2 hj, if_neg (by decide), isB_out m1 hy, if_pos rfl, if_neg (by decide)]
    · unfold f_BlockRuler_way
      rw [hasB_in b1 g2 hj, if_neg (by decide), hasB_out b1 hy, if_pos rfl]
  have hdj := g3 j
  by_cases h8 : d j = 8
  · refine ⟨0, uM_thrown τ 2, ?_, Or.inr (Or.inr ⟨σ, ?_, rfl, h2⟩)⟩
    · unfold f_Model_way
      rw [isB_in m1 g2 hj, if_neg (by decide), isB_in m1 g2 ht, if_neg (by decide), gdN (by omega) (by decide), nI_clamp (by omega), m2 j (by omega), h8, if_pos (show nI 8 = 8 from rfl), if_neg (by decide)]
    · unfold f_BlockRuler_way
      rw [hasB_in b1 g2 hj, if_neg (by decide), hasB_in b1 g2 ht, if_neg (by decide), gdN (by omega) (by decide), nI_clamp (by omega), b3 j (by omega), h8, if_neg (by decide)]
  · have h8' : ¬ nI (d j) = 8 := fun q => h8 ((nI_eq (a := d j) (b := 8) (by omega) (by decide)).mp q)
    have h8l : nI (d j) < 8 := nI_lt (b := 8) (by omega) (by decide)
    refine ⟨nI (d j), uM_many (uM_ends (uM_isDone (uM_thrown τ 0) 0) (upd (sM_ends τ) (8 * j + d j) (nI t))) (upd (sM_many τ) j (nI (d j) + 1)), ?_, Or.inl ⟨uB_ways (uB_deg (uB_ends (uB_stale σ 1) (upd (sB_ends σ) (8 * j + d j) (nI t))) (upd (sB_deg σ) j (nI (d j) + 1))) (sB_ways σ + 1), ?_, rfl, n, upN d j (d j + 1), upE e j (d j) t, ⟨g1, g2, fun b => ?_, fun b hb => ?_, fun b i hb hi => ?_⟩, ⟨b1, ?_, fun b hb => ?_, fun b i hb hi => ?_⟩, ⟨m1, fun b hb => ?_, fun b i hb hi => ?_⟩, Or.inl ⟨rfl, rfl⟩⟩⟩
    · unfold f_Model_way
      rw [isB_in m1 g2 hj, if_neg (by decide), isB_in m1 g2 ht, if_neg (by decide), gdN (by omega) (by decide), nI_clamp (by omega), m2 j (by omega), if_neg h8', if_pos (by decide), ix8', gdN (by omega) (by decide), nI_clamp (by omega), pk_us, nI_p1m1]
    · unfold f_BlockRuler_way f_Web_addWay
      have e1 : sB_deg (uB_stale σ 1) j = nI (d j) := b3 j (by omega)
      rw [hasB_in b1 g2 hj, if_neg (by decide), hasB_in b1 g2 ht, if_neg (by decide), gdN (by omega) (by decide), nI_clamp (by omega), b3 j (by omega), if_pos h8l, gdK (by omega) (by omega), e1]
      rw [Lt_eq, ix8, gdN (by omega) (by decide), nI_clamp (by omega)]
      rfl
    · by_cases hc : b = j
      · rw [hc, upN_s]; omega
      · rw [upN_n hc]; exact g3 b
    · rw [upN_n (by omega)]; exact g4 b hb
    · by_cases hc : b = j ∧ i = d j
      · rw [hc.1, hc.2, upE_s]; exact ht
      · rw [upE_n hc]
        refine g5 b i hb ?_
        by_cases hcb : b = j
        · subst hcb
          rw [upN_s] at hi
          have := hc
          omega
        · rw [upN_n hcb] at hi; exact hi
    · show sB_ways σ + 1 = _
      have hs := dsum_upd d j (d j + 1) n
      rw [if_pos hj, if_pos hj] at hs
      rw [b2, nI_1]
      congr 1
      omega
    · show upd (sB_deg σ) j (nI (d j) + 1) b = _
      by_cases hc : b = j
      · rw [hc, pk_us, upN_s, nI_1]
      · rw [pk_un hc, upN_n hc]; exact b3 b hb
    · show upd (sB_ends σ) (8 * j + d j) (nI t) (8 * b + i) = _
      have hib : i < 8 := by
        by_cases hcb : b = j
        · subst hcb
          rw [upN_s] at hi
          omega
        · rw [upN_n hcb] at hi
          have := g3 b
          omega
      by_cases hc : b = j ∧ i = d j
      · rw [hc.1, hc.2, pk_us, upE_s]
      · rw [pk_un (fun q => hc (ix_inj hib (by omega) q)), upE_n hc]
        refine b4 b i hb ?_
        by_cases hcb : b = j
        · subst hcb
          rw [upN_s] at hi
          have := hc
          omega
        · rw [upN_n hcb] at hi; exact hi
    · show upd (sM_many τ) j (nI (d j) + 1) b = _
      by_cases hc : b = j
      · rw [hc, pk_us, upN_s, nI_1]
      · rw [pk_un hc, upN_n hc]; exact m2 b hb
    · show upd (sM_ends τ) (8 * j + d j) (nI t) (8 * b + i) = _
      have hib : i < 8 := by
        by_cases hcb : b = j
        · subst hcb
          rw [upN_s] at hi
          omega
        · rw [upN_n hcb] at hi
          have := g3 b
          omega
      by_cases hc : b = j ∧ i = d j
      · rw [hc.1, hc.2, pk_us, upE_s]
      · rw [pk_un (fun q => hc (ix_inj hib (by omega) q)), upE_n hc]
        refine m3 b i hb ?_
        by_cases hcb : b = j
        · subst hcb
          rw [upN_s] at hi
          have := hc
          omega
        · rw [upN_n hcb] at hi; exact hi
/-- the ways behind move up by one, as far as j -/
def shE (e : Nat → Nat → Nat) (a k j : Nat) : Nat → Nat → Nat := fun x i => if x = a ∧ k ≤ i ∧ i < j then e x (i + 1) else e x i
theorem shE_s {e : Nat → Nat → Nat} {a k j x i : Nat} (h : x = a ∧ k ≤ i ∧ i < j) : shE e a k j x i = e x (i + 1) := if_pos h
theorem shE_n {e : Nat → Nat → Nat} {a k j x i : Nat} (h : ¬ (x = a ∧ k ≤ i ∧ i < j)) : shE e a k j x i = e x i := if_neg h
theorem shE_0 {e : Nat → Nat → Nat} {a k x i : Nat} : shE e a k k x i = e x i := shE_n (by omega)
theorem shE_next {f : Nat → Int32} {n : Nat} {d : Nat → Nat} {e : Nat → Nat → Nat} {a k j : Nat} (hG : Gr n d e) (ha : a < n) (hk : k ≤ j) (hj : j + 1 < d a) (h : ∀ b i, b < n → i < d b → f (8 * b + i) = nI (shE e a k j b i)) :
    ∀ b i, b < n → i < d b → upd f (8 * a + j) (f (8 * a + (j + 1))) (8 * b + i) = nI (shE e a k (j + 1) b i) := by
  intro b i hb hi
  have hda := hG.2.2.1 a
  have hdb := hG.2.2.1 b
  by_cases hc : b = a ∧ i = j
  · obtain ⟨rfl, rfl⟩ := hc
    rw [pk_us, h b (i + 1) hb (by omega), shE_n (by omega), shE_s (by omega)]
  · rw [pk_un (fun q => hc (ix_inj (by omega) (by omega) q)), h b i hb hi]
    by_cases h1 : b = a ∧ k ≤ i ∧ i < j
    · rw [shE_s h1, shE_s (by omega)]
    · rw [shE_n h1, shE_n (by omega)]
theorem removeWay_ok {σ : SB} {n : Nat} {d : Nat → Nat} {e : Nat → Nat → Nat} (hG : Gr n d e) (hB : WebB σ n d e) {a k : Nat} (ha : a < n) (hk : k < d a) :
    ∃ σ', f_Web_removeWay σ (nI a) (nI k) = some (nI (e a k), σ') ∧ sB_stale σ' = sB_stale σ ∧ WebB σ' n (upN d a (d a - 1)) (shE e a k (d a - 1)) := by
  have hda := hG.2.2.1 a
  have hn := hG.2.1
  refine Exists.elim (loopN (lp := fun f s i => lp_Web_removeWay_18 f s (nI a) (nI (e a k)) (nI a * 8) i) (N := d a)
    (Inv := fun j s => k + 1 ≤ j ∧ sB_stale s = sB_stale σ ∧ sB_blocks s = nI n ∧ sB_ways s = nI (dsum d n) ∧ (∀ b, b < 64 → sB_deg s b = nI (d b)) ∧ ∀ b i, b < n → i < d b → sB_ends s (8 * b + i) = nI (shE e a k (j - 1) b i))
    (done := fun s => (nI (d a), s)) (fun f s hI => ?_) (fun f j s hj hI => ?_) (d a - (k + 1)) 100 (k + 1) σ (by omega) (by omega) ⟨by omega, rfl, hB.1, hB.2.1, hB.2.2.1, fun b i hb hi => by rw [Nat.add_sub_cancel, shE_0]; exact hB.2.2.2 b i hb hi⟩) (fun s' hs' => ?_)
  · show lp_Web_removeWay_18 (f + 1) s (nI a) (nI (e a k)) (nI a * 8) (nI (d a)) = _
    rw [lp_Web_removeWay_18_s, gdN (by omega) (by decide), nI_clamp (by omega), hI.2.2.2.2.1 a (by omega), if_pos (nI_le (Nat.le_refl _) (by omega))]
  · obtain ⟨h1, h2, h3, h4, h5, h6⟩ := hI
    obtain ⟨i, rfl⟩ : ∃ i, j = i + 1 := ⟨j - 1, by omega⟩
    have e2 : nI (8 * a + (i + 1)) - 1 = nI (8 * a + i) := pk_sub (b := 1) (by omega)
    refine ⟨uB_ends s (upd (sB_ends s) (8 * a + i) (sB_ends s (8 * a + (i + 1)))), ?_, by omega, h2, h3, h4, h5, ?_⟩
    · show lp_Web_removeWay_18 (f + 1) s (nI a) (nI (e a k)) (nI a * 8) (nI (i + 1)) = _
      rw [lp_Web_removeWay_18_s, gdN (by omega) (by decide), nI_clamp (by omega), h5 a (by omega), if_neg (nI_ge hj (by omega)), ix8, gdN (by omega) (by decide), e2, gdN (by omega) (by decide), nI_clamp (by omega), nI_clamp (by omega), nI_1]
    · rw [Nat.add_sub_cancel] at h6 ⊢
      exact shE_next hG ha (by omega) (by omega) h6
  · obtain ⟨h1, h2⟩ := hs'
    refine ⟨uB_ways (uB_deg s' (upd (sB_deg s') a (nI (d a - 1)))) (nI (dsum d n - 1)), ?_, h2.2.1, h2.2.2.1, ?_, fun b hb => ?_, fun b i hb hi => ?_⟩
    · unfold f_Web_removeWay
      have h1' : lp_Web_removeWay_18 100 σ (nI a) (nI (e a k)) (nI a * 8) (nI k + 1) = some (nI (d a), s') := by
        rw [nI_1]; exact h1
      have e2 : nI (d a) - 1 = nI (d a - 1) := pk_sub (b := 1) (by omega)
      have hs : 1 ≤ dsum d n := by
        have hs := dsum_upd d a 0 n
        rw [if_pos ha, if_pos ha] at hs
        omega
      have e3 : nI (dsum d n) - 1 = nI (dsum d n - 1) := pk_sub (b := 1) hs
      rw [endOf_in hG hB ha hk, Option.bind_some, h1', Option.bind_some, gdN (by omega) (by decide), nI_clamp (by omega), h2.2.2.2.2.1 a (by omega), h2.2.2.2.1, e2, e3]
    · show nI (dsum d n - 1) = _
      have hs := dsum_upd d a (d a - 1) n
      rw [if_pos ha, if_pos ha] at hs
      congr 1
      omega
    · show upd (sB_deg s') a (nI (d a - 1)) b = _
      by_cases hc : b = a
      · rw [hc, pk_us, upN_s]
      · rw [pk_un hc, upN_n hc]; exact h2.2.2.2.2.1 b hb
    · refine h2.2.2.2.2.2 b i hb ?_
      by_cases hc : b = a
      · subst hc
        rw [upN_s] at hi
        omega
      · rw [upN_n hc] at hi; exact hi
theorem cut57_ok {τ : SM} {n : Nat} {d : Nat → Nat} {e : Nat → Nat → Nat} (hG : Gr n d e) (h0 : sM_blocks τ = nI n) {a k : Nat} (ha : a < n) (hk : k < d a) (h1 : ∀ b, b < 64 → sM_many τ b = nI (upN d a (d a - 1) b)) (h2 : ∀ b i, b < n → i < d b → sM_ends τ (8 * b + i) = nI (e b i)) :
    ∃ τ', lp_Model_cut_57 100 τ (nI a) (nI (e a k)) (nI k) = some (nI (d a - 1), τ') ∧ sM_isDone τ' = sM_isDone τ ∧ sM_thrown τ' = sM_thrown τ ∧ WebM τ' n (upN d a (d a - 1)) (shE e a k (d a - 1)) := by
  have hda := hG.2.2.1 a
  have hn := hG.2.1
  refine Exists.elim (loopN (lp := fun f s i => lp_Model_cut_57 f s (nI a) (nI (e a k)) i) (N := d a - 1)
    (Inv := fun j s => k ≤ j ∧ sM_isDone s = sM_isDone τ ∧ sM_thrown s = sM_thrown τ ∧ sM_blocks s = nI n ∧ (∀ b, b < 64 → sM_many s b = nI (upN d a (d a - 1) b)) ∧ ∀ b i, b < n → i < d b → sM_ends s (8 * b + i) = nI (shE e a k j b i))
    (done := fun s => (nI (d a - 1), s)) (fun f s hI => ?_) (fun f j s hj hI => ?_) (d a - 1 - k) 100 k τ (by omega) (by omega) ⟨by omega, rfl, rfl, h0, h1, fun b i hb hi => by rw [shE_0]; exact h2 b i hb hi⟩) (fun s' hs' => ?_)
  · show lp_Model_cut_57 (f + 1) s (nI a) (nI (e a k)) (nI (d a - 1)) = _
    rw [lp_Model_cut_57_s, gdN (by omega) (by decide), nI_clamp (by omega), hI.2.2.2.2.1 a (by omega), upN_s, if_pos (nI_le (Nat.le_refl _) (by omega))]
  · obtain ⟨h1, h2, h3, h4, h5, h6⟩ := hI
    refine ⟨uM_ends s (upd (sM_ends s) (8 * a + j) (sM_ends s (8 * a + (j + 1)))), ?_, by omega, h2, h3, h4, h5, shE_next hG ha (by omega) (by omega) h6⟩
    show lp_Model_cut_57 (f + 1) s (nI a) (nI (e a k)) (nI j) = _
    rw [lp_Model_cut_57_s, gdN (by omega) (by decide), nI_clamp (by omega), h5 a (by omega), upN_s, if_neg (nI_ge hj (by omega)), ix8', nI_1, gdN (by omega) (by decide), gdN (by omega) (by decide), nI_clamp (by omega), nI_clamp (by omega), nI_1]
    rfl
  · obtain ⟨h1, h2⟩ := hs'
    refine ⟨s', h1, h2.2.1, h2.2.2.1, h2.2.2.2.1, h2.2.2.2.2.1, fun b i hb hi => h2.2.2.2.2.2 b i hb ?_⟩
    by_cases hc : b = a
    · subst hc
      rw [upN_s] at hi
      omega
    · rw [upN_n hc] at hi; exact hi
theorem p_cut (hGM : ∀ τ v n d e, GM τ n d e → GM (uM_thrown τ v) n d e) {σ : SB} {τ : SM} (h : RelG GB GM σ τ) (x y : Int32) :
    ∃ (r : Int32) (τ' : SM), f_Model_cut τ x y = some (r, τ') ∧ ((∃ σ' : SB, f_BlockRuler_cut σ x y = some (Sum.inr r, σ') ∧ sM_thrown τ' = 0 ∧ RelG GB GM σ' τ') ∨ (∃ σ' : SB, f_BlockRuler_cut σ x y = some (Sum.inl 2, σ') ∧ sM_thrown τ' = 1 ∧ RelG GB GM σ' τ')) := by
  have h1 := h.thrown hGM 1
  obtain ⟨n, d, e, hG, hB, hM, -⟩ := h
  rcases wayB hG hB x y with ⟨w1, w2⟩ | ⟨j, k, hj, hk, rfl, rfl, w1, w2⟩
  · refine ⟨0, uM_thrown τ 1, ?_, Or.inr ⟨σ, ?_, rfl, h1⟩⟩
    · unfold f_Model_cut
      rw [w2 hM, Option.bind_some, if_pos rfl, if_neg (by decide)]
    · unfold f_BlockRuler_cut
      rw [w1, Option.bind_some, if_pos rfl]
  · obtain ⟨g1, g2, g3, g4, g5⟩ := id hG
    have hdj := g3 j
    have hB' : WebB (uB_stale σ 1) n d e := hB
    obtain ⟨σ', s1, s2, s3⟩ := removeWay_ok hG hB' hj hk
    obtain ⟨τ', t1, t2, t3, t4⟩ := cut57_ok (τ := uM_many (uM_isDone (uM_thrown τ 0) 0) (upd (sM_many τ) j (nI (d j) - 1))) hG hM.1 hj hk (fun b hb => by
      show upd (sM_many τ) j (nI (d j) - 1) b = _
      by_cases hc : b = j
      · rw [hc, pk_us, upN_s]
        exact pk_sub (b := 1) (by omega)
      · rw [pk_un hc, upN_n hc]; exact hM.2.1 b hb) hM.2.2
    refine ⟨nI (e j k), τ', ?_, Or.inl ⟨σ', ?_, t3, n, _, _, ⟨g1, g2, fun b => ?_, fun b hb => ?_, fun b i hb hi => ?_⟩, s3, t4, Or.inl ⟨s2, t2⟩⟩⟩
    · unfold f_Model_cut
      rw [w2 hM, Option.bind_some, if_neg (by decide), if_pos (by decide), ix8', gdN (by omega) (by decide), nI_clamp (by omega), hM.2.2 j k hj hk]
      rw [Lt_eq, gdN (by omega) (by decide), nI_clamp (by omega), hM.2.1 j (by omega), t1]
      rfl
    · unfold f_BlockRuler_cut
      rw [w1, Option.bind_some, if_neg (by decide), s1]
      rfl
    · by_cases hc : b = j
      · rw [hc, upN_s]; omega
      · rw [upN_n hc]; exact g3 b
    · rw [upN_n (by omega)]; exact g4 b hb
    · by_cases hc : b = j
      · subst hc
        rw [upN_s] at hi
        by_cases h3 : b = b ∧ k ≤ i ∧ i < d b - 1
        · rw [shE_s h3]; exact g5 b (i + 1) hb (by omega)
        · rw [shE_n h3]; exact g5 b i hb (by omega)
      · rw [upN_n hc] at hi
        rw [shE_n (fun q => hc q.1)]; exact g5 b i hb hi
end WO
