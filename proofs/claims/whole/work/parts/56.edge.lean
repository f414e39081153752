-- questions: edge, count
/-- b lies on the edge of what x rules -/
def EdgeP (d : Nat → Nat) (e : Nat → Nat → Nat) (x b : Nat) : Prop := (∃ a, Rch d e a ∧ Ed d e a b ∧ Dom d e x a) ∧ ¬ (Dom d e x b ∧ ¬ b = x)
theorem EdgeP.rch {d : Nat → Nat} {e : Nat → Nat → Nat} {x b : Nat} (h : EdgeP d e x b) : Rch d e b := by
  obtain ⟨⟨a, h1, ⟨k, hk, h2⟩, _⟩, _⟩ := h
  rw [← h2]
  exact h1.step hk
theorem edgeOf_ok {n : Nat} {d : Nat → Nat} {e : Nat → Nat → Nat} (hG : Gr n d e) {σ : SB} (gB : GoodB σ n d e) {x : Nat} (hx : x < 64) : f_Rulers_edgeOf σ (nI x) = some (bs (EdgeP d e x)) := by
  have g2 := hG.2.1
  refine Exists.elim (loopN (lp := fun f (s : Int64) i => lp_Rulers_edgeOf_24 f σ (bs (Dom d e x)) (bs (fun k => Dom d e x k ∧ ¬ k = x)) s i) (N := 64) (Inv := fun j s => s = bs (fun b => b < j ∧ EdgeP d e x b)) (done := fun s => (s, nI 64)) (fun f s hI => ?_) (fun f j s hj hI => ?_) 64 100 0 0 (by omega) (by omega) ?_) (fun s' hs' => ?_)
  · show lp_Rulers_edgeOf_24 (f + 1) σ (bs (Dom d e x)) (bs (fun k => Dom d e x k ∧ ¬ k = x)) s (nI 64) = _
    rw [lp_Rulers_edgeOf_24_s, if_pos (show (64 : Int32) ≤ nI 64 by decide)]
  · have c1 : ¬ (64 : Int32) ≤ nI j := nI_ge (b := 64) hj (by decide)
    show ∃ s' : Int64, lp_Rulers_edgeOf_24 (f + 1) σ (bs (Dom d e x)) (bs (fun k => Dom d e x k ∧ ¬ k = x)) s (nI j) = lp_Rulers_edgeOf_24 f σ (bs (Dom d e x)) (bs (fun k => Dom d e x k ∧ ¬ k = x)) s' (nI (j + 1)) ∧ _
    have skip : ¬ EdgeP d e x j → s = bs (fun b => b < j + 1 ∧ EdgeP d e x b) := by
      intro q
      rw [hI]
      refine bs_ext (fun b _ => ⟨fun w => ⟨by omega, w.2⟩, ?_⟩)
      rintro ⟨w1, w2⟩
      by_cases hb : b = j
      · rw [hb] at w2
        exact absurd w2 q
      · exact ⟨by omega, w2⟩
    rw [lp_Rulers_edgeOf_24_s, if_neg c1, gdN hj (by decide), nI_clamp (n := j) (by omega), gB.bas.walk.comers j hj, bs_and, bs_holds _ hj, nI_1 j, bs_only hj, Lt_eq]
    rcases Classical.em (∃ a, Rch d e a ∧ Ed d e a j ∧ Dom d e x a) with q | q
    · rw [if_neg (fun w => by
        obtain ⟨a, h1, h2, h3⟩ := q
        exact (bs_cmp0 _).mp w a (Nat.lt_of_lt_of_le (rch_lt hG h1) g2) ⟨⟨h1, h2⟩, h3⟩)]
      rcases Classical.em (Dom d e x j ∧ ¬ j = x) with r | r
      · rw [if_neg (show ¬ pI (Dom d e x j ∧ ¬ j = x) = 0 by rw [pI_t r]; decide)]
        exact ⟨_, rfl, skip (fun w => w.2 r)⟩
      · rw [if_pos (show pI (Dom d e x j ∧ ¬ j = x) = 0 from pI_f r), hI, bs_or]
        refine ⟨_, rfl, bs_ext (fun b _ => ⟨?_, ?_⟩)⟩
        · rintro (w | w)
          · exact ⟨by omega, w.2⟩
          · rw [w]; exact ⟨by omega, q, r⟩
        · rintro ⟨w1, w2⟩
          by_cases hb : b = j
          · exact Or.inr hb
          · exact Or.inl ⟨by omega, w2⟩
    · rw [if_pos ((bs_cmp0 _).mpr (fun a _ w => q ⟨a, w.1.1, w.1.2, w.2⟩))]
      exact ⟨_, rfl, skip (fun w => q w.1)⟩
  · rw [bs_0]
    exact bs_ext (fun b _ => ⟨fun q => q.elim, fun q => absurd q.1 (Nat.not_lt_zero b)⟩)
  · obtain ⟨h1, h2⟩ := hs'
    unfold f_Rulers_edgeOf
    have h1' : lp_Rulers_edgeOf_24 100 σ (bs (Dom d e x)) (bs (fun k => Dom d e x k ∧ ¬ k = x)) 0 0 = some (s', nI 64) := h1
    rw [realmOf_ok gB hx, Option.bind_some, bs_only hx, bs_not, bs_and, Lt_eq, h1', Option.bind_some, h2]
    exact congrArg some (bs_ext (fun b hb => ⟨fun q => q.2, fun q => ⟨hb, q⟩⟩))
theorem cnt_rank {P : Nat → Prop} : ∀ {m c : Nat}, c < cnt P m → ∃ k, k < m ∧ P k ∧ cnt P k = c
  | 0, c, h => by rw [cnt_z] at h; omega
  | m + 1, c, h => by
    by_cases hc : c < cnt P m
    · obtain ⟨k, hk, h1, h2⟩ := cnt_rank hc
      exact ⟨k, by omega, h1, h2⟩
    · rcases Classical.em (P m) with q | q
      · rw [cnt_s' q] at h
        exact ⟨m, by omega, q, by omega⟩
      · rw [cnt_n' q] at h
        exact absurd h hc
theorem rank_uniq {P : Nat → Prop} {a b : Nat} (ha : P a) (hb : P b) (h : cnt P a = cnt P b) : a = b := by
  rcases Nat.lt_trichotomy a b with q | q | q
  · have := cnt_split P q ha
    omega
  · exact q
  · have := cnt_split P q hb
    omega
theorem least_rank {P : Nat → Prop} {j : Nat} (h : j < cnt P 64) : ∃ b, b < 64 ∧ P b ∧ cnt P b = j ∧ f_BlockRuler_least (bs (fun b => P b ∧ j ≤ cnt P b)) = nI b ∧ f_BlockRuler_withoutLeast (bs (fun b => P b ∧ j ≤ cnt P b)) = bs (fun b => P b ∧ j + 1 ≤ cnt P b) := by
  obtain ⟨b, hb, h1, h2⟩ := cnt_rank h
  obtain ⟨i, hi, hp, hm, hl, hw⟩ := bs_least (p := fun b => P b ∧ j ≤ cnt P b) ⟨b, hb, h1, by omega⟩
  have hib : i = b := by
    rcases Nat.lt_trichotomy i b with q | q | q
    · have := cnt_split P q hp.1
      have := hp.2
      omega
    · exact q
    · exact absurd ⟨h1, by omega⟩ (hm b q)
  subst hib
  refine ⟨i, hi, h1, h2, hl, hw.trans (bs_ext (fun k _ => ⟨?_, ?_⟩))⟩
  · rintro ⟨⟨w1, w2⟩, w3⟩
    refine ⟨w1, ?_⟩
    by_cases hk : cnt P k = j
    · exact absurd (rank_uniq w1 h1 (by omega)) w3
    · omega
  · rintro ⟨w1, w2⟩
    exact ⟨⟨w1, by omega⟩, fun q => by rw [q] at w2; omega⟩
theorem nth_in {P : Nat → Prop} {t : Nat} (h : t < cnt P 64) : ∃ b, b < 64 ∧ P b ∧ cnt P b = t ∧ f_BlockRuler_nth (bs P) (nI t) = some (nI b) := by
  have hle := cnt_le P 64
  obtain ⟨b, hb, h1, h2, h3, h4⟩ := least_rank h
  refine ⟨b, hb, h1, h2, ?_⟩
  refine Exists.elim (loopN (lp := fun f (s : Int64) i => lp_BlockRuler_nth_19 f (nI t) s i) (N := t) (Inv := fun j s => s = bs (fun b => P b ∧ j ≤ cnt P b)) (done := fun s => (s, nI t)) (fun f s hI => ?_) (fun f j s hj hI => ?_) t 100 0 (bs P) (by omega) (by omega) ?_) (fun s' hs' => ?_)
  · show lp_BlockRuler_nth_19 (f + 1) (nI t) s (nI t) = _
    rw [lp_BlockRuler_nth_19_s, if_pos (nI_le (Nat.le_refl _) (by omega))]
  · obtain ⟨c, c1, c2, c3, c4, c5⟩ := least_rank (P := P) (j := j) (by omega)
    show ∃ s' : Int64, lp_BlockRuler_nth_19 (f + 1) (nI t) s (nI j) = lp_BlockRuler_nth_19 f (nI t) s' (nI (j + 1)) ∧ _
    rw [lp_BlockRuler_nth_19_s, if_neg (nI_ge hj (by omega)), hI, c5, Lt_eq, nI_1]
    exact ⟨_, rfl, rfl⟩
  · exact bs_ext (fun b _ => ⟨fun q => ⟨q, Nat.zero_le _⟩, fun q => q.1⟩)
  · obtain ⟨k1, k2⟩ := hs'
    unfold f_BlockRuler_nth
    have k1' : lp_BlockRuler_nth_19 100 (nI t) (bs P) 0 = some (s', nI t) := k1
    rw [if_neg (nI_pos (by omega)), bs_count, if_pos (nI_lt h (by omega)), k1', Option.bind_some, k2, h3]
theorem is47 {n : Nat} {d : Nat → Nat} {e : Nat → Nat → Nat} (hG : Gr n d e) {τ : SM} (gM : GoodM τ n d e) {x b a : Nat} (hx : x < n) (hb : b < n) (ha : a < n) (F : Prop) : ∃ w, lp_Model_isEdge_47 100 τ (nI x) (nI b) (pI F) (nI a) 0 = some (pI (F ∨ (Dom d e x a ∧ Ed d e a b)), w) := by
  have g2 := hG.2.1
  have hda := hG.2.2.1 a
  refine Exists.elim (loopN (lp := fun f (s : Int32) i => lp_Model_isEdge_47 f τ (nI x) (nI b) s (nI a) i) (N := d a) (Inv := fun j s => s = pI (F ∨ (Dom d e x a ∧ ∃ k, k < j ∧ e a k = b))) (done := fun s => (s, nI (d a))) (fun f s hI => ?_) (fun f j s hj hI => ?_) (d a) 100 0 (pI F) (by omega) (by omega) ?_) (fun s' hs' => ?_)
  · show lp_Model_isEdge_47 (f + 1) τ (nI x) (nI b) s (nI a) (nI (d a)) = _
    rw [lp_Model_isEdge_47_s, gdN (k := a) (by omega) (by decide), nI_clamp (n := a) (by omega), gM.lp.bas.web.many a (by omega), if_pos (nI_le (Nat.le_refl _) (by omega))]
  · have hen := hG.2.2.2.2 a j ha hj
    show ∃ s' : Int32, lp_Model_isEdge_47 (f + 1) τ (nI x) (nI b) s (nI a) (nI j) = lp_Model_isEdge_47 f τ (nI x) (nI b) s' (nI a) (nI (j + 1)) ∧ _
    rw [lp_Model_isEdge_47_s, gdN (k := a) (by omega) (by decide), nI_clamp (n := a) (by omega), gM.lp.bas.web.many a (by omega), if_neg (nI_ge hj (by omega)), ix64, gdN (k := 64 * x + a) (by omega) (by decide), nI_clamp (n := 64 * x + a) (by omega), gM.lp.bas.rul x a hx ha, ix8', gdN (k := 8 * a + j) (by omega) (by decide), nI_clamp (n := 8 * a + j) (by omega), gM.lp.bas.web.ends a j ha hj, nI_1 j, hI]
    have stay : ¬ (F ∨ (Dom d e x a ∧ ∃ k, k < j ∧ e a k = b)) → ¬ (Dom d e x a ∧ e a j = b) → ¬ (F ∨ (Dom d e x a ∧ ∃ k, k < j + 1 ∧ e a k = b)) := by
      rintro q1 q2 (w | ⟨w, k, hk, w2⟩)
      · exact q1 (Or.inl w)
      · by_cases hkj : k = j
        · rw [hkj] at w2
          exact q2 ⟨w, w2⟩
        · exact q1 (Or.inr ⟨w, k, by omega, w2⟩)
    rcases Classical.em (F ∨ (Dom d e x a ∧ ∃ k, k < j ∧ e a k = b)) with q | q
    · rw [if_neg (show ¬ pI (F ∨ (Dom d e x a ∧ ∃ k, k < j ∧ e a k = b)) = 0 by rw [pI_t q]; decide)]
      refine ⟨1, rfl, (pI_t ?_).symm⟩
      rcases q with q | ⟨q, k, hk, q2⟩
      · exact Or.inl q
      · exact Or.inr ⟨q, k, by omega, q2⟩
    · rw [if_pos (show pI (F ∨ (Dom d e x a ∧ ∃ k, k < j ∧ e a k = b)) = 0 from pI_f q)]
      rcases Classical.em (Dom d e x a) with r | r
      · rw [if_neg (show ¬ pI (Dom d e x a) = 0 by rw [pI_t r]; decide)]
        by_cases he : e a j = b
        · rw [if_pos (by rw [he])]
          exact ⟨1, rfl, (pI_t (Or.inr ⟨r, j, by omega, he⟩)).symm⟩
        · rw [if_neg (fun w => he ((nI_eq (by omega) (by omega)).mp w))]
          exact ⟨0, rfl, (pI_f (stay q (fun w => he w.2))).symm⟩
      · rw [if_pos (show pI (Dom d e x a) = 0 from pI_f r)]
        exact ⟨0, rfl, (pI_f (stay q (fun w => r w.1))).symm⟩
  · refine pI_congr ⟨Or.inl, ?_⟩
    rintro (w | ⟨_, k, hk, _⟩)
    · exact w
    · omega
  · refine ⟨nI (d a), ?_⟩
    have h2 : s' = pI (F ∨ (Dom d e x a ∧ Ed d e a b)) := hs'.2
    rw [← h2]
    exact hs'.1
theorem is35 {n : Nat} {d : Nat → Nat} {e : Nat → Nat → Nat} (hG : Gr n d e) {τ : SM} (gM : GoodM τ n d e) {x b : Nat} (hx : x < n) (hb : b < n) : ∃ w, lp_Model_isEdge_35 100 τ (nI x) (nI b) 0 0 = some (pI (∃ a, Rch d e a ∧ Ed d e a b ∧ Dom d e x a), w) := by
  have g2 := hG.2.1
  refine Exists.elim (loopN (lp := fun f (s : Int32) i => lp_Model_isEdge_35 f τ (nI x) (nI b) s i) (N := n) (Inv := fun j s => s = pI (∃ a, a < j ∧ Dom d e x a ∧ Ed d e a b)) (done := fun s => (s, nI n)) (fun f s hI => ?_) (fun f j s hj hI => ?_) n 100 0 0 (by omega) (by omega) ?_) (fun s' hs' => ?_)
  · show lp_Model_isEdge_35 (f + 1) τ (nI x) (nI b) s (nI n) = _
    rw [lp_Model_isEdge_35_s, gM.lp.bas.web.blocks, if_pos (nI_le (Nat.le_refl _) (by omega))]
  · obtain ⟨w, q⟩ := is47 hG gM hx hb hj (∃ a, a < j ∧ Dom d e x a ∧ Ed d e a b)
    show ∃ s' : Int32, lp_Model_isEdge_35 (f + 1) τ (nI x) (nI b) s (nI j) = lp_Model_isEdge_35 f τ (nI x) (nI b) s' (nI (j + 1)) ∧ _
    rw [lp_Model_isEdge_35_s, gM.lp.bas.web.blocks, if_neg (nI_ge hj (by omega)), hI, q, Option.bind_some, nI_1]
    refine ⟨_, rfl, pI_congr ⟨?_, ?_⟩⟩
    · rintro (⟨a, ha, r⟩ | r)
      · exact ⟨a, by omega, r⟩
      · exact ⟨j, by omega, r⟩
    · rintro ⟨a, ha, r⟩
      by_cases haj : a = j
      · rw [haj] at r
        exact Or.inr r
      · exact Or.inl ⟨a, by omega, r⟩
  · refine (pI_f ?_).symm
    rintro ⟨a, ha, _⟩
    omega
  · refine ⟨nI n, ?_⟩
    have h2 : s' = pI (∃ a, a < n ∧ Dom d e x a ∧ Ed d e a b) := hs'.2
    have h3 : pI (∃ a, Rch d e a ∧ Ed d e a b ∧ Dom d e x a) = pI (∃ a, a < n ∧ Dom d e x a ∧ Ed d e a b) := by
      refine pI_congr ⟨?_, ?_⟩
      · rintro ⟨a, q1, q2, q3⟩
        exact ⟨a, rch_lt hG q1, q3, q2⟩
      · rintro ⟨a, q1, q2, q3⟩
        exact ⟨a, q2.2.1, q3, q2⟩
    rw [h3, ← h2]
    exact hs'.1
theorem isEdge_ok {n : Nat} {d : Nat → Nat} {e : Nat → Nat → Nat} (hG : Gr n d e) {τ : SM} (gM : GoodM τ n d e) {x b : Nat} (hx : x < n) (hb : b < n) : f_Model_isEdge τ (nI x) (nI b) = some (pI (EdgeP d e x b)) := by
  have g2 := hG.2.1
  obtain ⟨w, q⟩ := is35 hG gM hx hb
  have two : ∀ p : Prop, (if pI p = 0 ∨ pI p = 1 then some (pI p) else none) = some (pI p) := by
    intro p
    refine if_pos ?_
    rcases Classical.em p with h | h
    · exact Or.inr (pI_t h)
    · exact Or.inl (pI_f h)
  unfold f_Model_isEdge
  rw [gdN (k := b) (by omega) (by decide), nI_clamp (n := b) (by omega), q, Option.bind_some, two, ix64, gdN (k := 64 * x + b) (by omega) (by decide), nI_clamp (n := 64 * x + b) (by omega), gM.lp.bas.rul x b hx hb]
  by_cases h1 : sM_order τ b < 0
  · have hr := (gM.lp.bas.ord.neg hG hb).mp h1
    rw [if_pos h1, pI_f (fun w => hr w.rch)]
  · rw [if_neg h1]
    by_cases h2 : b = x
    · rw [if_pos (by rw [h2])]
      exact congrArg some (pI_congr ⟨fun r => ⟨r, fun s => s.2 h2⟩, fun r => r.1⟩)
    · rw [if_neg (fun w => h2 ((nI_eq (by omega) (by omega)).mp w))]
      rcases Classical.em (Dom d e x b) with r | r
      · rw [if_neg (show ¬ pI (Dom d e x b) = 0 by rw [pI_t r]; decide), pI_f (fun w => w.2 ⟨r, h2⟩)]
      · rw [if_pos (show pI (Dom d e x b) = 0 from pI_f r)]
        exact congrArg some (pI_congr ⟨fun s => ⟨s, fun t => r t.1⟩, fun s => s.1⟩)
theorem edge28 {n : Nat} {d : Nat → Nat} {e : Nat → Nat → Nat} (hG : Gr n d e) {τ : SM} (gM : GoodM τ n d e) {x : Nat} (hx : x < n) (t : Nat) : ∀ (k b r f : Nat), b + k = n → k < f → t = cnt (EdgeP d e x) b + r → r < 2 ^ 31 → ∃ z, lp_Model_edge_28 f τ (nI x) (nI r) (nI b) = some z ∧ ((cnt (EdgeP d e x) n ≤ t ∧ ∃ z', z = Sum.inl z') ∨ ∃ c z', c < n ∧ EdgeP d e x c ∧ cnt (EdgeP d e x) c = t ∧ z = Sum.inr (z', nI c)) := by
  have g2 := hG.2.1
  intro k
  induction k with
  | zero =>
    intro b r f hb hf ht hr
    obtain ⟨g, rfl⟩ : ∃ g, f = g + 1 := ⟨f - 1, by omega⟩
    have hbn : b = n := by omega
    subst hbn
    rw [lp_Model_edge_28_s, gM.lp.bas.web.blocks, if_pos (nI_le (Nat.le_refl _) (by omega))]
    exact ⟨_, rfl, Or.inl ⟨by omega, _, rfl⟩⟩
  | succ k ih =>
    intro b r f hb hf ht hr
    obtain ⟨g, rfl⟩ : ∃ g, f = g + 1 := ⟨f - 1, by omega⟩
    rw [lp_Model_edge_28_s, gM.lp.bas.web.blocks, if_neg (nI_ge (by omega) (by omega)), isEdge_ok hG gM hx (by omega), Option.bind_some, nI_1]
    rcases Classical.em (EdgeP d e x b) with q | q
    · rw [if_neg (show ¬ pI (EdgeP d e x b) = 0 by rw [pI_t q]; decide)]
      by_cases h0 : r = 0
      · rw [if_pos (show nI r = 0 by rw [h0]; rfl)]
        exact ⟨_, rfl, Or.inr ⟨b, _, by omega, q, by omega, rfl⟩⟩
      · obtain ⟨r', rfl⟩ : ∃ r', r = r' + 1 := ⟨r - 1, by omega⟩
        rw [if_neg (nI_ne0 (by omega) hr), pk_m1]
        exact ih (b + 1) r' g (by omega) (by omega) (by rw [cnt_s' q]; omega) (by omega)
    · rw [if_pos (show pI (EdgeP d e x b) = 0 from pI_f q)]
      exact ih (b + 1) r g (by omega) (by omega) (by rw [cnt_n' q]; omega) hr
theorem p_edge {σ : SB} {τ : SM} (h : GR σ τ) (x y : Int32) : ∃ (r : Int32) (σ' : SB) (τ' : SM), f_BlockRuler_edge σ x y = some (r, σ') ∧ f_Model_edge τ x y = some (r, τ') ∧ GR σ' τ' := by
  obtain ⟨n, d, e, σ', τ', q1, q2, hG, gB, gM, hR⟩ := ask0 h
  have g2 := hG.2.1
  unfold f_BlockRuler_edge f_Model_edge
  rw [q1, q2, Option.bind_some, Option.bind_some]
  rcases blk x g2 with hx | ⟨j, hj, rfl⟩
  · rw [hasB_out gB.bas.web.1 hx, isB_out gM.lp.bas.web.blocks hx, if_pos z00, if_pos z00]
    exact ⟨_, _, _, rfl, rfl, hR⟩
  · rw [hasB_in gB.bas.web.1 g2 hj, isB_in gM.lp.bas.web.blocks g2 hj, if_neg n10, if_neg n10, edgeOf_ok hG gB (by omega), Option.bind_some]
    have hcut := cnt_cut (p := EdgeP d e j) (n := n) (fun k q => rch_lt hG q.rch) 64 g2
    by_cases hy : y < 0
    · have hy2 : ¬ (0 : Int32) ≤ y := Int32.not_le.mpr hy
      unfold f_BlockRuler_nth
      rw [if_neg hy2, if_pos hy, Option.bind_some]
      exact ⟨_, _, _, rfl, rfl, hR⟩
    · obtain ⟨t, ht, rfl⟩ := nI_of hy
      rw [if_pos (nI_pos' ht)]
      obtain ⟨z, z1, z2⟩ := edge28 hG gM hj t n 0 t 100 (by omega) (by omega) (by rw [cnt_z]; omega) ht
      have z1' : lp_Model_edge_28 100 τ' (nI j) (nI t) 0 = some z := z1
      rw [z1', Option.bind_some]
      rcases z2 with ⟨c1, z', rfl⟩ | ⟨c, z', c1, c2, c3, rfl⟩
      · have hn : f_BlockRuler_nth (bs (EdgeP d e j)) (nI t) = some (-1) := by
          unfold f_BlockRuler_nth
          have hle := cnt_le (EdgeP d e j) 64
          rw [if_neg hy, bs_count, if_neg (nI_nlt (by omega) ht)]
        rw [hn, Option.bind_some]
        exact ⟨_, _, _, rfl, rfl, hR⟩
      · have hlt : t < cnt (EdgeP d e j) 64 := by
          have := cnt_split (EdgeP d e j) (i := c) (m := 64) (by omega) c2
          omega
        obtain ⟨b, b1, b2, b3, b4⟩ := nth_in hlt
        have hbc : b = c := rank_uniq b2 c2 (by omega)
        rw [b4, Option.bind_some, hbc]
        exact ⟨_, _, _, rfl, rfl, hR⟩
def mx (f : Nat → Nat) : Nat → Nat
  | 0 => 0
  | m + 1 => if mx f m < f m then f m else mx f m
theorem mx_t {f : Nat → Nat} {m : Nat} (h : mx f m < f m) : mx f (m + 1) = f m := if_pos h
theorem mx_f {f : Nat → Nat} {m : Nat} (h : ¬ mx f m < f m) : mx f (m + 1) = mx f m := if_neg h
theorem mx_le {f : Nat → Nat} {c : Nat} (h : ∀ i, f i ≤ c) : ∀ m, mx f m ≤ c
  | 0 => Nat.zero_le _
  | m + 1 => by
    by_cases q : mx f m < f m
    · rw [mx_t q]; exact h m
    · rw [mx_f q]; exact mx_le h m
theorem mx_cut {f : Nat → Nat} {n : Nat} (h : ∀ i, n ≤ i → f i = 0) : ∀ m, n ≤ m → mx f m = mx f n
  | 0, hm => by
    have : n = 0 := by omega
    rw [this]
  | m + 1, hm => by
    by_cases hn : n = m + 1
    · rw [hn]
    · rw [mx_f (by rw [h m (by omega)]; omega)]
      exact mx_cut h m (by omega)
theorem greatest_ok {n : Nat} {d : Nat → Nat} {e : Nat → Nat → Nat} {σ : SB} (gB : GoodB σ n d e) : f_Loops_greatestDepth σ = some (nI (mx (dep d e) 64)) := by
  have hd : ∀ x, dep d e x ≤ 64 := fun x => cnt_le _ 64
  refine Exists.elim (loopN (lp := fun f (s : Int32) i => lp_Loops_greatestDepth_4 f σ s i) (N := 64) (Inv := fun j s => s = nI (mx (dep d e) j)) (done := fun s => (s, nI 64)) (fun f s hI => ?_) (fun f j s hj hI => ?_) 64 100 0 0 (by omega) (by omega) rfl) (fun s' hs' => ?_)
  · show lp_Loops_greatestDepth_4 (f + 1) σ s (nI 64) = _
    rw [lp_Loops_greatestDepth_4_s, if_pos (show (64 : Int32) ≤ nI 64 by decide)]
  · have c1 : ¬ (64 : Int32) ≤ nI j := nI_ge (b := 64) hj (by decide)
    have m1 := mx_le hd j
    have m2 := hd j
    show ∃ s' : Int32, lp_Loops_greatestDepth_4 (f + 1) σ s (nI j) = lp_Loops_greatestDepth_4 f σ s' (nI (j + 1)) ∧ _
    rw [lp_Loops_greatestDepth_4_s, if_neg c1, depB gB hj, Option.bind_some, Lt_eq, nI_1]
    refine ⟨_, rfl, ?_⟩
    rw [hI]
    by_cases q : mx (dep d e) j < dep d e j
    · rw [if_pos (nI_lt q (by omega)), mx_t q]
    · rw [if_neg (nI_nlt (by omega) (by omega)), mx_f q]
  · obtain ⟨h1, h2⟩ := hs'
    unfold f_Loops_greatestDepth
    have h1' : lp_Loops_greatestDepth_4 100 σ 0 0 = some (s', nI 64) := h1
    rw [h1', h2]
    rfl
theorem c89 {n : Nat} {d : Nat → Nat} {e : Nat → Nat → Nat} (hG : Gr n d e) {τ : SM} (gM : GoodM τ n d e) {a : Nat} (ha : a < n) (v1 v2 v3 v6 : Int32) (β κ : Nat) : ∃ w, lp_Model_count_89 100 τ v1 v2 v3 (nI β) (nI κ) v6 (nI a) 0 = some (nI (β + c01 (Rch d e a) * bkC d e a), nI (κ + c01 (Rch d e a) * knC d e a), w) := by
  have g2 := hG.2.1
  have hda := hG.2.2.1 a
  refine Exists.elim (loopN (lp := fun f (s : Int32 × Int32) i => lp_Model_count_89 f τ v1 v2 v3 s.1 s.2 v6 (nI a) i) (N := d a) (Inv := fun j s => s.1 = nI (β + c01 (Rch d e a) * cnt (fun k => Bk d e a k ∨ Kn d e a k) j) ∧ s.2 = nI (κ + c01 (Rch d e a) * cnt (fun k => Kn d e a k) j)) (done := fun s => (s.1, s.2, nI (d a))) (fun f s hI => ?_) (fun f j s hj hI => ?_) (d a) 100 0 (nI β, nI κ) (by omega) (by omega) ⟨?_, ?_⟩) (fun s' hs' => ?_)
  · show lp_Model_count_89 (f + 1) τ v1 v2 v3 s.1 s.2 v6 (nI a) (nI (d a)) = _
    rw [lp_Model_count_89_s, gdN (k := a) (by omega) (by decide), nI_clamp (n := a) (by omega), gM.lp.bas.web.many a (by omega), if_pos (nI_le (Nat.le_refl _) (by omega))]
  · obtain ⟨i1, i2⟩ := hI
    show ∃ s' : Int32 × Int32, lp_Model_count_89 (f + 1) τ v1 v2 v3 s.1 s.2 v6 (nI a) (nI j) = lp_Model_count_89 f τ v1 v2 v3 s'.1 s'.2 v6 (nI a) (nI (j + 1)) ∧ _
    rw [lp_Model_count_89_s, gdN (k := a) (by omega) (by decide), nI_clamp (n := a) (by omega), gM.lp.bas.web.many a (by omega), if_neg (nI_ge hj (by omega)), nI_1 j]
    rcases Classical.em (Rch d e a) with hr | hr
    · rw [sortOf_r hG gM.lp.bas ha hj hr, Option.bind_some, Option.bind_some, Option.bind_some]
      rw [c01_t hr, Nat.one_mul] at i1 i2
      rw [c01_t hr, Nat.one_mul, Nat.one_mul]
      rcases kI_ok d e a j with ⟨k1, k2, k3⟩ | ⟨k1, k2, k3⟩ | ⟨k1, k2, k3⟩
      · rw [k3, if_neg (show ¬ (1 : Int32) ≤ 0 by decide), if_neg (show ¬ (1 : Int32) = 2 by decide)]
        refine ⟨(_, _), rfl, ?_, ?_⟩
        · show s.1 + 1 = _
          rw [i1, nI_1, cnt_s' (p := fun k => Bk d e a k ∨ Kn d e a k) (Or.inl k1)]
          rfl
        · show s.2 + 0 = _
          rw [i2, Int32.add_zero, cnt_n' (p := fun k => Kn d e a k) k2]
      · rw [k3, if_neg (show ¬ (2 : Int32) ≤ 0 by decide), if_pos (show (2 : Int32) = 2 from rfl)]
        refine ⟨(_, _), rfl, ?_, ?_⟩
        · show s.1 + 1 = _
          rw [i1, nI_1, cnt_s' (p := fun k => Bk d e a k ∨ Kn d e a k) (Or.inr k2)]
          rfl
        · show s.2 + 1 = _
          rw [i2, nI_1, cnt_s' (p := fun k => Kn d e a k) k2]
          rfl
      · rw [k3, if_pos (show (0 : Int32) ≤ 0 by decide), if_neg (show ¬ (0 : Int32) = 2 by decide)]
        refine ⟨(_, _), rfl, ?_, ?_⟩
        · show s.1 + 0 = _
          rw [i1, Int32.add_zero, cnt_n' (p := fun k => Bk d e a k ∨ Kn d e a k) (fun q => q.elim k1 k2)]
        · show s.2 + 0 = _
          rw [i2, Int32.add_zero, cnt_n' (p := fun k => Kn d e a k) k2]
    · rw [sortOf_u hG gM.lp.bas ha hj hr, Option.bind_some, Option.bind_some, Option.bind_some, if_pos (show (-1 : Int32) ≤ 0 by decide), if_neg (show ¬ (-1 : Int32) = 2 by decide)]
      rw [c01_f hr, Nat.zero_mul] at i1 i2
      rw [c01_f hr, Nat.zero_mul, Nat.zero_mul]
      refine ⟨(_, _), rfl, ?_, ?_⟩
      · show s.1 + 0 = _
        rw [i1, Int32.add_zero]
      · show s.2 + 0 = _
        rw [i2, Int32.add_zero]
  · show nI β = _
    rw [cnt_z, Nat.mul_zero]
    rfl
  · show nI κ = _
    rw [cnt_z, Nat.mul_zero]
    rfl
  · refine ⟨nI (d a), ?_⟩
    obtain ⟨h1, h2, h3⟩ := hs'
    have h2' : s'.1 = nI (β + c01 (Rch d e a) * bkC d e a) := h2
    have h3' : s'.2 = nI (κ + c01 (Rch d e a) * knC d e a) := h3
    rw [← h2', ← h3']
    exact h1
theorem c25 {n : Nat} {d : Nat → Nat} {e : Nat → Nat → Nat} (hG : Gr n d e) {τ : SM} (gM : GoodM τ n d e) (v1 : Int32) : ∃ w, lp_Model_count_25 100 τ v1 0 0 0 0 0 0 = some (nI (dsum d n), nI (cnt (Head d e) 64), nI (backN d e), nI (knotN d e), nI (mx (dep d e) 64), w) := by
  have g2 := hG.2.1
  have hd : ∀ x, dep d e x ≤ 64 := fun x => cnt_le _ 64
  refine Exists.elim (loopN (lp := fun f (s : Int32 × Int32 × Int32 × Int32 × Int32) i => lp_Model_count_25 f τ v1 s.1 s.2.1 s.2.2.1 s.2.2.2.1 s.2.2.2.2 i) (N := n) (Inv := fun j s => s.1 = nI (dsum d j) ∧ s.2.1 = nI (cnt (Head d e) j) ∧ s.2.2.1 = nI (dsum (fun a => c01 (Rch d e a) * bkC d e a) j) ∧ s.2.2.2.1 = nI (dsum (fun a => c01 (Rch d e a) * knC d e a) j) ∧ s.2.2.2.2 = nI (mx (dep d e) j)) (done := fun s => (s.1, s.2.1, s.2.2.1, s.2.2.2.1, s.2.2.2.2, nI n)) (fun f s hI => ?_) (fun f j s hj hI => ?_) n 100 0 (0, 0, 0, 0, 0) (by omega) (by omega) ⟨rfl, by rw [cnt_z]; rfl, rfl, rfl, rfl⟩) (fun s' hs' => ?_)
  · show lp_Model_count_25 (f + 1) τ v1 s.1 s.2.1 s.2.2.1 s.2.2.2.1 s.2.2.2.2 (nI n) = _
    rw [lp_Model_count_25_s, gM.lp.bas.web.blocks, if_pos (nI_le (Nat.le_refl _) (by omega))]
  · obtain ⟨i1, i2, i3, i4, i5⟩ := hI
    have m1 := mx_le hd j
    have m2 := hd j
    have c := fun u2 u3 u6 => c89 hG gM hj v1 u2 u3 u6 (dsum (fun a => c01 (Rch d e a) * bkC d e a) j) (dsum (fun a => c01 (Rch d e a) * knC d e a) j)
    show ∃ s' : Int32 × Int32 × Int32 × Int32 × Int32, lp_Model_count_25 (f + 1) τ v1 s.1 s.2.1 s.2.2.1 s.2.2.2.1 s.2.2.2.2 (nI j) = lp_Model_count_25 f τ v1 s'.1 s'.2.1 s'.2.2.1 s'.2.2.2.1 s'.2.2.2.2 (nI (j + 1)) ∧ _
    rw [lp_Model_count_25_s, gM.lp.bas.web.blocks, if_neg (nI_ge hj (by omega)), gdN (k := j) (by omega) (by decide), nI_clamp (n := j) (by omega), gM.lp.bas.web.many j (by omega), gM.lp.head j hj, i1, i2, i3, i4, i5, nI_add, Lt_eq, depM hG gM hj, Option.bind_some, Option.bind_some, Option.bind_some, Option.bind_some, nI_1 j, Int32.add_zero]
    rcases Classical.em (Head d e j) with q | q
    · rw [if_neg (show ¬ pI (Head d e j) = 0 by rw [pI_t q]; decide), nI_1]
      by_cases r : mx (dep d e) j < dep d e j
      · obtain ⟨w, cc⟩ := c (nI (dsum d j + d j)) (nI (cnt (Head d e) j + 1)) (nI (dep d e j))
        rw [if_neg (nI_ge r (by omega)), cc, Option.bind_some]
        refine ⟨(nI (dsum d j + d j), nI (cnt (Head d e) j + 1), nI (dsum (fun a => c01 (Rch d e a) * bkC d e a) j + c01 (Rch d e j) * bkC d e j), nI (dsum (fun a => c01 (Rch d e a) * knC d e a) j + c01 (Rch d e j) * knC d e j), nI (dep d e j)), rfl, rfl, ?_, rfl, rfl, ?_⟩
        · rw [cnt_s' q]
        · rw [mx_t r]
      · obtain ⟨w, cc⟩ := c (nI (dsum d j + d j)) (nI (cnt (Head d e) j + 1)) (nI (mx (dep d e) j))
        rw [if_pos (nI_le (by omega) (by omega)), cc, Option.bind_some]
        refine ⟨(nI (dsum d j + d j), nI (cnt (Head d e) j + 1), nI (dsum (fun a => c01 (Rch d e a) * bkC d e a) j + c01 (Rch d e j) * bkC d e j), nI (dsum (fun a => c01 (Rch d e a) * knC d e a) j + c01 (Rch d e j) * knC d e j), nI (mx (dep d e) j)), rfl, rfl, ?_, rfl, rfl, ?_⟩
        · rw [cnt_s' q]
        · rw [mx_f r]
    · rw [if_pos (show pI (Head d e j) = 0 from pI_f q)]
      by_cases r : mx (dep d e) j < dep d e j
      · obtain ⟨w, cc⟩ := c (nI (dsum d j + d j)) (nI (cnt (Head d e) j)) (nI (dep d e j))
        rw [if_neg (nI_ge r (by omega)), cc, Option.bind_some]
        refine ⟨(nI (dsum d j + d j), nI (cnt (Head d e) j), nI (dsum (fun a => c01 (Rch d e a) * bkC d e a) j + c01 (Rch d e j) * bkC d e j), nI (dsum (fun a => c01 (Rch d e a) * knC d e a) j + c01 (Rch d e j) * knC d e j), nI (dep d e j)), rfl, rfl, ?_, rfl, rfl, ?_⟩
        · rw [cnt_n' q]
        · rw [mx_t r]
      · obtain ⟨w, cc⟩ := c (nI (dsum d j + d j)) (nI (cnt (Head d e) j)) (nI (mx (dep d e) j))
        rw [if_pos (nI_le (by omega) (by omega)), cc, Option.bind_some]
        refine ⟨(nI (dsum d j + d j), nI (cnt (Head d e) j), nI (dsum (fun a => c01 (Rch d e a) * bkC d e a) j + c01 (Rch d e j) * bkC d e j), nI (dsum (fun a => c01 (Rch d e a) * knC d e a) j + c01 (Rch d e j) * knC d e j), nI (mx (dep d e) j)), rfl, rfl, ?_, rfl, rfl, ?_⟩
        · rw [cnt_n' q]
        · rw [mx_f r]
  · refine ⟨nI n, ?_⟩
    obtain ⟨h1, h2, h3, h4, h5, h6⟩ := hs'
    have e3 : cnt (Head d e) 64 = cnt (Head d e) n := cnt_cut (fun k q => rch_lt hG q.rch) 64 g2
    have e4 : backN d e = dsum (fun a => c01 (Rch d e a) * bkC d e a) n := dsum_cut (n := n) (fun i hi => by unfold bkC; rw [hG.2.2.2.1 i hi, cnt_z, Nat.mul_zero]) 64 g2
    have e5 : knotN d e = dsum (fun a => c01 (Rch d e a) * knC d e a) n := dsum_cut (n := n) (fun i hi => by unfold knC; rw [hG.2.2.2.1 i hi, cnt_z, Nat.mul_zero]) 64 g2
    have e6 : mx (dep d e) 64 = mx (dep d e) n := mx_cut (n := n) (fun i hi => by
      unfold dep
      rw [cnt_ext (q := fun _ => False) (fun k _ => ⟨fun q => absurd (q.lt hG) (by omega), fun q => q.elim⟩), cnt_F]) 64 g2
    rw [e3, e4, e5, e6, ← h2, ← h3, ← h4, ← h5, ← h6]
    exact h1
theorem p_count {σ : SB} {τ : SM} (h : GR σ τ) (x : Int32) : ∃ (r : Int32) (σ' : SB) (τ' : SM), f_BlockRuler_count σ x = some (r, σ') ∧ f_Model_count τ x = some (r, τ') ∧ GR σ' τ' := by
  obtain ⟨n, d, e, σ', τ', q1, q2, hG, gB, gM, hR⟩ := ask0 h
  obtain ⟨w, cc⟩ := c25 hG gM x
  unfold f_BlockRuler_count f_Model_count
  rw [q1, q2, Option.bind_some, Option.bind_some, cc, Option.bind_some, Lt_eq]
  by_cases h0 : x = 0
  · rw [if_pos h0, if_pos h0, gB.bas.web.1, gM.lp.bas.web.blocks]
    exact ⟨_, _, _, rfl, rfl, hR⟩
  rw [if_neg h0, if_neg h0]
  by_cases h1 : x = 1
  · rw [if_pos h1, if_pos h1, gB.bas.web.2.1]
    exact ⟨_, _, _, rfl, rfl, hR⟩
  rw [if_neg h1, if_neg h1]
  by_cases h2 : x = 2
  · rw [if_pos h2, if_pos h2, gB.bas.walk.reached, gM.lp.bas.ord.reached]
    exact ⟨_, _, _, rfl, rfl, hR⟩
  rw [if_neg h2, if_neg h2]
  by_cases h3 : x = 3
  · rw [if_pos h3, if_pos h3, gB.heads]
    exact ⟨_, _, _, rfl, rfl, hR⟩
  rw [if_neg h3, if_neg h3]
  by_cases h4 : x = 4
  · rw [if_pos h4, if_pos h4, gB.backs]
    exact ⟨_, _, _, rfl, rfl, hR⟩
  rw [if_neg h4, if_neg h4]
  by_cases h5 : x = 5
  · rw [if_pos h5, if_pos h5, gB.knots]
    exact ⟨_, _, _, rfl, rfl, hR⟩
  rw [if_neg h5, if_neg h5]
  by_cases h6 : x = 6
  · rw [if_pos h6, if_pos h6, greatest_ok gB, Option.bind_some]
    exact ⟨_, _, _, rfl, rfl, hR⟩
  rw [if_neg h6, if_neg h6]
  exact ⟨_, _, _, rfl, rfl, hR⟩
theorem gr0 : GR st0B st0M := by
  refine ⟨1, fun _ => 0, fun _ _ => 0, ⟨by decide, by decide, fun _ => Nat.zero_le 8, fun _ _ => rfl, fun b k _ hk => absurd hk (Nat.not_lt_zero k)⟩, ⟨rfl, rfl, fun _ _ => rfl, fun b k _ hk => absurd hk (Nat.not_lt_zero k)⟩, ⟨rfl, fun _ _ => rfl, fun b k _ hk => absurd hk (Nat.not_lt_zero k)⟩, Or.inl ⟨rfl, rfl⟩⟩
theorem pure_ok : ∃ Rel, PureOK Rel := ⟨GR, gr0, fun σ τ h => ⟨p_block hGM0 h, fun x y => p_way hGM0 h x y, fun x y => p_cut hGM0 h x y, fun x y z => p_turn hGM0 h x y z, fun x y => p_end hGM0 h x y, fun x => p_order h x, fun x => p_at h x, fun x => p_parent h x, fun x y => p_rules h x y, fun x y => p_common h x y, fun x y => p_sort h x y, fun x y => p_inLoop h x y, fun x y => p_look h x y, fun x y => p_edge h x y, fun x => p_count h x⟩⟩
