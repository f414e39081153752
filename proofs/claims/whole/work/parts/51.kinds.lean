-- kinds of ways, parents, heads
noncomputable def od (d : Nat → Nat) (e : Nat → Nat → Nat) (b : Nat) : Nat := Classical.epsilon (fun i => i < pm d e ∧ pq d e i = b)
theorem od_ok {n : Nat} {d : Nat → Nat} {e : Nat → Nat → Nat} (hG : Gr n d e) {b : Nat} (h : Rch d e b) : od d e b < pm d e ∧ pq d e (od d e b) = b :=
  Classical.epsilon_spec (p := fun i => i < pm d e ∧ pq d e i = b) (((ord_ok hG).mem b).mp h)
theorem od_pq {n : Nat} {d : Nat → Nat} {e : Nat → Nat → Nat} (hG : Gr n d e) {i : Nat} (hi : i < pm d e) : od d e (pq d e i) = i := by
  have r : Rch d e (pq d e i) := ((ord_ok hG).mem _).mpr ⟨i, hi, rfl⟩
  exact (ord_ok hG).inj _ _ (od_ok hG r).1 hi (od_ok hG r).2
theorem OrdM.od {σ : SM} {n : Nat} {d : Nat → Nat} {e : Nat → Nat → Nat} (hG : Gr n d e) (h : OrdM σ n d e) {b : Nat} (hb : Rch d e b) : sM_order σ b = nI (od d e b) := by
  have h1 := h.ord1 _ (od_ok hG hb).1
  rw [(od_ok hG hb).2] at h1
  exact h1
theorem WalkB.od {σ : SB} {n : Nat} {d : Nat → Nat} {e : Nat → Nat → Nat} (hG : Gr n d e) (h : WalkB σ n d e) {b : Nat} (hb : Rch d e b) : sB_orders σ b = nI (od d e b) := by
  have h1 := h.ord1 _ (od_ok hG hb).1
  rw [(od_ok hG hb).2] at h1
  exact h1
def Bk (d : Nat → Nat) (e : Nat → Nat → Nat) (a k : Nat) : Prop := od d e (e a k) ≤ od d e a ∧ Dom d e (e a k) a
def Kn (d : Nat → Nat) (e : Nat → Nat → Nat) (a k : Nat) : Prop := od d e (e a k) ≤ od d e a ∧ ¬ Dom d e (e a k) a
noncomputable def kI (d : Nat → Nat) (e : Nat → Nat → Nat) (a k : Nat) : Int32 := if od d e (e a k) ≤ od d e a then (@ite _ (Dom d e (e a k) a) (Classical.propDecidable _) 1 2) else 0
theorem kI_ok (d : Nat → Nat) (e : Nat → Nat → Nat) (a k : Nat) : (Bk d e a k ∧ ¬ Kn d e a k ∧ kI d e a k = 1) ∨ (¬ Bk d e a k ∧ Kn d e a k ∧ kI d e a k = 2) ∨ (¬ Bk d e a k ∧ ¬ Kn d e a k ∧ kI d e a k = 0) := by
  unfold kI
  by_cases h : od d e (e a k) ≤ od d e a
  · rw [if_pos h]
    rcases Classical.em (Dom d e (e a k) a) with h2 | h2
    · exact Or.inl ⟨⟨h, h2⟩, fun q => q.2 h2, if_pos h2⟩
    · exact Or.inr (Or.inl ⟨fun q => h2 q.2, ⟨h, h2⟩, if_neg h2⟩)
  · rw [if_neg h]
    exact Or.inr (Or.inr ⟨fun q => h q.1, fun q => h q.1, rfl⟩)
abbrev BasM (σ : SM) (n : Nat) (d : Nat → Nat) (e : Nat → Nat → Nat) : Prop := (WebD σ n d e) ∧ (OrdM σ n d e) ∧ (RulM σ n d e n)
theorem BasM.web {σ : SM} {n : Nat} {d : Nat → Nat} {e : Nat → Nat → Nat} (I : BasM σ n d e) : WebD σ n d e := I.1
theorem BasM.ord {σ : SM} {n : Nat} {d : Nat → Nat} {e : Nat → Nat → Nat} (I : BasM σ n d e) : OrdM σ n d e := I.2.1
theorem BasM.rul {σ : SM} {n : Nat} {d : Nat → Nat} {e : Nat → Nat → Nat} (I : BasM σ n d e) : RulM σ n d e n := I.2.2
theorem BasM.u_thrown {σ : SM} {n : Nat} {d : Nat → Nat} {e : Nat → Nat → Nat} {v} (h : BasM σ n d e) : BasM (uM_thrown σ v) n d e := h
theorem BasM.u_parent {σ : SM} {n : Nat} {d : Nat → Nat} {e : Nat → Nat → Nat} {v} (h : BasM σ n d e) : BasM (uM_parent σ v) n d e := h
theorem BasM.u_isHead {σ : SM} {n : Nat} {d : Nat → Nat} {e : Nat → Nat → Nat} {v} (h : BasM σ n d e) : BasM (uM_isHead σ v) n d e := h
theorem BasM.u_loop {σ : SM} {n : Nat} {d : Nat → Nat} {e : Nat → Nat → Nat} {v} (h : BasM σ n d e) : BasM (uM_loop σ v) n d e := h
theorem BasM.u_loopSize {σ : SM} {n : Nat} {d : Nat → Nat} {e : Nat → Nat → Nat} {v} (h : BasM σ n d e) : BasM (uM_loopSize σ v) n d e := h
theorem sortOf_u {n : Nat} {d : Nat → Nat} {e : Nat → Nat → Nat} (hG : Gr n d e) {σ : SM} (h : BasM σ n d e) {a k : Nat} (ha : a < n) (hk : k < d a) (hr : ¬ Rch d e a) : f_Model_sortOf σ (nI a) (nI k) = some (-1) := by
  have g2 := hG.2.1
  have hda := hG.2.2.1 a
  unfold f_Model_sortOf
  rw [ix8', gdN (k := 8 * a + k) (by omega) (by decide), nI_clamp (n := 8 * a + k) (by omega), h.web.ends a k ha hk, Lt_eq, gdN (k := a) (by omega) (by decide), nI_clamp (n := a) (by omega), h.ord.ord0 a ha hr, if_neg (by decide)]
theorem sortOf_r {n : Nat} {d : Nat → Nat} {e : Nat → Nat → Nat} (hG : Gr n d e) {σ : SM} (h : BasM σ n d e) {a k : Nat} (ha : a < n) (hk : k < d a) (hr : Rch d e a) : f_Model_sortOf σ (nI a) (nI k) = some (kI d e a k) := by
  have g2 := hG.2.1
  have hda := hG.2.2.1 a
  have hen := hG.2.2.2.2 a k ha hk
  have O := ord_ok hG
  have hle := O.le
  have o1 := (od_ok hG hr).1
  have o2 := (od_ok hG (hr.step hk)).1
  unfold f_Model_sortOf
  rw [ix8', gdN (k := 8 * a + k) (by omega) (by decide), nI_clamp (n := 8 * a + k) (by omega), h.web.ends a k ha hk, Lt_eq, gdN (k := a) (by omega) (by decide), nI_clamp (n := a) (by omega), h.ord.od hG hr, if_pos (nI_pos' (by omega)), gdN (k := e a k) (by omega) (by decide), nI_clamp (n := e a k) (by omega), h.ord.od hG (hr.step hk), ix64, gdN (k := 64 * e a k + a) (by omega) (by decide), nI_clamp (n := 64 * e a k + a) (by omega), h.rul _ _ hen ha]
  unfold kI
  by_cases h1 : od d e (e a k) ≤ od d e a
  · rw [if_pos h1, if_pos (nI_le h1 (by omega))]
    rcases Classical.em (Dom d e (e a k) a) with h2 | h2
    · rw [pI_t h2, if_neg (by decide), if_pos h2]
    · rw [pI_f h2, if_pos rfl, if_neg h2]
  · rw [if_neg h1, if_neg (nI_ge (by omega) (by omega))]
theorem kindOf_ok {n : Nat} {d : Nat → Nat} {e : Nat → Nat → Nat} (hG : Gr n d e) {σ : SB} (hB : WebB σ n d e) (hW : WalkB σ n d e) (hR : RS σ (fun b x => Dom d e x b)) {a k : Nat} (hk : k < d a) (hr : Rch d e a) : f_Loops_kindOf σ (nI a) (nI k) = some (kI d e a k) := by
  have g2 := hG.2.1
  have ha := rch_lt hG hr
  have hda := hG.2.2.1 a
  have hen := hG.2.2.2.2 a k ha hk
  have O := ord_ok hG
  have hle := O.le
  have o1 := (od_ok hG hr).1
  have o2 := (od_ok hG (hr.step hk)).1
  unfold f_Loops_kindOf f_Rulers_isRuled
  rw [endOf_in hG hB ha hk, Option.bind_some, gdN (k := e a k) (by omega) (by decide), gdN (k := a) (by omega) (by decide), nI_clamp (n := e a k) (by omega), gdN (k := a) (by omega) (by decide), nI_clamp (n := a) (by omega), hW.od hG hr, hW.od hG (hr.step hk), hR a (by omega), bs_holds _ (by omega), Option.bind_some]
  unfold kI
  by_cases h1 : od d e (e a k) ≤ od d e a
  · rw [if_pos h1, if_pos (nI_le h1 (by omega))]
    rcases Classical.em (Dom d e (e a k) a) with h2 | h2
    · rw [pI_t h2, if_neg (by decide), if_pos h2]
    · rw [pI_f h2, if_pos rfl, if_neg h2]
  · rw [if_neg h1, if_neg (nI_ge (by omega) (by omega))]
/-- the last in order of which p holds -/
noncomputable def lastI (z : Int32) (p : Nat → Prop) (q : Nat → Nat) : Nat → Int32
  | 0 => z
  | m + 1 => @ite _ (p (q m)) (Classical.propDecidable _) (nI (q m)) (lastI z p q m)
theorem lastI_t {z : Int32} {p : Nat → Prop} {q : Nat → Nat} {m : Nat} (h : p (q m)) : lastI z p q (m + 1) = nI (q m) := if_pos h
theorem lastI_f {z : Int32} {p : Nat → Prop} {q : Nat → Nat} {m : Nat} (h : ¬ p (q m)) : lastI z p q (m + 1) = lastI z p q m := if_neg h
theorem lastI_ext {z : Int32} {p p' : Nat → Prop} {q : Nat → Nat} : ∀ {m : Nat}, (∀ i, i < m → (p (q i) ↔ p' (q i))) → lastI z p q m = lastI z p' q m
  | 0, _ => rfl
  | m + 1, h => by
    have ih := lastI_ext (z := z) (m := m) (fun i hi => h i (by omega))
    rcases Classical.em (p (q m)) with hp | hp
    · rw [lastI_t hp, lastI_t ((h m (by omega)).mp hp)]
    · rw [lastI_f hp, lastI_f (fun r => hp ((h m (by omega)).mpr r)), ih]
abbrev ParM (σ : SM) (n : Nat) (d : Nat → Nat) (e : Nat → Nat → Nat) (j : Nat) : Prop := ∀ b, b < j → sM_parent σ b = lastI (-1) (fun y => ¬ y = b ∧ Dom d e y b) (pq d e) (pm d e)
theorem ParM.u_thrown {σ : SM} {n : Nat} {d : Nat → Nat} {e : Nat → Nat → Nat} {j : Nat} {v} (h : ParM σ n d e j) : ParM (uM_thrown σ v) n d e j := h
theorem ParM.u_isHead {σ : SM} {n : Nat} {d : Nat → Nat} {e : Nat → Nat → Nat} {j : Nat} {v} (h : ParM σ n d e j) : ParM (uM_isHead σ v) n d e j := h
theorem ParM.u_loop {σ : SM} {n : Nat} {d : Nat → Nat} {e : Nat → Nat → Nat} {j : Nat} {v} (h : ParM σ n d e j) : ParM (uM_loop σ v) n d e j := h
theorem ParM.u_loopSize {σ : SM} {n : Nat} {d : Nat → Nat} {e : Nat → Nat → Nat} {j : Nat} {v} (h : ParM σ n d e j) : ParM (uM_loopSize σ v) n d e j := h
theorem r57_ok {n : Nat} {d : Nat → Nat} {e : Nat → Nat → Nat} (hG : Gr n d e) {σ : SM} (hM : BasM σ n d e) {b : Nat} (hb : b < n) :
    ∃ v σ', lp_Model_reckon_57 100 (uM_parent σ (upd (sM_parent σ) b (-1))) (nI b) 0 = some (v, σ') ∧ BasM σ' n d e ∧ sM_parent σ' b = lastI (-1) (fun y => ¬ y = b ∧ Dom d e y b) (pq d e) (pm d e) ∧ ∀ c, ¬ c = b → sM_parent σ' c = sM_parent σ c := by
  have g2 := hG.2.1
  have O := ord_ok hG
  have hle := O.le
  refine Exists.elim (loopN (lp := fun f s i => lp_Model_reckon_57 f s (nI b) i) (N := pm d e) (Inv := fun j s => BasM s n d e ∧ sM_parent s b = lastI (-1) (fun y => ¬ y = b ∧ Dom d e y b) (pq d e) j ∧ ∀ c, ¬ c = b → sM_parent s c = sM_parent σ c) (done := fun s => (nI (pm d e), s)) (fun f s hI => ?_) (fun f j s hj hI => ?_) (pm d e) 100 0 (uM_parent σ (upd (sM_parent σ) b (-1))) (by omega) (by omega) ⟨hM.u_parent, by rw [gM_parent_parent, pk_us]; rfl, fun c hc => by rw [gM_parent_parent, pk_un hc]⟩) (fun s' hs' => ?_)
  · show lp_Model_reckon_57 (f + 1) s (nI b) (nI (pm d e)) = _
    rw [lp_Model_reckon_57_s, hI.1.ord.reached, if_pos (nI_le (Nat.le_refl _) (by omega))]
  · obtain ⟨i1, i2, i3⟩ := hI
    have hql := O.lt j hj
    show ∃ s' : SM, lp_Model_reckon_57 (f + 1) s (nI b) (nI j) = lp_Model_reckon_57 f s' (nI b) (nI (j + 1)) ∧ _
    rw [lp_Model_reckon_57_s, i1.ord.reached, if_neg (nI_ge hj (by omega)), gdN (k := j) (by omega) (by decide), nI_clamp (n := j) (by omega), i1.ord.at1 j hj, ix64, gdN (k := 64 * pq d e j + b) (by omega) (by decide), nI_clamp (n := 64 * pq d e j + b) (by omega), i1.rul _ _ hql hb, gdN (k := b) (by omega) (by decide), nI_clamp (n := b) (by omega), nI_1]
    by_cases h1 : pq d e j = b
    · rw [if_pos (by rw [h1])]
      refine ⟨s, rfl, i1, ?_, i3⟩
      rw [lastI_f (p := fun y => ¬ y = b ∧ Dom d e y b) (fun q => q.1 h1)]
      exact i2
    · rw [if_neg (fun q => h1 ((nI_eq (by omega) (by omega)).mp q))]
      rcases Classical.em (Dom d e (pq d e j) b) with h2 | h2
      · rw [pI_t h2, if_neg (by decide)]
        refine ⟨_, rfl, i1.u_parent, ?_, fun c hc => ?_⟩
        · rw [gM_parent_parent, pk_us, lastI_t (p := fun y => ¬ y = b ∧ Dom d e y b) ⟨h1, h2⟩]
        · rw [gM_parent_parent, pk_un hc]; exact i3 c hc
      · rw [pI_f h2, if_pos rfl]
        refine ⟨s, rfl, i1, ?_, i3⟩
        rw [lastI_f (p := fun y => ¬ y = b ∧ Dom d e y b) (fun q => h2 q.2)]
        exact i2
  · exact ⟨nI (pm d e), s', hs'.1, hs'.2⟩
theorem r40_ok {n : Nat} {d : Nat → Nat} {e : Nat → Nat → Nat} (hG : Gr n d e) {σ : SM} (hM : BasM σ n d e) :
    ∃ v σ', lp_Model_reckon_40 100 σ 0 = some (v, σ') ∧ BasM σ' n d e ∧ ParM σ' n d e n := by
  have g2 := hG.2.1
  refine Exists.elim (loopN (lp := lp_Model_reckon_40) (N := n) (Inv := fun j s => BasM s n d e ∧ ParM s n d e j) (done := fun s => (nI n, s)) (fun f s hI => ?_) (fun f j s hj hI => ?_) n 100 0 σ (by omega) (by omega) ⟨hM, fun b hb => absurd hb (Nat.not_lt_zero b)⟩) (fun s' hs' => ?_)
  · rw [lp_Model_reckon_40_s, hI.1.web.blocks, if_pos (nI_le (Nat.le_refl _) (by omega))]
  · obtain ⟨i1, i2⟩ := hI
    obtain ⟨v, σ', j1, j2, j3, j4⟩ := r57_ok hG i1 hj
    refine ⟨σ', ?_, j2, fun b hb => ?_⟩
    · rw [lp_Model_reckon_40_s, i1.web.blocks, if_neg (nI_ge hj (by omega)), gdN (k := j) (by omega) (by decide), nI_clamp (n := j) (by omega), j1, Option.bind_some, nI_1]
    · by_cases hbj : b = j
      · rw [hbj]; exact j3
      · rw [j4 b hbj]; exact i2 b (by omega)
  · exact ⟨nI n, s', hs'.1, hs'.2⟩
/-- a begins a way back to b -/
def Hd (d : Nat → Nat) (e : Nat → Nat → Nat) (a b : Nat) : Prop := Rch d e a ∧ ∃ k, k < d a ∧ e a k = b ∧ Bk d e a k
def Head (d : Nat → Nat) (e : Nat → Nat → Nat) (b : Nat) : Prop := ∃ a, Hd d e a b
theorem r120_ok {n : Nat} {d : Nat → Nat} {e : Nat → Nat → Nat} (hG : Gr n d e) {σ : SM} (hM : BasM σ n d e) (hP : ParM σ n d e n) :
    ∃ v σ', lp_Model_reckon_120 100 σ 0 = some (v, σ') ∧ BasM σ' n d e ∧ ParM σ' n d e n ∧ ∀ b, b < n → sM_isHead σ' b = 0 := by
  have g2 := hG.2.1
  refine Exists.elim (loopN (lp := lp_Model_reckon_120) (N := n) (Inv := fun j s => BasM s n d e ∧ ParM s n d e n ∧ ∀ b, b < j → sM_isHead s b = 0) (done := fun s => (nI n, s)) (fun f s hI => ?_) (fun f j s hj hI => ?_) n 100 0 σ (by omega) (by omega) ⟨hM, hP, fun b hb => absurd hb (Nat.not_lt_zero b)⟩) (fun s' hs' => ?_)
  · rw [lp_Model_reckon_120_s, hI.1.web.blocks, if_pos (nI_le (Nat.le_refl _) (by omega))]
  · obtain ⟨i1, i2, i3⟩ := hI
    rw [lp_Model_reckon_120_s, i1.web.blocks, if_neg (nI_ge hj (by omega)), gdN (k := j) (by omega) (by decide), nI_clamp (n := j) (by omega), nI_1, nar0]
    refine ⟨_, rfl, i1.u_isHead, i2.u_isHead, fun b hb => ?_⟩
    rw [gM_isHead_isHead]
    by_cases hbj : b = j
    · rw [hbj, pk_us]
    · rw [pk_un hbj]; exact i3 b (by omega)
  · exact ⟨nI n, s', hs'.1, hs'.2⟩
theorem r153_ok {n : Nat} {d : Nat → Nat} {e : Nat → Nat → Nat} (hG : Gr n d e) {σ : SM} (hM : BasM σ n d e) (hP : ParM σ n d e n) {a : Nat} (ha : a < n) {H : Nat → Prop} (hH : ∀ b, b < n → sM_isHead σ b = pI (H b)) :
    ∃ v σ', lp_Model_reckon_153 100 σ (nI a) 0 = some (v, σ') ∧ BasM σ' n d e ∧ ParM σ' n d e n ∧ ∀ b, b < n → sM_isHead σ' b = pI (H b ∨ Hd d e a b) := by
  have g2 := hG.2.1
  have hda := hG.2.2.1 a
  refine Exists.elim (loopN (lp := fun f s i => lp_Model_reckon_153 f s (nI a) i) (N := d a) (Inv := fun j s => BasM s n d e ∧ ParM s n d e n ∧ ∀ b, b < n → sM_isHead s b = pI (H b ∨ (Rch d e a ∧ ∃ k, k < j ∧ e a k = b ∧ Bk d e a k))) (done := fun s => (nI (d a), s)) (fun f s hI => ?_) (fun f j s hj hI => ?_) (d a) 100 0 σ (by omega) (by omega) ⟨hM, hP, fun b hb => ?_⟩) (fun s' hs' => ?_)
  · show lp_Model_reckon_153 (f + 1) s (nI a) (nI (d a)) = _
    rw [lp_Model_reckon_153_s, gdN (k := a) (by omega) (by decide), nI_clamp (n := a) (by omega), hI.1.web.many a (by omega), if_pos (nI_le (Nat.le_refl _) (by omega))]
  · obtain ⟨i1, i2, i3⟩ := hI
    have hen := hG.2.2.2.2 a j ha hj
    have stay : ¬ (Rch d e a ∧ Bk d e a j) → ∀ b, b < n → sM_isHead s b = pI (H b ∨ (Rch d e a ∧ ∃ k, k < j + 1 ∧ e a k = b ∧ Bk d e a k)) := by
      intro hn b hb
      rw [i3 b hb]
      refine pI_congr ⟨?_, ?_⟩
      · rintro (q | ⟨q, k, hk, h⟩)
        · exact Or.inl q
        · exact Or.inr ⟨q, k, by omega, h⟩
      · rintro (q | ⟨q, k, hk, h, h2⟩)
        · exact Or.inl q
        · by_cases hkj : k = j
          · rw [hkj] at h2
            exact absurd ⟨q, h2⟩ hn
          · exact Or.inr ⟨q, k, by omega, h, h2⟩
    show ∃ s' : SM, lp_Model_reckon_153 (f + 1) s (nI a) (nI j) = lp_Model_reckon_153 f s' (nI a) (nI (j + 1)) ∧ _
    rw [lp_Model_reckon_153_s, gdN (k := a) (by omega) (by decide), nI_clamp (n := a) (by omega), i1.web.many a (by omega), if_neg (nI_ge hj (by omega)), ix8', gdN (k := 8 * a + j) (by omega) (by decide), nI_clamp (n := 8 * a + j) (by omega), i1.web.ends a j ha hj, gdN (k := e a j) (by omega) (by decide), nI_clamp (n := e a j) (by omega), nI_1, nar1]
    rcases Classical.em (Rch d e a) with hr | hr
    · rw [sortOf_r hG i1 ha hj hr, Option.bind_some]
      rcases kI_ok d e a j with ⟨k1, k2, k3⟩ | ⟨k1, k2, k3⟩ | ⟨k1, k2, k3⟩
      · rw [k3, if_pos rfl]
        refine ⟨_, rfl, i1.u_isHead, i2.u_isHead, fun b hb => ?_⟩
        rw [gM_isHead_isHead]
        by_cases hbe : b = e a j
        · rw [hbe, pk_us, pI_t (Or.inr ⟨hr, j, by omega, rfl, k1⟩)]
        · rw [pk_un hbe, i3 b hb]
          refine pI_congr ⟨?_, ?_⟩
          · rintro (q | ⟨q, k, hk, h⟩)
            · exact Or.inl q
            · exact Or.inr ⟨q, k, by omega, h⟩
          · rintro (q | ⟨q, k, hk, h, h2⟩)
            · exact Or.inl q
            · by_cases hkj : k = j
              · rw [hkj] at h
                exact absurd h.symm hbe
              · exact Or.inr ⟨q, k, by omega, h, h2⟩
      · rw [k3, if_neg (by decide)]
        exact ⟨s, rfl, i1, i2, stay (fun q => k1 q.2)⟩
      · rw [k3, if_neg (by decide)]
        exact ⟨s, rfl, i1, i2, stay (fun q => k1 q.2)⟩
    · rw [sortOf_u hG i1 ha hj hr, Option.bind_some, if_neg (by decide)]
      exact ⟨s, rfl, i1, i2, stay (fun q => hr q.1)⟩
  · rw [hH b hb]
    refine pI_congr ⟨Or.inl, ?_⟩
    rintro (q | ⟨_, k, hk, _⟩)
    · exact q
    · omega
  · exact ⟨nI (d a), s', hs'.1, hs'.2.1, hs'.2.2.1, hs'.2.2.2⟩
abbrev HdM (σ : SM) (n : Nat) (d : Nat → Nat) (e : Nat → Nat → Nat) : Prop := ∀ b, b < n → sM_isHead σ b = pI (Head d e b)
theorem HdM.u_thrown {σ : SM} {n : Nat} {d : Nat → Nat} {e : Nat → Nat → Nat} {v} (h : HdM σ n d e) : HdM (uM_thrown σ v) n d e := h
theorem HdM.u_loop {σ : SM} {n : Nat} {d : Nat → Nat} {e : Nat → Nat → Nat} {v} (h : HdM σ n d e) : HdM (uM_loop σ v) n d e := h
theorem HdM.u_loopSize {σ : SM} {n : Nat} {d : Nat → Nat} {e : Nat → Nat → Nat} {v} (h : HdM σ n d e) : HdM (uM_loopSize σ v) n d e := h
theorem r143_ok {n : Nat} {d : Nat → Nat} {e : Nat → Nat → Nat} (hG : Gr n d e) {σ : SM} (hM : BasM σ n d e) (hP : ParM σ n d e n) (h0 : ∀ b, b < n → sM_isHead σ b = 0) :
    ∃ v σ', lp_Model_reckon_143 100 σ 0 = some (v, σ') ∧ BasM σ' n d e ∧ ParM σ' n d e n ∧ HdM σ' n d e := by
  have g2 := hG.2.1
  refine Exists.elim (loopN (lp := lp_Model_reckon_143) (N := n) (Inv := fun j s => BasM s n d e ∧ ParM s n d e n ∧ ∀ b, b < n → sM_isHead s b = pI (∃ a, a < j ∧ Hd d e a b)) (done := fun s => (nI n, s)) (fun f s hI => ?_) (fun f j s hj hI => ?_) n 100 0 σ (by omega) (by omega) ⟨hM, hP, fun b hb => ?_⟩) (fun s' hs' => ?_)
  · rw [lp_Model_reckon_143_s, hI.1.web.blocks, if_pos (nI_le (Nat.le_refl _) (by omega))]
  · obtain ⟨i1, i2, i3⟩ := hI
    obtain ⟨v, σ', j1, j2, j3, j4⟩ := r153_ok hG i1 i2 hj i3
    refine ⟨σ', ?_, j2, j3, fun b hb => (j4 b hb).trans (pI_congr ⟨?_, ?_⟩)⟩
    · rw [lp_Model_reckon_143_s, i1.web.blocks, if_neg (nI_ge hj (by omega)), j1, Option.bind_some, nI_1]
    · rintro (⟨a, ha, q⟩ | q)
      · exact ⟨a, by omega, q⟩
      · exact ⟨j, by omega, q⟩
    · rintro ⟨a, ha, q⟩
      by_cases haj : a = j
      · rw [haj] at q
        exact Or.inr q
      · exact Or.inl ⟨a, by omega, q⟩
  · rw [h0 b hb]
    refine (pI_f ?_).symm
    rintro ⟨a, ha, _⟩
    omega
  · refine ⟨nI n, s', hs'.1, hs'.2.1, hs'.2.2.1, fun b hb => (hs'.2.2.2 b hb).trans (pI_congr ⟨?_, ?_⟩)⟩
    · rintro ⟨a, _, q⟩
      exact ⟨a, q⟩
    · rintro ⟨a, q⟩
      exact ⟨a, rch_lt hG q.1, q⟩
