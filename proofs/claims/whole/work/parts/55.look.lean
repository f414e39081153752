-- questions: look
theorem InL.lt {n : Nat} {d : Nat → Nat} {e : Nat → Nat → Nat} (hG : Gr n d e) {h x : Nat} (H : InL d e h x) : x < n := rch_lt hG H.rch
theorem InL.lth {n : Nat} {d : Nat → Nat} {e : Nat → Nat → Nat} (hG : Gr n d e) {h x : Nat} (H : InL d e h x) : h < n := rch_lt hG H.1.rch
noncomputable def dep (d : Nat → Nat) (e : Nat → Nat → Nat) (x : Nat) : Nat := cnt (fun h => InL d e h x) 64
noncomputable def lsz (d : Nat → Nat) (e : Nat → Nat → Nat) (h : Nat) : Nat := cnt (InL d e h) 64
theorem dep_n {n : Nat} {d : Nat → Nat} {e : Nat → Nat → Nat} (hG : Gr n d e) (x : Nat) : cnt (fun h => InL d e h x) n = dep d e x := (cnt_cut (fun h q => q.lth hG) 64 hG.2.1).symm
theorem lsz_n {n : Nat} {d : Nat → Nat} {e : Nat → Nat → Nat} (hG : Gr n d e) (h : Nat) : cnt (InL d e h) n = lsz d e h := (cnt_cut (fun x q => q.lt hG) 64 hG.2.1).symm
theorem dom_n {n : Nat} {d : Nat → Nat} {e : Nat → Nat → Nat} (hG : Gr n d e) (h : Nat) : cnt (Dom d e h) n = cnt (Dom d e h) 64 := (cnt_cut (fun x q => rch_lt hG q.2.1) 64 hG.2.1).symm
theorem depB {n : Nat} {d : Nat → Nat} {e : Nat → Nat → Nat} {σ : SB} (gB : GoodB σ n d e) {x : Nat} (hx : x < 64) : f_Loops_depthOf σ (nI x) = some (nI (dep d e x)) := by
  refine Exists.elim (loopN (lp := fun f (s : Int32) i => lp_Loops_depthOf_4 f σ (nI x) s i) (N := 64) (Inv := fun j s => s = nI (cnt (fun h => InL d e h x) j)) (done := fun s => (s, nI 64)) (fun f s hI => ?_) (fun f j s hj hI => ?_) 64 100 0 0 (by omega) (by omega) ?_) (fun s' hs' => ?_)
  · show lp_Loops_depthOf_4 (f + 1) σ (nI x) s (nI 64) = _
    rw [lp_Loops_depthOf_4_s, if_pos (show (64 : Int32) ≤ nI 64 by decide)]
  · have c1 : ¬ (64 : Int32) ≤ nI j := nI_ge (b := 64) hj (by decide)
    show ∃ s' : Int32, lp_Loops_depthOf_4 (f + 1) σ (nI x) s (nI j) = lp_Loops_depthOf_4 f σ (nI x) s' (nI (j + 1)) ∧ _
    rw [lp_Loops_depthOf_4_s, if_neg c1, gdN hj (by decide), nI_clamp (n := j) (by omega), gB.lof j hj, bs_holds _ hx, nI_1 j]
    rcases Classical.em (InL d e j x) with q | q
    · rw [if_neg (show ¬ pI (InL d e j x) = 0 by rw [pI_t q]; decide)]
      exact ⟨_, rfl, by rw [hI, nI_1, cnt_s' (p := fun h => InL d e h x) q]⟩
    · rw [if_pos (show pI (InL d e j x) = 0 from pI_f q)]
      exact ⟨_, rfl, by rw [hI, cnt_n' (p := fun h => InL d e h x) q]⟩
  · rw [cnt_z]; rfl
  · obtain ⟨h1, h2⟩ := hs'
    unfold f_Loops_depthOf
    have h1' : lp_Loops_depthOf_4 100 σ (nI x) 0 0 = some (s', nI 64) := h1
    rw [h1', h2]
    rfl
theorem depM {n : Nat} {d : Nat → Nat} {e : Nat → Nat → Nat} (hG : Gr n d e) {τ : SM} (gM : GoodM τ n d e) {x : Nat} (hx : x < n) : f_Model_depthOf τ (nI x) = some (nI (dep d e x)) := by
  have g2 := hG.2.1
  refine Exists.elim (loopN (lp := fun f (s : Int32) i => lp_Model_depthOf_4 f τ (nI x) s i) (N := n) (Inv := fun j s => s = nI (cnt (fun h => InL d e h x) j)) (done := fun s => (s, nI n)) (fun f s hI => ?_) (fun f j s hj hI => ?_) n 100 0 0 (by omega) (by omega) ?_) (fun s' hs' => ?_)
  · show lp_Model_depthOf_4 (f + 1) τ (nI x) s (nI n) = _
    rw [lp_Model_depthOf_4_s, gM.lp.bas.web.blocks, if_pos (nI_le (Nat.le_refl _) (by omega))]
  · show ∃ s' : Int32, lp_Model_depthOf_4 (f + 1) τ (nI x) s (nI j) = lp_Model_depthOf_4 f τ (nI x) s' (nI (j + 1)) ∧ _
    rw [lp_Model_depthOf_4_s, gM.lp.bas.web.blocks, if_neg (nI_ge hj (by omega)), gdN (k := j) (by omega) (by decide), nI_clamp (n := j) (by omega), gM.lp.head j hj, ix64, gdN (k := 64 * j + x) (by omega) (by decide), nI_clamp (n := 64 * j + x) (by omega), gM.rows j hj x hx, nI_1 j, Int32.add_zero]
    rcases Classical.em (InL d e j x) with q | q
    · rw [if_neg (show ¬ pI (Head d e j) = 0 by rw [pI_t q.1]; decide), if_neg (show ¬ pI (InL d e j x) = 0 by rw [pI_t q]; decide)]
      exact ⟨_, rfl, by rw [hI, nI_1, cnt_s' (p := fun h => InL d e h x) q]⟩
    · rw [if_pos (show pI (InL d e j x) = 0 from pI_f q)]
      refine ⟨s, ?_, by rw [hI, cnt_n' (p := fun h => InL d e h x) q]⟩
      split <;> rfl
  · rw [cnt_z]; rfl
  · obtain ⟨h1, h2⟩ := hs'
    unfold f_Model_depthOf
    have h1' : lp_Model_depthOf_4 100 τ (nI x) 0 0 = some (s', nI n) := h1
    rw [h1', h2, dep_n hG]
    rfl
theorem realmOf_ok {n : Nat} {d : Nat → Nat} {e : Nat → Nat → Nat} {σ : SB} (gB : GoodB σ n d e) {x : Nat} (hx : x < 64) : f_Rulers_realmOf σ (nI x) = some (bs (Dom d e x)) := by
  refine Exists.elim (loopN (lp := fun f (s : Int64) i => lp_Rulers_realmOf_5 f σ (nI x) s i) (N := 64) (Inv := fun j s => s = bs (fun b => b < j ∧ Dom d e x b)) (done := fun s => (s, nI 64)) (fun f s hI => ?_) (fun f j s hj hI => ?_) 64 100 0 0 (by omega) (by omega) ?_) (fun s' hs' => ?_)
  · show lp_Rulers_realmOf_5 (f + 1) σ (nI x) s (nI 64) = _
    rw [lp_Rulers_realmOf_5_s, if_pos (show (64 : Int32) ≤ nI 64 by decide)]
  · have c1 : ¬ (64 : Int32) ≤ nI j := nI_ge (b := 64) hj (by decide)
    show ∃ s' : Int64, lp_Rulers_realmOf_5 (f + 1) σ (nI x) s (nI j) = lp_Rulers_realmOf_5 f σ (nI x) s' (nI (j + 1)) ∧ _
    rw [lp_Rulers_realmOf_5_s, if_neg c1]
    unfold f_Rulers_isRuled
    rw [gdN hj (by decide), nI_clamp (n := j) (by omega), gB.bas.rs j hj, bs_holds _ hx, Option.bind_some, nI_1 j, bs_only hj, Lt_eq, hI, bs_or]
    rcases Classical.em (Dom d e x j) with q | q
    · rw [if_neg (show ¬ pI (Dom d e x j) = 0 by rw [pI_t q]; decide)]
      refine ⟨_, rfl, bs_ext (fun b _ => ⟨?_, ?_⟩)⟩
      · rintro (w | w)
        · exact ⟨by omega, w.2⟩
        · rw [w]; exact ⟨by omega, q⟩
      · rintro ⟨w1, w2⟩
        by_cases hb : b = j
        · exact Or.inr hb
        · exact Or.inl ⟨by omega, w2⟩
    · rw [if_pos (show pI (Dom d e x j) = 0 from pI_f q)]
      refine ⟨_, rfl, bs_ext (fun b _ => ⟨fun w => ⟨by omega, w.2⟩, ?_⟩)⟩
      rintro ⟨w1, w2⟩
      by_cases hb : b = j
      · rw [hb] at w2
        exact absurd w2 q
      · exact ⟨by omega, w2⟩
  · rw [bs_0]
    exact bs_ext (fun b _ => ⟨fun q => q.elim, fun q => absurd q.1 (Nat.not_lt_zero b)⟩)
  · obtain ⟨h1, h2⟩ := hs'
    unfold f_Rulers_realmOf
    have h1' : lp_Rulers_realmOf_5 100 σ (nI x) 0 0 = some (s', nI 64) := h1
    rw [h1', h2, Option.bind_some]
    exact congrArg some (bs_ext (fun b hb => ⟨fun q => q.2, fun q => ⟨hb, q⟩⟩))
theorem look121 {n : Nat} {d : Nat → Nat} {e : Nat → Nat → Nat} (hG : Gr n d e) {τ : SM} (gM : GoodM τ n d e) {x : Nat} (hx : x < n) : ∃ w, lp_Model_look_121 100 τ (nI x) 0 0 = some (nI (cnt (Dom d e x) 64), w) := by
  have g2 := hG.2.1
  refine Exists.elim (loopN (lp := fun f (s : Int32) i => lp_Model_look_121 f τ (nI x) s i) (N := n) (Inv := fun j s => s = nI (cnt (Dom d e x) j)) (done := fun s => (s, nI n)) (fun f s hI => ?_) (fun f j s hj hI => ?_) n 100 0 0 (by omega) (by omega) ?_) (fun s' hs' => ?_)
  · show lp_Model_look_121 (f + 1) τ (nI x) s (nI n) = _
    rw [lp_Model_look_121_s, gM.lp.bas.web.blocks, if_pos (nI_le (Nat.le_refl _) (by omega))]
  · show ∃ s' : Int32, lp_Model_look_121 (f + 1) τ (nI x) s (nI j) = lp_Model_look_121 f τ (nI x) s' (nI (j + 1)) ∧ _
    rw [lp_Model_look_121_s, gM.lp.bas.web.blocks, if_neg (nI_ge hj (by omega)), ix64, gdN (k := 64 * x + j) (by omega) (by decide), nI_clamp (n := 64 * x + j) (by omega), gM.lp.bas.rul x j hx hj, nI_1 j, Int32.add_zero]
    rcases Classical.em (Dom d e x j) with q | q
    · rw [if_neg (show ¬ pI (Dom d e x j) = 0 by rw [pI_t q]; decide)]
      exact ⟨_, rfl, by rw [hI, nI_1, cnt_s' q]⟩
    · rw [if_pos (show pI (Dom d e x j) = 0 from pI_f q)]
      exact ⟨_, rfl, by rw [hI, cnt_n' q]⟩
  · rw [cnt_z]; rfl
  · refine ⟨nI n, ?_⟩
    have h2 : s' = nI (cnt (Dom d e x) n) := hs'.2
    rw [← dom_n hG, ← h2]
    exact hs'.1
theorem dsum_cut {f : Nat → Nat} {n : Nat} (h : ∀ i, n ≤ i → f i = 0) : ∀ m, n ≤ m → dsum f m = dsum f n
  | 0, hm => by
    have : n = 0 := by omega
    rw [this]
  | m + 1, hm => by
    by_cases hn : n = m + 1
    · rw [hn]
    · show dsum f m + f m = _
      rw [dsum_cut h m (by omega), h m (by omega), Nat.add_zero]
theorem look176 {n : Nat} {d : Nat → Nat} {e : Nat → Nat → Nat} (hG : Gr n d e) {τ : SM} (gM : GoodM τ n d e) {x a : Nat} (hx : x < n) (ha : a < n) (c : Nat) : ∃ w, lp_Model_look_176 100 τ (nI x) (nI c) (nI a) 0 = some (nI (c + c01 (Rch d e a) * cnt (fun k => e a k = x) (d a)), w) := by
  have g2 := hG.2.1
  have hda := hG.2.2.1 a
  refine Exists.elim (loopN (lp := fun f (s : Int32) i => lp_Model_look_176 f τ (nI x) s (nI a) i) (N := d a) (Inv := fun j s => s = nI (c + c01 (Rch d e a) * cnt (fun k => e a k = x) j)) (done := fun s => (s, nI (d a))) (fun f s hI => ?_) (fun f j s hj hI => ?_) (d a) 100 0 (nI c) (by omega) (by omega) ?_) (fun s' hs' => ?_)
  · show lp_Model_look_176 (f + 1) τ (nI x) s (nI a) (nI (d a)) = _
    rw [lp_Model_look_176_s, gdN (k := a) (by omega) (by decide), nI_clamp (n := a) (by omega), gM.lp.bas.web.many a (by omega), if_pos (nI_le (Nat.le_refl _) (by omega))]
  · have hen := hG.2.2.2.2 a j ha hj
    show ∃ s' : Int32, lp_Model_look_176 (f + 1) τ (nI x) s (nI a) (nI j) = lp_Model_look_176 f τ (nI x) s' (nI a) (nI (j + 1)) ∧ _
    rw [lp_Model_look_176_s, gdN (k := a) (by omega) (by decide), nI_clamp (n := a) (by omega), gM.lp.bas.web.many a (by omega), if_neg (nI_ge hj (by omega)), ix8', gdN (k := 8 * a + j) (by omega) (by decide), nI_clamp (n := 8 * a + j) (by omega), gM.lp.bas.web.ends a j ha hj, nI_1 j, Int32.add_zero]
    rcases Classical.em (Rch d e a) with hr | hr
    · have o1 := (od_ok hG hr).1
      have hle := (ord_ok hG).le
      rw [gM.lp.bas.ord.od hG hr, if_neg (nI_pos (by omega))]
      rw [c01_t hr, Nat.one_mul] at hI ⊢
      by_cases he : e a j = x
      · rw [if_pos (by rw [he])]
        exact ⟨_, rfl, by rw [hI, nI_1, cnt_s' (p := fun k => e a k = x) he]; rfl⟩
      · rw [if_neg (fun w => he ((nI_eq (by omega) (by omega)).mp w))]
        exact ⟨_, rfl, by rw [hI, cnt_n' (p := fun k => e a k = x) he]⟩
    · rw [gM.lp.bas.ord.ord0 a ha hr, if_pos (by decide)]
      rw [c01_f hr, Nat.zero_mul] at hI ⊢
      exact ⟨_, rfl, hI⟩
  · rw [cnt_z, Nat.mul_zero]; rfl
  · refine ⟨nI (d a), ?_⟩
    have h2 : s' = nI (c + c01 (Rch d e a) * cnt (fun k => e a k = x) (d a)) := hs'.2
    rw [← h2]
    exact hs'.1
theorem look164 {n : Nat} {d : Nat → Nat} {e : Nat → Nat → Nat} (hG : Gr n d e) {τ : SM} (gM : GoodM τ n d e) {x : Nat} (hx : x < n) : ∃ w, lp_Model_look_164 100 τ (nI x) 0 0 = some (nI (comN d e x), w) := by
  have g2 := hG.2.1
  refine Exists.elim (loopN (lp := fun f (s : Int32) i => lp_Model_look_164 f τ (nI x) s i) (N := n) (Inv := fun j s => s = nI (dsum (fun a => c01 (Rch d e a) * cnt (fun k => e a k = x) (d a)) j)) (done := fun s => (s, nI n)) (fun f s hI => ?_) (fun f j s hj hI => ?_) n 100 0 0 (by omega) (by omega) rfl) (fun s' hs' => ?_)
  · show lp_Model_look_164 (f + 1) τ (nI x) s (nI n) = _
    rw [lp_Model_look_164_s, gM.lp.bas.web.blocks, if_pos (nI_le (Nat.le_refl _) (by omega))]
  · obtain ⟨w, q⟩ := look176 hG gM hx hj (dsum (fun a => c01 (Rch d e a) * cnt (fun k => e a k = x) (d a)) j)
    show ∃ s' : Int32, lp_Model_look_164 (f + 1) τ (nI x) s (nI j) = lp_Model_look_164 f τ (nI x) s' (nI (j + 1)) ∧ _
    rw [lp_Model_look_164_s, gM.lp.bas.web.blocks, if_neg (nI_ge hj (by omega)), hI, q, Option.bind_some, nI_1]
    exact ⟨_, rfl, rfl⟩
  · refine ⟨nI n, ?_⟩
    have h2 : s' = nI (dsum (fun a => c01 (Rch d e a) * cnt (fun k => e a k = x) (d a)) n) := hs'.2
    unfold comN
    rw [dsum_cut (n := n) (fun i hi => by rw [hG.2.2.2.1 i hi, cnt_z, Nat.mul_zero]) 64 g2, ← h2]
    exact hs'.1
/-- the best of lo .. hi: least z, the last of these -/
def IsB (I : Nat → Prop) (z q : Nat → Nat) (lo hi : Nat) (v : Int32) : Prop := (v = -1 ∧ ∀ i, lo ≤ i → i < hi → ¬ I i) ∨ ∃ i, lo ≤ i ∧ i < hi ∧ I i ∧ v = nI (q i) ∧ ∀ t, lo ≤ t → t < hi → I t → z i ≤ z t ∧ (z t = z i → t ≤ i)
theorem IsB_uniq {I : Nat → Prop} {z q : Nat → Nat} {lo hi : Nat} {v v' : Int32} (h : IsB I z q lo hi v) (h' : IsB I z q lo hi v') : v = v' := by
  rcases h with ⟨h1, h2⟩ | ⟨i, h1, h2, h3, h4, h5⟩
  · rcases h' with ⟨h1', h2'⟩ | ⟨i', h1', h2', h3', h4', h5'⟩
    · rw [h1, h1']
    · exact absurd h3' (h2 i' h1' h2')
  · rcases h' with ⟨h1', h2'⟩ | ⟨i', h1', h2', h3', h4', h5'⟩
    · exact absurd h3 (h2' i h1 h2)
    · have a := h5 i' h1' h2' h3'
      have b := h5' i h1 h2 h3
      have c : z i = z i' := by omega
      have c1 := a.2 c.symm
      have c2 := b.2 c
      have : i = i' := by omega
      rw [h4, h4', this]
theorem innerM {n : Nat} {d : Nat → Nat} {e : Nat → Nat → Nat} (hG : Gr n d e) {τ : SM} (gM : GoodM τ n d e) {x : Nat} (hx : x < n) : ∃ v, f_Model_innermost τ (nI x) = some v ∧ IsB (fun i => InL d e (pq d e i) x) (fun i => lsz d e (pq d e i)) (pq d e) 0 (pm d e) v := by
  have g2 := hG.2.1
  have O := ord_ok hG
  have hle := O.le
  have hsz : ∀ b, lsz d e b ≤ 64 := fun b => cnt_le _ 64
  refine Exists.elim (loopN (lp := fun f (s : Int32) i => lp_Model_innermost_4 f τ (nI x) s i) (N := pm d e) (Inv := fun j s => IsB (fun i => InL d e (pq d e i) x) (fun i => lsz d e (pq d e i)) (pq d e) 0 j s) (done := fun s => (s, nI (pm d e))) (fun f s hI => ?_) (fun f j s hj hI => ?_) (pm d e) 100 0 (-1) (by omega) (by omega) (Or.inl ⟨rfl, fun i _ hi => absurd hi (Nat.not_lt_zero i)⟩)) (fun s' hs' => ?_)
  · show lp_Model_innermost_4 (f + 1) τ (nI x) s (nI (pm d e)) = _
    rw [lp_Model_innermost_4_s, gM.lp.bas.ord.reached, if_pos (nI_le (Nat.le_refl _) (by omega))]
  · have hql := O.lt j hj
    show ∃ s' : Int32, lp_Model_innermost_4 (f + 1) τ (nI x) s (nI j) = lp_Model_innermost_4 f τ (nI x) s' (nI (j + 1)) ∧ _
    rw [lp_Model_innermost_4_s, gM.lp.bas.ord.reached, if_neg (nI_ge hj (by omega)), gdN (k := j) (by omega) (by decide), nI_clamp (n := j) (by omega), gM.lp.bas.ord.at1 j hj, Lt_eq, gdN (k := pq d e j) (by omega) (by decide), nI_clamp (n := pq d e j) (by omega), gM.lp.head _ hql, ix64, gdN (k := 64 * pq d e j + x) (by omega) (by decide), nI_clamp (n := 64 * pq d e j + x) (by omega), gM.rows _ hql x hx, gM.size _ hql, lsz_n hG, nI_1 j]
    rcases Classical.em (InL d e (pq d e j) x) with q | q
    · rw [if_neg (show ¬ pI (Head d e (pq d e j)) = 0 by rw [pI_t q.1]; decide), if_neg (show ¬ pI (InL d e (pq d e j) x) = 0 by rw [pI_t q]; decide)]
      rcases hI with ⟨h1, h2⟩ | ⟨i, h1, h2, h3, h4, h5⟩
      · rw [h1, if_pos (by decide)]
        refine ⟨_, rfl, Or.inr ⟨j, Nat.zero_le _, by omega, q, rfl, fun t _ ht hT => ?_⟩⟩
        by_cases htj : t = j
        · rw [htj]; exact ⟨Nat.le_refl _, fun _ => Nat.le_refl _⟩
        · exact absurd hT (h2 t (Nat.zero_le _) (by omega))
      · have hqi := O.lt i (by omega)
        have z1 := hsz (pq d e i)
        have z2 := hsz (pq d e j)
        rw [h4, if_neg (nI_pos (by omega)), gdN (k := pq d e i) (by omega) (by decide), nI_clamp (n := pq d e i) (by omega), gM.size _ hqi, lsz_n hG]
        by_cases hlt : lsz d e (pq d e i) < lsz d e (pq d e j)
        · rw [if_pos (nI_lt hlt (by omega))]
          refine ⟨_, rfl, Or.inr ⟨i, h1, by omega, h3, rfl, fun t _ ht hT => ?_⟩⟩
          by_cases htj : t = j
          · rw [htj]; exact ⟨Nat.le_of_lt hlt, fun w => absurd w (Nat.ne_of_gt hlt)⟩
          · exact h5 t (Nat.zero_le _) (by omega) hT
        · rw [if_neg (nI_nlt (by omega) (by omega))]
          refine ⟨_, rfl, Or.inr ⟨j, Nat.zero_le _, by omega, q, rfl, fun t _ ht hT => ?_⟩⟩
          by_cases htj : t = j
          · rw [htj]; exact ⟨Nat.le_refl _, fun _ => Nat.le_refl _⟩
          · have h7 : lsz d e (pq d e i) ≤ lsz d e (pq d e t) := (h5 t (Nat.zero_le _) (by omega) hT).1
            show lsz d e (pq d e j) ≤ lsz d e (pq d e t) ∧ (lsz d e (pq d e t) = lsz d e (pq d e j) → t ≤ j)
            exact ⟨by omega, fun _ => by omega⟩
    · rw [if_pos (show pI (InL d e (pq d e j) x) = 0 from pI_f q)]
      refine ⟨s, by split <;> rfl, ?_⟩
      rcases hI with ⟨h1, h2⟩ | ⟨i, h1, h2, h3, h4, h5⟩
      · refine Or.inl ⟨h1, fun t _ ht => ?_⟩
        by_cases htj : t = j
        · rw [htj]; exact q
        · exact h2 t (Nat.zero_le _) (by omega)
      · refine Or.inr ⟨i, h1, by omega, h3, h4, fun t _ ht hT => ?_⟩
        by_cases htj : t = j
        · rw [htj] at hT; exact absurd hT q
        · exact h5 t (Nat.zero_le _) (by omega) hT
  · refine ⟨s', ?_, hs'.2⟩
    unfold f_Model_innermost
    have h1' : lp_Model_innermost_4 100 τ (nI x) (-1) 0 = some (s', nI (pm d e)) := hs'.1
    rw [h1']
    rfl
theorem innerB {n : Nat} {d : Nat → Nat} {e : Nat → Nat → Nat} (hG : Gr n d e) {σ : SB} (gB : GoodB σ n d e) {x : Nat} (hx : x < n) : ∃ v, f_Loops_innermostOf σ (nI x) = some v ∧ IsB (fun i => InL d e (pq d e i) x) (fun i => lsz d e (pq d e i)) (pq d e) 0 (pm d e) v := by
  have g2 := hG.2.1
  have O := ord_ok hG
  have hle := O.le
  have hpos := O.pos
  have hsz : ∀ b, lsz d e b ≤ 64 := fun b => cnt_le _ 64
  have key : ∀ (r f : Nat) (v2 v3 : Int32), r ≤ pm d e → r < f → ((v2 = -1 ∧ v3 = nI 65 ∧ ∀ i, r ≤ i → i < pm d e → ¬ InL d e (pq d e i) x) ∨ ∃ i, r ≤ i ∧ i < pm d e ∧ InL d e (pq d e i) x ∧ v2 = nI (pq d e i) ∧ v3 = nI (lsz d e (pq d e i)) ∧ ∀ t, r ≤ t → t < pm d e → InL d e (pq d e t) x → lsz d e (pq d e i) ≤ lsz d e (pq d e t) ∧ (lsz d e (pq d e t) = lsz d e (pq d e i) → t ≤ i)) →
      ∃ v w u, lp_Loops_innermostOf_16 f σ (nI x) v2 v3 (nI r + (-1)) = some (v, w, u) ∧ IsB (fun i => InL d e (pq d e i) x) (fun i => lsz d e (pq d e i)) (pq d e) 0 (pm d e) v := by
    intro r
    induction r with
    | zero =>
      intro f v2 v3 hr hf hI
      obtain ⟨g, rfl⟩ : ∃ g, f = g + 1 := ⟨f - 1, by omega⟩
      rw [lp_Loops_innermostOf_16_s, if_pos (show nI 0 + (-1) < 0 by decide)]
      refine ⟨v2, v3, _, rfl, ?_⟩
      rcases hI with ⟨h1, h2, h3⟩ | ⟨i, h1, h2, h3, h4, h5, h6⟩
      · exact Or.inl ⟨h1, h3⟩
      · exact Or.inr ⟨i, h1, h2, h3, h4, h6⟩
    | succ r ih =>
      intro f v2 v3 hr hf hI
      obtain ⟨g, rfl⟩ : ∃ g, f = g + 1 := ⟨f - 1, by omega⟩
      have hql := O.lt r (by omega)
      have zr := hsz (pq d e r)
      rw [pk_m1, lp_Loops_innermostOf_16_s, if_neg (nI_pos (by omega)), blockAt_ok hG ⟨gB.bas.walk.reached, gB.bas.walk.left, gB.bas.walk.rset⟩ (i := r) (by omega), Option.bind_some, gdN (k := pq d e r) (by omega) (by decide), nI_clamp (n := pq d e r) (by omega), gB.lof _ (by omega), bs_count, bs_holds _ (by omega), Lt_eq]
      rcases Classical.em (InL d e (pq d e r) x) with q | q
      · rw [if_neg (show ¬ pI (InL d e (pq d e r) x) = 0 by rw [pI_t q]; decide)]
        rcases hI with ⟨h1, h2, h3⟩ | ⟨i, h1, h2, h3, h4, h5, h6⟩
        · rw [h2, if_neg (nI_ge (b := 65) (a := cnt (InL d e (pq d e r)) 64) (Nat.lt_succ_of_le zr) (by decide))]
          refine ih g _ _ (by omega) (by omega) (Or.inr ⟨r, Nat.le_refl _, by omega, q, rfl, rfl, fun t ht1 ht2 hT => ?_⟩)
          by_cases htr : t = r
          · rw [htr]; exact ⟨Nat.le_refl _, fun _ => Nat.le_refl _⟩
          · exact absurd hT (h3 t (by omega) ht2)
        · have zi := hsz (pq d e i)
          rw [h5]
          by_cases hle2 : lsz d e (pq d e i) ≤ lsz d e (pq d e r)
          · rw [if_pos (nI_le (a := lsz d e (pq d e i)) (b := cnt (InL d e (pq d e r)) 64) hle2 (Nat.lt_of_le_of_lt zr (by decide)))]
            refine ih g _ _ (by omega) (by omega) (Or.inr ⟨i, by omega, h2, h3, h4, rfl, fun t ht1 ht2 hT => ?_⟩)
            by_cases htr : t = r
            · rw [htr]; exact ⟨hle2, fun _ => by omega⟩
            · exact h6 t (by omega) ht2 hT
          · rw [if_neg (nI_ge (a := cnt (InL d e (pq d e r)) 64) (b := lsz d e (pq d e i)) (Nat.lt_of_not_le hle2) (by omega))]
            refine ih g _ _ (by omega) (by omega) (Or.inr ⟨r, Nat.le_refl _, by omega, q, rfl, rfl, fun t ht1 ht2 hT => ?_⟩)
            by_cases htr : t = r
            · rw [htr]; exact ⟨Nat.le_refl _, fun _ => Nat.le_refl _⟩
            · have := h6 t (by omega) ht2 hT
              exact ⟨by omega, fun w => absurd w (by omega)⟩
      · rw [if_pos (show pI (InL d e (pq d e r) x) = 0 from pI_f q)]
        refine ih g _ _ (by omega) (by omega) ?_
        rcases hI with ⟨h1, h2, h3⟩ | ⟨i, h1, h2, h3, h4, h5, h6⟩
        · refine Or.inl ⟨h1, h2, fun t ht1 ht2 => ?_⟩
          by_cases htr : t = r
          · rw [htr]; exact q
          · exact h3 t (by omega) ht2
        · refine Or.inr ⟨i, by omega, h2, h3, h4, h5, fun t ht1 ht2 hT => ?_⟩
          by_cases htr : t = r
          · rw [htr] at hT; exact absurd hT q
          · exact h6 t (by omega) ht2 hT
  obtain ⟨v, w, u, k1, k2⟩ := key (pm d e) 100 (-1) 65 (Nat.le_refl _) (by omega) (Or.inl ⟨rfl, rfl, fun i h1 h2 => absurd h1 (by omega)⟩)
  refine ⟨v, ?_, k2⟩
  unfold f_Loops_innermostOf
  have e1 : nI (pm d e) - 1 = nI (pm d e) + (-1) := by
    obtain ⟨m, hm⟩ : ∃ m, pm d e = m + 1 := ⟨pm d e - 1, by omega⟩
    rw [hm, nI_pred, pk_m1]
  rw [gB.bas.walk.reached, e1, k1]
  rfl
theorem p_look {σ : SB} {τ : SM} (h : GR σ τ) (x y : Int32) : ∃ (r : Int32) (σ' : SB) (τ' : SM), f_BlockRuler_look σ x y = some (r, σ') ∧ f_Model_look τ x y = some (r, τ') ∧ GR σ' τ' := by
  obtain ⟨n, d, e, σ', τ', q1, q2, hG, gB, gM, hR⟩ := ask0 h
  have g2 := hG.2.1
  unfold f_BlockRuler_look f_Model_look
  rw [q1, q2, Option.bind_some, Option.bind_some]
  rcases blk x g2 with hx | ⟨j, hj, rfl⟩
  · rw [hasB_out gB.bas.web.1 hx, isB_out gM.lp.bas.web.blocks hx, if_pos z00, if_pos z00]
    exact ⟨_, _, _, rfl, rfl, hR⟩
  · rw [hasB_in gB.bas.web.1 g2 hj, isB_in gM.lp.bas.web.blocks g2 hj, if_neg n10, if_neg n10, Lt_eq, Lt_eq]
    by_cases h0 : y = 0
    · rw [if_pos h0, if_pos h0, gdN (k := j) (by omega) (by decide), gdN (k := j) (by omega) (by decide), nI_clamp (n := j) (by omega), gB.bas.web.2.2.1 j (by omega), gM.lp.bas.web.many j (by omega)]
      exact ⟨_, _, _, rfl, rfl, hR⟩
    rw [if_neg h0, if_neg h0]
    by_cases h1 : y = 1
    · rw [if_pos h1, if_pos h1, gdN (k := j) (by omega) (by decide), gdN (k := j) (by omega) (by decide), nI_clamp (n := j) (by omega), gB.lof j (by omega), gM.lp.head j hj]
      rcases Classical.em (Head d e j) with q | q
      · rw [pI_t q, if_neg (fun w => (bs_cmp0 _).mp w j (by omega) (InL.self q)), if_neg (by decide)]
        exact ⟨_, _, _, rfl, rfl, hR⟩
      · rw [pI_f q, if_pos ((bs_cmp0 _).mpr (fun k _ w => q w.1)), if_pos rfl]
        exact ⟨_, _, _, rfl, rfl, hR⟩
    rw [if_neg h1, if_neg h1]
    by_cases h2 : y = 2
    · rw [if_pos h2, if_pos h2, gdN (k := j) (by omega) (by decide), gdN (k := j) (by omega) (by decide), nI_clamp (n := j) (by omega), gB.lof j (by omega), bs_count, gM.lp.head j hj, gM.size j hj, lsz_n hG]
      rcases Classical.em (Head d e j) with q | q
      · rw [pI_t q, if_neg (by decide)]
        exact ⟨_, _, _, rfl, rfl, hR⟩
      · rw [pI_f q, if_pos rfl, cnt_ext (p := InL d e j) (q := fun _ => False) (fun k _ => ⟨fun w => q w.1, fun w => w.elim⟩), cnt_F]
        exact ⟨_, _, _, rfl, rfl, hR⟩
    rw [if_neg h2, if_neg h2]
    by_cases h3 : y = 3
    · rw [if_pos h3, if_pos h3, depB gB (by omega), depM hG gM hj, Option.bind_some, Option.bind_some]
      exact ⟨_, _, _, rfl, rfl, hR⟩
    rw [if_neg h3, if_neg h3]
    by_cases h4 : y = 4
    · obtain ⟨v, a1, a2⟩ := innerB hG gB hj
      obtain ⟨v', b1, b2⟩ := innerM hG gM hj
      have hv := IsB_uniq a2 b2
      rw [if_pos h4, if_pos h4, a1, b1, Option.bind_some, Option.bind_some, hv]
      exact ⟨_, _, _, rfl, rfl, hR⟩
    rw [if_neg h4, if_neg h4]
    by_cases h5 : y = 5
    · obtain ⟨w, a1⟩ := look121 hG gM hj
      rw [if_pos h5, if_pos h5, realmOf_ok gB (by omega), a1, Option.bind_some, Option.bind_some, bs_count]
      exact ⟨_, _, _, rfl, rfl, hR⟩
    rw [if_neg h5, if_neg h5]
    by_cases h6 : y = 6
    · obtain ⟨w, a1⟩ := look164 hG gM hj
      rw [if_pos h6, if_pos h6, gdN (k := j) (by omega) (by decide), nI_clamp (n := j) (by omega), gB.bas.walk.comings j (by omega), a1, Option.bind_some]
      exact ⟨_, _, _, rfl, rfl, hR⟩
    rw [if_neg h6, if_neg h6]
    exact ⟨_, _, _, rfl, rfl, hR⟩
