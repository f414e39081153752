-- questions: order, at, parent, rules, common, sort, inLoop
theorem n10 : ¬ (1 : Int32) = 0 := by decide
theorem z00 : (0 : Int32) = 0 := rfl
abbrev GR (σ : SB) (τ : SM) : Prop := RelG GoodB GoodM σ τ
theorem hGM0 : ∀ (τ : SM) (v : Int32) (n : Nat) (d : Nat → Nat) (e : Nat → Nat → Nat), GoodM τ n d e → GoodM (uM_thrown τ v) n d e := fun _ _ _ _ _ h => h.u_thrown
theorem ask {σ : SB} {τ : SM} (h : GR σ τ) : ∃ (n : Nat) (d : Nat → Nat) (e : Nat → Nat → Nat) (σ' : SB) (τ' : SM), f_BlockRuler_refresh σ = some σ' ∧ f_Model_reckon τ = some τ' ∧ Gr n d e ∧ GoodB σ' n d e ∧ GoodM τ' n d e ∧ GR σ' τ' := by
  obtain ⟨n, d, e, hG, hB, hM, hS⟩ := h
  rcases hS with ⟨h1, h2⟩ | ⟨h1, h2, h3, h4⟩
  · obtain ⟨σ', a1, a2, a3⟩ := refresh_ok hG hB h1
    obtain ⟨τ', b1, b2⟩ := reckon_ok hG hM h2
    exact ⟨n, d, e, σ', τ', a1, b1, hG, a3, b2, n, d, e, hG, a3.bas.web, ⟨b2.lp.bas.web.blocks, b2.lp.bas.web.many, b2.lp.bas.web.ends⟩, Or.inr ⟨a2, b2.lp.bas.web.done, a3, b2⟩⟩
  · refine ⟨n, d, e, σ, τ, ?_, ?_, hG, h3, h4, n, d, e, hG, hB, hM, Or.inr ⟨h1, h2, h3, h4⟩⟩
    · unfold f_BlockRuler_refresh
      rw [h1, if_pos rfl]
    · unfold f_Model_reckon
      rw [h2, if_neg (by decide)]
theorem ask0 {σ : SB} {τ : SM} (h : GR σ τ) : ∃ (n : Nat) (d : Nat → Nat) (e : Nat → Nat → Nat) (σ' : SB) (τ' : SM), f_BlockRuler_refresh σ = some σ' ∧ f_Model_reckon (uM_thrown τ 0) = some τ' ∧ Gr n d e ∧ GoodB σ' n d e ∧ GoodM τ' n d e ∧ GR σ' τ' := ask (h.thrown hGM0 0)
theorem p_order {σ : SB} {τ : SM} (h : GR σ τ) (x : Int32) : ∃ (r : Int32) (σ' : SB) (τ' : SM), f_BlockRuler_order σ x = some (r, σ') ∧ f_Model_order τ x = some (r, τ') ∧ GR σ' τ' := by
  obtain ⟨n, d, e, σ', τ', q1, q2, hG, gB, gM, hR⟩ := ask0 h
  have g2 := hG.2.1
  unfold f_BlockRuler_order f_Model_order
  rw [q1, q2, Option.bind_some, Option.bind_some]
  rcases blk x g2 with hx | ⟨j, hj, rfl⟩
  · rw [hasB_out gB.bas.web.1 hx, isB_out gM.lp.bas.web.blocks hx, if_pos z00, if_pos z00]
    exact ⟨_, _, _, rfl, rfl, hR⟩
  · rw [hasB_in gB.bas.web.1 g2 hj, isB_in gM.lp.bas.web.blocks g2 hj, if_neg n10, if_neg n10, gdN (k := j) (by omega) (by decide), gdN (k := j) (by omega) (by decide), nI_clamp (n := j) (by omega)]
    rcases Classical.em (Rch d e j) with hr | hr
    · rw [gB.bas.walk.od hG hr, gM.lp.bas.ord.od hG hr]
      exact ⟨_, _, _, rfl, rfl, hR⟩
    · rw [gB.bas.walk.ord0 j (by omega) hr, gM.lp.bas.ord.ord0 j hj hr]
      exact ⟨_, _, _, rfl, rfl, hR⟩
theorem p_at {σ : SB} {τ : SM} (h : GR σ τ) (x : Int32) : ∃ (r : Int32) (σ' : SB) (τ' : SM), f_BlockRuler_at σ x = some (r, σ') ∧ f_Model_at τ x = some (r, τ') ∧ GR σ' τ' := by
  obtain ⟨n, d, e, σ', τ', q1, q2, hG, gB, gM, hR⟩ := ask0 h
  have hle := (ord_ok hG).le
  unfold f_BlockRuler_at f_Model_at
  rw [q1, q2, Option.bind_some, Option.bind_some]
  by_cases h1 : x < 0
  · rw [if_pos h1, if_pos h1]
    exact ⟨_, _, _, rfl, rfl, hR⟩
  · rw [if_neg h1, if_neg h1, gB.bas.walk.reached, gM.lp.bas.ord.reached]
    rcases pk_ix x (n := pm d e) (by omega) with h2 | h2 | ⟨j, hj, rfl⟩
    · exact absurd h2 h1
    · rw [if_pos h2, if_pos h2]
      exact ⟨_, _, _, rfl, rfl, hR⟩
    · rw [if_neg (nI_ge hj (by omega)), if_neg (nI_ge hj (by omega)), gdN (k := j) (by omega) (by decide), nI_clamp (n := j) (by omega), gM.lp.bas.ord.at1 j hj, blockAt_ok hG ⟨gB.bas.walk.reached, gB.bas.walk.left, gB.bas.walk.rset⟩ hj]
      exact ⟨_, _, _, rfl, rfl, hR⟩
theorem lastOf_ok {n : Nat} {d : Nat → Nat} {e : Nat → Nat → Nat} (hG : Gr n d e) {σ : SB} (hW : WalkB σ n d e) (p : Nat → Prop) : f_Walk_lastOf σ (bs p) = some (lastI (-1) p (pq d e) (pm d e)) := by
  have P := post_ok hG
  have g2 := hG.2.1
  have hle := P.le
  have key : ∀ (r i f : Nat), i + r = pm d e → r < f → (lp_Walk_lastOf_2 f σ (bs p) (nI i)).bind (Sum.elim (fun z5 => some (-1)) (fun z6 => if z6 < 0 ∨ 64 ≤ Int32.toNatClampNeg z6 then none else (some (sB_left σ (Int32.toNatClampNeg z6))))) = some (lastI (-1) p (pq d e) r) := by
    intro r
    induction r with
    | zero =>
      intro i f hi hf
      obtain ⟨g, rfl⟩ : ∃ g, f = g + 1 := ⟨f - 1, by omega⟩
      rw [lp_Walk_lastOf_2_s, hW.reached, if_pos (nI_le (by omega) (by omega))]
      rfl
    | succ r ih =>
      intro i f hi hf
      obtain ⟨g, rfl⟩ : ∃ g, f = g + 1 := ⟨f - 1, by omega⟩
      have hpl := P.lt i (by omega)
      have hpe : pq d e r = po d e i := by
        unfold pq
        refine congrArg (po d e) (by omega)
      rw [lp_Walk_lastOf_2_s, hW.reached, if_neg (nI_ge (by omega) (by omega)), gdN (k := i) (by omega) (by decide), nI_clamp (n := i) (by omega), hW.left i (by omega), bs_holds _ (by omega)]
      rcases Classical.em (p (po d e i)) with hp | hp
      · rw [pI_t hp, if_neg (by decide), Option.bind_some, lastI_t (by rw [hpe]; exact hp), hpe]
        show (if nI i < 0 ∨ 64 ≤ Int32.toNatClampNeg (nI i) then none else some (sB_left σ (Int32.toNatClampNeg (nI i)))) = _
        rw [gdN (k := i) (by omega) (by decide), nI_clamp (n := i) (by omega), hW.left i (by omega)]
      · rw [pI_f hp, if_pos rfl, nI_1, lastI_f (by rw [hpe]; exact hp)]
        exact ih (i + 1) g (by omega) (by omega)
  exact key (pm d e) 0 100 (by omega) (by omega)
theorem p_parent {σ : SB} {τ : SM} (h : GR σ τ) (x : Int32) : ∃ (r : Int32) (σ' : SB) (τ' : SM), f_BlockRuler_parent σ x = some (r, σ') ∧ f_Model_parent τ x = some (r, τ') ∧ GR σ' τ' := by
  obtain ⟨n, d, e, σ', τ', q1, q2, hG, gB, gM, hR⟩ := ask0 h
  have g2 := hG.2.1
  unfold f_BlockRuler_parent f_Model_parent
  rw [q1, q2, Option.bind_some, Option.bind_some]
  rcases blk x g2 with hx | ⟨j, hj, rfl⟩
  · rw [hasB_out gB.bas.web.1 hx, isB_out gM.lp.bas.web.blocks hx, if_pos z00, if_pos z00]
    exact ⟨_, _, _, rfl, rfl, hR⟩
  · rw [hasB_in gB.bas.web.1 g2 hj, isB_in gM.lp.bas.web.blocks g2 hj, if_neg n10, if_neg n10, gdN (k := j) (by omega) (by decide), gdN (k := j) (by omega) (by decide), nI_clamp (n := j) (by omega), gB.bas.rs j (by omega), bs_only (by omega), bs_not, bs_and, lastOf_ok hG gB.bas.walk, Option.bind_some, gM.lp.par j hj, lastI_ext (p := fun k => Dom d e k j ∧ ¬ k = j) (p' := fun y => ¬ y = j ∧ Dom d e y j) (fun i _ => ⟨fun q => ⟨q.2, q.1⟩, fun q => ⟨q.2, q.1⟩⟩)]
    exact ⟨_, _, _, rfl, rfl, hR⟩
theorem p_rules {σ : SB} {τ : SM} (h : GR σ τ) (x y : Int32) : ∃ (r : Int32) (σ' : SB) (τ' : SM), f_BlockRuler_rules σ x y = some (r, σ') ∧ f_Model_rules τ x y = some (r, τ') ∧ GR σ' τ' := by
  obtain ⟨n, d, e, σ', τ', q1, q2, hG, gB, gM, hR⟩ := ask0 h
  have g2 := hG.2.1
  unfold f_BlockRuler_rules f_Model_rules
  rw [q1, q2, Option.bind_some, Option.bind_some]
  rcases blk x g2 with hx | ⟨a, ha, rfl⟩
  · rw [hasB_out gB.bas.web.1 hx, isB_out gM.lp.bas.web.blocks hx, if_pos z00, if_pos z00]
    exact ⟨_, _, _, rfl, rfl, hR⟩
  · rw [hasB_in gB.bas.web.1 g2 ha, isB_in gM.lp.bas.web.blocks g2 ha, if_neg n10, if_neg n10]
    rcases blk y g2 with hy | ⟨b, hb, rfl⟩
    · rw [hasB_out gB.bas.web.1 hy, isB_out gM.lp.bas.web.blocks hy, if_pos z00, if_pos z00]
      exact ⟨_, _, _, rfl, rfl, hR⟩
    · unfold f_Rulers_isRuled
      rw [hasB_in gB.bas.web.1 g2 hb, isB_in gM.lp.bas.web.blocks g2 hb, if_neg n10, if_neg n10, gdN (k := b) (by omega) (by decide), nI_clamp (n := b) (by omega), gB.bas.rs b (by omega), bs_holds _ (by omega), Option.bind_some, ix64, gdN (k := 64 * a + b) (by omega) (by decide), nI_clamp (n := 64 * a + b) (by omega), gM.lp.bas.rul a b ha hb]
      rcases Classical.em (Dom d e a b) with q | q
      · rw [pI_t q, if_neg n10, if_neg n10]
        exact ⟨_, _, _, rfl, rfl, hR⟩
      · rw [pI_f q, if_pos z00, if_pos z00]
        exact ⟨_, _, _, rfl, rfl, hR⟩
theorem isR {n : Nat} {d : Nat → Nat} {e : Nat → Nat → Nat} (hG : Gr n d e) {σ : SB} {τ : SM} (gB : GoodB σ n d e) (gM : GoodM τ n d e) (x : Int32) : (f_BlockRuler_isReached σ x = some 0 ∧ f_Model_isReached τ x = some 0 ∧ ∀ j, j < n → x = nI j → ¬ Rch d e j) ∨ ∃ j, j < n ∧ x = nI j ∧ Rch d e j ∧ f_BlockRuler_isReached σ x = some 1 ∧ f_Model_isReached τ x = some 1 := by
  have g2 := hG.2.1
  have hle := (ord_ok hG).le
  rcases blk x g2 with hx | ⟨j, hj, rfl⟩
  · refine Or.inl ⟨?_, ?_, ?_⟩
    · unfold f_BlockRuler_isReached
      rw [hasB_out gB.bas.web.1 hx, if_pos rfl]
    · unfold f_Model_isReached
      rw [isB_out gM.lp.bas.web.blocks hx, if_pos rfl]
    · rintro j hj rfl
      rcases hx with q | q
      · exact absurd q (nI_pos (by omega))
      · exact absurd q (nI_ge hj (by omega))
  · rcases Classical.em (Rch d e j) with hr | hr
    · have o1 := (od_ok hG hr).1
      refine Or.inr ⟨j, hj, rfl, hr, ?_, ?_⟩
      · unfold f_BlockRuler_isReached
        rw [hasB_in gB.bas.web.1 g2 hj, if_neg (by decide), gdN (k := j) (by omega) (by decide), nI_clamp (n := j) (by omega), gB.bas.walk.od hG hr, if_neg (fun q => by
          have := nI_pos (n := od d e j) (by omega)
          rw [q] at this
          exact this (by decide))]
      · unfold f_Model_isReached
        rw [isB_in gM.lp.bas.web.blocks g2 hj, if_neg (by decide), gdN (k := j) (by omega) (by decide), nI_clamp (n := j) (by omega), gM.lp.bas.ord.od hG hr, if_neg (nI_pos (by omega))]
    · refine Or.inl ⟨?_, ?_, ?_⟩
      · unfold f_BlockRuler_isReached
        rw [hasB_in gB.bas.web.1 g2 hj, if_neg (by decide), gdN (k := j) (by omega) (by decide), nI_clamp (n := j) (by omega), gB.bas.walk.ord0 j (by omega) hr, if_pos rfl]
      · unfold f_Model_isReached
        rw [isB_in gM.lp.bas.web.blocks g2 hj, if_neg (by decide), gdN (k := j) (by omega) (by decide), nI_clamp (n := j) (by omega), gM.lp.bas.ord.ord0 j hj hr, if_pos (by decide)]
      · intro i hi q
        rw [← (nI_eq (by omega) (by omega)).mp q]
        exact hr
theorem lastI_z {z z' : Int32} {p : Nat → Prop} {q : Nat → Nat} (h0 : p (q 0)) : ∀ m, lastI z p q (m + 1) = lastI z' p q (m + 1)
  | 0 => by rw [lastI_t h0, lastI_t h0]
  | m + 1 => by
    rcases Classical.em (p (q (m + 1))) with hp | hp
    · rw [lastI_t hp, lastI_t hp]
    · rw [lastI_f hp, lastI_f hp]
      exact lastI_z h0 m
theorem common34 {n : Nat} {d : Nat → Nat} {e : Nat → Nat → Nat} (hG : Gr n d e) {τ : SM} (gM : GoodM τ n d e) (h0 : sM_thrown τ = 0) {a b : Nat} (ha : a < n) (hb : b < n) : ∃ w, lp_Model_common_34 100 τ (nI a) (nI b) 0 0 = some (lastI 0 (fun y => Dom d e y a ∧ Dom d e y b) (pq d e) (pm d e), w) := by
  have g2 := hG.2.1
  have O := ord_ok hG
  have hle := O.le
  refine Exists.elim (loopN (lp := fun f (s : Int32) i => lp_Model_common_34 f τ (nI a) (nI b) s i) (N := pm d e) (Inv := fun j s => s = lastI 0 (fun y => Dom d e y a ∧ Dom d e y b) (pq d e) j) (done := fun s => (s, nI (pm d e))) (fun f s hI => ?_) (fun f j s hj hI => ?_) (pm d e) 100 0 0 (by omega) (by omega) rfl) (fun s' hs' => ?_)
  · show lp_Model_common_34 (f + 1) τ (nI a) (nI b) s (nI (pm d e)) = _
    rw [lp_Model_common_34_s, gM.lp.bas.ord.reached, if_pos (nI_le (Nat.le_refl _) (by omega))]
  · have hql := O.lt j hj
    show ∃ s' : Int32, lp_Model_common_34 (f + 1) τ (nI a) (nI b) s (nI j) = lp_Model_common_34 f τ (nI a) (nI b) s' (nI (j + 1)) ∧ _
    rw [lp_Model_common_34_s, gM.lp.bas.ord.reached, if_neg (nI_ge hj (by omega)), h0, if_pos rfl, gdN (k := j) (by omega) (by decide), nI_clamp (n := j) (by omega), gM.lp.bas.ord.at1 j hj, Lt_eq, ix64, ix64, gdN (k := 64 * pq d e j + a) (by omega) (by decide), nI_clamp (n := 64 * pq d e j + a) (by omega), gdN (k := 64 * pq d e j + b) (by omega) (by decide), nI_clamp (n := 64 * pq d e j + b) (by omega), gM.lp.bas.rul _ _ hql ha, gM.lp.bas.rul _ _ hql hb, nI_1]
    rcases Classical.em (Dom d e (pq d e j) a) with p1 | p1
    · rw [if_neg (show ¬ pI (Dom d e (pq d e j) a) = 0 by rw [pI_t p1]; decide)]
      rcases Classical.em (Dom d e (pq d e j) b) with p2 | p2
      · rw [if_neg (show ¬ pI (Dom d e (pq d e j) b) = 0 by rw [pI_t p2]; decide)]
        exact ⟨_, rfl, (lastI_t (p := fun y => Dom d e y a ∧ Dom d e y b) ⟨p1, p2⟩).symm⟩
      · rw [if_pos (show pI (Dom d e (pq d e j) b) = 0 from pI_f p2)]
        exact ⟨_, rfl, hI.trans (lastI_f (p := fun y => Dom d e y a ∧ Dom d e y b) (fun w => p2 w.2)).symm⟩
    · rw [if_pos (show pI (Dom d e (pq d e j) a) = 0 from pI_f p1)]
      exact ⟨_, rfl, hI.trans (lastI_f (p := fun y => Dom d e y a ∧ Dom d e y b) (fun w => p1 w.1)).symm⟩
  · refine ⟨nI (pm d e), ?_⟩
    have h2 : s' = lastI 0 (fun y => Dom d e y a ∧ Dom d e y b) (pq d e) (pm d e) := hs'.2
    rw [← h2]
    exact hs'.1
theorem common34_1 {n : Nat} {d : Nat → Nat} {e : Nat → Nat → Nat} {τ : SM} (gM : GoodM τ n d e) (h1 : sM_thrown τ = 1) (x y : Int32) : lp_Model_common_34 100 τ x y 0 0 = some (0, 0) := by
  rw [lp_Model_common_34_s, h1, if_neg (show ¬ (1 : Int32) = 0 by decide)]
  split <;> rfl
theorem p_common {σ : SB} {τ : SM} (h : GR σ τ) (x y : Int32) : ∃ (r : Int32) (τ' : SM), f_Model_common τ x y = some (r, τ') ∧ ((∃ σ' : SB, f_BlockRuler_common σ x y = some (Sum.inr r, σ') ∧ sM_thrown τ' = 0 ∧ GR σ' τ') ∨ (∃ σ' : SB, f_BlockRuler_common σ x y = some (Sum.inl 1, σ') ∧ sM_thrown τ' = 1 ∧ GR σ' τ')) := by
  obtain ⟨n, d, e, σ', τ', q1, q2, hG, gB, gM, hR⟩ := ask h
  have g2 := hG.2.1
  have O := ord_ok hG
  have hle := O.le
  have hpos := O.pos
  unfold f_BlockRuler_common f_Model_common
  rw [q1, q2, Option.bind_some, Option.bind_some]
  rcases isR hG gB gM x with ⟨r1, r2, -⟩ | ⟨a, ha, rfl, ra, r1, r2⟩
  · rw [r1, r2, Option.bind_some, Option.bind_some, if_pos z00, if_pos z00, common34_1 (gM.u_thrown (v := 1)) rfl, Option.bind_some]
    exact ⟨_, _, rfl, Or.inr ⟨_, rfl, rfl, hR.thrown hGM0 1⟩⟩
  · rw [r1, r2, Option.bind_some, Option.bind_some, if_neg n10, if_neg n10]
    rcases isR hG gB gM y with ⟨t1, t2, -⟩ | ⟨b, hb, rfl, rb, t1, t2⟩
    · rw [t1, t2, Option.bind_some, Option.bind_some, if_pos z00, if_pos z00, common34_1 (gM.u_thrown (v := 1)) rfl, Option.bind_some]
      exact ⟨_, _, rfl, Or.inr ⟨_, rfl, rfl, hR.thrown hGM0 1⟩⟩
    · obtain ⟨w, c1⟩ := common34 hG (gM.u_thrown (v := 0)) rfl ha hb
      rw [t1, t2, Option.bind_some, Option.bind_some, if_neg n10, if_neg n10, gdN (k := a) (by omega) (by decide), gdN (k := b) (by omega) (by decide), nI_clamp (n := a) (by omega), nI_clamp (n := b) (by omega), gB.bas.rs a (by omega), gB.bas.rs b (by omega), bs_and, lastOf_ok hG gB.bas.walk, Option.bind_some, c1, Option.bind_some]
      refine ⟨_, _, rfl, Or.inl ⟨_, ?_, rfl, hR.thrown hGM0 0⟩⟩
      obtain ⟨m, hm⟩ : ∃ m, pm d e = m + 1 := ⟨pm d e - 1, by omega⟩
      rw [hm, lastI_z (z := -1) (z' := 0) (p := fun k => Dom d e k a ∧ Dom d e k b) (q := pq d e) (by rw [O.first]; exact ⟨Dom.zero ra, Dom.zero rb⟩) m]
theorem p_sort {σ : SB} {τ : SM} (h : GR σ τ) (x y : Int32) : ∃ (r : Int32) (σ' : SB) (τ' : SM), f_BlockRuler_sort σ x y = some (r, σ') ∧ f_Model_sort τ x y = some (r, τ') ∧ GR σ' τ' := by
  obtain ⟨n, d, e, σ', τ', q1, q2, hG, gB, gM, hR⟩ := ask0 h
  have g2 := hG.2.1
  have hM' : WebM τ' n d e := ⟨gM.lp.bas.web.blocks, gM.lp.bas.web.many, gM.lp.bas.web.ends⟩
  unfold f_BlockRuler_sort f_Model_sort
  rw [q1, q2, Option.bind_some, Option.bind_some]
  rcases wayB hG gB.bas.web x y with ⟨w1, w2⟩ | ⟨j, k, hj, hk, rfl, rfl, w1, w2⟩
  · rw [w2 hM', w1, Option.bind_some, Option.bind_some, if_pos (show (0 : Int32) = 0 from rfl), if_pos (show (0 : Int32) = 0 from rfl)]
    refine ⟨-1, σ', τ', ?_, rfl, hR⟩
    rcases isR hG gB gM x with ⟨r1, -, -⟩ | ⟨a, ha, rfl, ra, r1, -⟩
    · rw [r1, Option.bind_some, if_pos rfl]
    · rw [r1, Option.bind_some, if_neg (by decide)]
  · rw [w2 hM', w1, Option.bind_some, Option.bind_some, if_neg (show ¬ (1 : Int32) = 0 by decide), if_neg (show ¬ (1 : Int32) = 0 by decide)]
    rcases isR hG gB gM (nI j) with ⟨r1, -, r3⟩ | ⟨a, ha, r3, ra, r1, -⟩
    · have hr := r3 j hj rfl
      rw [r1, Option.bind_some, if_pos rfl, sortOf_u hG gM.lp.bas hj hk hr, Option.bind_some]
      exact ⟨_, _, _, rfl, rfl, hR⟩
    · have haj : j = a := (nI_eq (by omega) (by omega)).mp r3
      subst haj
      rw [r1, Option.bind_some, if_neg (by decide), sortOf_r hG gM.lp.bas hj hk ra, kindOf_ok hG gB.bas.web gB.bas.walk gB.bas.rs hk ra, Option.bind_some, Option.bind_some]
      exact ⟨_, _, _, rfl, rfl, hR⟩
theorem p_inLoop {σ : SB} {τ : SM} (h : GR σ τ) (x y : Int32) : ∃ (r : Int32) (σ' : SB) (τ' : SM), f_BlockRuler_inLoop σ x y = some (r, σ') ∧ f_Model_inLoop τ x y = some (r, τ') ∧ GR σ' τ' := by
  obtain ⟨n, d, e, σ', τ', q1, q2, hG, gB, gM, hR⟩ := ask0 h
  have g2 := hG.2.1
  unfold f_BlockRuler_inLoop f_Model_inLoop
  rw [q1, q2, Option.bind_some, Option.bind_some]
  rcases blk x g2 with hx | ⟨a, ha, rfl⟩
  · rw [hasB_out gB.bas.web.1 hx, isB_out gM.lp.bas.web.blocks hx, if_pos z00, if_pos z00]
    exact ⟨_, _, _, rfl, rfl, hR⟩
  · rw [hasB_in gB.bas.web.1 g2 ha, isB_in gM.lp.bas.web.blocks g2 ha, if_neg n10, if_neg n10]
    rcases blk y g2 with hy | ⟨b, hb, rfl⟩
    · rw [hasB_out gB.bas.web.1 hy, isB_out gM.lp.bas.web.blocks hy, if_pos z00, if_pos z00]
      exact ⟨_, _, _, rfl, rfl, hR⟩
    · rw [hasB_in gB.bas.web.1 g2 hb, isB_in gM.lp.bas.web.blocks g2 hb, if_neg n10, if_neg n10, gdN (k := a) (by omega) (by decide), gdN (k := a) (by omega) (by decide), nI_clamp (n := a) (by omega), gB.lof a (by omega), bs_holds _ (by omega), ix64, gdN (k := 64 * a + b) (by omega) (by decide), nI_clamp (n := 64 * a + b) (by omega), gM.rows a ha b hb, gM.lp.head a ha]
      rcases Classical.em (InL d e a b) with q | q
      · rw [pI_t q, pI_t q.1, if_neg n10, if_neg n10, if_neg n10]
        exact ⟨_, _, _, rfl, rfl, hR⟩
      · rw [pI_f q, if_pos (show (0 : Int32) = 0 from rfl), if_pos (show (0 : Int32) = 0 from rfl)]
        refine ⟨0, σ', τ', rfl, ?_, hR⟩
        split <;> rfl
