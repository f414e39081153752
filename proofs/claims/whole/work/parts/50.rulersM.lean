-- the reference's rulers
abbrev SeenM (σ : SM) (n : Nat) (S : Nat → Prop) : Prop := ∀ b, b < n → sM_seen σ b = pI (S b)
/-- a pass's flag: v = 0: nothing new -/
abbrev Prog (B S : Nat → Prop) (v : Int32) : Prop := (v = 0 ∧ ∀ b, S b ↔ B b) ∨ (v = 1 ∧ (∀ b, B b → S b) ∧ cnt B 64 < cnt S 64)
theorem Prog.sub {B S : Nat → Prop} {v : Int32} (h : Prog B S v) : ∀ b, B b → S b := by
  rcases h with h | h
  · exact fun b hb => (h.2 b).mpr hb
  · exact h.2.1
theorem Prog.add {B S : Nat → Prop} {v : Int32} (h : Prog B S v) {c : Nat} (hc : c < 64) (hn : ¬ S c) : Prog B (fun b => S b ∨ b = c) 1 := by
  have h1 := cnt_add1 hn 64
  rw [c01_t hc] at h1
  refine Or.inr ⟨rfl, fun b hb => Or.inl (h.sub b hb), ?_⟩
  rcases h with h | h
  · have h2 := cnt_ext (p := S) (q := B) (m := 64) (fun k _ => h.2 k)
    omega
  · omega
theorem OrdM.neg {σ : SM} {n : Nat} {d : Nat → Nat} {e : Nat → Nat → Nat} (hG : Gr n d e) (h : OrdM σ n d e) {b : Nat} (hb : b < n) : sM_order σ b < 0 ↔ ¬ Rch d e b := by
  have O := ord_ok hG
  have hle := O.le
  constructor
  · intro q r
    obtain ⟨i, hi, rfl⟩ := (O.mem b).mp r
    rw [h.ord1 i hi] at q
    exact nI_pos (by omega) q
  · intro q
    rw [h.ord0 b hb q]
    decide
theorem lo2_ok {n : Nat} {d : Nat → Nat} {e : Nat → Nat → Nat} (hG : Gr n d e) {σ : SM} (hM : WebD σ n d e) (hO : OrdM σ n d e) {x : Nat} (hx : x < n) :
    ∃ v σ', lp_Model_leaveOut_2 100 σ (nI x) 0 = some (v, σ') ∧ WebD σ' n d e ∧ OrdM σ' n d e ∧ sM_rules σ' = sM_rules σ ∧ SeenM σ' n (fun b => b = 0 ∧ ¬ x = 0) := by
  have g2 := hG.2.1
  refine Exists.elim (loopN (lp := fun f s i => lp_Model_leaveOut_2 f s (nI x) i) (N := n) (Inv := fun j s => WebD s n d e ∧ OrdM s n d e ∧ sM_rules s = sM_rules σ ∧ ∀ b, b < j → sM_seen s b = pI (b = 0 ∧ ¬ x = 0)) (done := fun s => (nI n, s)) (fun f s hI => ?_) (fun f j s hj hI => ?_) n 100 0 σ (by omega) (by omega) ⟨hM, hO, rfl, fun b hb => absurd hb (Nat.not_lt_zero b)⟩) (fun s' hs' => ?_)
  · show lp_Model_leaveOut_2 (f + 1) s (nI x) (nI n) = _
    rw [lp_Model_leaveOut_2_s, hI.1.blocks, if_pos (nI_le (Nat.le_refl _) (by omega))]
  · obtain ⟨i1, i2, i3, i4⟩ := hI
    have key : ∀ v : Int32, v = pI (j = 0 ∧ ¬ x = 0) → ∀ b, b < j + 1 → upd (sM_seen s) j v b = pI (b = 0 ∧ ¬ x = 0) := by
      intro v hv b hb
      by_cases hx : b = j
      · rw [hx, pk_us, hv]
      · rw [pk_un hx]; exact i4 b (by omega)
    show ∃ s' : SM, lp_Model_leaveOut_2 (f + 1) s (nI x) (nI j) = lp_Model_leaveOut_2 f s' (nI x) (nI (j + 1)) ∧ _
    rw [lp_Model_leaveOut_2_s, i1.blocks, if_neg (nI_ge hj (by omega)), gdN (k := j) (by omega) (by decide), gdN (k := j) (by omega) (by decide), nI_clamp (n := j) (by omega), nI_1, nar0, nar1]
    by_cases h0 : j = 0
    · rw [if_pos (show nI j = 0 by rw [h0]; rfl)]
      by_cases hx0 : x = 0
      · rw [if_pos (show nI x = 0 by rw [hx0]; rfl)]
        exact ⟨_, rfl, i1.u_seen, i2.u_seen, i3, key 0 (pI_f (fun q => q.2 hx0)).symm⟩
      · rw [if_neg (nI_ne0 (by omega) (by omega))]
        exact ⟨_, rfl, i1.u_seen, i2.u_seen, i3, key 1 (pI_t ⟨h0, hx0⟩).symm⟩
    · rw [if_neg (nI_ne0 (by omega) (by omega))]
      exact ⟨_, rfl, i1.u_seen, i2.u_seen, i3, key 0 (pI_f (fun q => h0 q.1)).symm⟩
  · exact ⟨nI n, s', hs'.1, hs'.2⟩
theorem lo56_ok {n : Nat} {d : Nat → Nat} {e : Nat → Nat → Nat} (hG : Gr n d e) {σ : SM} (hM : WebD σ n d e) (hO : OrdM σ n d e) {x a : Nat} (hx : x < n) (ha : a < n) {B S : Nat → Prop} {v : Int32} (hS : SeenM σ n S) (hA : ∀ b, S b → Av d e x b) (hP : Prog B S v) :
    ∃ v' w σ', ∃ S' : Nat → Prop, lp_Model_leaveOut_56 100 σ (nI x) v (nI a) 0 = some (v', w, σ') ∧ WebD σ' n d e ∧ OrdM σ' n d e ∧ sM_rules σ' = sM_rules σ ∧ SeenM σ' n S' ∧ (∀ b, S' b → Av d e x b) ∧ Prog B S' v' ∧ (∀ b, S b → S' b) ∧ (S a → ∀ k, k < d a → e a k = x ∨ S' (e a k)) := by
  have g2 := hG.2.1
  have hda := hG.2.2.1 a
  rcases Classical.em (S a) with hSa | hSa
  · refine Exists.elim (loopN (lp := fun f (s : Int32 × SM) i => lp_Model_leaveOut_56 f s.2 (nI x) s.1 (nI a) i) (N := d a) (Inv := fun j s => WebD s.2 n d e ∧ OrdM s.2 n d e ∧ sM_rules s.2 = sM_rules σ ∧ ∃ S' : Nat → Prop, SeenM s.2 n S' ∧ (∀ b, S' b → Av d e x b) ∧ Prog B S' s.1 ∧ (∀ b, S b → S' b) ∧ ∀ k, k < j → e a k = x ∨ S' (e a k)) (done := fun s => (s.1, nI (d a), s.2)) (fun f s hI => ?_) (fun f j s hj hI => ?_) (d a) 100 0 (v, σ) (by omega) (by omega) ⟨hM, hO, rfl, S, hS, hA, hP, fun b hb => hb, fun k hk => absurd hk (Nat.not_lt_zero k)⟩) (fun s' hs' => ?_)
    · show lp_Model_leaveOut_56 (f + 1) s.2 (nI x) s.1 (nI a) (nI (d a)) = _
      rw [lp_Model_leaveOut_56_s, gdN (k := a) (by omega) (by decide), nI_clamp (n := a) (by omega), hI.1.many a (by omega), if_pos (nI_le (Nat.le_refl _) (by omega))]
    · obtain ⟨i1, i2, i3, T, i4, i5, i6, i7, i8⟩ := hI
      have hen := hG.2.2.2.2 a j ha hj
      have hTa := i7 a hSa
      show ∃ s' : Int32 × SM, lp_Model_leaveOut_56 (f + 1) s.2 (nI x) s.1 (nI a) (nI j) = lp_Model_leaveOut_56 f s'.2 (nI x) s'.1 (nI a) (nI (j + 1)) ∧ _
      rw [lp_Model_leaveOut_56_s, gdN (k := a) (by omega) (by decide), nI_clamp (n := a) (by omega), i1.many a (by omega), if_neg (nI_ge hj (by omega)), i4 a ha, pI_t hTa, if_neg (by decide), ix8', gdN (k := 8 * a + j) (by omega) (by decide), nI_clamp (n := 8 * a + j) (by omega), i1.ends a j ha hj, Lt_eq, gdN (k := e a j) (by omega) (by decide), nI_clamp (n := e a j) (by omega), i4 _ hen, nI_1, nar1]
      by_cases hex : e a j = x
      · rw [if_pos (by rw [hex])]
        refine ⟨(s.1, s.2), rfl, i1, i2, i3, T, i4, i5, i6, i7, fun k hk => ?_⟩
        by_cases hkj : k = j
        · rw [hkj]; exact Or.inl hex
        · exact i8 k (by omega)
      · rw [if_neg (fun q => hex ((nI_eq (by omega) (by omega)).mp q))]
        rcases Classical.em (T (e a j)) with hT | hT
        · rw [pI_t hT, if_neg (by decide)]
          refine ⟨(s.1, s.2), rfl, i1, i2, i3, T, i4, i5, i6, i7, fun k hk => ?_⟩
          by_cases hkj : k = j
          · rw [hkj]; exact Or.inr hT
          · exact i8 k (by omega)
        · rw [pI_f hT, if_pos rfl]
          refine ⟨(1, uM_seen s.2 (upd (sM_seen s.2) (e a j) 1)), rfl, i1.u_seen, i2.u_seen, i3, fun b => T b ∨ b = e a j, fun b hb => ?_, ?_, i6.add (by omega) hT, fun b hb => Or.inl (i7 b hb), fun k hk => ?_⟩
          · rw [gM_seen_seen]
            by_cases hbe : b = e a j
            · rw [hbe, pk_us, pI_t (Or.inr rfl)]
            · rw [pk_un hbe, i4 b hb]
              exact pI_congr ⟨Or.inl, fun q => q.resolve_right hbe⟩
          · rintro b (q | rfl)
            · exact i5 b q
            · exact (i5 a hTa).step hj hex
          · by_cases hkj : k = j
            · rw [hkj]; exact Or.inr (Or.inr rfl)
            · exact (i8 k (by omega)).imp id Or.inl
    · obtain ⟨h1, h2, h3, h4, S', h5, h6, h7, h8, h9⟩ := hs'
      exact ⟨s'.1, nI (d a), s'.2, S', h1, h2, h3, h4, h5, h6, h7, h8, fun _ => h9⟩
  · refine ⟨v, 0, σ, S, ?_, hM, hO, rfl, hS, hA, hP, fun b hb => hb, fun q => absurd q hSa⟩
    rw [lp_Model_leaveOut_56_s, gdN (k := a) (by omega) (by decide), nI_clamp (n := a) (by omega), hS a ha, pI_f hSa, if_pos (show (0 : Int32) = 0 from rfl)]
    split <;> rfl
theorem lo45_ok {n : Nat} {d : Nat → Nat} {e : Nat → Nat → Nat} (hG : Gr n d e) {σ : SM} (hM : WebD σ n d e) (hO : OrdM σ n d e) {x : Nat} (hx : x < n) {B : Nat → Prop} (hS : SeenM σ n B) (hA : ∀ b, B b → Av d e x b) :
    ∃ v' w σ', ∃ S' : Nat → Prop, lp_Model_leaveOut_45 100 σ (nI x) 0 0 = some (v', w, σ') ∧ WebD σ' n d e ∧ OrdM σ' n d e ∧ sM_rules σ' = sM_rules σ ∧ SeenM σ' n S' ∧ (∀ b, S' b → Av d e x b) ∧ Prog B S' v' ∧ ∀ a, a < n → B a → ∀ k, k < d a → e a k = x ∨ S' (e a k) := by
  have g2 := hG.2.1
  refine Exists.elim (loopN (lp := fun f (s : Int32 × SM) i => lp_Model_leaveOut_45 f s.2 (nI x) s.1 i) (N := n) (Inv := fun j s => WebD s.2 n d e ∧ OrdM s.2 n d e ∧ sM_rules s.2 = sM_rules σ ∧ ∃ S' : Nat → Prop, SeenM s.2 n S' ∧ (∀ b, S' b → Av d e x b) ∧ Prog B S' s.1 ∧ ∀ a, a < j → B a → ∀ k, k < d a → e a k = x ∨ S' (e a k)) (done := fun s => (s.1, nI n, s.2)) (fun f s hI => ?_) (fun f j s hj hI => ?_) n 100 0 (0, σ) (by omega) (by omega) ⟨hM, hO, rfl, B, hS, hA, Or.inl ⟨rfl, fun b => Iff.rfl⟩, fun a ha => absurd ha (Nat.not_lt_zero a)⟩) (fun s' hs' => ?_)
  · show lp_Model_leaveOut_45 (f + 1) s.2 (nI x) s.1 (nI n) = _
    rw [lp_Model_leaveOut_45_s, hI.1.blocks, if_pos (nI_le (Nat.le_refl _) (by omega))]
  · obtain ⟨i1, i2, i3, T, i4, i5, i6, i7⟩ := hI
    obtain ⟨v', w, σ', S', j1, j2, j3, j4, j5, j6, j7, j8, j9⟩ := lo56_ok hG i1 i2 hx hj i4 i5 i6
    refine ⟨(v', σ'), ?_, j2, j3, j4.trans i3, S', j5, j6, j7, fun a ha hB k hk => ?_⟩
    · show lp_Model_leaveOut_45 (f + 1) s.2 (nI x) s.1 (nI j) = _
      rw [lp_Model_leaveOut_45_s, i1.blocks, if_neg (nI_ge hj (by omega)), j1, Option.bind_some, nI_1]
    · by_cases haj : a = j
      · subst haj
        exact j9 (i6.sub a hB) k hk
      · exact (i7 a (by omega) hB k hk).imp id (j8 _)
  · obtain ⟨h1, h2, h3, h4, S', h5⟩ := hs'
    exact ⟨s'.1, nI n, s'.2, S', h1, h2, h3, h4, h5⟩
theorem lo37_ok {n : Nat} {d : Nat → Nat} {e : Nat → Nat → Nat} (hG : Gr n d e) {x : Nat} (hx : x < n) : ∀ (r f : Nat) (σ : SM) (B : Nat → Prop), 64 ≤ cnt B 64 + r → r + 1 < f → WebD σ n d e → OrdM σ n d e → SeenM σ n B → (∀ b, B b → Av d e x b) → (¬ x = 0 → B 0) →
    ∃ v σ', lp_Model_leaveOut_37 f σ (nI x) 1 = some (v, σ') ∧ WebD σ' n d e ∧ OrdM σ' n d e ∧ sM_rules σ' = sM_rules σ ∧ SeenM σ' n (Av d e x) := by
  intro r
  induction r with
  | zero =>
    intro f σ B hr hf hM hO hS hA h0
    obtain ⟨g, rfl⟩ : ∃ g, f = g + 1 + 1 := ⟨f - 2, by omega⟩
    obtain ⟨v', w, σ', S', j1, j2, j3, j4, j5, j6, j7, j8⟩ := lo45_ok hG hM hO hx hS hA
    rcases j7 with ⟨rfl, j7⟩ | ⟨rfl, j7, j9⟩
    · refine ⟨0, σ', ?_, j2, j3, j4, fun b hb => (j5 b hb).trans (pI_congr ⟨j6 b, fun q => ?_⟩)⟩
      · rw [lp_Model_leaveOut_37_s, if_neg (by decide), j1, Option.bind_some, lp_Model_leaveOut_37_s, if_pos rfl]
      · refine q.ind (P := S') (fun hx0 => (j7 0).mpr (h0 hx0)) (fun a k ha hP hk hne => ?_)
        exact (j8 a (rch_lt hG ha.rch) ((j7 a).mp hP) k hk).resolve_left hne
    · have := cnt_le S' 64
      omega
  | succ r ih =>
    intro f σ B hr hf hM hO hS hA h0
    obtain ⟨g, rfl⟩ : ∃ g, f = g + 1 + 1 := ⟨f - 2, by omega⟩
    obtain ⟨v', w, σ', S', j1, j2, j3, j4, j5, j6, j7, j8⟩ := lo45_ok hG hM hO hx hS hA
    rcases j7 with ⟨rfl, j7⟩ | ⟨rfl, j7, j9⟩
    · refine ⟨0, σ', ?_, j2, j3, j4, fun b hb => (j5 b hb).trans (pI_congr ⟨j6 b, fun q => ?_⟩)⟩
      · rw [lp_Model_leaveOut_37_s, if_neg (by decide), j1, Option.bind_some, lp_Model_leaveOut_37_s, if_pos rfl]
      · refine q.ind (P := S') (fun hx0 => (j7 0).mpr (h0 hx0)) (fun a k ha hP hk hne => ?_)
        exact (j8 a (rch_lt hG ha.rch) ((j7 a).mp hP) k hk).resolve_left hne
    · obtain ⟨v, σ2, k1, k2, k3, k4, k5⟩ := ih (g + 1) σ' S' (by omega) (by omega) j2 j3 j5 j6 (fun q => j7 0 (h0 q))
      refine ⟨v, σ2, ?_, k2, k3, k4.trans j4, k5⟩
      rw [lp_Model_leaveOut_37_s, if_neg (by decide), j1, Option.bind_some]
      exact k1
abbrev RulM (σ : SM) (n : Nat) (d : Nat → Nat) (e : Nat → Nat → Nat) (j : Nat) : Prop := ∀ a b, a < j → b < n → sM_rules σ (64 * a + b) = pI (Dom d e a b)
theorem RulM.u_thrown {σ : SM} {n : Nat} {d : Nat → Nat} {e : Nat → Nat → Nat} {j : Nat} {v} (h : RulM σ n d e j) : RulM (uM_thrown σ v) n d e j := h
theorem RulM.u_isDone {σ : SM} {n : Nat} {d : Nat → Nat} {e : Nat → Nat → Nat} {j : Nat} {v} (h : RulM σ n d e j) : RulM (uM_isDone σ v) n d e j := h
theorem RulM.u_reached {σ : SM} {n : Nat} {d : Nat → Nat} {e : Nat → Nat → Nat} {j : Nat} {v} (h : RulM σ n d e j) : RulM (uM_reached σ v) n d e j := h
theorem RulM.u_order {σ : SM} {n : Nat} {d : Nat → Nat} {e : Nat → Nat → Nat} {j : Nat} {v} (h : RulM σ n d e j) : RulM (uM_order σ v) n d e j := h
theorem RulM.u_at {σ : SM} {n : Nat} {d : Nat → Nat} {e : Nat → Nat → Nat} {j : Nat} {v} (h : RulM σ n d e j) : RulM (uM_at σ v) n d e j := h
theorem RulM.u_parent {σ : SM} {n : Nat} {d : Nat → Nat} {e : Nat → Nat → Nat} {j : Nat} {v} (h : RulM σ n d e j) : RulM (uM_parent σ v) n d e j := h
theorem RulM.u_isHead {σ : SM} {n : Nat} {d : Nat → Nat} {e : Nat → Nat → Nat} {j : Nat} {v} (h : RulM σ n d e j) : RulM (uM_isHead σ v) n d e j := h
theorem RulM.u_loop {σ : SM} {n : Nat} {d : Nat → Nat} {e : Nat → Nat → Nat} {j : Nat} {v} (h : RulM σ n d e j) : RulM (uM_loop σ v) n d e j := h
theorem RulM.u_loopSize {σ : SM} {n : Nat} {d : Nat → Nat} {e : Nat → Nat → Nat} {j : Nat} {v} (h : RulM σ n d e j) : RulM (uM_loopSize σ v) n d e j := h
theorem RulM.u_seen {σ : SM} {n : Nat} {d : Nat → Nat} {e : Nat → Nat → Nat} {j : Nat} {v} (h : RulM σ n d e j) : RulM (uM_seen σ v) n d e j := h
theorem RulM.u_pile {σ : SM} {n : Nat} {d : Nat → Nat} {e : Nat → Nat → Nat} {j : Nat} {v} (h : RulM σ n d e j) : RulM (uM_pile σ v) n d e j := h
theorem RulM.u_next {σ : SM} {n : Nat} {d : Nat → Nat} {e : Nat → Nat → Nat} {j : Nat} {v} (h : RulM σ n d e j) : RulM (uM_next σ v) n d e j := h
theorem leaveOut_ok {n : Nat} {d : Nat → Nat} {e : Nat → Nat → Nat} (hG : Gr n d e) {σ : SM} (hM : WebD σ n d e) (hO : OrdM σ n d e) {x : Nat} (hx : x < n) (hR : RulM σ n d e x) :
    ∃ σ', f_Model_leaveOut σ (nI x) = some σ' ∧ WebD σ' n d e ∧ OrdM σ' n d e ∧ RulM σ' n d e (x + 1) := by
  have g2 := hG.2.1
  obtain ⟨v1, σ1, a1, a2, a3, a4, a5⟩ := lo2_ok hG hM hO hx
  obtain ⟨v2, σ2, b1, b2, b3, b4, b5⟩ := lo37_ok hG hx 64 100 σ1 (fun b => b = 0 ∧ ¬ x = 0) (by omega) (by omega) a2 a3 a5 (by
    rintro b ⟨rfl, q⟩
    exact Av.zero q) (fun q => ⟨rfl, q⟩)
  have hR2 : RulM σ2 n d e x := fun a b ha hb => by rw [b4, a4]; exact hR a b ha hb
  refine Exists.elim (loopN (lp := fun f s i => lp_Model_leaveOut_136 f s (nI x) i) (N := n) (Inv := fun j s => WebD s n d e ∧ OrdM s n d e ∧ SeenM s n (Av d e x) ∧ RulM s n d e x ∧ ∀ b, b < j → sM_rules s (64 * x + b) = pI (Dom d e x b)) (done := fun s => (nI n, s)) (fun f s hI => ?_) (fun f j s hj hI => ?_) n 100 0 σ2 (by omega) (by omega) ⟨b2, b3, b5, hR2, fun b hb => absurd hb (Nat.not_lt_zero b)⟩) (fun s' hs' => ?_)
  · show lp_Model_leaveOut_136 (f + 1) s (nI x) (nI n) = _
    rw [lp_Model_leaveOut_136_s, hI.1.blocks, if_pos (nI_le (Nat.le_refl _) (by omega))]
  · obtain ⟨i1, i2, i3, i4, i5⟩ := hI
    have key : ∀ v : Int32, v = pI (Dom d e x j) → WebD (uM_rules s (upd (sM_rules s) (64 * x + j) v)) n d e ∧ OrdM (uM_rules s (upd (sM_rules s) (64 * x + j) v)) n d e ∧ SeenM (uM_rules s (upd (sM_rules s) (64 * x + j) v)) n (Av d e x) ∧ RulM (uM_rules s (upd (sM_rules s) (64 * x + j) v)) n d e x ∧ ∀ b, b < j + 1 → sM_rules (uM_rules s (upd (sM_rules s) (64 * x + j) v)) (64 * x + b) = pI (Dom d e x b) := by
      intro v hv
      refine ⟨i1.u_rules, i2.u_rules, i3, fun a b ha hb => ?_, fun b hb => ?_⟩
      · rw [gM_rules_rules, pk_un (by omega)]; exact i4 a b ha hb
      · rw [gM_rules_rules]
        by_cases hbj : b = j
        · rw [hbj, pk_us, hv]
        · rw [pk_un (by omega)]; exact i5 b (by omega)
    show ∃ s' : SM, lp_Model_leaveOut_136 (f + 1) s (nI x) (nI j) = lp_Model_leaveOut_136 f s' (nI x) (nI (j + 1)) ∧ _
    rw [lp_Model_leaveOut_136_s, i1.blocks, if_neg (nI_ge hj (by omega)), gdN (k := x) (by omega) (by decide), ix64, gdN (k := 64 * x + j) (by omega) (by decide), gdN (k := j) (by omega) (by decide), gdN (k := 64 * x + j) (by omega) (by decide), nI_clamp (n := x) (by omega), nI_clamp (n := j) (by omega), nI_clamp (n := 64 * x + j) (by omega), nI_1, nar0, nar1, i3 j hj]
    by_cases h1 : sM_order s x < 0
    · rw [if_pos h1]
      exact ⟨_, rfl, key 0 (pI_f (fun q => (i2.neg hG hx).mp h1 q.1)).symm⟩
    · rw [if_neg h1]
      by_cases h2 : sM_order s j < 0
      · rw [if_pos h2]
        exact ⟨_, rfl, key 0 (pI_f (fun q => (i2.neg hG hj).mp h2 q.2.1)).symm⟩
      · rw [if_neg h2]
        have r1 : Rch d e x := Classical.byContradiction (fun q => h1 ((i2.neg hG hx).mpr q))
        have r2 : Rch d e j := Classical.byContradiction (fun q => h2 ((i2.neg hG hj).mpr q))
        rcases Classical.em (Av d e x j) with h3 | h3
        · rw [pI_t h3, if_neg (by decide)]
          exact ⟨_, rfl, key 0 (pI_f (fun q => q.2.2 h3)).symm⟩
        · rw [pI_f h3, if_pos rfl]
          exact ⟨_, rfl, key 1 (pI_t ⟨r1, r2, h3⟩).symm⟩
  · obtain ⟨h1, h2, h3, h4, h5, h6⟩ := hs'
    refine ⟨s', ?_, h2, h3, fun a b ha hb => ?_⟩
    · unfold f_Model_leaveOut
      have h1' : lp_Model_leaveOut_136 100 σ2 (nI x) 0 = some (nI n, s') := h1
      rw [a1, Option.bind_some, b1, Option.bind_some, h1']
      rfl
    · by_cases hax : a = x
      · rw [hax]; exact h6 b hb
      · exact h5 a b (by omega) hb
theorem r19_ok {n : Nat} {d : Nat → Nat} {e : Nat → Nat → Nat} (hG : Gr n d e) {σ : SM} (hM : WebD σ n d e) (hO : OrdM σ n d e) :
    ∃ v σ', lp_Model_reckon_19 100 σ 0 = some (v, σ') ∧ WebD σ' n d e ∧ OrdM σ' n d e ∧ RulM σ' n d e n := by
  have g2 := hG.2.1
  refine Exists.elim (loopN (lp := lp_Model_reckon_19) (N := n) (Inv := fun j s => WebD s n d e ∧ OrdM s n d e ∧ RulM s n d e j) (done := fun s => (nI n, s)) (fun f s hI => ?_) (fun f j s hj hI => ?_) n 100 0 σ (by omega) (by omega) ⟨hM, hO, fun a b ha => absurd ha (Nat.not_lt_zero a)⟩) (fun s' hs' => ?_)
  · rw [lp_Model_reckon_19_s, hI.1.blocks, if_pos (nI_le (Nat.le_refl _) (by omega))]
  · obtain ⟨i1, i2, i3⟩ := hI
    obtain ⟨σ', j1, j2⟩ := leaveOut_ok hG i1 i2 hj i3
    refine ⟨σ', ?_, j2⟩
    rw [lp_Model_reckon_19_s, i1.blocks, if_neg (nI_ge hj (by omega)), j1, Option.bind_some, nI_1]
  · exact ⟨nI n, s', hs'.1, hs'.2⟩
