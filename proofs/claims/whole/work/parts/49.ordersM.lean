-- the reference's order
theorem nar0 : vp_nar .boolean 0 = 0 := rfl
theorem nar1 : vp_nar .boolean 1 = 1 := rfl
theorem narP {p : Prop} : vp_nar .boolean (pI p) = pI p := by
  rcases Classical.em p with h | h
  · rw [pI_t h]; rfl
  · rw [pI_f h]; rfl
abbrev WebD (σ : SM) (n : Nat) (d : Nat → Nat) (e : Nat → Nat → Nat) : Prop := (sM_blocks σ = nI n) ∧ (∀ b, b < 64 → sM_many σ b = nI (d b)) ∧ (∀ b k, b < n → k < d b → sM_ends σ (8 * b + k) = nI (e b k)) ∧ (sM_isDone σ = 1)
theorem WebD.blocks {σ : SM} {n : Nat} {d : Nat → Nat} {e : Nat → Nat → Nat} (I : WebD σ n d e) : sM_blocks σ = nI n := I.1
theorem WebD.many {σ : SM} {n : Nat} {d : Nat → Nat} {e : Nat → Nat → Nat} (I : WebD σ n d e) : ∀ b, b < 64 → sM_many σ b = nI (d b) := I.2.1
theorem WebD.ends {σ : SM} {n : Nat} {d : Nat → Nat} {e : Nat → Nat → Nat} (I : WebD σ n d e) : ∀ b k, b < n → k < d b → sM_ends σ (8 * b + k) = nI (e b k) := I.2.2.1
theorem WebD.done {σ : SM} {n : Nat} {d : Nat → Nat} {e : Nat → Nat → Nat} (I : WebD σ n d e) : sM_isDone σ = 1 := I.2.2.2
theorem WebD.u_thrown {σ : SM} {n : Nat} {d : Nat → Nat} {e : Nat → Nat → Nat} {v} (h : WebD σ n d e) : WebD (uM_thrown σ v) n d e := h
theorem WebD.u_reached {σ : SM} {n : Nat} {d : Nat → Nat} {e : Nat → Nat → Nat} {v} (h : WebD σ n d e) : WebD (uM_reached σ v) n d e := h
theorem WebD.u_order {σ : SM} {n : Nat} {d : Nat → Nat} {e : Nat → Nat → Nat} {v} (h : WebD σ n d e) : WebD (uM_order σ v) n d e := h
theorem WebD.u_at {σ : SM} {n : Nat} {d : Nat → Nat} {e : Nat → Nat → Nat} {v} (h : WebD σ n d e) : WebD (uM_at σ v) n d e := h
theorem WebD.u_rules {σ : SM} {n : Nat} {d : Nat → Nat} {e : Nat → Nat → Nat} {v} (h : WebD σ n d e) : WebD (uM_rules σ v) n d e := h
theorem WebD.u_parent {σ : SM} {n : Nat} {d : Nat → Nat} {e : Nat → Nat → Nat} {v} (h : WebD σ n d e) : WebD (uM_parent σ v) n d e := h
theorem WebD.u_isHead {σ : SM} {n : Nat} {d : Nat → Nat} {e : Nat → Nat → Nat} {v} (h : WebD σ n d e) : WebD (uM_isHead σ v) n d e := h
theorem WebD.u_loop {σ : SM} {n : Nat} {d : Nat → Nat} {e : Nat → Nat → Nat} {v} (h : WebD σ n d e) : WebD (uM_loop σ v) n d e := h
theorem WebD.u_loopSize {σ : SM} {n : Nat} {d : Nat → Nat} {e : Nat → Nat → Nat} {v} (h : WebD σ n d e) : WebD (uM_loopSize σ v) n d e := h
theorem WebD.u_seen {σ : SM} {n : Nat} {d : Nat → Nat} {e : Nat → Nat → Nat} {v} (h : WebD σ n d e) : WebD (uM_seen σ v) n d e := h
theorem WebD.u_pile {σ : SM} {n : Nat} {d : Nat → Nat} {e : Nat → Nat → Nat} {v} (h : WebD σ n d e) : WebD (uM_pile σ v) n d e := h
theorem WebD.u_next {σ : SM} {n : Nat} {d : Nat → Nat} {e : Nat → Nat → Nat} {v} (h : WebD σ n d e) : WebD (uM_next σ v) n d e := h
abbrev OrdM (σ : SM) (n : Nat) (d : Nat → Nat) (e : Nat → Nat → Nat) : Prop := (sM_reached σ = nI (pm d e)) ∧ (∀ i, i < pm d e → sM_at σ i = nI (pq d e i)) ∧ (∀ i, i < pm d e → sM_order σ (pq d e i) = nI i) ∧ (∀ b, b < n → ¬ Rch d e b → sM_order σ b = -1)
theorem OrdM.reached {σ : SM} {n : Nat} {d : Nat → Nat} {e : Nat → Nat → Nat} (I : OrdM σ n d e) : sM_reached σ = nI (pm d e) := I.1
theorem OrdM.at1 {σ : SM} {n : Nat} {d : Nat → Nat} {e : Nat → Nat → Nat} (I : OrdM σ n d e) : ∀ i, i < pm d e → sM_at σ i = nI (pq d e i) := I.2.1
theorem OrdM.ord1 {σ : SM} {n : Nat} {d : Nat → Nat} {e : Nat → Nat → Nat} (I : OrdM σ n d e) : ∀ i, i < pm d e → sM_order σ (pq d e i) = nI i := I.2.2.1
theorem OrdM.ord0 {σ : SM} {n : Nat} {d : Nat → Nat} {e : Nat → Nat → Nat} (I : OrdM σ n d e) : ∀ b, b < n → ¬ Rch d e b → sM_order σ b = -1 := I.2.2.2
theorem OrdM.u_thrown {σ : SM} {n : Nat} {d : Nat → Nat} {e : Nat → Nat → Nat} {v} (h : OrdM σ n d e) : OrdM (uM_thrown σ v) n d e := h
theorem OrdM.u_isDone {σ : SM} {n : Nat} {d : Nat → Nat} {e : Nat → Nat → Nat} {v} (h : OrdM σ n d e) : OrdM (uM_isDone σ v) n d e := h
theorem OrdM.u_rules {σ : SM} {n : Nat} {d : Nat → Nat} {e : Nat → Nat → Nat} {v} (h : OrdM σ n d e) : OrdM (uM_rules σ v) n d e := h
theorem OrdM.u_parent {σ : SM} {n : Nat} {d : Nat → Nat} {e : Nat → Nat → Nat} {v} (h : OrdM σ n d e) : OrdM (uM_parent σ v) n d e := h
theorem OrdM.u_isHead {σ : SM} {n : Nat} {d : Nat → Nat} {e : Nat → Nat → Nat} {v} (h : OrdM σ n d e) : OrdM (uM_isHead σ v) n d e := h
theorem OrdM.u_loop {σ : SM} {n : Nat} {d : Nat → Nat} {e : Nat → Nat → Nat} {v} (h : OrdM σ n d e) : OrdM (uM_loop σ v) n d e := h
theorem OrdM.u_loopSize {σ : SM} {n : Nat} {d : Nat → Nat} {e : Nat → Nat → Nat} {v} (h : OrdM σ n d e) : OrdM (uM_loopSize σ v) n d e := h
theorem OrdM.u_seen {σ : SM} {n : Nat} {d : Nat → Nat} {e : Nat → Nat → Nat} {v} (h : OrdM σ n d e) : OrdM (uM_seen σ v) n d e := h
theorem OrdM.u_pile {σ : SM} {n : Nat} {d : Nat → Nat} {e : Nat → Nat → Nat} {v} (h : OrdM σ n d e) : OrdM (uM_pile σ v) n d e := h
theorem OrdM.u_next {σ : SM} {n : Nat} {d : Nat → Nat} {e : Nat → Nat → Nat} {v} (h : OrdM σ n d e) : OrdM (uM_next σ v) n d e := h
abbrev SimM (σ : SM) (n : Nat) (D : DS) : Prop := (∀ i, i < D.h → sM_pile σ i = nI (D.st i)) ∧ (∀ i, i < D.h → sM_next σ i = nI (D.t (D.st i))) ∧ (∀ b, b < n → sM_seen σ b = pI (D.s b = true)) ∧ ∀ i, i < D.m → sM_at σ i = nI (D.o i)
theorem o55_step {n : Nat} {d : Nat → Nat} {e : Nat → Nat → Nat} (hG : Gr n d e) {σ : SM} (hM : WebD σ n d e) {k : Nat} {D : DS} (I : DInv n d e k D) (I' : DInv n d e (k + 1) (dstep d e D)) (S : SimM σ n D) (h0 : 0 < D.h) (f : Nat) :
    ∃ σ', lp_Model_orders_55 (f + 1) σ (nI D.h) (nI D.m) = lp_Model_orders_55 f σ' (nI (dstep d e D).h) (nI (dstep d e D).m) ∧ WebD σ' n d e ∧ sM_order σ' = sM_order σ ∧ SimM σ' n (dstep d e D) := by
  have g2 := hG.2.1
  have hm := I.hm
  have hm' := I'.hm
  obtain ⟨h, st, t, s, m, o⟩ := D
  obtain ⟨h', rfl⟩ : ∃ h', h = h' + 1 := ⟨h - 1, by have h0 : 0 < h := h0; omega⟩
  obtain ⟨b, hb⟩ : ∃ b, st h' = b := ⟨_, rfl⟩
  have hbn : b < n := by rw [← hb]; exact I.st_lt h' (Nat.lt_succ_self h')
  have hbs : s b = true := by rw [← hb]; exact I.st_s h' (Nat.lt_succ_self h')
  obtain ⟨s1, s2, s3, s4⟩ := S
  dsimp only [DS.h, DS.st, DS.t, DS.s, DS.m, DS.o] at s1 s2 s3 s4 hm ⊢
  have hinj : ∀ i, i < h' → ¬ st i = b := fun i hi => by rw [← hb]; exact I.st_inj i h' hi (Nat.lt_succ_self h')
  have c2 : ¬ nI (h' + 1) ≤ 0 := nI_nle (by omega) (by omega)
  have hd := hG.2.2.1 b
  have htb : t b ≤ d b := I.t_le b
  have s2' : sM_next σ h' = nI (t b) := by rw [s2 h' (by omega), hb]
  rw [lp_Model_orders_55_s, if_neg c2, nI_pred, gdN (k := h') (by omega) (by decide), nI_clamp (n := h') (by omega), s1 h' (by omega), hb, Lt_eq, gdN (k := b) (by omega) (by decide), nI_clamp (n := b) (by omega), s2', hM.many b (by omega)]
  by_cases hlt : t b < d b
  · have hcn := hG.2.2.2.2 b (t b) hbn hlt
    have u2 : ∀ i, i < h' + 1 → upd (sM_next σ) h' (nI (t b) + 1) i = nI (upN t b (t b + 1) (st i)) := by
      intro i hi
      by_cases hx : i = h'
      · rw [hx, pk_us, hb, upN_s, nI_1]
      · rw [pk_un hx, upN_n (hinj i (by omega))]; exact s2 i hi
    rw [if_neg (fun q => absurd ((nI_eq (by omega) (by omega)).mp q) (by omega)), ix8', gdN (k := 8 * b + t b) (by omega) (by decide), nI_clamp (n := 8 * b + t b) (by omega), hM.ends b (t b) hbn hlt, Lt_eq, gdN (k := e b (t b)) (by omega) (by decide), nI_clamp (n := e b (t b)) (by omega), s3 (e b (t b)) hcn]
    by_cases hc : s (e b (t b)) = true
    · rw [dstep_a hb hlt hc, pI_t hc, if_neg (by decide)]
      exact ⟨uM_next σ (upd (sM_next σ) h' (nI (t b) + 1)), rfl, hM.u_next, rfl, s1, u2, s3, s4⟩
    · rw [dstep_b hb hlt hc] at hm' ⊢
      dsimp only [DS.h, DS.st, DS.t, DS.s, DS.m, DS.o] at hm' ⊢
      have hcf : s (e b (t b)) = false := by
        cases hq : s (e b (t b)) with
        | true => exact absurd hq hc
        | false => rfl
      have hct : t (e b (t b)) = 0 := I.t_0 _ hcf
      have hcb : ¬ e b (t b) = b := fun q => by rw [q, hbs] at hcf; exact absurd hcf (by decide)
      rw [pI_f hc, if_pos rfl, gdN (k := h' + 1) (by omega) (by decide), nI_clamp (n := h' + 1) (by omega), nI_1 (h' + 1), nar1]
      refine ⟨_, rfl, hM.u_next.u_seen.u_pile.u_next, ?_, ?_, ?_, ?_, ?_⟩
      · rw [gM_order_next, gM_order_pile, gM_order_seen, gM_order_next]
      · intro i hi
        rw [gM_pile_next, gM_pile_pile]
        show upd (sM_pile σ) (h' + 1) (nI (e b (t b))) i = nI (upN st (h' + 1) (e b (t b)) i)
        have hi : i < h' + 1 + 1 := hi
        by_cases hx : i = h' + 1
        · rw [hx, pk_us, upN_s]
        · rw [pk_un hx, upN_n hx]; exact s1 i (by omega)
      · intro i hi
        rw [gM_next_next]
        show upd (upd (sM_next σ) h' (nI (t b) + 1)) (h' + 1) 0 i = nI (upN t b (t b + 1) (upN st (h' + 1) (e b (t b)) i))
        have hi : i < h' + 1 + 1 := hi
        by_cases hx : i = h' + 1
        · rw [hx, pk_us, upN_s, upN_n hcb, hct]
          rfl
        · rw [pk_un hx, upN_n hx]; exact u2 i (by omega)
      · intro x hx
        rw [gM_seen_next, gM_seen_pile, gM_seen_seen]
        show upd (sM_seen σ) (e b (t b)) 1 x = pI (upS s (e b (t b)) x = true)
        by_cases hxc : x = e b (t b)
        · rw [hxc, pk_us, pI_t upS_s]
        · rw [pk_un hxc, upS_n hxc]; exact s3 x hx
      · rw [gM_at_next, gM_at_pile, gM_at_seen, gM_at_next]
        exact s4
  · have hte : t b = d b := by omega
    rw [dstep_c hb hlt, if_pos (by rw [hte]), gdN (k := m) (by omega) (by decide), nI_clamp (n := m) (by omega), pk_m1, nI_1]
    refine ⟨uM_at σ (upd (sM_at σ) m (nI b)), rfl, hM.u_at, rfl, fun i hi => s1 i (Nat.lt_succ_of_lt hi), fun i hi => s2 i (Nat.lt_succ_of_lt hi), s3, ?_⟩
    intro i hi
    show upd (sM_at σ) m (nI b) i = nI (upN o m b i)
    have hi : i < m + 1 := hi
    by_cases hx : i = m
    · rw [hx, pk_us, upN_s]
    · rw [pk_un hx, upN_n hx]; exact s4 i (by omega)
theorem o55_loop {n : Nat} {d : Nat → Nat} {e : Nat → Nat → Nat} (hG : Gr n d e) : ∀ (r k f : Nat) (σ : SM), k + r = 576 → r < f → WebD σ n d e → SimM σ n (drun d e k) →
    ∃ σ', lp_Model_orders_55 f σ (nI (drun d e k).h) (nI (drun d e k).m) = some (0, nI (pm d e), σ') ∧ WebD σ' n d e ∧ sM_order σ' = sM_order σ ∧ ∀ i, i < pm d e → sM_at σ' i = nI (po d e i) := by
  have fin : ∀ (k f : Nat) (σ : SM), (drun d e k).h = 0 → WebD σ n d e → SimM σ n (drun d e k) → ∃ σ', lp_Model_orders_55 (f + 1) σ (nI (drun d e k).h) (nI (drun d e k).m) = some (0, nI (pm d e), σ') ∧ WebD σ' n d e ∧ sM_order σ' = sM_order σ ∧ ∀ i, i < pm d e → sM_at σ' i = nI (po d e i) := by
    intro k f σ h0 hM S
    obtain ⟨e1, e2⟩ := drun_end hG h0
    refine ⟨σ, ?_, hM, rfl, by rw [← e1, ← e2]; exact S.2.2.2⟩
    rw [lp_Model_orders_55_s, h0, if_pos (show nI 0 ≤ 0 by decide), e1]
    rfl
  intro r
  induction r with
  | zero =>
    intro k f σ hk hf hM S
    obtain ⟨g, rfl⟩ : ∃ g, f = g + 1 := ⟨f - 1, by omega⟩
    have h0 : (drun d e k).h = 0 := by
      have := (drun_inv hG k).lt hG
      omega
    exact fin k g σ h0 hM S
  | succ r ih =>
    intro k f σ hk hf hM S
    obtain ⟨g, rfl⟩ : ∃ g, f = g + 1 := ⟨f - 1, by omega⟩
    by_cases h0 : (drun d e k).h = 0
    · exact fin k g σ h0 hM S
    · obtain ⟨σ', q1, q2, q3, q4⟩ := o55_step hG hM (drun_inv hG k) (drun_inv hG (k + 1)) S (by omega) g
      obtain ⟨σ2, w1, w2, w3, w4⟩ := ih (k + 1) g σ' (by omega) (by omega) q2 q4
      exact ⟨σ2, q1.trans w1, w2, w3.trans q3, w4⟩
theorem o2_ok {n : Nat} {d : Nat → Nat} {e : Nat → Nat → Nat} (hG : Gr n d e) {σ : SM} (hM : WebD σ n d e) :
    ∃ σ', lp_Model_orders_2 700 σ 0 = some (nI n, σ') ∧ WebD σ' n d e ∧ (∀ b, b < n → sM_order σ' b = -1) ∧ ∀ b, b < n → sM_seen σ' b = 0 := by
  have g2 := hG.2.1
  refine Exists.elim (loopN (lp := lp_Model_orders_2) (N := n) (Inv := fun j s => WebD s n d e ∧ (∀ b, b < j → sM_order s b = -1) ∧ ∀ b, b < j → sM_seen s b = 0) (done := fun s => (nI n, s)) (fun f s hI => ?_) (fun f j s hj hI => ?_) n 700 0 σ (by omega) (by omega) ⟨hM, fun b hb => absurd hb (Nat.not_lt_zero b), fun b hb => absurd hb (Nat.not_lt_zero b)⟩) (fun s' hs' => ?_)
  · rw [lp_Model_orders_2_s, hI.1.blocks, if_pos (nI_le (Nat.le_refl _) (by omega))]
  · obtain ⟨i1, i2, i3⟩ := hI
    rw [lp_Model_orders_2_s, i1.blocks, if_neg (nI_ge hj (by omega)), gdN (k := j) (by omega) (by decide), nI_clamp (n := j) (by omega), nI_1, nar0]
    refine ⟨_, rfl, i1.u_order.u_seen, fun b hb => ?_, fun b hb => ?_⟩
    · rw [gM_order_seen, gM_order_order]
      by_cases hx : b = j
      · rw [hx, pk_us]
      · rw [pk_un hx]; exact i2 b (by omega)
    · rw [gM_seen_seen]
      by_cases hx : b = j
      · rw [hx, pk_us]
      · rw [pk_un hx]; exact i3 b (by omega)
  · exact ⟨s', hs'.1, hs'.2⟩
def rv (m j i : Nat) : Nat := if i < j ∨ m - 1 - i < j then m - 1 - i else i
theorem rv_t {m j i : Nat} (h : i < j ∨ m - 1 - i < j) : rv m j i = m - 1 - i := if_pos h
theorem rv_f {m j i : Nat} (h : ¬ (i < j ∨ m - 1 - i < j)) : rv m j i = i := if_neg h
theorem o179_ok {n : Nat} {d : Nat → Nat} {e : Nat → Nat → Nat} {m : Nat} {o : Nat → Nat} (hm : m ≤ 64) {σ : SM} (hM : WebD σ n d e) (ha : ∀ i, i < m → sM_at σ i = nI (o i)) :
    ∃ v σ', lp_Model_orders_179 700 σ (nI m) 0 = some (v, σ') ∧ WebD σ' n d e ∧ sM_order σ' = sM_order σ ∧ sM_reached σ' = sM_reached σ ∧ ∀ i, i < m → sM_at σ' i = nI (o (m - 1 - i)) := by
  have hdv : nI m / 2 = nI (m / 2) := pk_div (d := 2) (by omega) (by omega) (by omega)
  refine Exists.elim (loopN (lp := fun f s i => lp_Model_orders_179 f s (nI m) i) (N := m / 2) (Inv := fun j s => WebD s n d e ∧ sM_order s = sM_order σ ∧ sM_reached s = sM_reached σ ∧ ∀ i, i < m → sM_at s i = nI (o (rv m j i))) (done := fun s => (nI (m / 2), s)) (fun f s hI => ?_) (fun f j s hj hI => ?_) (m / 2) 700 0 σ (by omega) (by omega) ⟨hM, rfl, rfl, fun i hi => by rw [rv_f (by omega)]; exact ha i hi⟩) (fun s' hs' => ?_)
  · show lp_Model_orders_179 (f + 1) s (nI m) (nI (m / 2)) = _
    rw [lp_Model_orders_179_s, hdv, if_pos (nI_le (Nat.le_refl _) (by omega))]
  · obtain ⟨i1, i2, i3, i4⟩ := hI
    have e1 : nI m - 1 = nI (m - 1) := pk_sub (b := 1) (by omega)
    have e2 : nI (m - 1) - nI j = nI (m - 1 - j) := pk_sub (by omega)
    show ∃ s' : SM, lp_Model_orders_179 (f + 1) s (nI m) (nI j) = lp_Model_orders_179 f s' (nI m) (nI (j + 1)) ∧ _
    rw [lp_Model_orders_179_s, hdv, if_neg (nI_ge hj (by omega)), gdN (k := j) (by omega) (by decide), nI_clamp (n := j) (by omega), Lt_eq, e1, e2, gdN (k := m - 1 - j) (by omega) (by decide), nI_clamp (n := m - 1 - j) (by omega), i4 j (by omega), i4 (m - 1 - j) (by omega), nI_1, rv_f (i := j) (by omega), rv_f (i := m - 1 - j) (by omega)]
    refine ⟨_, rfl, i1.u_at.u_at, ?_, ?_, fun i hi => ?_⟩
    · rw [gM_order_at, gM_order_at]; exact i2
    · rw [gM_reached_at, gM_reached_at]; exact i3
    · rw [gM_at_at]
      by_cases hx : i = m - 1 - j
      · rw [hx, pk_us, rv_t (by omega)]
        refine congrArg (fun x => nI (o x)) (by omega)
      · rw [pk_un hx]
        by_cases hy : i = j
        · rw [hy, pk_us, rv_t (by omega)]
        · rw [pk_un hy, i4 i hi]
          by_cases hr : i < j ∨ m - 1 - i < j
          · rw [rv_t hr, rv_t (by omega)]
          · rw [rv_f hr, rv_f (by omega)]
  · obtain ⟨h1, h2, h3, h4, h5⟩ := hs'
    refine ⟨nI (m / 2), s', h1, h2, h3, h4, fun i hi => ?_⟩
    rw [h5 i hi]
    by_cases hr : i < m / 2 ∨ m - 1 - i < m / 2
    · rw [rv_t hr]
    · rw [rv_f hr]
      refine congrArg (fun x => nI (o x)) (by omega)
theorem o230_ok {n : Nat} {d : Nat → Nat} {e : Nat → Nat → Nat} (hG : Gr n d e) {σ : SM} (hM : WebD σ n d e) (hr : sM_reached σ = nI (pm d e)) (ha : ∀ i, i < pm d e → sM_at σ i = nI (pq d e i)) (ho : ∀ b, b < n → sM_order σ b = -1) :
    ∃ v σ', lp_Model_orders_230 700 σ (nI (pm d e)) 0 = some (v, σ') ∧ WebD σ' n d e ∧ OrdM σ' n d e := by
  have O := ord_ok hG
  have hle := O.le
  have g2 := hG.2.1
  refine Exists.elim (loopN (lp := fun f s i => lp_Model_orders_230 f s (nI (pm d e)) i) (N := pm d e) (Inv := fun j s => WebD s n d e ∧ sM_reached s = nI (pm d e) ∧ (∀ i, i < pm d e → sM_at s i = nI (pq d e i)) ∧ (∀ i, i < j → sM_order s (pq d e i) = nI i) ∧ ∀ b, b < n → ¬ Rch d e b → sM_order s b = -1) (done := fun s => (nI (pm d e), s)) (fun f s hI => ?_) (fun f j s hj hI => ?_) (pm d e) 700 0 σ (by omega) (by omega) ⟨hM, hr, ha, fun i hi => absurd hi (Nat.not_lt_zero i), fun b hb _ => ho b hb⟩) (fun s' hs' => ?_)
  · show lp_Model_orders_230 (f + 1) s (nI (pm d e)) (nI (pm d e)) = _
    rw [lp_Model_orders_230_s, if_pos (nI_le (Nat.le_refl _) (by omega))]
  · obtain ⟨i1, i2, i3, i4, i5⟩ := hI
    have hql := O.lt j hj
    show ∃ s' : SM, lp_Model_orders_230 (f + 1) s (nI (pm d e)) (nI j) = lp_Model_orders_230 f s' (nI (pm d e)) (nI (j + 1)) ∧ _
    rw [lp_Model_orders_230_s, if_neg (nI_ge hj (by omega)), gdN (k := j) (by omega) (by decide), nI_clamp (n := j) (by omega), i3 j hj, gdN (k := pq d e j) (by omega) (by decide), nI_clamp (n := pq d e j) (by omega), nI_1]
    refine ⟨_, rfl, i1.u_order, i2, i3, fun i hi => ?_, fun b hb hn => ?_⟩
    · rw [gM_order_order]
      by_cases hx : i = j
      · rw [hx, pk_us]
      · rw [pk_un (fun q => hx (O.inj i j (by omega) hj q))]
        exact i4 i (by omega)
    · rw [gM_order_order, pk_un (fun q => hn ((O.mem b).mpr ⟨j, hj, q.symm⟩))]
      exact i5 b hb hn
  · obtain ⟨h1, h2, h3, h4, h5, h6⟩ := hs'
    exact ⟨nI (pm d e), s', h1, h2, h3, h4, h5, h6⟩
theorem orders_ok {n : Nat} {d : Nat → Nat} {e : Nat → Nat → Nat} (hG : Gr n d e) {σ : SM} (hM : WebD σ n d e) : ∃ σ', f_Model_orders σ = some σ' ∧ WebD σ' n d e ∧ OrdM σ' n d e := by
  have P := post_ok hG
  obtain ⟨σ1, a1, a2, a3, a4⟩ := o2_ok hG hM
  obtain ⟨σ2, b1, b2, b3, b4⟩ := o55_loop hG 576 0 700 (uM_seen (uM_next (uM_pile σ1 (upd (sM_pile σ1) 0 0)) (upd (sM_next σ1) 0 0)) (upd (sM_seen σ1) 0 (vp_nar .boolean 1))) (by omega) (by omega) a2.u_pile.u_next.u_seen ⟨fun i hi => by
      have hi : i < 1 := hi
      have : i = 0 := by omega
      subst this
      rw [gM_pile_seen, gM_pile_next, gM_pile_pile, pk_us]
      rfl, fun i hi => by
      have hi : i < 1 := hi
      have : i = 0 := by omega
      subst this
      rw [gM_next_seen, gM_next_next, pk_us]
      rfl, fun b hb => by
      rw [gM_seen_seen, nar1]
      show _ = pI (upS (fun _ => false) 0 b = true)
      by_cases hx : b = 0
      · rw [hx, pk_us, pI_t upS_s]
      · rw [pk_un hx, upS_n hx, pI_f (by decide)]
        exact a4 b hb, fun i hi => absurd hi (Nat.not_lt_zero i)⟩
  rw [gM_order_seen, gM_order_next, gM_order_pile] at b3
  obtain ⟨v3, σ3, c1, c2, c3, c4, c5⟩ := o179_ok (o := po d e) P.le (b2.u_reached (v := nI (pm d e))) b4
  obtain ⟨v4, σ4, d1, d2, d3⟩ := o230_ok hG c2 c4 c5 (fun b hb => by rw [c3, gM_order_reached, b3]; exact a3 b hb)
  refine ⟨σ4, ?_, d2, d3⟩
  unfold f_Model_orders
  have b1' : lp_Model_orders_55 700 (uM_seen (uM_next (uM_pile σ1 (upd (sM_pile σ1) (Int32.toNatClampNeg 0) 0)) (upd (sM_next σ1) (Int32.toNatClampNeg 0) 0)) (upd (sM_seen σ1) (Int32.toNatClampNeg 0) (vp_nar .boolean 1))) 1 0 = some (0, nI (pm d e), σ2) := b1
  rw [a1, Option.bind_some, if_neg (by decide), b1', Option.bind_some, c1, Option.bind_some, d1]
  rfl
