-- the class's walk
def Ed (d : Nat → Nat) (e : Nat → Nat → Nat) (a b : Nat) : Prop := ∃ k, k < d a ∧ e a k = b
/-- the block with number i in ORDER -/
noncomputable def pq (d : Nat → Nat) (e : Nat → Nat → Nat) (i : Nat) : Nat := po d e (pm d e - 1 - i)
abbrev Ord (n : Nat) (d : Nat → Nat) (e : Nat → Nat → Nat) (m : Nat) (q : Nat → Nat) : Prop := (∀ i, i < m → q i < n) ∧ (∀ i j, i < m → j < m → q i = q j → i = j) ∧ (∀ b, Rch d e b ↔ ∃ i, i < m ∧ q i = b) ∧ (0 < m) ∧ (q 0 = 0) ∧ (m ≤ 64)
theorem Ord.lt {n : Nat} {d : Nat → Nat} {e : Nat → Nat → Nat} {m : Nat} {q : Nat → Nat} (I : Ord n d e m q) : ∀ i, i < m → q i < n := I.1
theorem Ord.inj {n : Nat} {d : Nat → Nat} {e : Nat → Nat → Nat} {m : Nat} {q : Nat → Nat} (I : Ord n d e m q) : ∀ i j, i < m → j < m → q i = q j → i = j := I.2.1
theorem Ord.mem {n : Nat} {d : Nat → Nat} {e : Nat → Nat → Nat} {m : Nat} {q : Nat → Nat} (I : Ord n d e m q) : ∀ b, Rch d e b ↔ ∃ i, i < m ∧ q i = b := I.2.2.1
theorem Ord.pos {n : Nat} {d : Nat → Nat} {e : Nat → Nat → Nat} {m : Nat} {q : Nat → Nat} (I : Ord n d e m q) : 0 < m := I.2.2.2.1
theorem Ord.first {n : Nat} {d : Nat → Nat} {e : Nat → Nat → Nat} {m : Nat} {q : Nat → Nat} (I : Ord n d e m q) : q 0 = 0 := I.2.2.2.2.1
theorem Ord.le {n : Nat} {d : Nat → Nat} {e : Nat → Nat → Nat} {m : Nat} {q : Nat → Nat} (I : Ord n d e m q) : m ≤ 64 := I.2.2.2.2.2
theorem ord_ok {n : Nat} {d : Nat → Nat} {e : Nat → Nat → Nat} (hG : Gr n d e) : Ord n d e (pm d e) (pq d e) := by
  have P := post_ok hG
  refine ⟨fun i hi => P.lt _ (by omega), fun i j hi hj h => ?_, fun b => ?_, P.pos, by unfold pq; rw [Nat.sub_zero]; exact P.last, P.le⟩
  · have := P.inj _ _ (by omega) (by omega) h
    omega
  · rw [P.mem b]
    constructor
    · rintro ⟨i, hi, h⟩
      refine ⟨pm d e - 1 - i, by omega, ?_⟩
      unfold pq
      rw [show pm d e - 1 - (pm d e - 1 - i) = i by omega]
      exact h
    · rintro ⟨i, hi, h⟩
      exact ⟨pm d e - 1 - i, by omega, h⟩
theorem rch_lt {n : Nat} {d : Nat → Nat} {e : Nat → Nat → Nat} (hG : Gr n d e) {b : Nat} (h : Rch d e b) : b < n := by
  refine h.ind (P := fun b => b < n) hG.1 (fun a k _ ha hk => hG.2.2.2.2 a k ha hk)
abbrev SimB (σ : SB) (D : DS) : Prop := (∀ i, i < D.h → sB_open σ i = nI (D.st i)) ∧ (∀ b, b < 64 → sB_taken σ b = nI (D.t b)) ∧ sB_rset σ = bs (fun x => D.s x = true) ∧ sB_reached σ = nI D.m ∧ ∀ i, i < D.m → sB_left σ i = nI (D.o i)
abbrev FrB (σ σ0 : SB) : Prop := sB_orders σ = sB_orders σ0 ∧ sB_comers σ = sB_comers σ0 ∧ sB_comings σ = sB_comings σ0
theorem goDeep_step {n : Nat} {d : Nat → Nat} {e : Nat → Nat → Nat} (hG : Gr n d e) {σ : SB} (hB : WebB σ n d e) {k : Nat} {D : DS} (I : DInv n d e k D) (I' : DInv n d e (k + 1) (dstep d e D)) (S : SimB σ D) (hk : k < 576) (h0 : 0 < D.h) (f : Nat) :
    ∃ σ', lp_Walk_goDeep_19 (f + 1) σ (nI D.h) (nI k) = lp_Walk_goDeep_19 f σ' (nI (dstep d e D).h) (nI (k + 1)) ∧ WebB σ' n d e ∧ FrB σ' σ ∧ SimB σ' (dstep d e D) := by
  have g2 := hG.2.1
  have hm := I.hm
  have hm' := I'.hm
  obtain ⟨h, st, t, s, m, o⟩ := D
  obtain ⟨h', rfl⟩ : ∃ h', h = h' + 1 := ⟨h - 1, by have h0 : 0 < h := h0; omega⟩
  obtain ⟨b, hb⟩ : ∃ b, st h' = b := ⟨_, rfl⟩
  have hbn : b < n := by rw [← hb]; exact I.st_lt h' (Nat.lt_succ_self h')
  obtain ⟨s1, s2, s3, s4, s5⟩ := S
  dsimp only [DS.h, DS.st, DS.t, DS.s, DS.m, DS.o] at s1 s2 s3 s4 s5 hm ⊢
  have c1 : ¬ (576 : Int32) ≤ nI k := nI_ge (b := 576) hk (by decide)
  have c2 : ¬ nI (h' + 1) ≤ 0 := nI_nle (by omega) (by omega)
  have hd := hG.2.2.1 b
  have htb : t b ≤ d b := I.t_le b
  rw [lp_Walk_goDeep_19_s, if_neg c1, if_neg c2, nI_pred, gdN (by omega) (by decide), nI_clamp (n := h') (by omega), s1 h' (by omega), hb, Lt_eq, gdN (k := b) (by omega) (by decide), nI_clamp (n := b) (by omega), s2 b (by omega), hB.2.2.1 b (by omega)]
  have u2 : ∀ x, x < 64 → upd (sB_taken σ) b (nI (t b) + 1) x = nI (upN t b (t b + 1) x) := by
    intro x hx
    by_cases hxb : x = b
    · rw [hxb, pk_us, upN_s, nI_1]
    · rw [pk_un hxb, upN_n hxb]; exact s2 x hx
  by_cases hlt : t b < d b
  · rw [if_pos (nI_lt hlt (by omega)), endOf_in hG hB hbn hlt, Option.bind_some]
    have hcn := hG.2.2.2.2 b (t b) hbn hlt
    rw [s3, bs_holds _ (by omega)]
    by_cases hc : s (e b (t b)) = true
    · rw [dstep_a hb hlt hc, pI_t hc, if_neg (by decide)]
      refine ⟨uB_taken σ (upd (sB_taken σ) b (nI (t b) + 1)), ?_, hB.u_taken, ⟨rfl, rfl, rfl⟩, s1, u2, s3, s4, s5⟩
      rw [nI_1 k]
    · rw [dstep_b hb hlt hc] at hm' ⊢
      dsimp only [DS.h, DS.st, DS.t, DS.s, DS.m, DS.o] at hm' ⊢
      rw [pI_f hc, if_pos rfl, gdN (by omega) (by decide), nI_clamp (n := h' + 1) (by omega), bs_only (by omega), bs_or]
      refine ⟨uB_open (uB_rset (uB_taken σ (upd (sB_taken σ) b (nI (t b) + 1))) (bs (fun x => s x = true ∨ x = e b (t b)))) (upd (sB_open σ) (h' + 1) (nI (e b (t b)))), ?_, hB.u_taken.u_rset.u_open, ?_, ?_, ?_, ?_, ?_, ?_⟩
      · rw [nI_1 k, nI_1 (h' + 1)]
      · refine ⟨?_, ?_, ?_⟩
        · rw [gB_orders_open, gB_orders_rset, gB_orders_taken]
        · rw [gB_comers_open, gB_comers_rset, gB_comers_taken]
        · rw [gB_comings_open, gB_comings_rset, gB_comings_taken]
      · intro i hi
        rw [gB_open_open]
        show upd (sB_open σ) (h' + 1) (nI (e b (t b))) i = nI (upN st (h' + 1) (e b (t b)) i)
        have hi : i < h' + 1 + 1 := hi
        by_cases hx : i = h' + 1
        · rw [hx, pk_us, upN_s]
        · rw [pk_un hx, upN_n hx]; exact s1 i (by omega)
      · rw [gB_taken_open, gB_taken_rset, gB_taken_taken]
        exact u2
      · rw [gB_rset_open, gB_rset_rset]
        exact bs_ext (fun x _ => upS_iff.symm)
      · rw [gB_reached_open, gB_reached_rset, gB_reached_taken]
        exact s4
      · rw [gB_left_open, gB_left_rset, gB_left_taken]
        exact s5
  · rw [dstep_c hb hlt, if_neg (nI_nlt (by omega) (by omega)), s4, gdN (k := m) (by omega) (by decide), nI_clamp (n := m) (by omega)]
    refine ⟨uB_reached (uB_left σ (upd (sB_left σ) m (nI b))) (nI m + 1), ?_, hB.u_left.u_reached, ⟨?_, ?_, ?_⟩, ?_, ?_, ?_, nI_1 m, ?_⟩
    · rw [nI_1 k, pk_m1]
    · rw [gB_orders_reached, gB_orders_left]
    · rw [gB_comers_reached, gB_comers_left]
    · rw [gB_comings_reached, gB_comings_left]
    · rw [gB_open_reached, gB_open_left]
      exact fun i hi => s1 i (Nat.lt_succ_of_lt hi)
    · rw [gB_taken_reached, gB_taken_left]
      exact s2
    · rw [gB_rset_reached, gB_rset_left]
      exact s3
    · intro i hi
      show upd (sB_left σ) m (nI b) i = nI (upN o m b i)
      have hi : i < m + 1 := hi
      by_cases hx : i = m
      · rw [hx, pk_us, upN_s]
      · rw [pk_un hx, upN_n hx]; exact s5 i (by omega)
theorem goDeep_loop {n : Nat} {d : Nat → Nat} {e : Nat → Nat → Nat} (hG : Gr n d e) : ∀ (r k f : Nat) (σ : SB), k + r = 576 → r < f → WebB σ n d e → SimB σ (drun d e k) →
    ∃ v1 v2 σ', lp_Walk_goDeep_19 f σ (nI (drun d e k).h) (nI k) = some (v1, v2, σ') ∧ WebB σ' n d e ∧ FrB σ' σ ∧ sB_rset σ' = bs (Rch d e) ∧ sB_reached σ' = nI (pm d e) ∧ ∀ i, i < pm d e → sB_left σ' i = nI (po d e i) := by
  have fin : ∀ (k : Nat) (σ : SB), (drun d e k).h = 0 → SimB σ (drun d e k) → sB_rset σ = bs (Rch d e) ∧ sB_reached σ = nI (pm d e) ∧ ∀ i, i < pm d e → sB_left σ i = nI (po d e i) := by
    intro k σ h0 S
    have I := drun_inv hG k
    obtain ⟨e1, e2⟩ := drun_end hG h0
    have P := post_ok hG
    refine ⟨S.2.2.1.trans (bs_ext (fun x _ => ?_)), by rw [← e1]; exact S.2.2.2.1, by rw [← e1, ← e2]; exact S.2.2.2.2⟩
    constructor
    · exact I.rch x
    · intro hx
      obtain ⟨i, hi, q⟩ := (P.mem x).mp hx
      rw [← e1] at hi
      rw [← e2] at q
      rw [← q]
      exact I.o_s i hi
  intro r
  induction r with
  | zero =>
    intro k f σ hk hf hB S
    obtain ⟨g, rfl⟩ : ∃ g, f = g + 1 := ⟨f - 1, by omega⟩
    have h0 : (drun d e k).h = 0 := by
      have := (drun_inv hG k).lt hG
      omega
    have e1 : k = 576 := by omega
    subst e1
    refine ⟨nI (drun d e 576).h, nI 576, σ, ?_, hB, ⟨rfl, rfl, rfl⟩, fin 576 σ h0 S⟩
    rw [lp_Walk_goDeep_19_s, if_pos (show (576 : Int32) ≤ nI 576 by decide)]
  | succ r ih =>
    intro k f σ hk hf hB S
    obtain ⟨g, rfl⟩ : ∃ g, f = g + 1 := ⟨f - 1, by omega⟩
    by_cases h0 : (drun d e k).h = 0
    · refine ⟨nI 0, nI k, σ, ?_, hB, ⟨rfl, rfl, rfl⟩, fin k σ h0 S⟩
      have c1 : ¬ (576 : Int32) ≤ nI k := nI_ge (b := 576) (by omega) (by decide)
      rw [lp_Walk_goDeep_19_s, if_neg c1, h0, if_pos (show nI 0 ≤ 0 by decide)]
    · obtain ⟨σ', q1, q2, q3, q4⟩ := goDeep_step hG hB (drun_inv hG k) (drun_inv hG (k + 1)) S (by omega) (by omega) g
      obtain ⟨v1, v2, σ2, w1, w2, w3, w4⟩ := ih (k + 1) g σ' (by omega) (by omega) q2 q4
      exact ⟨v1, v2, σ2, q1.trans w1, w2, ⟨w3.1.trans q3.1, w3.2.1.trans q3.2.1, w3.2.2.trans q3.2.2⟩, w4⟩
theorem goDeep_ok {n : Nat} {d : Nat → Nat} {e : Nat → Nat → Nat} (hG : Gr n d e) {σ : SB} (hB : WebB σ n d e) (h1 : ∀ b, b < 64 → sB_taken σ b = 0) (h2 : sB_reached σ = 0) :
    ∃ σ', f_Walk_goDeep σ = some σ' ∧ WebB σ' n d e ∧ FrB σ' σ ∧ sB_rset σ' = bs (Rch d e) ∧ sB_reached σ' = nI (pm d e) ∧ ∀ i, i < pm d e → sB_left σ' i = nI (po d e i) := by
  obtain ⟨v1, v2, σ', q1, q2, q3, q4⟩ := goDeep_loop hG 576 0 600 (uB_open (uB_rset σ (f_BlockRuler_only 0)) (upd (sB_open σ) 0 0)) (by omega) (by omega) hB.u_rset.u_open ⟨fun i hi => by
      have hi : i < 1 := hi
      have : i = 0 := by omega
      subst this
      show upd (sB_open σ) 0 0 0 = nI 0
      rw [pk_us]
      rfl, by rw [gB_taken_open, gB_taken_rset]; exact fun b hb => h1 b hb, by
      rw [gB_rset_open, gB_rset_rset]
      show f_BlockRuler_only (nI 0) = _
      rw [bs_only (by decide)]
      refine bs_ext (fun x _ => ?_)
      show _ ↔ upS (fun _ => false) 0 x = true
      rw [upS_iff]
      simp, by rw [gB_reached_open, gB_reached_rset]; exact h2, fun i hi => absurd hi (Nat.not_lt_zero i)⟩
  rw [FrB, gB_orders_open, gB_orders_rset, gB_comers_open, gB_comers_rset, gB_comings_open, gB_comings_rset] at q3
  refine ⟨σ', ?_, q2, q3, q4⟩
  unfold f_Walk_goDeep
  rw [if_neg (by decide)]
  have q1' : lp_Walk_goDeep_19 600 (uB_open (uB_rset σ (f_BlockRuler_only 0)) (upd (sB_open σ) (Int32.toNatClampNeg 0) 0)) 1 0 = some (v1, v2, σ') := q1
  rw [q1']
  rfl
theorem clear_ok {n : Nat} {d : Nat → Nat} {e : Nat → Nat → Nat} {σ : SB} (hB : WebB σ n d e) :
    ∃ σ', f_Walk_clear σ = some σ' ∧ WebB σ' n d e ∧ sB_reached σ' = 0 ∧ (∀ b, b < 64 → sB_taken σ' b = 0) ∧ (∀ b, b < 64 → sB_orders σ' b = -1) ∧ (∀ b, b < 64 → sB_comers σ' b = 0) ∧ ∀ b, b < 64 → sB_comings σ' b = 0 := by
  refine Exists.elim (loopN (lp := lp_Walk_clear_7) (N := 64) (Inv := fun j s => WebB s n d e ∧ sB_reached s = 0 ∧ (∀ b, b < j → sB_taken s b = 0) ∧ (∀ b, b < j → sB_orders s b = -1) ∧ (∀ b, b < j → sB_comers s b = 0) ∧ ∀ b, b < j → sB_comings s b = 0) (done := fun s => (nI 64, s)) (fun f s hI => ?_) (fun f j s hj hI => ?_) 64 100 0 (uB_reached σ 0) (by omega) (by omega) ⟨hB.u_reached, rfl, fun b hb => absurd hb (Nat.not_lt_zero b), fun b hb => absurd hb (Nat.not_lt_zero b), fun b hb => absurd hb (Nat.not_lt_zero b), fun b hb => absurd hb (Nat.not_lt_zero b)⟩) (fun s' hs' => ?_)
  · rw [lp_Walk_clear_7_s, if_pos (show (64 : Int32) ≤ nI 64 by decide)]
  · obtain ⟨i1, i2, i3, i4, i5, i6⟩ := hI
    have c1 : ¬ (64 : Int32) ≤ nI j := nI_ge (b := 64) hj (by decide)
    rw [lp_Walk_clear_7_s, if_neg c1, gdN hj (by decide), nI_clamp (by omega), nI_1]
    refine ⟨_, rfl, i1.u_orders.u_taken.u_comers.u_comings, ?_, fun b hb => ?_, fun b hb => ?_, fun b hb => ?_, fun b hb => ?_⟩
    · rw [gB_reached_comings, gB_reached_comers, gB_reached_taken, gB_reached_orders]
      exact i2
    · rw [gB_taken_comings, gB_taken_comers, gB_taken_taken]
      by_cases hx : b = j
      · rw [hx, pk_us]
      · rw [pk_un hx]; exact i3 b (by omega)
    · rw [gB_orders_comings, gB_orders_comers, gB_orders_taken, gB_orders_orders]
      by_cases hx : b = j
      · rw [hx, pk_us]
      · rw [pk_un hx]; exact i4 b (by omega)
    · rw [gB_comers_comings, gB_comers_comers]
      by_cases hx : b = j
      · rw [hx, pk_uLs]
      · rw [pk_uLn hx]; exact i5 b (by omega)
    · rw [gB_comings_comings]
      by_cases hx : b = j
      · rw [hx, pk_us]
      · rw [pk_un hx]; exact i6 b (by omega)
  · obtain ⟨h1, h2⟩ := hs'
    refine ⟨s', ?_, h2⟩
    unfold f_Walk_clear
    have h1' : lp_Walk_clear_7 100 (uB_reached σ 0) 0 = some (nI 64, s') := h1
    rw [h1']
    rfl
