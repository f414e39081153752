-- sums over blocks
theorem dsum_ext {f g : Nat → Nat} : ∀ {n : Nat}, (∀ i, i < n → f i = g i) → dsum f n = dsum g n
  | 0, _ => rfl
  | n + 1, h => by
    show dsum f n + f n = dsum g n + g n
    rw [dsum_ext (n := n) (fun i hi => h i (by omega)), h n (by omega)]
theorem dsum_plus (f g : Nat → Nat) : ∀ n, dsum (fun i => f i + g i) n = dsum f n + dsum g n
  | 0 => rfl
  | n + 1 => by
    show dsum (fun i => f i + g i) n + (f n + g n) = dsum f n + f n + (dsum g n + g n)
    rw [dsum_plus f g n]
    omega
theorem dsum_one (f : Nat → Nat) (x : Nat) : ∀ n, dsum (fun a => c01 (a = x) * f a) n = c01 (x < n) * f x
  | 0 => by
    show 0 = _
    rw [c01_f (by omega), Nat.zero_mul]
  | n + 1 => by
    show dsum (fun a => c01 (a = x) * f a) n + c01 (n = x) * f n = _
    rw [dsum_one f x n]
    by_cases h : n = x
    · subst h
      rw [c01_f (p := n < n) (by omega), c01_t (p := n = n) rfl, c01_t (by omega)]
      omega
    · rw [c01_f h, c01_congr (p := x < n + 1) (q := x < n) (by omega)]
      omega
theorem dsum_re {f q : Nat → Nat} {N : Nat} : ∀ m, (∀ i, i < m → q i < N) → (∀ i j, i < m → j < m → q i = q j → i = j) → dsum (fun i => f (q i)) m = dsum (fun a => c01 (∃ i, i < m ∧ q i = a) * f a) N
  | 0, _, _ => by
    rw [dsum_ext (f := fun a => c01 (∃ i, i < 0 ∧ q i = a) * f a) (g := fun _ => 0) (fun i _ => by rw [c01_f (by rintro ⟨j, hj, _⟩; omega), Nat.zero_mul]), dsum_0]
    rfl
  | m + 1, h1, h2 => by
    show dsum (fun i => f (q i)) m + f (q m) = _
    rw [dsum_re (N := N) m (fun i hi => h1 i (by omega)) (fun i j hi hj => h2 i j (by omega) (by omega))]
    have h3 := dsum_one f (q m) N
    rw [c01_t (h1 m (by omega)), Nat.one_mul] at h3
    rw [← h3, ← dsum_plus]
    refine dsum_ext (fun a _ => ?_)
    rw [← Nat.add_mul]
    congr 1
    by_cases ha : a = q m
    · rw [c01_t ha, c01_t (p := ∃ i, i < m + 1 ∧ q i = a) ⟨m, by omega, ha.symm⟩, c01_f]
      rintro ⟨i, hi, hq⟩
      have := h2 i m (by omega) (by omega) (hq.trans ha)
      omega
    · rw [c01_f ha, Nat.add_zero]
      refine c01_congr ⟨?_, ?_⟩
      · rintro ⟨i, hi, hq⟩
        exact ⟨i, by omega, hq⟩
      · rintro ⟨i, hi, hq⟩
        by_cases him : i = m
        · subst him
          exact absurd hq.symm ha
        · exact ⟨i, by omega, hq⟩
/-- the ways that come to b from reached blocks -/
noncomputable def comN (d : Nat → Nat) (e : Nat → Nat → Nat) (b : Nat) : Nat := dsum (fun a => c01 (Rch d e a) * cnt (fun k => e a k = b) (d a)) 64
abbrev WalkB (σ : SB) (n : Nat) (d : Nat → Nat) (e : Nat → Nat → Nat) : Prop := (sB_reached σ = nI (pm d e)) ∧ (∀ i, i < pm d e → sB_left σ i = nI (po d e i)) ∧ (sB_rset σ = bs (Rch d e)) ∧ (∀ i, i < pm d e → sB_orders σ (pq d e i) = nI i) ∧ (∀ b, b < 64 → ¬ Rch d e b → sB_orders σ b = -1) ∧ (∀ b, b < 64 → sB_comers σ b = bs (fun a => Rch d e a ∧ Ed d e a b)) ∧ (∀ b, b < 64 → sB_comings σ b = nI (comN d e b))
theorem WalkB.reached {σ : SB} {n : Nat} {d : Nat → Nat} {e : Nat → Nat → Nat} (I : WalkB σ n d e) : sB_reached σ = nI (pm d e) := I.1
theorem WalkB.left {σ : SB} {n : Nat} {d : Nat → Nat} {e : Nat → Nat → Nat} (I : WalkB σ n d e) : ∀ i, i < pm d e → sB_left σ i = nI (po d e i) := I.2.1
theorem WalkB.rset {σ : SB} {n : Nat} {d : Nat → Nat} {e : Nat → Nat → Nat} (I : WalkB σ n d e) : sB_rset σ = bs (Rch d e) := I.2.2.1
theorem WalkB.ord1 {σ : SB} {n : Nat} {d : Nat → Nat} {e : Nat → Nat → Nat} (I : WalkB σ n d e) : ∀ i, i < pm d e → sB_orders σ (pq d e i) = nI i := I.2.2.2.1
theorem WalkB.ord0 {σ : SB} {n : Nat} {d : Nat → Nat} {e : Nat → Nat → Nat} (I : WalkB σ n d e) : ∀ b, b < 64 → ¬ Rch d e b → sB_orders σ b = -1 := I.2.2.2.2.1
theorem WalkB.comers {σ : SB} {n : Nat} {d : Nat → Nat} {e : Nat → Nat → Nat} (I : WalkB σ n d e) : ∀ b, b < 64 → sB_comers σ b = bs (fun a => Rch d e a ∧ Ed d e a b) := I.2.2.2.2.2.1
theorem WalkB.comings {σ : SB} {n : Nat} {d : Nat → Nat} {e : Nat → Nat → Nat} (I : WalkB σ n d e) : ∀ b, b < 64 → sB_comings σ b = nI (comN d e b) := I.2.2.2.2.2.2
abbrev WalkL (σ : SB) (n : Nat) (d : Nat → Nat) (e : Nat → Nat → Nat) : Prop := sB_reached σ = nI (pm d e) ∧ (∀ i, i < pm d e → sB_left σ i = nI (po d e i)) ∧ sB_rset σ = bs (Rch d e)
theorem WalkB.u_stale {σ : SB} {n : Nat} {d : Nat → Nat} {e : Nat → Nat → Nat} {v} (h : WalkB σ n d e) : WalkB (uB_stale σ v) n d e := h
theorem WalkB.u_deg {σ : SB} {n : Nat} {d : Nat → Nat} {e : Nat → Nat → Nat} {v} (h : WalkB σ n d e) : WalkB (uB_deg σ v) n d e := h
theorem WalkB.u_ends {σ : SB} {n : Nat} {d : Nat → Nat} {e : Nat → Nat → Nat} {v} (h : WalkB σ n d e) : WalkB (uB_ends σ v) n d e := h
theorem WalkB.u_blocks {σ : SB} {n : Nat} {d : Nat → Nat} {e : Nat → Nat → Nat} {v} (h : WalkB σ n d e) : WalkB (uB_blocks σ v) n d e := h
theorem WalkB.u_ways {σ : SB} {n : Nat} {d : Nat → Nat} {e : Nat → Nat → Nat} {v} (h : WalkB σ n d e) : WalkB (uB_ways σ v) n d e := h
theorem WalkB.u_open {σ : SB} {n : Nat} {d : Nat → Nat} {e : Nat → Nat → Nat} {v} (h : WalkB σ n d e) : WalkB (uB_open σ v) n d e := h
theorem WalkB.u_taken {σ : SB} {n : Nat} {d : Nat → Nat} {e : Nat → Nat → Nat} {v} (h : WalkB σ n d e) : WalkB (uB_taken σ v) n d e := h
theorem WalkB.u_rof {σ : SB} {n : Nat} {d : Nat → Nat} {e : Nat → Nat → Nat} {v} (h : WalkB σ n d e) : WalkB (uB_rof σ v) n d e := h
theorem WalkB.u_lof {σ : SB} {n : Nat} {d : Nat → Nat} {e : Nat → Nat → Nat} {v} (h : WalkB σ n d e) : WalkB (uB_lof σ v) n d e := h
theorem WalkB.u_heads {σ : SB} {n : Nat} {d : Nat → Nat} {e : Nat → Nat → Nat} {v} (h : WalkB σ n d e) : WalkB (uB_heads σ v) n d e := h
theorem WalkB.u_backs {σ : SB} {n : Nat} {d : Nat → Nat} {e : Nat → Nat → Nat} {v} (h : WalkB σ n d e) : WalkB (uB_backs σ v) n d e := h
theorem WalkB.u_knots {σ : SB} {n : Nat} {d : Nat → Nat} {e : Nat → Nat → Nat} {v} (h : WalkB σ n d e) : WalkB (uB_knots σ v) n d e := h
theorem WalkL.u_stale {σ : SB} {n : Nat} {d : Nat → Nat} {e : Nat → Nat → Nat} {v} (h : WalkL σ n d e) : WalkL (uB_stale σ v) n d e := h
theorem WalkL.u_deg {σ : SB} {n : Nat} {d : Nat → Nat} {e : Nat → Nat → Nat} {v} (h : WalkL σ n d e) : WalkL (uB_deg σ v) n d e := h
theorem WalkL.u_ends {σ : SB} {n : Nat} {d : Nat → Nat} {e : Nat → Nat → Nat} {v} (h : WalkL σ n d e) : WalkL (uB_ends σ v) n d e := h
theorem WalkL.u_blocks {σ : SB} {n : Nat} {d : Nat → Nat} {e : Nat → Nat → Nat} {v} (h : WalkL σ n d e) : WalkL (uB_blocks σ v) n d e := h
theorem WalkL.u_ways {σ : SB} {n : Nat} {d : Nat → Nat} {e : Nat → Nat → Nat} {v} (h : WalkL σ n d e) : WalkL (uB_ways σ v) n d e := h
theorem WalkL.u_orders {σ : SB} {n : Nat} {d : Nat → Nat} {e : Nat → Nat → Nat} {v} (h : WalkL σ n d e) : WalkL (uB_orders σ v) n d e := h
theorem WalkL.u_open {σ : SB} {n : Nat} {d : Nat → Nat} {e : Nat → Nat → Nat} {v} (h : WalkL σ n d e) : WalkL (uB_open σ v) n d e := h
theorem WalkL.u_taken {σ : SB} {n : Nat} {d : Nat → Nat} {e : Nat → Nat → Nat} {v} (h : WalkL σ n d e) : WalkL (uB_taken σ v) n d e := h
theorem WalkL.u_comers {σ : SB} {n : Nat} {d : Nat → Nat} {e : Nat → Nat → Nat} {v} (h : WalkL σ n d e) : WalkL (uB_comers σ v) n d e := h
theorem WalkL.u_comings {σ : SB} {n : Nat} {d : Nat → Nat} {e : Nat → Nat → Nat} {v} (h : WalkL σ n d e) : WalkL (uB_comings σ v) n d e := h
theorem WalkL.u_rof {σ : SB} {n : Nat} {d : Nat → Nat} {e : Nat → Nat → Nat} {v} (h : WalkL σ n d e) : WalkL (uB_rof σ v) n d e := h
theorem WalkL.u_lof {σ : SB} {n : Nat} {d : Nat → Nat} {e : Nat → Nat → Nat} {v} (h : WalkL σ n d e) : WalkL (uB_lof σ v) n d e := h
theorem WalkL.u_heads {σ : SB} {n : Nat} {d : Nat → Nat} {e : Nat → Nat → Nat} {v} (h : WalkL σ n d e) : WalkL (uB_heads σ v) n d e := h
theorem WalkL.u_backs {σ : SB} {n : Nat} {d : Nat → Nat} {e : Nat → Nat → Nat} {v} (h : WalkL σ n d e) : WalkL (uB_backs σ v) n d e := h
theorem WalkL.u_knots {σ : SB} {n : Nat} {d : Nat → Nat} {e : Nat → Nat → Nat} {v} (h : WalkL σ n d e) : WalkL (uB_knots σ v) n d e := h
theorem blockAt_ok {n : Nat} {d : Nat → Nat} {e : Nat → Nat → Nat} (hG : Gr n d e) {σ : SB} (h : WalkL σ n d e) {i : Nat} (hi : i < pm d e) : f_Walk_blockAt σ (nI i) = some (nI (pq d e i)) := by
  have P := post_ok hG
  have hle := P.le
  unfold f_Walk_blockAt
  have e1 : nI (pm d e) - 1 = nI (pm d e - 1) := pk_sub (b := 1) P.pos
  rw [h.1, e1, pk_sub (by omega), gdN (by omega) (by decide), nI_clamp (by omega), h.2.1 _ (by omega)]
  rfl
theorem cnt_s' {p : Nat → Prop} {m : Nat} (h : p m) : cnt p (m + 1) = cnt p m + 1 := by rw [cnt_s, c01_t h]
theorem cnt_n' {p : Nat → Prop} {m : Nat} (h : ¬ p m) : cnt p (m + 1) = cnt p m := by rw [cnt_s, c01_f h]; rfl
theorem markEndsOf_ok {n : Nat} {d : Nat → Nat} {e : Nat → Nat → Nat} (hG : Gr n d e) {σ : SB} (hB : WebB σ n d e) (hW : WalkL σ n d e) {a : Nat} (ha : a < n) {C : Nat → Nat → Prop} {g : Nat → Nat} (hC : ∀ b, b < 64 → sB_comers σ b = bs (C b)) (hg : ∀ b, b < 64 → sB_comings σ b = nI (g b)) :
    ∃ σ', f_Walk_markEndsOf σ (nI a) = some σ' ∧ WebB σ' n d e ∧ WalkL σ' n d e ∧ sB_orders σ' = sB_orders σ ∧ (∀ b, b < 64 → sB_comers σ' b = bs (fun x => C b x ∨ (x = a ∧ Ed d e a b))) ∧ ∀ b, b < 64 → sB_comings σ' b = nI (g b + cnt (fun k => e a k = b) (d a)) := by
  have g2 := hG.2.1
  have hda := hG.2.2.1 a
  refine Exists.elim (loopN (lp := fun f s i => lp_Walk_markEndsOf_2 f s (nI a) i) (N := d a) (Inv := fun j s => WebB s n d e ∧ WalkL s n d e ∧ sB_orders s = sB_orders σ ∧ (∀ b, b < 64 → sB_comers s b = bs (fun x => C b x ∨ (x = a ∧ ∃ k, k < j ∧ e a k = b))) ∧ ∀ b, b < 64 → sB_comings s b = nI (g b + cnt (fun k => e a k = b) j)) (done := fun s => (nI (d a), s)) (fun f s hI => ?_) (fun f j s hj hI => ?_) (d a) 100 0 σ (by omega) (by omega) ⟨hB, hW, rfl, fun b hb => ?_, fun b hb => ?_⟩) (fun s' hs' => ?_)
  · show lp_Walk_markEndsOf_2 (f + 1) s (nI a) (nI (d a)) = _
    rw [lp_Walk_markEndsOf_2_s, gdN (by omega) (by decide), nI_clamp (by omega), hI.1.2.2.1 a (by omega), if_pos (nI_le (Nat.le_refl _) (by omega))]
  · obtain ⟨i1, i2, i3, i4, i5⟩ := hI
    have hen := hG.2.2.2.2 a j ha hj
    show ∃ s', lp_Walk_markEndsOf_2 (f + 1) s (nI a) (nI j) = lp_Walk_markEndsOf_2 f s' (nI a) (nI (j + 1)) ∧ _
    rw [lp_Walk_markEndsOf_2_s, gdN (by omega) (by decide), nI_clamp (n := a) (by omega), i1.2.2.1 a (by omega), if_neg (nI_ge hj (by omega)), endOf_in hG i1 ha hj, Option.bind_some, gdN (by omega) (by decide), nI_clamp (n := e a j) (by omega), i4 _ (by omega), i5 _ (by omega), bs_only (by omega), bs_or, nI_1, nI_1]
    refine ⟨_, rfl, ?_⟩
    · refine ⟨i1.u_comers.u_comings, i2.u_comers.u_comings, ?_, fun b hb => ?_, fun b hb => ?_⟩
      · rw [gB_orders_comings, gB_orders_comers]
        exact i3
      · rw [gB_comers_comings, gB_comers_comers]
        by_cases hx : b = e a j
        · rw [hx, pk_uLs]
          refine bs_ext (fun x _ => ?_)
          constructor
          · rintro ((h | ⟨h, k, hk, hq⟩) | h)
            · exact Or.inl h
            · exact Or.inr ⟨h, k, by omega, hq⟩
            · exact Or.inr ⟨h, j, by omega, rfl⟩
          · rintro (h | ⟨h, _⟩)
            · exact Or.inl (Or.inl h)
            · exact Or.inr h
        · rw [pk_uLn hx, i4 b hb]
          refine bs_ext (fun x _ => ?_)
          constructor
          · rintro (h | ⟨h, k, hk, hq⟩)
            · exact Or.inl h
            · exact Or.inr ⟨h, k, by omega, hq⟩
          · rintro (h | ⟨h, k, hk, hq⟩)
            · exact Or.inl h
            · by_cases hkj : k = j
              · subst hkj
                exact absurd hq.symm hx
              · exact Or.inr ⟨h, k, by omega, hq⟩
      · rw [gB_comings_comings]
        by_cases hx : b = e a j
        · rw [hx, pk_us, cnt_s' (p := fun k => e a k = e a j) rfl]
          rfl
        · rw [pk_un hx, i5 b hb, cnt_n' (p := fun k => e a k = b) (fun q => hx q.symm)]
  · rw [hC b hb]
    refine bs_ext (fun x _ => ⟨Or.inl, ?_⟩)
    rintro (h | ⟨_, k, hk, _⟩)
    · exact h
    · omega
  · rw [hg b hb, cnt_z]
    rfl
  · obtain ⟨h1, h2⟩ := hs'
    refine ⟨s', ?_, h2⟩
    unfold f_Walk_markEndsOf
    have h1' : lp_Walk_markEndsOf_2 100 σ (nI a) 0 = some (nI (d a), s') := h1
    rw [h1']
    rfl
theorem walk_ok {n : Nat} {d : Nat → Nat} {e : Nat → Nat → Nat} (hG : Gr n d e) {σ : SB} (hB : WebB σ n d e) : ∃ σ', f_Walk_make σ = some σ' ∧ WebB σ' n d e ∧ WalkB σ' n d e := by
  obtain ⟨σ1, a1, a2, a3, a4, a5, a6, a7⟩ := clear_ok hB
  obtain ⟨σ2, b1, b2, b3, b4, b5, b6⟩ := goDeep_ok hG a2 a4 a3
  have O := ord_ok hG
  have g2 := hG.2.1
  have hle := O.le
  refine Exists.elim (loopN (lp := lp_Walk_make_10) (N := pm d e) (Inv := fun j s => WebB s n d e ∧ WalkL s n d e ∧ (∀ i, i < j → sB_orders s (pq d e i) = nI i) ∧ (∀ b, b < 64 → ¬ Rch d e b → sB_orders s b = -1) ∧ (∀ b, b < 64 → sB_comers s b = bs (fun x => (∃ i, i < j ∧ pq d e i = x) ∧ Ed d e x b)) ∧ ∀ b, b < 64 → sB_comings s b = nI (dsum (fun i => (fun a => cnt (fun k => e a k = b) (d a)) (pq d e i)) j)) (done := fun s => (nI (pm d e), s)) (fun f s hI => ?_) (fun f j s hj hI => ?_) (pm d e) 100 0 σ2 (by omega) (by omega) ⟨b2, ⟨b5, b6, b4⟩, fun i hi => absurd hi (Nat.not_lt_zero i), fun b hb _ => ?_, fun b hb => ?_, fun b hb => ?_⟩) (fun s' hs' => ?_)
  · rw [lp_Walk_make_10_s, hI.2.1.1, if_pos (nI_le (Nat.le_refl _) (by omega))]
  · obtain ⟨i1, i2, i3, i4, i5, i6⟩ := hI
    have hql := O.lt j hj
    obtain ⟨s2, c1, c2, c3, c4, c5, c6⟩ := markEndsOf_ok hG (i1.u_orders (v := upd (sB_orders s) (pq d e j) (nI j))) (i2.u_orders) hql (C := fun b x => (∃ i, i < j ∧ pq d e i = x) ∧ Ed d e x b) (g := fun b => dsum (fun i => (fun a => cnt (fun k => e a k = b) (d a)) (pq d e i)) j) i5 i6
    refine ⟨s2, ?_, c2, c3, fun i hi => ?_, fun b hb hn => ?_, fun b hb => ?_, c6⟩
    · rw [lp_Walk_make_10_s, i2.1, if_neg (nI_ge hj (by omega)), blockAt_ok hG i2 hj, Option.bind_some, gdN (by omega) (by decide), nI_clamp (by omega), c1, Option.bind_some, nI_1]
    · rw [c4, gB_orders_orders]
      by_cases hx : i = j
      · rw [hx, pk_us]
      · rw [pk_un (fun q => hx (O.inj i j (by omega) hj q))]
        exact i3 i (by omega)
    · rw [c4, gB_orders_orders, pk_un (fun q => hn ((O.mem b).mpr ⟨j, hj, q.symm⟩))]
      exact i4 b hb hn
    · rw [c5 b hb]
      refine bs_ext (fun x _ => ?_)
      constructor
      · rintro (⟨⟨i, hi, hq⟩, h⟩ | ⟨h, h2⟩)
        · exact ⟨⟨i, by omega, hq⟩, h⟩
        · exact ⟨⟨j, by omega, h.symm⟩, by rw [h]; exact h2⟩
      · rintro ⟨⟨i, hi, hq⟩, h⟩
        by_cases hx : i = j
        · subst hx
          exact Or.inr ⟨hq.symm, by rw [hq]; exact h⟩
        · exact Or.inl ⟨⟨i, by omega, hq⟩, h⟩
  · rw [b3.1]; exact a5 b hb
  · rw [b3.2.1, a6 b hb, bs_0]
    refine bs_ext (fun x _ => ⟨fun q => q.elim, ?_⟩)
    rintro ⟨⟨i, hi, _⟩, _⟩
    omega
  · rw [b3.2.2, a7 b hb]
    rfl
  · obtain ⟨h1, h2, h3, h4, h5, h6, h7⟩ := hs'
    refine ⟨s', ?_, h2, h3.1, h3.2.1, h3.2.2, h4, h5, fun b hb => ?_, fun b hb => ?_⟩
    · unfold f_Walk_make
      have h1' : lp_Walk_make_10 100 σ2 0 = some (nI (pm d e), s') := h1
      rw [a1, Option.bind_some, b1, Option.bind_some, h1']
      rfl
    · rw [h6 b hb]
      exact bs_ext (fun x _ => by rw [O.mem x])
    · refine (h7 b hb).trans (congrArg nI ((dsum_re (f := fun a => cnt (fun k => e a k = b) (d a)) (N := 64) (pm d e) (fun i hi => Nat.lt_of_lt_of_le (O.lt i hi) g2) O.inj).trans (dsum_ext (fun a _ => ?_))))
      show c01 (∃ i, i < pm d e ∧ pq d e i = a) * _ = _
      rw [c01_congr (O.mem a).symm]
