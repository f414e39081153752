-- loops of the class
abbrev BasB (σ : SB) (n : Nat) (d : Nat → Nat) (e : Nat → Nat → Nat) : Prop := (WebB σ n d e) ∧ (WalkB σ n d e) ∧ (RS σ (fun b x => Dom d e x b))
theorem BasB.web {σ : SB} {n : Nat} {d : Nat → Nat} {e : Nat → Nat → Nat} (I : BasB σ n d e) : WebB σ n d e := I.1
theorem BasB.walk {σ : SB} {n : Nat} {d : Nat → Nat} {e : Nat → Nat → Nat} (I : BasB σ n d e) : WalkB σ n d e := I.2.1
theorem BasB.rs {σ : SB} {n : Nat} {d : Nat → Nat} {e : Nat → Nat → Nat} (I : BasB σ n d e) : RS σ (fun b x => Dom d e x b) := I.2.2
theorem BasB.u_stale {σ : SB} {n : Nat} {d : Nat → Nat} {e : Nat → Nat → Nat} {v} (h : BasB σ n d e) : BasB (uB_stale σ v) n d e := h
theorem BasB.u_lof {σ : SB} {n : Nat} {d : Nat → Nat} {e : Nat → Nat → Nat} {v} (h : BasB σ n d e) : BasB (uB_lof σ v) n d e := h
theorem BasB.u_heads {σ : SB} {n : Nat} {d : Nat → Nat} {e : Nat → Nat → Nat} {v} (h : BasB σ n d e) : BasB (uB_heads σ v) n d e := h
theorem BasB.u_backs {σ : SB} {n : Nat} {d : Nat → Nat} {e : Nat → Nat → Nat} {v} (h : BasB σ n d e) : BasB (uB_backs σ v) n d e := h
theorem BasB.u_knots {σ : SB} {n : Nat} {d : Nat → Nat} {e : Nat → Nat → Nat} {v} (h : BasB σ n d e) : BasB (uB_knots σ v) n d e := h
theorem lclear_ok {n : Nat} {d : Nat → Nat} {e : Nat → Nat → Nat} {σ : SB} (hB : BasB σ n d e) : ∃ σ', f_Loops_clear σ = some σ' ∧ BasB σ' n d e ∧ (∀ b, b < 64 → sB_lof σ' b = 0) ∧ sB_heads σ' = 0 ∧ sB_backs σ' = 0 ∧ sB_knots σ' = 0 := by
  refine Exists.elim (loopN (lp := lp_Loops_clear_17) (N := 64) (Inv := fun j s => BasB s n d e ∧ (∀ b, b < j → sB_lof s b = 0) ∧ sB_heads s = 0 ∧ sB_backs s = 0 ∧ sB_knots s = 0) (done := fun s => (nI 64, s)) (fun f s hI => ?_) (fun f j s hj hI => ?_) 64 100 0 (uB_knots (uB_backs (uB_heads σ 0) 0) 0) (by omega) (by omega) ⟨hB.u_heads.u_backs.u_knots, fun b hb => absurd hb (Nat.not_lt_zero b), ?_, ?_, rfl⟩) (fun s' hs' => ?_)
  · rw [lp_Loops_clear_17_s, if_pos (show (64 : Int32) ≤ nI 64 by decide)]
  · obtain ⟨i1, i2, i3, i4, i5⟩ := hI
    have c1 : ¬ (64 : Int32) ≤ nI j := nI_ge (b := 64) hj (by decide)
    rw [lp_Loops_clear_17_s, if_neg c1, gdN hj (by decide), nI_clamp (n := j) (by omega), nI_1]
    refine ⟨_, rfl, i1.u_lof, fun b hb => ?_, i3, i4, i5⟩
    rw [gB_lof_lof]
    by_cases hbj : b = j
    · rw [hbj, pk_uLs]
    · rw [pk_uLn hbj]; exact i2 b (by omega)
  · rw [gB_heads_knots, gB_heads_backs, gB_heads_heads]
  · rw [gB_backs_knots, gB_backs_backs]
  · obtain ⟨h1, h2⟩ := hs'
    refine ⟨s', ?_, h2⟩
    unfold f_Loops_clear
    have h1' : lp_Loops_clear_17 100 (uB_knots (uB_backs (uB_heads σ 0) 0) 0) 0 = some (nI 64, s') := h1
    rw [h1']
    rfl
noncomputable def bkC (d : Nat → Nat) (e : Nat → Nat → Nat) (a : Nat) : Nat := cnt (fun k => Bk d e a k ∨ Kn d e a k) (d a)
noncomputable def knC (d : Nat → Nat) (e : Nat → Nat → Nat) (a : Nat) : Nat := cnt (fun k => Kn d e a k) (d a)
theorem markWays_ok {n : Nat} {d : Nat → Nat} {e : Nat → Nat → Nat} (hG : Gr n d e) {σ : SB} (hB : BasB σ n d e) {a : Nat} (ha : Rch d e a) {L : Nat → Nat → Prop} {β κ : Nat} (hL : ∀ b, b < 64 → sB_lof σ b = bs (L b)) (hβ : sB_backs σ = nI β) (hκ : sB_knots σ = nI κ) :
    ∃ σ', f_Loops_markWaysOf σ (nI a) = some σ' ∧ BasB σ' n d e ∧ sB_heads σ' = sB_heads σ ∧ (∀ b, b < 64 → sB_lof σ' b = bs (fun x => L b x ∨ (x = a ∧ Hd d e a b))) ∧ sB_backs σ' = nI (β + bkC d e a) ∧ sB_knots σ' = nI (κ + knC d e a) := by
  have g2 := hG.2.1
  have han := rch_lt hG ha
  have hda := hG.2.2.1 a
  refine Exists.elim (loopN (lp := fun f s i => lp_Loops_markWaysOf_2 f s (nI a) i) (N := d a) (Inv := fun j s => BasB s n d e ∧ sB_heads s = sB_heads σ ∧ (∀ b, b < 64 → sB_lof s b = bs (fun x => L b x ∨ (x = a ∧ ∃ k, k < j ∧ e a k = b ∧ Bk d e a k))) ∧ sB_backs s = nI (β + cnt (fun k => Bk d e a k ∨ Kn d e a k) j) ∧ sB_knots s = nI (κ + cnt (fun k => Kn d e a k) j)) (done := fun s => (nI (d a), s)) (fun f s hI => ?_) (fun f j s hj hI => ?_) (d a) 100 0 σ (by omega) (by omega) ⟨hB, rfl, fun b hb => ?_, ?_, ?_⟩) (fun s' hs' => ?_)
  · show lp_Loops_markWaysOf_2 (f + 1) s (nI a) (nI (d a)) = _
    rw [lp_Loops_markWaysOf_2_s, gdN (k := a) (by omega) (by decide), nI_clamp (n := a) (by omega), hI.1.web.2.2.1 a (by omega), if_pos (nI_le (Nat.le_refl _) (by omega))]
  · obtain ⟨i1, i2, i3, i4, i5⟩ := hI
    have hen := hG.2.2.2.2 a j han hj
    have stay : ¬ Bk d e a j → ∀ b, b < 64 → sB_lof s b = bs (fun x => L b x ∨ (x = a ∧ ∃ k, k < j + 1 ∧ e a k = b ∧ Bk d e a k)) := by
      intro hn b hb
      rw [i3 b hb]
      refine bs_ext (fun x _ => ⟨?_, ?_⟩)
      · rintro (q | ⟨q, k, hk, h⟩)
        · exact Or.inl q
        · exact Or.inr ⟨q, k, by omega, h⟩
      · rintro (q | ⟨q, k, hk, h, h2⟩)
        · exact Or.inl q
        · by_cases hkj : k = j
          · rw [hkj] at h2
            exact absurd h2 hn
          · exact Or.inr ⟨q, k, by omega, h, h2⟩
    show ∃ s' : SB, lp_Loops_markWaysOf_2 (f + 1) s (nI a) (nI j) = lp_Loops_markWaysOf_2 f s' (nI a) (nI (j + 1)) ∧ _
    rw [lp_Loops_markWaysOf_2_s, gdN (k := a) (by omega) (by decide), nI_clamp (n := a) (by omega), i1.web.2.2.1 a (by omega), if_neg (nI_ge hj (by omega)), kindOf_ok hG i1.web i1.walk i1.rs hj ha, Option.bind_some, nI_1 j, i4, i5]
    rcases kI_ok d e a j with ⟨k1, k2, k3⟩ | ⟨k1, k2, k3⟩ | ⟨k1, k2, k3⟩
    · rw [k3, if_neg (show ¬ (1 : Int32) = 0 by decide), if_neg (show ¬ (1 : Int32) = 2 by decide), if_pos (show (1 : Int32) = 1 from rfl), endOf_in hG i1.web.u_backs han hj, Option.bind_some, gdN (k := e a j) (by omega) (by decide), nI_clamp (n := e a j) (by omega), i3 _ (by omega), bs_only (by omega), bs_or]
      refine ⟨_, rfl, i1.u_backs.u_lof, ?_, fun b hb => ?_, ?_, ?_⟩
      · rw [gB_heads_lof, gB_heads_backs]; exact i2
      · rw [gB_lof_lof]
        by_cases hbe : b = e a j
        · rw [hbe, pk_uLs]
          refine bs_ext (fun x _ => ⟨?_, ?_⟩)
          · rintro ((q | ⟨q, k, hk, h⟩) | q)
            · exact Or.inl q
            · exact Or.inr ⟨q, k, by omega, h⟩
            · exact Or.inr ⟨q, j, by omega, rfl, k1⟩
          · rintro (q | ⟨q, _⟩)
            · exact Or.inl (Or.inl q)
            · exact Or.inr q
        · rw [pk_uLn hbe, i3 b hb]
          refine bs_ext (fun x _ => ⟨?_, ?_⟩)
          · rintro (q | ⟨q, k, hk, h⟩)
            · exact Or.inl q
            · exact Or.inr ⟨q, k, by omega, h⟩
          · rintro (q | ⟨q, k, hk, h, h2⟩)
            · exact Or.inl q
            · by_cases hkj : k = j
              · rw [hkj] at h
                exact absurd h.symm hbe
              · exact Or.inr ⟨q, k, by omega, h, h2⟩
      · rw [gB_backs_lof, gB_backs_backs, nI_1, cnt_s' (p := fun k => Bk d e a k ∨ Kn d e a k) (Or.inl k1)]
        rfl
      · rw [gB_knots_lof, gB_knots_backs, i5, cnt_n' (p := fun k => Kn d e a k) k2]
    · rw [k3, if_neg (show ¬ (2 : Int32) = 0 by decide), if_pos (show (2 : Int32) = 2 from rfl), if_neg (show ¬ (2 : Int32) = 1 by decide)]
      refine ⟨_, rfl, i1.u_backs.u_knots, ?_, ?_, ?_, ?_⟩
      · rw [gB_heads_knots, gB_heads_backs]; exact i2
      · rw [gB_lof_knots, gB_lof_backs]; exact stay k1
      · rw [gB_backs_knots, gB_backs_backs, nI_1, cnt_s' (p := fun k => Bk d e a k ∨ Kn d e a k) (Or.inr k2)]
        rfl
      · rw [gB_knots_knots, nI_1, cnt_s' (p := fun k => Kn d e a k) k2]
        rfl
    · rw [k3, if_pos (show (0 : Int32) = 0 from rfl), if_neg (show ¬ (0 : Int32) = 2 by decide), if_neg (show ¬ (0 : Int32) = 1 by decide)]
      refine ⟨s, rfl, i1, i2, stay k1, ?_, ?_⟩
      · rw [i4, cnt_n' (p := fun k => Bk d e a k ∨ Kn d e a k) (fun q => q.elim k1 k2)]
      · rw [i5, cnt_n' (p := fun k => Kn d e a k) k2]
  · rw [hL b hb]
    refine bs_ext (fun x _ => ⟨Or.inl, ?_⟩)
    rintro (q | ⟨_, k, hk, _⟩)
    · exact q
    · omega
  · rw [hβ, cnt_z]
    rfl
  · rw [hκ, cnt_z]
    rfl
  · obtain ⟨h1, h2, h3, h4, h5, h6⟩ := hs'
    refine ⟨s', ?_, h2, h3, fun b hb => (h4 b hb).trans (bs_ext (fun x _ => ⟨?_, ?_⟩)), h5, h6⟩
    · unfold f_Loops_markWaysOf
      have h1' : lp_Loops_markWaysOf_2 100 σ (nI a) 0 = some (nI (d a), s') := h1
      rw [h1']
      rfl
    · rintro (q | ⟨q, r⟩)
      · exact Or.inl q
      · exact Or.inr ⟨q, ha, r⟩
    · rintro (q | ⟨q, _, r⟩)
      · exact Or.inl q
      · exact Or.inr ⟨q, r⟩
noncomputable def backN (d : Nat → Nat) (e : Nat → Nat → Nat) : Nat := dsum (fun a => c01 (Rch d e a) * bkC d e a) 64
noncomputable def knotN (d : Nat → Nat) (e : Nat → Nat → Nat) : Nat := dsum (fun a => c01 (Rch d e a) * knC d e a) 64
theorem re_rch {n : Nat} {d : Nat → Nat} {e : Nat → Nat → Nat} (hG : Gr n d e) (f : Nat → Nat) : dsum (fun i => f (pq d e i)) (pm d e) = dsum (fun a => c01 (Rch d e a) * f a) 64 := by
  have O := ord_ok hG
  have g2 := hG.2.1
  refine (dsum_re (f := f) (N := 64) (pm d e) (fun i hi => Nat.lt_of_lt_of_le (O.lt i hi) g2) O.inj).trans (dsum_ext (fun a _ => ?_))
  rw [c01_congr (O.mem a).symm]
theorem lmake6_ok {n : Nat} {d : Nat → Nat} {e : Nat → Nat → Nat} (hG : Gr n d e) {σ : SB} (hB : BasB σ n d e) (h0 : ∀ b, b < 64 → sB_lof σ b = 0) (h1 : sB_heads σ = 0) (h2 : sB_backs σ = 0) (h3 : sB_knots σ = 0) :
    ∃ v σ', lp_Loops_make_6 100 σ 0 = some (v, σ') ∧ BasB σ' n d e ∧ sB_heads σ' = 0 ∧ (∀ b, b < 64 → sB_lof σ' b = bs (fun x => Hd d e x b)) ∧ sB_backs σ' = nI (backN d e) ∧ sB_knots σ' = nI (knotN d e) := by
  have O := ord_ok hG
  have g2 := hG.2.1
  have hle := O.le
  refine Exists.elim (loopN (lp := lp_Loops_make_6) (N := pm d e) (Inv := fun j s => BasB s n d e ∧ sB_heads s = 0 ∧ (∀ b, b < 64 → sB_lof s b = bs (fun x => (∃ i, i < j ∧ pq d e i = x) ∧ Hd d e x b)) ∧ sB_backs s = nI (dsum (fun i => bkC d e (pq d e i)) j) ∧ sB_knots s = nI (dsum (fun i => knC d e (pq d e i)) j)) (done := fun s => (nI (pm d e), s)) (fun f s hI => ?_) (fun f j s hj hI => ?_) (pm d e) 100 0 σ (by omega) (by omega) ⟨hB, h1, fun b hb => ?_, h2, h3⟩) (fun s' hs' => ?_)
  · rw [lp_Loops_make_6_s, hI.1.walk.reached, if_pos (nI_le (Nat.le_refl _) (by omega))]
  · obtain ⟨i1, i2, i3, i4, i5⟩ := hI
    have hr : Rch d e (pq d e j) := (O.mem _).mpr ⟨j, hj, rfl⟩
    obtain ⟨σ', j1, j2, j3, j4, j5, j6⟩ := markWays_ok hG i1 hr i3 i4 i5
    refine ⟨σ', ?_, j2, j3.trans i2, fun b hb => (j4 b hb).trans (bs_ext (fun x _ => ⟨?_, ?_⟩)), j5, j6⟩
    · rw [lp_Loops_make_6_s, i1.walk.reached, if_neg (nI_ge hj (by omega)), blockAt_ok hG ⟨i1.walk.reached, i1.walk.left, i1.walk.rset⟩ hj, Option.bind_some, j1, Option.bind_some, nI_1]
    · rintro (⟨⟨i, hi, q⟩, r⟩ | ⟨q, r⟩)
      · exact ⟨⟨i, by omega, q⟩, r⟩
      · exact ⟨⟨j, by omega, q.symm⟩, by rw [q]; exact r⟩
    · rintro ⟨⟨i, hi, q⟩, r⟩
      by_cases hij : i = j
      · rw [hij] at q
        exact Or.inr ⟨q.symm, by rw [q]; exact r⟩
      · exact Or.inl ⟨⟨i, by omega, q⟩, r⟩
  · rw [h0 b hb, bs_0]
    refine bs_ext (fun x _ => ⟨fun q => q.elim, ?_⟩)
    rintro ⟨⟨i, hi, _⟩, _⟩
    omega
  · obtain ⟨k1, k2, k3, k4, k5, k6⟩ := hs'
    refine ⟨nI (pm d e), s', k1, k2, k3, fun b hb => (k4 b hb).trans (bs_ext (fun x _ => ⟨fun q => q.2, fun q => ⟨(O.mem x).mp q.1, q⟩⟩)), ?_, ?_⟩
    · rw [k5, re_rch hG (fun a => bkC d e a)]
      rfl
    · rw [k6, re_rch hG (fun a => knC d e a)]
      rfl
theorem grown_loop {n : Nat} {d : Nat → Nat} {e : Nat → Nat → Nat} (hG : Gr n d e) {σ : SB} (hC : ∀ b, b < 64 → sB_comers σ b = bs (fun a => Rch d e a ∧ Ed d e a b)) {h : Nat} (hh : h < 64) (H : Head d e h) : ∀ (r f j : Nat) (D W : Nat → Prop), j + r = 64 → r < f → cnt D 64 = j → (∀ x, D x → ¬ W x) → ¬ D h → ¬ W h → (∀ x, D x → InL d e h x) → (∀ x, W x → InL d e h x) → (∀ a, Hd d e a h → a = h ∨ D a ∨ W a) → (∀ y, D y → ∀ a, Rch d e a → Ed d e a y → a = h ∨ D a ∨ W a) →
    ∃ v6 v8, lp_Loops_grown_23 f σ (bs (fun x => x = h ∨ D x ∨ W x)) (bs W) (nI j) = some (bs (InL d e h), v6, v8) := by
  have g2 := hG.2.1
  intro r
  induction r with
  | zero =>
    intro f j D W hj hf hD hDW hDh hWh hDI hWI hS hcl
    have h1 := cnt_add1 hDh 64
    rw [c01_t hh] at h1
    have h2 := cnt_le (fun k => D k ∨ k = h) 64
    omega
  | succ r ih =>
    intro f j D W hj hf hD hDW hDh hWh hDI hWI hS hcl
    obtain ⟨g, rfl⟩ : ∃ g, f = g + 1 := ⟨f - 1, by omega⟩
    have c1 : ¬ (64 : Int32) ≤ nI j := nI_ge (b := 64) (by omega) (by decide)
    rw [lp_Loops_grown_23_s, if_neg c1]
    rcases Classical.em (∃ k, k < 64 ∧ W k) with hW | hW
    · rw [if_neg (fun q => by
        obtain ⟨k, hk, hw⟩ := hW
        exact (bs_cmp0 W).mp q k hk hw)]
      obtain ⟨i, hi, hp, -, hl, hw⟩ := bs_least hW
      have hih : ¬ i = h := fun q => hWh (by rw [← q]; exact hp)
      have hDi : ¬ D i := fun q => hDW i q hp
      rw [hl, gdN hi (by decide), nI_clamp (n := i) (by omega), hC i hi, bs_not, bs_and, Lt_eq, hw, bs_or, Lt_eq, bs_or, nI_1]
      have e1 : bs (fun k => (k = h ∨ D k ∨ W k) ∨ (Rch d e k ∧ Ed d e k i) ∧ ¬ (k = h ∨ D k ∨ W k)) = bs (fun x => x = h ∨ (D x ∨ x = i) ∨ ((W x ∧ ¬ x = i) ∨ (Rch d e x ∧ Ed d e x i) ∧ ¬ (x = h ∨ D x ∨ W x))) := by
        refine bs_ext (fun x _ => ⟨?_, ?_⟩)
        · rintro ((q | q | q) | q)
          · exact Or.inl q
          · exact Or.inr (Or.inl (Or.inl q))
          · by_cases hx : x = i
            · exact Or.inr (Or.inl (Or.inr hx))
            · exact Or.inr (Or.inr (Or.inl ⟨q, hx⟩))
          · exact Or.inr (Or.inr (Or.inr q))
        · rintro (q | (q | q) | q | q)
          · exact Or.inl (Or.inl q)
          · exact Or.inl (Or.inr (Or.inl q))
          · rw [q]; exact Or.inl (Or.inr (Or.inr hp))
          · exact Or.inl (Or.inr (Or.inr q.1))
          · exact Or.inr q
      rw [e1]
      have up : ∀ a, (a = h ∨ D a ∨ W a) → a = h ∨ (D a ∨ a = i) ∨ ((W a ∧ ¬ a = i) ∨ (Rch d e a ∧ Ed d e a i) ∧ ¬ (a = h ∨ D a ∨ W a)) := by
        rintro a (q | q | q)
        · exact Or.inl q
        · exact Or.inr (Or.inl (Or.inl q))
        · by_cases hx : a = i
          · exact Or.inr (Or.inl (Or.inr hx))
          · exact Or.inr (Or.inr (Or.inl ⟨q, hx⟩))
      refine ih g (j + 1) (fun x => D x ∨ x = i) (fun x => (W x ∧ ¬ x = i) ∨ (Rch d e x ∧ Ed d e x i) ∧ ¬ (x = h ∨ D x ∨ W x)) (by omega) (by omega) ?_ ?_ ?_ ?_ ?_ ?_ (fun a ha => up a (hS a ha)) ?_
      · have h1 := cnt_add1 hDi 64
        rw [c01_t hi] at h1
        omega
      · rintro x (q | q) (w | w)
        · exact hDW x q w.1
        · exact w.2 (Or.inr (Or.inl q))
        · exact w.2 q
        · exact w.2 (Or.inr (Or.inr (by rw [q]; exact hp)))
      · rintro (q | q)
        · exact hDh q
        · exact hih q.symm
      · rintro (q | q)
        · exact hWh q.1
        · exact q.2 (Or.inl rfl)
      · rintro x (q | q)
        · exact hDI x q
        · rw [q]; exact hWI i hp
      · rintro x (q | q)
        · exact hWI x q.1
        · obtain ⟨⟨q1, k, hk, q2⟩, _⟩ := q
          refine InL.pred q1 hk (by rw [q2]; exact hih) ?_
          rw [q2]
          exact hWI i hp
      · rintro y (q | q) a ha hE
        · exact up a (hcl y q a ha hE)
        · rw [q] at hE
          rcases Classical.em (a = h ∨ D a ∨ W a) with w | w
          · exact up a w
          · exact Or.inr (Or.inr (Or.inr ⟨⟨ha, hE⟩, w⟩))
    · have hn : ∀ k, k < 64 → ¬ W k := fun k hk q => hW ⟨k, hk, q⟩
      have hn2 : ∀ k, ¬ W k := fun k q => hn k (Nat.lt_of_lt_of_le (rch_lt hG (hWI k q).rch) g2) q
      rw [if_pos ((bs_cmp0 W).mpr hn)]
      refine ⟨bs W, nI j, ?_⟩
      rw [bs_ext (q := InL d e h)]
      intro x hx
      constructor
      · rintro (q | q | q)
        · rw [q]; exact InL.self H
        · exact hDI x q
        · exact hWI x q
      · intro q
        refine q.ind (P := fun x => x = h ∨ D x ∨ W x) (Or.inl rfl) hS ?_
        rintro a k ha hk hne (w | w | w)
        · exact absurd w hne
        · exact hcl _ w a ha ⟨k, hk, rfl⟩
        · exact absurd w (hn2 _)
theorem cnt_F (m : Nat) : cnt (fun _ => False) m = 0 := by
  induction m with
  | zero => rfl
  | succ m ih => rw [cnt_s, ih, c01_f (fun q => q)]
theorem grown_ok {n : Nat} {d : Nat → Nat} {e : Nat → Nat → Nat} (hG : Gr n d e) {σ : SB} (hC : ∀ b, b < 64 → sB_comers σ b = bs (fun a => Rch d e a ∧ Ed d e a b)) {h : Nat} (hh : h < 64) (H : Head d e h) : f_Loops_grown σ (nI h) (bs (fun x => Hd d e x h)) = some (bs (InL d e h)) := by
  obtain ⟨v6, v8, q⟩ := grown_loop hG hC hh H 64 100 0 (fun _ => False) (fun x => Hd d e x h ∧ ¬ x = h) (by omega) (by omega) (cnt_F 64) (fun _ q => q.elim) (fun q => q) (fun q => q.2 rfl) (fun _ q => q.elim) (fun x q => InL.back q.1) (fun a ha => by
    by_cases hah : a = h
    · exact Or.inl hah
    · exact Or.inr (Or.inr ⟨ha, hah⟩)) (fun _ q => q.elim)
  unfold f_Loops_grown
  have e1 : bs (fun k => Hd d e k h ∨ k = h) = bs (fun x => x = h ∨ False ∨ (Hd d e x h ∧ ¬ x = h)) := by
    refine bs_ext (fun x _ => ⟨?_, ?_⟩)
    · intro w
      by_cases hx : x = h
      · exact Or.inl hx
      · exact Or.inr (Or.inr ⟨w.resolve_right hx, hx⟩)
    · rintro (w | w | w)
      · exact Or.inr w
      · exact w.elim
      · exact Or.inl w.1
  have q' : lp_Loops_grown_23 100 σ (bs (fun x => x = h ∨ False ∨ (Hd d e x h ∧ ¬ x = h))) (bs (fun x => Hd d e x h ∧ ¬ x = h)) 0 = some (bs (InL d e h), v6, v8) := q
  rw [bs_only hh, bs_or, Lt_eq, bs_not, bs_and, Lt_eq, e1, q']
  rfl
abbrev GoodB (σ : SB) (n : Nat) (d : Nat → Nat) (e : Nat → Nat → Nat) : Prop := (BasB σ n d e) ∧ (∀ b, b < 64 → sB_lof σ b = bs (InL d e b)) ∧ (sB_heads σ = nI (cnt (Head d e) 64)) ∧ (sB_backs σ = nI (backN d e)) ∧ (sB_knots σ = nI (knotN d e))
theorem GoodB.bas {σ : SB} {n : Nat} {d : Nat → Nat} {e : Nat → Nat → Nat} (I : GoodB σ n d e) : BasB σ n d e := I.1
theorem GoodB.lof {σ : SB} {n : Nat} {d : Nat → Nat} {e : Nat → Nat → Nat} (I : GoodB σ n d e) : ∀ b, b < 64 → sB_lof σ b = bs (InL d e b) := I.2.1
theorem GoodB.heads {σ : SB} {n : Nat} {d : Nat → Nat} {e : Nat → Nat → Nat} (I : GoodB σ n d e) : sB_heads σ = nI (cnt (Head d e) 64) := I.2.2.1
theorem GoodB.backs {σ : SB} {n : Nat} {d : Nat → Nat} {e : Nat → Nat → Nat} (I : GoodB σ n d e) : sB_backs σ = nI (backN d e) := I.2.2.2.1
theorem GoodB.knots {σ : SB} {n : Nat} {d : Nat → Nat} {e : Nat → Nat → Nat} (I : GoodB σ n d e) : sB_knots σ = nI (knotN d e) := I.2.2.2.2
theorem GoodB.u_stale {σ : SB} {n : Nat} {d : Nat → Nat} {e : Nat → Nat → Nat} {v} (h : GoodB σ n d e) : GoodB (uB_stale σ v) n d e := h
theorem lmake_ok {n : Nat} {d : Nat → Nat} {e : Nat → Nat → Nat} (hG : Gr n d e) {σ : SB} (hB : BasB σ n d e) : ∃ σ', f_Loops_make σ = some σ' ∧ GoodB σ' n d e := by
  have g2 := hG.2.1
  obtain ⟨σ1, a1, a2, a3, a4, a5, a6⟩ := lclear_ok hB
  obtain ⟨v2, σ2, b1, b2, b3, b4, b5, b6⟩ := lmake6_ok hG a2 a3 a4 a5 a6
  refine Exists.elim (loopN (lp := lp_Loops_make_37) (N := 64) (Inv := fun j s => BasB s n d e ∧ (∀ b, b < j → sB_lof s b = bs (InL d e b)) ∧ (∀ b, j ≤ b → b < 64 → sB_lof s b = bs (fun x => Hd d e x b)) ∧ sB_heads s = nI (cnt (Head d e) j) ∧ sB_backs s = nI (backN d e) ∧ sB_knots s = nI (knotN d e)) (done := fun s => (nI 64, s)) (fun f s hI => ?_) (fun f j s hj hI => ?_) 64 100 0 σ2 (by omega) (by omega) ⟨b2, fun b hb => absurd hb (Nat.not_lt_zero b), fun b _ hb => b4 b hb, by rw [b3, cnt_z]; rfl, b5, b6⟩) (fun s' hs' => ?_)
  · rw [lp_Loops_make_37_s, if_pos (show (64 : Int32) ≤ nI 64 by decide)]
  · obtain ⟨i1, i2, i3, i4, i5, i6⟩ := hI
    have c1 : ¬ (64 : Int32) ≤ nI j := nI_ge (b := 64) hj (by decide)
    rw [lp_Loops_make_37_s, if_neg c1, gdN hj (by decide), nI_clamp (n := j) (by omega), i3 j (Nat.le_refl _) hj, nI_1 j]
    rcases Classical.em (Head d e j) with H | H
    · rw [if_neg (fun q => by
        obtain ⟨a, ha⟩ := H
        exact (bs_cmp0 _).mp q a (Nat.lt_of_lt_of_le (rch_lt hG ha.1) g2) ha), grown_ok hG (σ := uB_heads s (sB_heads s + 1)) i1.walk.comers hj H, Option.bind_some, i4]
      refine ⟨_, rfl, i1.u_heads.u_lof, fun b hb => ?_, fun b hb1 hb2 => ?_, ?_, ?_, ?_⟩
      · rw [gB_lof_lof]
        by_cases hbj : b = j
        · rw [hbj, pk_uLs]
        · rw [pk_uLn hbj]; exact i2 b (by omega)
      · rw [gB_lof_lof, pk_uLn (by omega)]
        exact i3 b (by omega) hb2
      · rw [gB_heads_lof, gB_heads_heads, nI_1, cnt_s' H]
      · rw [gB_backs_lof, gB_backs_heads]; exact i5
      · rw [gB_knots_lof, gB_knots_heads]; exact i6
    · rw [if_pos ((bs_cmp0 _).mpr (fun k _ q => H ⟨k, q⟩))]
      refine ⟨s, rfl, i1, fun b hb => ?_, fun b hb1 hb2 => i3 b (by omega) hb2, by rw [i4, cnt_n' H], i5, i6⟩
      by_cases hbj : b = j
      · rw [hbj, i3 j (Nat.le_refl _) hj]
        exact bs_ext (fun x _ => ⟨fun q => absurd ⟨x, q⟩ H, fun q => absurd q.1 H⟩)
      · exact i2 b (by omega)
  · obtain ⟨h1, h2, h3, h4, h5, h6, h7⟩ := hs'
    refine ⟨s', ?_, h2, h3, h5, h6, h7⟩
    unfold f_Loops_make
    have h1' : lp_Loops_make_37 100 σ2 0 = some (nI 64, s') := h1
    rw [a1, Option.bind_some, b1, Option.bind_some, h1']
    rfl
theorem refresh_ok {n : Nat} {d : Nat → Nat} {e : Nat → Nat → Nat} (hG : Gr n d e) {σ : SB} (hB : WebB σ n d e) (h1 : sB_stale σ = 1) : ∃ σ', f_BlockRuler_refresh σ = some σ' ∧ sB_stale σ' = 0 ∧ GoodB σ' n d e := by
  obtain ⟨σ1, a1, a2, a3⟩ := walk_ok hG hB
  obtain ⟨σ2, b1, b2, b3, b4⟩ := rulers_ok hG a2 a3
  obtain ⟨σ3, c1, c2⟩ := lmake_ok hG (σ := σ2) ⟨b2, b3, b4⟩
  refine ⟨uB_stale σ3 0, ?_, rfl, c2.u_stale⟩
  unfold f_BlockRuler_refresh
  rw [h1, if_neg (by decide), a1, Option.bind_some, b1, Option.bind_some, c1]
  rfl
