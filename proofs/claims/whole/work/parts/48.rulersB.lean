-- which block rules which
/-- reached from block 0 past x -/
def Av (d : Nat → Nat) (e : Nat → Nat → Nat) (x b : Nat) : Prop := ∀ P : Nat → Prop, (¬ x = 0 → P 0) → (∀ a k, P a → k < d a → ¬ e a k = x → P (e a k)) → P b
theorem Av.zero {d : Nat → Nat} {e : Nat → Nat → Nat} {x : Nat} (h : ¬ x = 0) : Av d e x 0 := fun _ h0 _ => h0 h
theorem Av.step {d : Nat → Nat} {e : Nat → Nat → Nat} {x a k : Nat} (h : Av d e x a) (hk : k < d a) (hx : ¬ e a k = x) : Av d e x (e a k) := fun P h0 hs => hs a k (h P h0 hs) hk hx
theorem Av.ind {d : Nat → Nat} {e : Nat → Nat → Nat} {P : Nat → Prop} {x b : Nat} (h : Av d e x b) (h0 : ¬ x = 0 → P 0) (hs : ∀ a k, Av d e x a → P a → k < d a → ¬ e a k = x → P (e a k)) : P b :=
  (h (fun y => Av d e x y ∧ P y) (fun q => ⟨Av.zero q, h0 q⟩) (fun a k q hk hx => ⟨q.1.step hk hx, hs a k q.1 q.2 hk hx⟩)).2
theorem Av.rch {d : Nat → Nat} {e : Nat → Nat → Nat} {x b : Nat} (h : Av d e x b) : Rch d e b := h.ind (P := Rch d e) (fun _ => Rch.zero) (fun _ _ _ ha hk _ => ha.step hk)
theorem Av.ne {d : Nat → Nat} {e : Nat → Nat → Nat} {x b : Nat} (h : Av d e x b) : ¬ b = x := h.ind (P := fun b => ¬ b = x) (fun q r => q r.symm) (fun _ _ _ _ _ hx => hx)
def Dom (d : Nat → Nat) (e : Nat → Nat → Nat) (x y : Nat) : Prop := Rch d e x ∧ Rch d e y ∧ ¬ Av d e x y
theorem Dom.self {d : Nat → Nat} {e : Nat → Nat → Nat} {x : Nat} (h : Rch d e x) : Dom d e x x := ⟨h, h, fun q => q.ne rfl⟩
theorem Dom.zero {d : Nat → Nat} {e : Nat → Nat → Nat} {y : Nat} (h : Rch d e y) : Dom d e 0 y := ⟨Rch.zero, h, fun q => q.ind (P := fun _ => False) (fun r => r rfl) (fun _ _ _ r _ _ => r)⟩
theorem Dom.pred {d : Nat → Nat} {e : Nat → Nat → Nat} {x b a : Nat} (h : Dom d e x b) (hx : ¬ x = b) (ha : Rch d e a) (hE : Ed d e a b) : Dom d e x a := by
  refine ⟨h.1, ha, fun q => h.2.2 ?_⟩
  obtain ⟨k, hk, rfl⟩ := hE
  exact q.step hk (fun r => hx r.symm)
def FR (d : Nat → Nat) (e : Nat → Nat → Nat) (R : Nat → Nat → Prop) (b x : Nat) : Prop := (Rch d e x ∧ ∀ a, Rch d e a ∧ Ed d e a b → R a x) ∨ x = b
abbrev RI (d : Nat → Nat) (e : Nat → Nat → Nat) (R : Nat → Nat → Prop) : Prop := (∀ b x, Dom d e x b → R b x) ∧ (∀ b x, R b x → Rch d e b ∧ Rch d e x) ∧ (∀ x, R 0 x ↔ x = 0) ∧ (∀ b x, Rch d e b → ¬ b = 0 → FR d e R b x → R b x)
theorem RI.dom {d : Nat → Nat} {e : Nat → Nat → Nat} {R : Nat → Nat → Prop} (I : RI d e R) : ∀ b x, Dom d e x b → R b x := I.1
theorem RI.rch {d : Nat → Nat} {e : Nat → Nat → Nat} {R : Nat → Nat → Prop} (I : RI d e R) : ∀ b x, R b x → Rch d e b ∧ Rch d e x := I.2.1
theorem RI.zero {d : Nat → Nat} {e : Nat → Nat → Nat} {R : Nat → Nat → Prop} (I : RI d e R) : ∀ x, R 0 x ↔ x = 0 := I.2.2.1
theorem RI.post {d : Nat → Nat} {e : Nat → Nat → Nat} {R : Nat → Nat → Prop} (I : RI d e R) : ∀ b x, Rch d e b → ¬ b = 0 → FR d e R b x → R b x := I.2.2.2
theorem ri_step {d : Nat → Nat} {e : Nat → Nat → Nat} {R : Nat → Nat → Prop} (h : RI d e R) {b : Nat} (hb : Rch d e b) (h0 : ¬ b = 0) : RI d e (fun a x => (a = b ∧ FR d e R b x) ∨ (¬ a = b ∧ R a x)) := by
  have sub : ∀ a x, ((a = b ∧ FR d e R b x) ∨ (¬ a = b ∧ R a x)) → R a x := by
    rintro a x (⟨rfl, q⟩ | ⟨_, q⟩)
    · exact h.post _ x hb h0 q
    · exact q
  refine ⟨fun a x q => ?_, fun a x q => h.rch a x (sub a x q), fun x => ?_, fun a x ha ha0 q => ?_⟩
  · by_cases hab : a = b
    · subst hab
      refine Or.inl ⟨rfl, ?_⟩
      by_cases hx : x = a
      · exact Or.inr hx
      · exact Or.inl ⟨q.1, fun c hc => h.dom c x (q.pred hx hc.1 hc.2)⟩
    · exact Or.inr ⟨hab, h.dom a x q⟩
  · constructor
    · intro q; exact (h.zero x).mp (sub 0 x q)
    · intro q; exact Or.inr ⟨fun r => h0 r.symm, (h.zero x).mpr q⟩
  · have q2 : FR d e R a x := by
      rcases q with ⟨q1, q2⟩ | q
      · exact Or.inl ⟨q1, fun c hc => sub c x (q2 c hc)⟩
      · exact Or.inr q
    by_cases hab : a = b
    · subst hab
      exact Or.inl ⟨rfl, q2⟩
    · exact Or.inr ⟨hab, h.post a x ha ha0 q2⟩
theorem ri_fix {n : Nat} {d : Nat → Nat} {e : Nat → Nat → Nat} (hG : Gr n d e) {R : Nat → Nat → Prop} (h : RI d e R) (hf : ∀ b, Rch d e b → ¬ b = 0 → ∀ x, x < 64 → (FR d e R b x ↔ R b x)) (b x : Nat) : R b x ↔ Dom d e x b := by
  refine ⟨fun q => ⟨(h.rch b x q).2, (h.rch b x q).1, fun r => ?_⟩, h.dom b x⟩
  have hx : x < 64 := Nat.lt_of_lt_of_le (rch_lt hG (h.rch b x q).2) hG.2.1
  refine absurd q (r.ind (P := fun b => ¬ R b x) (fun hx r => hx ((h.zero x).mp r)) (fun a k ha hR hk hc q => ?_))
  have hc1 : Rch d e (e a k) := ha.rch.step hk
  by_cases h0 : e a k = 0
  · rw [h0] at q hc
    exact hc ((h.zero x).mp q).symm
  · rcases (hf _ hc1 h0 x hx).mpr q with ⟨_, q2⟩ | q2
    · exact hR (q2 a ⟨ha.rch, k, hk, rfl⟩)
    · exact hc q2.symm
theorem cnt_ex {p : Nat → Prop} : ∀ {m : Nat}, 0 < cnt p m → ∃ k, k < m ∧ p k
  | 0, h => by rw [cnt_z] at h; omega
  | m + 1, h => by
    rcases Classical.em (p m) with q | q
    · exact ⟨m, by omega, q⟩
    · rw [cnt_n' q] at h
      obtain ⟨k, hk, hp⟩ := cnt_ex h
      exact ⟨k, by omega, hp⟩
theorem cnt_del {p : Nat → Prop} {i m : Nat} (hi : i < m) (hp : p i) : cnt (fun k => p k ∧ ¬ k = i) m + 1 = cnt p m := by
  have h := cnt_add1 (p := fun k => p k ∧ ¬ k = i) (c := i) (fun q => q.2 rfl) m
  rw [c01_t hi] at h
  rw [← h]
  refine cnt_ext (fun k _ => ?_)
  constructor
  · rintro (q | rfl)
    · exact q.1
    · exact hp
  · intro q
    by_cases hk : k = i
    · exact Or.inr hk
    · exact Or.inl ⟨q, hk⟩
theorem sharedBy_ok {σ : SB} {R : Nat → Nat → Prop} {T C : Nat → Prop} (hT : sB_rset σ = bs T) (hR : ∀ b, b < 64 → sB_rof σ b = bs (R b)) (hC : ∀ a, C a → a < 64) :
    f_Rulers_sharedBy σ (bs C) = some (bs (fun x => T x ∧ ∀ a, C a → R a x)) := by
  have hm := cnt_le C 64
  refine Exists.elim (loopN (lp := fun f (s : Int64 × Int64) i => lp_Rulers_sharedBy_20 f σ s.1 s.2 (nI (cnt C 64)) i) (N := cnt C 64) (Inv := fun j s => ∃ D : Nat → Prop, (∀ a, D a → C a) ∧ s.1 = bs (fun x => T x ∧ ∀ a, D a → R a x) ∧ s.2 = bs (fun a => C a ∧ ¬ D a) ∧ cnt (fun a => C a ∧ ¬ D a) 64 + j = cnt C 64) (done := fun s => (s.1, s.2, nI (cnt C 64))) (fun f s hI => ?_) (fun f j s hj hI => ?_) (cnt C 64) 100 0 (bs T, bs C) (by omega) (by omega) ⟨fun _ => False, fun a q => q.elim, bs_ext (fun x _ => ⟨fun q => ⟨q, fun a r => r.elim⟩, fun q => q.1⟩), bs_ext (fun x _ => ⟨fun q => ⟨q, fun r => r⟩, fun q => q.1⟩), cnt_ext (fun x _ => ⟨fun q => q.1, fun q => ⟨q, fun r => r⟩⟩)⟩) (fun s' hs' => ?_)
  · show lp_Rulers_sharedBy_20 (f + 1) σ s.1 s.2 (nI (cnt C 64)) (nI (cnt C 64)) = _
    rw [lp_Rulers_sharedBy_20_s, if_pos (nI_le (Nat.le_refl _) (by omega))]
  · obtain ⟨D, i1, i2, i3, i4⟩ := hI
    obtain ⟨i, hi, hp, -, hl, hw⟩ := bs_least (p := fun a => C a ∧ ¬ D a) (cnt_ex (by omega))
    show ∃ s' : Int64 × Int64, lp_Rulers_sharedBy_20 (f + 1) σ s.1 s.2 (nI (cnt C 64)) (nI j) = lp_Rulers_sharedBy_20 f σ s'.1 s'.2 (nI (cnt C 64)) (nI (j + 1)) ∧ _
    rw [lp_Rulers_sharedBy_20_s, if_neg (nI_ge hj (by omega)), i3, hl, gdN hi (by decide), nI_clamp (by omega), hR i hi, i2, bs_and, Lt_eq, Lt_eq, hw, nI_1]
    refine ⟨(_, _), rfl, fun a => D a ∨ a = i, ?_, bs_ext (fun x _ => ?_), bs_ext (fun x _ => ?_), ?_⟩
    · rintro a (q | rfl)
      · exact i1 a q
      · exact hp.1
    · constructor
      · rintro ⟨⟨q1, q2⟩, q3⟩
        refine ⟨q1, ?_⟩
        rintro a (q | rfl)
        · exact q2 a q
        · exact q3
      · rintro ⟨q1, q2⟩
        exact ⟨⟨q1, fun a q => q2 a (Or.inl q)⟩, q2 i (Or.inr rfl)⟩
    · constructor
      · rintro ⟨⟨q1, q2⟩, q3⟩
        exact ⟨q1, fun q => q.elim q2 q3⟩
      · rintro ⟨q1, q2⟩
        exact ⟨⟨q1, fun q => q2 (Or.inl q)⟩, fun q => q2 (Or.inr q)⟩
    · have := cnt_del (p := fun a => C a ∧ ¬ D a) hi hp
      rw [cnt_ext (q := fun k => (C k ∧ ¬ D k) ∧ ¬ k = i)]
      · omega
      · intro x _
        constructor
        · rintro ⟨q1, q2⟩
          exact ⟨⟨q1, fun q => q2 (Or.inl q)⟩, fun q => q2 (Or.inr q)⟩
        · rintro ⟨⟨q1, q2⟩, q3⟩
          exact ⟨q1, fun q => q.elim q2 q3⟩
  · obtain ⟨h1, D, i1, i2, i3, i4⟩ := hs'
    unfold f_Rulers_sharedBy
    have h1' : lp_Rulers_sharedBy_20 100 σ (bs T) (bs C) (nI (cnt C 64)) 0 = some (s'.1, s'.2, nI (cnt C 64)) := h1
    rw [hT, bs_count, h1', Option.bind_some, i2]
    refine congrArg some (bs_ext (fun x _ => ?_))
    have hD : ∀ a, C a → D a := by
      intro a ha
      refine Classical.byContradiction (fun q => ?_)
      have := cnt_pos (p := fun a => C a ∧ ¬ D a) (hC a ha) ⟨ha, q⟩
      omega
    exact ⟨fun q => ⟨q.1, fun a ha => q.2 a (hD a ha)⟩, fun q => ⟨q.1, fun a ha => q.2 a (i1 a ha)⟩⟩
noncomputable def meas (R : Nat → Nat → Prop) : Nat := dsum (fun b => cnt (R b) 64) 64
theorem dsum_mono {f g : Nat → Nat} : ∀ {n : Nat}, (∀ i, i < n → f i ≤ g i) → dsum f n ≤ dsum g n
  | 0, _ => Nat.le_refl _
  | n + 1, h => by
    have h1 := dsum_mono (n := n) (fun i hi => h i (by omega))
    have h2 := h n (by omega)
    show dsum f n + f n ≤ dsum g n + g n
    omega
theorem dsum_lt {f g : Nat → Nat} {j : Nat} : ∀ {n : Nat}, (∀ i, i < n → f i ≤ g i) → j < n → f j < g j → dsum f n < dsum g n
  | 0, _, hj, _ => absurd hj (by omega)
  | n + 1, h, hj, hs => by
    show dsum f n + f n < dsum g n + g n
    have h2 := h n (by omega)
    by_cases hjn : j = n
    · subst hjn
      have h1 := dsum_mono (f := f) (g := g) (n := j) (fun i hi => h i (by omega))
      omega
    · have h1 := dsum_lt (f := f) (g := g) (n := n) (fun i hi => h i (by omega)) (by omega) hs
      omega
theorem meas_le (R : Nat → Nat → Prop) : meas R ≤ 4096 := dsum_le (c := 64) (fun b => cnt_le (R b) 64) 64
theorem meas_lt {R S : Nat → Nat → Prop} (h : ∀ b x, S b x → R b x) {b x : Nat} (hb : b < 64) (hx : x < 64) (h1 : R b x) (h2 : ¬ S b x) : meas S < meas R :=
  dsum_lt (fun i _ => cnt_mono (h i) 64) hb (cnt_strict (h b) h1 h2 64 hx)
abbrev RS (σ : SB) (R : Nat → Nat → Prop) : Prop := ∀ b, b < 64 → sB_rof σ b = bs (R b)
theorem narrow_ok {n : Nat} {d : Nat → Nat} {e : Nat → Nat → Nat} (hG : Gr n d e) {σ : SB} (hB : WebB σ n d e) (hW : WalkB σ n d e) {R : Nat → Nat → Prop} (hR : RS σ R) (hI : RI d e R) :
    ∃ (v : Int32) (σ' : SB) (R' : Nat → Nat → Prop), f_Rulers_narrow σ = some (v, σ') ∧ WebB σ' n d e ∧ WalkB σ' n d e ∧ RS σ' R' ∧ RI d e R' ∧ ((v = 1 ∧ meas R' < meas R) ∨ (v = 0 ∧ ∀ b, Rch d e b → ¬ b = 0 → ∀ x, x < 64 → (FR d e R' b x ↔ R' b x))) := by
  have O := ord_ok hG
  have g2 := hG.2.1
  have hle := O.le
  have hpos := O.pos
  refine Exists.elim (loopN (lp := fun f (s : Int32 × SB) i => lp_Rulers_narrow_4 f s.2 s.1 i) (N := pm d e) (Inv := fun j s => 1 ≤ j ∧ WebB s.2 n d e ∧ WalkB s.2 n d e ∧ ∃ R' : Nat → Nat → Prop, RS s.2 R' ∧ RI d e R' ∧ ((s.1 = 1 ∧ meas R' < meas R) ∨ (s.1 = 0 ∧ meas R' = meas R ∧ ∀ i, 1 ≤ i → i < j → ∀ x, x < 64 → (FR d e R' (pq d e i) x ↔ R' (pq d e i) x)))) (done := fun s => (s.1, nI (pm d e), s.2)) (fun f s hI => ?_) (fun f j s hj hI => ?_) (pm d e - 1) 100 1 (0, σ) (by omega) (by omega) ⟨Nat.le_refl _, hB, hW, R, hR, hI, Or.inr ⟨rfl, rfl, fun i h1 h2 => absurd h2 (by omega)⟩⟩) (fun s' hs' => ?_)
  · show lp_Rulers_narrow_4 (f + 1) s.2 s.1 (nI (pm d e)) = _
    rw [lp_Rulers_narrow_4_s, hI.2.2.1.reached, if_pos (nI_le (Nat.le_refl _) (by omega))]
  · obtain ⟨i0, i1, i2, S, i3, i4, i5⟩ := hI
    have hbn := O.lt j hj
    have hbr : Rch d e (pq d e j) := (O.mem _).mpr ⟨j, hj, rfl⟩
    have hb0 : ¬ pq d e j = 0 := by
      intro q
      have := O.inj j 0 hj hpos (q.trans O.first.symm)
      omega
    have hsh := sharedBy_ok (σ := s.2) (C := fun a => Rch d e a ∧ Ed d e a (pq d e j)) i2.rset i3 (fun a ha => Nat.lt_of_lt_of_le (rch_lt hG ha.1) g2)
    show ∃ s' : Int32 × SB, lp_Rulers_narrow_4 (f + 1) s.2 s.1 (nI j) = lp_Rulers_narrow_4 f s'.2 s'.1 (nI (j + 1)) ∧ _
    rw [lp_Rulers_narrow_4_s, i2.reached, if_neg (nI_ge hj (by omega)), blockAt_ok hG ⟨i2.reached, i2.left, i2.rset⟩ hj, Option.bind_some, gdN (by omega) (by decide), nI_clamp (by omega), i2.comers _ (by omega), hsh, Option.bind_some, bs_only (by omega), bs_or, Lt_eq, i3 _ (by omega), nI_1]
    by_cases hc : lg_cmp (bs (fun k => (Rch d e k ∧ ∀ a, Rch d e a ∧ Ed d e a (pq d e j) → S a k) ∨ k = pq d e j)) (bs (S (pq d e j))) = 0
    · rw [if_pos hc]
      refine ⟨(s.1, s.2), rfl, by omega, i1, i2, S, i3, i4, ?_⟩
      rcases i5 with i5 | ⟨i5, i6, i7⟩
      · exact Or.inl i5
      · refine Or.inr ⟨i5, i6, fun i h1 h2 x hx => ?_⟩
        by_cases hij : i = j
        · subst hij
          exact bs_inj ((lg_cmpE _ _).mp hc) x hx
        · exact i7 i h1 (by omega) x hx
    · rw [if_neg hc]
      refine ⟨(1, uB_rof s.2 _), rfl, by omega, i1.u_rof, i2.u_rof, fun a x => (a = pq d e j ∧ FR d e S (pq d e j) x) ∨ (¬ a = pq d e j ∧ S a x), fun b hb => ?_, ri_step i4 hbr hb0, Or.inl ⟨rfl, ?_⟩⟩
      · show vp_updL (sB_rof s.2) (pq d e j) _ b = _
        by_cases hx : b = pq d e j
        · rw [hx, pk_uLs]
          refine bs_ext (fun x _ => ?_)
          constructor
          · intro q; exact Or.inl ⟨rfl, q⟩
          · rintro (⟨_, q⟩ | ⟨q, _⟩)
            · exact q
            · exact absurd rfl q
        · rw [pk_uLn hx, i3 b hb]
          refine bs_ext (fun x _ => ?_)
          constructor
          · intro q; exact Or.inr ⟨hx, q⟩
          · rintro (⟨q, _⟩ | ⟨_, q⟩)
            · exact absurd q hx
            · exact q
      · have hle : meas S ≤ meas R := by
          rcases i5 with i5 | i5
          · omega
          · omega
        have hex : ∃ x, x < 64 ∧ S (pq d e j) x ∧ ¬ FR d e S (pq d e j) x := by
          refine Classical.byContradiction (fun q => hc ((lg_cmpE _ _).mpr (bs_ext (fun x hx => ⟨fun r => i4.post _ x hbr hb0 r, fun r => ?_⟩))))
          exact Classical.byContradiction (fun w => q ⟨x, hx, r, w⟩)
        obtain ⟨x, hx, hS, hF⟩ := hex
        refine Nat.lt_of_lt_of_le (meas_lt ?_ (b := pq d e j) (x := x) (by omega) hx hS ?_) hle
        · rintro a y (⟨rfl, q⟩ | ⟨_, q⟩)
          · exact i4.post _ y hbr hb0 q
          · exact q
        · rintro (⟨_, q⟩ | ⟨q, _⟩)
          · exact hF q
          · exact q rfl
  · obtain ⟨h1, h0, h2, h3, S, h4, h5, h6⟩ := hs'
    have h1' : lp_Rulers_narrow_4 100 σ 0 1 = some (s'.1, nI (pm d e), s'.2) := h1
    refine ⟨s'.1, s'.2, S, ?_, h2, h3, h4, h5, ?_⟩
    · unfold f_Rulers_narrow
      rw [h1', Option.bind_some]
      refine if_pos ?_
      rcases h6 with h6 | h6
      · exact Or.inr h6.1
      · exact Or.inl h6.1
    · rcases h6 with h6 | ⟨h6, _, h7⟩
      · exact Or.inl h6
      · refine Or.inr ⟨h6, fun b hb hb0 => ?_⟩
        obtain ⟨i, hi, rfl⟩ := (O.mem b).mp hb
        refine h7 i ?_ hi
        by_cases h : i = 0
        · subst h
          exact absurd O.first hb0
        · omega
theorem rulers_loop {n : Nat} {d : Nat → Nat} {e : Nat → Nat → Nat} (hG : Gr n d e) : ∀ (r p f : Nat) (σ : SB) (R : Nat → Nat → Prop), p + r = 4097 → r + 1 < f → WebB σ n d e → WalkB σ n d e → RS σ R → RI d e R → meas R + p ≤ 4096 →
    ∃ v1 v2 σ', lp_Rulers_make_59 f σ 1 (nI p) = some (v1, v2, σ') ∧ WebB σ' n d e ∧ WalkB σ' n d e ∧ RS σ' (fun b x => Dom d e x b) := by
  intro r
  induction r with
  | zero =>
    intro p f σ R hp hf hB hW hR hI hm
    omega
  | succ r ih =>
    intro p f σ R hp hf hB hW hR hI hm
    obtain ⟨g, rfl⟩ : ∃ g, f = g + 1 + 1 := ⟨f - 2, by omega⟩
    obtain ⟨v, σ', R', q1, q2, q3, q4, q5, q6⟩ := narrow_ok hG hB hW hR hI
    have c1 : ¬ (4097 : Int32) ≤ nI p := nI_ge (b := 4097) (by omega) (by decide)
    rw [lp_Rulers_make_59_s, if_neg c1, if_neg (by decide), q1, Option.bind_some, nI_1]
    rcases q6 with ⟨rfl, q6⟩ | ⟨rfl, q6⟩
    · exact ih (p + 1) (g + 1) σ' R' (by omega) (by omega) q2 q3 q4 q5 (by omega)
    · refine ⟨0, nI (p + 1), σ', ?_, q2, q3, fun b hb => ?_⟩
      · show lp_Rulers_make_59 (g + 1) σ' 0 (nI (p + 1)) = _
        rw [lp_Rulers_make_59_s, if_pos (show (0 : Int32) = 0 from rfl)]
        split <;> rfl
      · rw [q4 b hb]
        exact bs_ext (fun x _ => ri_fix hG q5 q6 b x)
theorem rulers_ok {n : Nat} {d : Nat → Nat} {e : Nat → Nat → Nat} (hG : Gr n d e) {σ : SB} (hB : WebB σ n d e) (hW : WalkB σ n d e) : ∃ σ', f_Rulers_make σ = some σ' ∧ WebB σ' n d e ∧ WalkB σ' n d e ∧ RS σ' (fun b x => Dom d e x b) := by
  refine Exists.elim (loopN (lp := lp_Rulers_make_2) (N := 64) (Inv := fun j s => WebB s n d e ∧ WalkB s n d e ∧ ∀ b, b < j → sB_rof s b = bs (fun x => Rch d e b ∧ Rch d e x)) (done := fun s => (nI 64, s)) (fun f s hI => ?_) (fun f j s hj hI => ?_) 64 5000 0 σ (by omega) (by omega) ⟨hB, hW, fun b hb => absurd hb (Nat.not_lt_zero b)⟩) (fun s' hs' => ?_)
  · rw [lp_Rulers_make_2_s, if_pos (show (64 : Int32) ≤ nI 64 by decide)]
  · obtain ⟨i1, i2, i3⟩ := hI
    have c1 : ¬ (64 : Int32) ≤ nI j := nI_ge (b := 64) hj (by decide)
    rw [lp_Rulers_make_2_s, if_neg c1, i2.rset, bs_holds _ hj, nI_1, gdN hj (by decide), gdN hj (by decide), nI_clamp (by omega)]
    rcases Classical.em (Rch d e j) with hr | hr
    · rw [pI_t hr, if_neg (by decide)]
      refine ⟨_, rfl, i1.u_rof, i2.u_rof, fun b hb => ?_⟩
      show vp_updL (sB_rof s) j _ b = _
      by_cases hx : b = j
      · rw [hx, pk_uLs]
        exact bs_ext (fun x _ => ⟨fun q => ⟨hr, q⟩, fun q => q.2⟩)
      · rw [pk_uLn hx]
        exact i3 b (by omega)
    · rw [pI_f hr, if_pos rfl]
      refine ⟨_, rfl, i1.u_rof, i2.u_rof, fun b hb => ?_⟩
      show vp_updL (sB_rof s) j _ b = _
      by_cases hx : b = j
      · rw [hx, pk_uLs, bs_0]
        exact bs_ext (fun x _ => ⟨fun q => q.elim, fun q => hr q.1⟩)
      · rw [pk_uLn hx]
        exact i3 b (by omega)
  · obtain ⟨h1, h2, h3, h4⟩ := hs'
    have hri : RI d e (fun b x => (b = 0 ∧ x = 0) ∨ (¬ b = 0 ∧ Rch d e b ∧ Rch d e x)) := by
      refine ⟨fun b x q => ?_, ?_, fun x => ?_, fun b x hb hb0 q => ?_⟩
      · by_cases hb : b = 0
        · subst hb
          refine Or.inl ⟨rfl, Classical.byContradiction (fun r => q.2.2 (Av.zero r))⟩
        · exact Or.inr ⟨hb, q.2.1, q.1⟩
      · rintro b x (⟨rfl, rfl⟩ | ⟨_, q⟩)
        · exact ⟨Rch.zero, Rch.zero⟩
        · exact q
      · constructor
        · rintro (q | q)
          · exact q.2
          · exact absurd rfl q.1
        · intro q; exact Or.inl ⟨rfl, q⟩
      · refine Or.inr ⟨hb0, hb, ?_⟩
        rcases q with q | rfl
        · exact q.1
        · exact hb
    have hm := meas_le (fun b x => (b = 0 ∧ x = 0) ∨ (¬ b = 0 ∧ Rch d e b ∧ Rch d e x))
    obtain ⟨v1, v2, σ2, q1, q2⟩ := rulers_loop hG 4097 0 5000 (uB_rof s' (vp_updL (sB_rof s') 0 (f_BlockRuler_only (nI 0)))) (fun b x => (b = 0 ∧ x = 0) ∨ (¬ b = 0 ∧ Rch d e b ∧ Rch d e x)) (by omega) (by omega) h2.u_rof h3.u_rof (fun b hb => by
      show vp_updL (sB_rof s') 0 (f_BlockRuler_only (nI 0)) b = _
      by_cases hx : b = 0
      · rw [hx, pk_uLs, bs_only (by decide)]
        refine bs_ext (fun x _ => ⟨fun q => Or.inl ⟨rfl, q⟩, ?_⟩)
        rintro (q | q)
        · exact q.2
        · exact absurd rfl q.1
      · rw [pk_uLn hx, h4 b hb]
        refine bs_ext (fun x _ => ⟨fun q => Or.inr ⟨hx, q⟩, ?_⟩)
        rintro (q | q)
        · exact absurd q.1 hx
        · exact q.2) hri (by omega)
    refine ⟨σ2, ?_, q2⟩
    unfold f_Rulers_make
    have h1' : lp_Rulers_make_2 5000 σ 0 = some (nI 64, s') := h1
    have q1' : lp_Rulers_make_59 5000 (uB_rof s' (vp_updL (sB_rof s') (Int32.toNatClampNeg 0) (f_BlockRuler_only 0))) 1 0 = some (v1, v2, σ2) := q1
    rw [h1', Option.bind_some, if_neg (by decide), q1']
    rfl
