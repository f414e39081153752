/-- reached from block 0 -/
def Rch (d : Nat → Nat) (e : Nat → Nat → Nat) (b : Nat) : Prop := ∀ P : Nat → Prop, P 0 → (∀ a k, P a → k < d a → P (e a k)) → P b
theorem Rch.zero {d : Nat → Nat} {e : Nat → Nat → Nat} : Rch d e 0 := fun _ h0 _ => h0
theorem Rch.step {d : Nat → Nat} {e : Nat → Nat → Nat} {a k : Nat} (h : Rch d e a) (hk : k < d a) : Rch d e (e a k) := fun P h0 hs => hs a k (h P h0 hs) hk
theorem Rch.ind {d : Nat → Nat} {e : Nat → Nat → Nat} {P : Nat → Prop} {b : Nat} (h : Rch d e b) (h0 : P 0) (hs : ∀ a k, Rch d e a → P a → k < d a → P (e a k)) : P b :=
  (h (fun x => Rch d e x ∧ P x) ⟨Rch.zero, h0⟩ (fun a k q hk => ⟨q.1.step hk, hs a k q.1 q.2 hk⟩)).2
def upS (s : Nat → Bool) (c : Nat) : Nat → Bool := fun x => if x = c then true else s x
theorem upS_s {s : Nat → Bool} {c : Nat} : upS s c c = true := if_pos rfl
theorem upS_n {s : Nat → Bool} {c x : Nat} (h : ¬ x = c) : upS s c x = s x := if_neg h
theorem upS_iff {s : Nat → Bool} {c x : Nat} : upS s c x = true ↔ (s x = true ∨ x = c) := by
  by_cases h : x = c
  · subst h
    rw [upS_s]
    simp
  · rw [upS_n h]
    simp [h]
/-- the deep walk: h open blocks st, ways taken t, seen s, m blocks left o -/
abbrev DS : Type := Nat × (Nat → Nat) × (Nat → Nat) × (Nat → Bool) × Nat × (Nat → Nat)
abbrev DS.h (D : DS) : Nat := D.1
abbrev DS.st (D : DS) : Nat → Nat := D.2.1
abbrev DS.t (D : DS) : Nat → Nat := D.2.2.1
abbrev DS.s (D : DS) : Nat → Bool := D.2.2.2.1
abbrev DS.m (D : DS) : Nat := D.2.2.2.2.1
abbrev DS.o (D : DS) : Nat → Nat := D.2.2.2.2.2
def dstep (d : Nat → Nat) (e : Nat → Nat → Nat) (D : DS) : DS :=
  if D.h = 0 then D
  else if D.t (D.st (D.h - 1)) < d (D.st (D.h - 1)) then
    if D.s (e (D.st (D.h - 1)) (D.t (D.st (D.h - 1)))) = true then ⟨D.h, D.st, upN D.t (D.st (D.h - 1)) (D.t (D.st (D.h - 1)) + 1), D.s, D.m, D.o⟩
    else ⟨D.h + 1, upN D.st D.h (e (D.st (D.h - 1)) (D.t (D.st (D.h - 1)))), upN D.t (D.st (D.h - 1)) (D.t (D.st (D.h - 1)) + 1), upS D.s (e (D.st (D.h - 1)) (D.t (D.st (D.h - 1)))), D.m, D.o⟩
  else ⟨D.h - 1, D.st, D.t, D.s, D.m + 1, upN D.o D.m (D.st (D.h - 1))⟩
theorem dstep_a {d : Nat → Nat} {e : Nat → Nat → Nat} {h' b m : Nat} {st t o : Nat → Nat} {s : Nat → Bool} (hb : st h' = b) (hlt : t b < d b) (hc : s (e b (t b)) = true) : dstep d e (h' + 1, st, t, s, m, o) = (h' + 1, st, upN t b (t b + 1), s, m, o) := by
  subst hb
  exact (if_neg (Nat.succ_ne_zero h')).trans ((if_pos hlt).trans (if_pos hc))
theorem dstep_b {d : Nat → Nat} {e : Nat → Nat → Nat} {h' b m : Nat} {st t o : Nat → Nat} {s : Nat → Bool} (hb : st h' = b) (hlt : t b < d b) (hc : ¬ s (e b (t b)) = true) : dstep d e (h' + 1, st, t, s, m, o) = (h' + 1 + 1, upN st (h' + 1) (e b (t b)), upN t b (t b + 1), upS s (e b (t b)), m, o) := by
  subst hb
  exact (if_neg (Nat.succ_ne_zero h')).trans ((if_pos hlt).trans (if_neg hc))
theorem dstep_c {d : Nat → Nat} {e : Nat → Nat → Nat} {h' b m : Nat} {st t o : Nat → Nat} {s : Nat → Bool} (hb : st h' = b) (hlt : ¬ t b < d b) : dstep d e (h' + 1, st, t, s, m, o) = (h', st, t, s, m + 1, upN o m b) := by
  subst hb
  exact (if_neg (Nat.succ_ne_zero h')).trans (if_neg hlt)
def ds0 : DS := ⟨1, fun _ => 0, fun _ => 0, upS (fun _ => false) 0, 0, fun _ => 0⟩
def drun (d : Nat → Nat) (e : Nat → Nat → Nat) : Nat → DS
  | 0 => ds0
  | k + 1 => dstep d e (drun d e k)
abbrev DInv (n : Nat) (d : Nat → Nat) (e : Nat → Nat → Nat) (k : Nat) (D : DS) : Prop := (∀ i, i < D.h → D.st i < n) ∧ (∀ i, i < D.h → D.s (D.st i) = true) ∧ (∀ i, i < D.m → D.o i < n) ∧ (∀ i, i < D.m → D.s (D.o i) = true) ∧ (∀ b, D.s b = true → (∃ i, i < D.h ∧ D.st i = b) ∨ ∃ i, i < D.m ∧ D.o i = b) ∧ (∀ i j, i < j → j < D.h → D.st i ≠ D.st j) ∧ (∀ i j, i < j → j < D.m → D.o i ≠ D.o j) ∧ (∀ i j, i < D.h → j < D.m → D.st i ≠ D.o j) ∧ (cnt (fun b => D.s b = true) 64 = D.m + D.h) ∧ (∀ b, D.t b ≤ d b) ∧ (∀ b, D.s b = false → D.t b = 0) ∧ (∀ i, i < D.m → D.t (D.o i) = d (D.o i)) ∧ (∀ b k, k < D.t b → D.s (e b k) = true) ∧ (∀ b, D.s b = true → Rch d e b) ∧ (0 < D.h → D.st 0 = 0) ∧ (D.h = 0 → 0 < D.m ∧ D.o (D.m - 1) = 0) ∧ (0 < D.h → dsum D.t 64 + D.m = k)
theorem DInv.st_lt {n : Nat} {d : Nat → Nat} {e : Nat → Nat → Nat} {k : Nat} {D : DS} (I : DInv n d e k D) : ∀ i, i < D.h → D.st i < n := I.1
theorem DInv.st_s {n : Nat} {d : Nat → Nat} {e : Nat → Nat → Nat} {k : Nat} {D : DS} (I : DInv n d e k D) : ∀ i, i < D.h → D.s (D.st i) = true := I.2.1
theorem DInv.o_lt {n : Nat} {d : Nat → Nat} {e : Nat → Nat → Nat} {k : Nat} {D : DS} (I : DInv n d e k D) : ∀ i, i < D.m → D.o i < n := I.2.2.1
theorem DInv.o_s {n : Nat} {d : Nat → Nat} {e : Nat → Nat → Nat} {k : Nat} {D : DS} (I : DInv n d e k D) : ∀ i, i < D.m → D.s (D.o i) = true := I.2.2.2.1
theorem DInv.s_in {n : Nat} {d : Nat → Nat} {e : Nat → Nat → Nat} {k : Nat} {D : DS} (I : DInv n d e k D) : ∀ b, D.s b = true → (∃ i, i < D.h ∧ D.st i = b) ∨ ∃ i, i < D.m ∧ D.o i = b := I.2.2.2.2.1
theorem DInv.st_inj {n : Nat} {d : Nat → Nat} {e : Nat → Nat → Nat} {k : Nat} {D : DS} (I : DInv n d e k D) : ∀ i j, i < j → j < D.h → D.st i ≠ D.st j := I.2.2.2.2.2.1
theorem DInv.o_inj {n : Nat} {d : Nat → Nat} {e : Nat → Nat → Nat} {k : Nat} {D : DS} (I : DInv n d e k D) : ∀ i j, i < j → j < D.m → D.o i ≠ D.o j := I.2.2.2.2.2.2.1
theorem DInv.so {n : Nat} {d : Nat → Nat} {e : Nat → Nat → Nat} {k : Nat} {D : DS} (I : DInv n d e k D) : ∀ i j, i < D.h → j < D.m → D.st i ≠ D.o j := I.2.2.2.2.2.2.2.1
theorem DInv.card {n : Nat} {d : Nat → Nat} {e : Nat → Nat → Nat} {k : Nat} {D : DS} (I : DInv n d e k D) : cnt (fun b => D.s b = true) 64 = D.m + D.h := I.2.2.2.2.2.2.2.2.1
theorem DInv.t_le {n : Nat} {d : Nat → Nat} {e : Nat → Nat → Nat} {k : Nat} {D : DS} (I : DInv n d e k D) : ∀ b, D.t b ≤ d b := I.2.2.2.2.2.2.2.2.2.1
theorem DInv.t_0 {n : Nat} {d : Nat → Nat} {e : Nat → Nat → Nat} {k : Nat} {D : DS} (I : DInv n d e k D) : ∀ b, D.s b = false → D.t b = 0 := I.2.2.2.2.2.2.2.2.2.2.1
theorem DInv.t_o {n : Nat} {d : Nat → Nat} {e : Nat → Nat → Nat} {k : Nat} {D : DS} (I : DInv n d e k D) : ∀ i, i < D.m → D.t (D.o i) = d (D.o i) := I.2.2.2.2.2.2.2.2.2.2.2.1
theorem DInv.t_s {n : Nat} {d : Nat → Nat} {e : Nat → Nat → Nat} {k : Nat} {D : DS} (I : DInv n d e k D) : ∀ b k, k < D.t b → D.s (e b k) = true := I.2.2.2.2.2.2.2.2.2.2.2.2.1
theorem DInv.rch {n : Nat} {d : Nat → Nat} {e : Nat → Nat → Nat} {k : Nat} {D : DS} (I : DInv n d e k D) : ∀ b, D.s b = true → Rch d e b := I.2.2.2.2.2.2.2.2.2.2.2.2.2.1
theorem DInv.bot {n : Nat} {d : Nat → Nat} {e : Nat → Nat → Nat} {k : Nat} {D : DS} (I : DInv n d e k D) : 0 < D.h → D.st 0 = 0 := I.2.2.2.2.2.2.2.2.2.2.2.2.2.2.1
theorem DInv.bot2 {n : Nat} {d : Nat → Nat} {e : Nat → Nat → Nat} {k : Nat} {D : DS} (I : DInv n d e k D) : D.h = 0 → 0 < D.m ∧ D.o (D.m - 1) = 0 := I.2.2.2.2.2.2.2.2.2.2.2.2.2.2.2.1
theorem DInv.steps {n : Nat} {d : Nat → Nat} {e : Nat → Nat → Nat} {k : Nat} {D : DS} (I : DInv n d e k D) : 0 < D.h → dsum D.t 64 + D.m = k := I.2.2.2.2.2.2.2.2.2.2.2.2.2.2.2.2
theorem dsum_0 : ∀ n, dsum (fun _ => 0) n = 0
  | 0 => rfl
  | n + 1 => dsum_0 n
theorem cnt_one {c : Nat} : ∀ m, c < m → cnt (fun b => b = c) m = 1 := by
  intro m hm
  have h := cnt_add1 (p := fun _ => False) (c := c) (fun q => q) m
  have h0 : ∀ m, cnt (fun _ => False) m = 0 := by
    intro m
    induction m with
    | zero => rfl
    | succ m ih => rw [cnt_s, ih, c01_f (fun q => q)]
  rw [h0, c01_t hm] at h
  rw [← cnt_ext (p := fun k => False ∨ k = c) (fun k _ => by simp)]
  exact h
theorem dinv0 {n : Nat} {d : Nat → Nat} {e : Nat → Nat → Nat} (hG : Gr n d e) : DInv n d e 0 ds0 := ⟨
  fun i _ => hG.1,
  fun i _ => rfl,
  fun i hi => absurd hi (Nat.not_lt_zero i),
  fun i hi => absurd hi (Nat.not_lt_zero i),
  fun b hb => by
    refine Or.inl ⟨0, Nat.one_pos, ?_⟩
    have hb : upS (fun _ => false) 0 b = true := hb
    rw [upS_iff] at hb
    exact (hb.resolve_left (by decide)).symm,
  fun i j hij hj => by
    have hj : j < 1 := hj
    omega,
  fun i j _ hj => absurd hj (Nat.not_lt_zero j),
  fun i j _ hj => absurd hj (Nat.not_lt_zero j),
  by
    show cnt (fun b => upS (fun _ => false) 0 b = true) 64 = 1
    rw [cnt_ext (q := fun b => b = 0) (fun k _ => by rw [upS_iff]; simp)]
    exact cnt_one 64 (by decide),
  fun b => Nat.zero_le _,
  fun b _ => rfl,
  fun i hi => absurd hi (Nat.not_lt_zero i),
  fun b k hk => absurd hk (Nat.not_lt_zero k),
  fun b hb => by
    have hb : upS (fun _ => false) 0 b = true := hb
    rw [upS_iff] at hb
    rw [hb.resolve_left (by decide)]
    exact Rch.zero,
  fun _ => rfl,
  fun h => absurd h (by decide),
  fun _ => dsum_0 64⟩
theorem dinv_step {n : Nat} {d : Nat → Nat} {e : Nat → Nat → Nat} (hG : Gr n d e) {k : Nat} {D : DS} (I : DInv n d e k D) : DInv n d e (k + 1) (dstep d e D) := by
  obtain ⟨g1, g2, g3, g4, g5⟩ := hG
  by_cases h0 : D.h = 0
  · unfold dstep
    rw [if_pos h0]
    exact ⟨I.st_lt, I.st_s, I.o_lt, I.o_s, I.s_in, I.st_inj, I.o_inj, I.so, I.card, I.t_le, I.t_0, I.t_o, I.t_s, I.rch, I.bot, I.bot2, fun q => absurd q (by omega)⟩
  obtain ⟨h, st, t, s, m, o⟩ := D
  obtain ⟨h', rfl⟩ : ∃ h', h = h' + 1 := ⟨h - 1, by have h0 : ¬ h = 0 := h0; omega⟩
  obtain ⟨b, hb⟩ : ∃ b, st h' = b := ⟨_, rfl⟩
  obtain ⟨st_lt, st_s, o_lt, o_s, s_in, st_inj, o_inj, so, card, t_le, t_0, t_o, t_s, rch, bot, bot2, steps⟩ := I
  dsimp only [DS.h, DS.st, DS.t, DS.s, DS.m, DS.o] at st_lt st_s o_lt o_s s_in st_inj o_inj so card t_le t_0 t_o t_s rch bot bot2 steps
  have hbn : b < n := by rw [← hb]; exact st_lt h' (by omega)
  have hbs : s b = true := by rw [← hb]; exact st_s h' (by omega)
  have hst := steps (by omega)
  have hbo : ∀ i, i < m → ¬ o i = b := fun i hi q => so h' i (by omega) hi (by rw [hb, q])
  by_cases hlt : t b < d b
  · have hds : dsum (upN t b (t b + 1)) 64 = dsum t 64 + 1 := by
      have := dsum_upd t b (t b + 1) 64
      rw [if_pos (by omega), if_pos (by omega)] at this
      omega
    have u_le : ∀ x, upN t b (t b + 1) x ≤ d x := by
      intro x
      by_cases hx : x = b
      · rw [hx, upN_s]; omega
      · rw [upN_n hx]; exact t_le x
    have u_o : ∀ i, i < m → upN t b (t b + 1) (o i) = d (o i) := by
      intro i hi
      rw [upN_n (hbo i hi)]; exact t_o i hi
    by_cases hc : s (e b (t b)) = true
    · rw [dstep_a hb hlt hc]
      refine ⟨st_lt, st_s, o_lt, o_s, s_in, st_inj, o_inj, so, card, u_le, ?_, u_o, ?_, rch, bot, bot2, ?_⟩
      · intro x hx
        have hx : s x = false := hx
        have hxb : ¬ x = b := fun q => by rw [q, hbs] at hx; exact absurd hx (by decide)
        show upN t b (t b + 1) x = 0
        rw [upN_n hxb]; exact t_0 x hx
      · intro x i hi
        have hi : i < upN t b (t b + 1) x := hi
        show s (e x i) = true
        by_cases hx : x = b
        · rw [hx, upN_s] at hi
          rw [hx]
          by_cases hib : i = t b
          · rw [hib]; exact hc
          · exact t_s b i (by omega)
        · rw [upN_n hx] at hi
          exact t_s x i hi
      · intro _
        show dsum (upN t b (t b + 1)) 64 + m = k + 1
        omega
    · rw [dstep_b hb hlt hc]
      obtain ⟨c, hce⟩ : ∃ c, e b (t b) = c := ⟨_, rfl⟩
      have hcn : c < n := by rw [← hce]; exact g5 b (t b) hbn hlt
      rw [hce] at hc ⊢
      have hcf : s c = false := by
        cases hq : s c with
        | true => exact absurd hq hc
        | false => rfl
      have smono : ∀ x, s x = true → upS s c x = true := fun x hx => upS_iff.mpr (Or.inl hx)
      have hne : ∀ x, s x = true → ¬ x = c := fun x hx q => by rw [q, hcf] at hx; exact absurd hx (by decide)
      refine ⟨?_, ?_, o_lt, fun i hi => smono _ (o_s i hi), ?_, ?_, o_inj, ?_, ?_, u_le, ?_, u_o, ?_, ?_, ?_, ?_, ?_⟩
      · intro i hi
        have hi : i < h' + 1 + 1 := hi
        show upN st (h' + 1) c i < n
        by_cases hx : i = h' + 1
        · rw [hx, upN_s]; exact hcn
        · rw [upN_n hx]; exact st_lt i (by omega)
      · intro i hi
        have hi : i < h' + 1 + 1 := hi
        show upS s c (upN st (h' + 1) c i) = true
        by_cases hx : i = h' + 1
        · rw [hx, upN_s, upS_s]
        · rw [upN_n hx]; exact smono _ (st_s i (by omega))
      · intro x hx
        have hx : upS s c x = true := hx
        show (∃ i, i < h' + 1 + 1 ∧ upN st (h' + 1) c i = x) ∨ ∃ i, i < m ∧ o i = x
        rcases upS_iff.mp hx with hx | hx
        · rcases s_in x hx with ⟨i, hi, q⟩ | q
          · exact Or.inl ⟨i, by omega, by rw [upN_n (by omega)]; exact q⟩
          · exact Or.inr q
        · exact Or.inl ⟨h' + 1, by omega, by rw [upN_s]; exact hx.symm⟩
      · intro i j hij hj
        have hj : j < h' + 1 + 1 := hj
        show upN st (h' + 1) c i ≠ upN st (h' + 1) c j
        by_cases hx : j = h' + 1
        · rw [hx, upN_s, upN_n (by omega)]
          exact hne _ (st_s i (by omega))
        · rw [upN_n (by omega), upN_n hx]
          exact st_inj i j hij (by omega)
      · intro i j hi hj
        have hi : i < h' + 1 + 1 := hi
        show upN st (h' + 1) c i ≠ o j
        by_cases hx : i = h' + 1
        · rw [hx, upN_s]
          exact fun q => hne _ (o_s j hj) q.symm
        · rw [upN_n hx]
          exact so i j (by omega) hj
      · show cnt (fun x => upS s c x = true) 64 = m + (h' + 1 + 1)
        rw [cnt_ext (q := fun x => s x = true ∨ x = c) (fun x _ => upS_iff), cnt_add1 (p := fun x => s x = true) (fun q => absurd q hc), c01_t (by omega), card]
        omega
      · intro x hx
        have hx : upS s c x = false := hx
        show upN t b (t b + 1) x = 0
        have hxs : s x = false := by
          cases hq : s x with
          | true => rw [smono x hq] at hx; exact absurd hx (by decide)
          | false => rfl
        have hxb : ¬ x = b := fun q => by rw [q, hbs] at hxs; exact absurd hxs (by decide)
        rw [upN_n hxb]; exact t_0 x hxs
      · intro x i hi
        have hi : i < upN t b (t b + 1) x := hi
        show upS s c (e x i) = true
        by_cases hx : x = b
        · rw [hx, upN_s] at hi
          rw [hx]
          by_cases hib : i = t b
          · rw [hib, hce, upS_s]
          · exact smono _ (t_s b i (by omega))
        · rw [upN_n hx] at hi
          exact smono _ (t_s x i hi)
      · intro x hx
        rcases upS_iff.mp hx with hx | hx
        · exact rch x hx
        · rw [hx, ← hce]
          exact Rch.step (rch b hbs) hlt
      · intro _
        show upN st (h' + 1) c 0 = 0
        rw [upN_n (by omega)]
        exact bot (by omega)
      · intro q
        have q : h' + 1 + 1 = 0 := q
        omega
      · intro _
        show dsum (upN t b (t b + 1)) 64 + m = k + 1
        omega
  · rw [dstep_c hb hlt]
    refine ⟨fun i hi => st_lt i (Nat.lt_succ_of_lt hi), fun i hi => st_s i (Nat.lt_succ_of_lt hi), ?_, ?_, ?_, fun i j hij hj => st_inj i j hij (Nat.lt_succ_of_lt hj), ?_, ?_, ?_, t_le, t_0, ?_, t_s, rch, ?_, ?_, ?_⟩
    · intro i hi
      have hi : i < m + 1 := hi
      show upN o m b i < n
      by_cases hx : i = m
      · rw [hx, upN_s]; exact hbn
      · rw [upN_n hx]; exact o_lt i (by omega)
    · intro i hi
      have hi : i < m + 1 := hi
      show s (upN o m b i) = true
      by_cases hx : i = m
      · rw [hx, upN_s]; exact hbs
      · rw [upN_n hx]; exact o_s i (by omega)
    · intro x hx
      show (∃ i, i < h' ∧ st i = x) ∨ ∃ i, i < m + 1 ∧ upN o m b i = x
      rcases s_in x hx with ⟨i, hi, q⟩ | ⟨i, hi, q⟩
      · by_cases hih : i = h'
        · refine Or.inr ⟨m, by omega, ?_⟩
          rw [upN_s, ← q, hih, hb]
        · exact Or.inl ⟨i, by omega, q⟩
      · exact Or.inr ⟨i, by omega, by rw [upN_n (by omega)]; exact q⟩
    · intro i j hij hj
      have hj : j < m + 1 := hj
      show upN o m b i ≠ upN o m b j
      by_cases hx : j = m
      · rw [hx, upN_s, upN_n (by omega)]
        exact hbo i (by omega)
      · rw [upN_n hx, upN_n (by omega)]
        exact o_inj i j hij (by omega)
    · intro i j hi hj
      have hi : i < h' := hi
      have hj : j < m + 1 := hj
      show st i ≠ upN o m b j
      by_cases hx : j = m
      · rw [hx, upN_s, ← hb]
        exact st_inj i h' hi (by omega)
      · rw [upN_n hx]
        exact so i j (by omega) (by omega)
    · show cnt (fun x => s x = true) 64 = m + 1 + h'
      rw [card]
      omega
    · intro i hi
      have hi : i < m + 1 := hi
      show t (upN o m b i) = d (upN o m b i)
      by_cases hx : i = m
      · rw [hx, upN_s]
        have := t_le b
        omega
      · rw [upN_n hx]; exact t_o i (by omega)
    · intro _
      exact bot (by omega)
    · intro q
      have q : h' = 0 := q
      refine ⟨Nat.succ_pos m, ?_⟩
      show upN o m b (m + 1 - 1) = 0
      rw [Nat.add_sub_cancel, upN_s, ← hb, q]
      exact bot (by omega)
    · intro q
      show dsum t 64 + (m + 1) = k + 1
      omega
theorem drun_inv {n : Nat} {d : Nat → Nat} {e : Nat → Nat → Nat} (hG : Gr n d e) : ∀ k, DInv n d e k (drun d e k)
  | 0 => dinv0 hG
  | k + 1 => dinv_step hG (drun_inv hG k)
theorem DInv.hm {n : Nat} {d : Nat → Nat} {e : Nat → Nat → Nat} {k : Nat} {D : DS} (I : DInv n d e k D) : D.m + D.h ≤ 64 := by
  rw [← I.card]
  exact cnt_le _ 64
theorem DInv.lt {n : Nat} {d : Nat → Nat} {e : Nat → Nat → Nat} (hG : Gr n d e) {k : Nat} {D : DS} (I : DInv n d e k D) (h : 0 < D.h) : k < 576 := by
  have h1 := I.steps h
  have h2 := I.hm
  have h3 := dsum_le (d := D.t) (c := 8) (fun b => Nat.le_trans (I.t_le b) (hG.2.2.1 b)) 64
  omega
theorem drun_stay {d : Nat → Nat} {e : Nat → Nat → Nat} {k : Nat} (h : (drun d e k).h = 0) : ∀ j, drun d e (k + j) = drun d e k
  | 0 => rfl
  | j + 1 => by
    show dstep d e (drun d e (k + j)) = _
    rw [drun_stay h j]
    unfold dstep
    rw [if_pos h]
theorem k576_ex : ∃ k, k = 576 := ⟨576, rfl⟩
noncomputable def k576 : Nat := Classical.choose k576_ex
theorem k576_eq : k576 = 576 := Classical.choose_spec k576_ex
noncomputable def pm (d : Nat → Nat) (e : Nat → Nat → Nat) : Nat := (drun d e k576).m
noncomputable def po (d : Nat → Nat) (e : Nat → Nat → Nat) : Nat → Nat := (drun d e k576).o
theorem drun_end {n : Nat} {d : Nat → Nat} {e : Nat → Nat → Nat} (hG : Gr n d e) {k : Nat} (h : (drun d e k).h = 0) : (drun d e k).m = pm d e ∧ (drun d e k).o = po d e := by
  have h2 : (drun d e k576).h = 0 := by
    have := (drun_inv hG k576).lt hG
    rw [k576_eq] at this ⊢
    omega
  have e1 : drun d e k = drun d e k576 := by
    by_cases hk : k ≤ k576
    · obtain ⟨j, hj⟩ : ∃ j, k576 = k + j := ⟨k576 - k, by omega⟩
      rw [hj, drun_stay h]
    · obtain ⟨j, hj⟩ : ∃ j, k = k576 + j := ⟨k - k576, by omega⟩
      rw [hj, drun_stay h2]
  rw [e1]
  exact ⟨rfl, rfl⟩
/-- what the deep walk gives -/
abbrev Post (n : Nat) (d : Nat → Nat) (e : Nat → Nat → Nat) (m : Nat) (o : Nat → Nat) : Prop := (∀ i, i < m → o i < n) ∧ (∀ i j, i < m → j < m → o i = o j → i = j) ∧ (∀ b, Rch d e b ↔ ∃ i, i < m ∧ o i = b) ∧ (0 < m) ∧ (o (m - 1) = 0) ∧ (m ≤ 64)
theorem Post.lt {n : Nat} {d : Nat → Nat} {e : Nat → Nat → Nat} {m : Nat} {o : Nat → Nat} (I : Post n d e m o) : ∀ i, i < m → o i < n := I.1
theorem Post.inj {n : Nat} {d : Nat → Nat} {e : Nat → Nat → Nat} {m : Nat} {o : Nat → Nat} (I : Post n d e m o) : ∀ i j, i < m → j < m → o i = o j → i = j := I.2.1
theorem Post.mem {n : Nat} {d : Nat → Nat} {e : Nat → Nat → Nat} {m : Nat} {o : Nat → Nat} (I : Post n d e m o) : ∀ b, Rch d e b ↔ ∃ i, i < m ∧ o i = b := I.2.2.1
theorem Post.pos {n : Nat} {d : Nat → Nat} {e : Nat → Nat → Nat} {m : Nat} {o : Nat → Nat} (I : Post n d e m o) : 0 < m := I.2.2.2.1
theorem Post.last {n : Nat} {d : Nat → Nat} {e : Nat → Nat → Nat} {m : Nat} {o : Nat → Nat} (I : Post n d e m o) : o (m - 1) = 0 := I.2.2.2.2.1
theorem Post.le {n : Nat} {d : Nat → Nat} {e : Nat → Nat → Nat} {m : Nat} {o : Nat → Nat} (I : Post n d e m o) : m ≤ 64 := I.2.2.2.2.2
theorem post_ok {n : Nat} {d : Nat → Nat} {e : Nat → Nat → Nat} (hG : Gr n d e) : Post n d e (pm d e) (po d e) := by
  have I := drun_inv hG k576
  have h0 : (drun d e k576).h = 0 := by
    have := I.lt hG
    rw [k576_eq] at this ⊢
    omega
  obtain ⟨e1, e2⟩ := drun_end hG h0
  rw [← e1, ← e2]
  have b2 := I.bot2 h0
  refine ⟨I.o_lt, ?_, ?_, b2.1, b2.2, ?_⟩
  · intro i j hi hj q
    rcases Nat.lt_trichotomy i j with h | h | h
    · exact absurd q (I.o_inj i j h hj)
    · exact h
    · exact absurd q.symm (I.o_inj j i h hi)
  · intro b
    have hin : ∀ b, (drun d e k576).s b = true → ∃ i, i < (drun d e k576).m ∧ (drun d e k576).o i = b := by
      intro b hb
      rcases I.s_in b hb with ⟨i, hi, _⟩ | q
      · omega
      · exact q
    constructor
    · intro h
      refine hin b ?_
      refine Rch.ind (P := fun b => (drun d e k576).s b = true) h ?_ ?_
      · show (drun d e k576).s 0 = true
        rw [← b2.2]
        exact I.o_s _ (by omega)
      · intro a k _ ih hk
        obtain ⟨i, hi, q⟩ := hin _ ih
        refine I.t_s _ _ ?_
        rw [← q, I.t_o i hi, q]
        exact hk
    · rintro ⟨i, hi, rfl⟩
      exact I.rch _ (I.o_s i hi)
  · have := I.hm
    omega
