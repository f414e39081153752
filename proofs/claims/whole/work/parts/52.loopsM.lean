-- loops of the reference
/-- x is in the loop of head h -/
def InL (d : Nat → Nat) (e : Nat → Nat → Nat) (h x : Nat) : Prop := Head d e h ∧ ∀ P : Nat → Prop, P h → (∀ a, Hd d e a h → P a) → (∀ a k, Rch d e a → k < d a → ¬ e a k = h → P (e a k) → P a) → P x
theorem InL.self {d : Nat → Nat} {e : Nat → Nat → Nat} {h : Nat} (H : Head d e h) : InL d e h h := ⟨H, fun _ p _ _ => p⟩
theorem InL.back {d : Nat → Nat} {e : Nat → Nat → Nat} {h a : Nat} (H : Hd d e a h) : InL d e h a := ⟨⟨a, H⟩, fun _ _ p _ => p a H⟩
theorem InL.pred {d : Nat → Nat} {e : Nat → Nat → Nat} {h a k : Nat} (ha : Rch d e a) (hk : k < d a) (hn : ¬ e a k = h) (H : InL d e h (e a k)) : InL d e h a := ⟨H.1, fun P p1 p2 p3 => p3 a k ha hk hn (H.2 P p1 p2 p3)⟩
theorem InL.ind {d : Nat → Nat} {e : Nat → Nat → Nat} {h x : Nat} (H : InL d e h x) {P : Nat → Prop} (p1 : P h) (p2 : ∀ a, Hd d e a h → P a) (p3 : ∀ a k, Rch d e a → k < d a → ¬ e a k = h → P (e a k) → P a) : P x := H.2 P p1 p2 p3
theorem Head.rch {d : Nat → Nat} {e : Nat → Nat → Nat} {h : Nat} (H : Head d e h) : Rch d e h := by
  obtain ⟨a, ha, k, hk, q, _⟩ := H
  rw [← q]
  exact ha.step hk
theorem InL.rch {d : Nat → Nat} {e : Nat → Nat → Nat} {h x : Nat} (H : InL d e h x) : Rch d e x := H.ind (P := Rch d e) H.1.rch (fun a q => q.1) (fun a k ha _ _ _ => ha)
abbrev LpM (σ : SM) (n : Nat) (d : Nat → Nat) (e : Nat → Nat → Nat) : Prop := (BasM σ n d e) ∧ (ParM σ n d e n) ∧ (HdM σ n d e)
theorem LpM.bas {σ : SM} {n : Nat} {d : Nat → Nat} {e : Nat → Nat → Nat} (I : LpM σ n d e) : BasM σ n d e := I.1
theorem LpM.par {σ : SM} {n : Nat} {d : Nat → Nat} {e : Nat → Nat → Nat} (I : LpM σ n d e) : ParM σ n d e n := I.2.1
theorem LpM.head {σ : SM} {n : Nat} {d : Nat → Nat} {e : Nat → Nat → Nat} (I : LpM σ n d e) : HdM σ n d e := I.2.2
theorem LpM.u_thrown {σ : SM} {n : Nat} {d : Nat → Nat} {e : Nat → Nat → Nat} {v} (h : LpM σ n d e) : LpM (uM_thrown σ v) n d e := h
theorem LpM.u_loop {σ : SM} {n : Nat} {d : Nat → Nat} {e : Nat → Nat → Nat} {v} (h : LpM σ n d e) : LpM (uM_loop σ v) n d e := h
theorem LpM.u_loopSize {σ : SM} {n : Nat} {d : Nat → Nat} {e : Nat → Nat → Nat} {v} (h : LpM σ n d e) : LpM (uM_loopSize σ v) n d e := h
abbrev RowM (σ : SM) (n : Nat) (h : Nat) (S : Nat → Prop) : Prop := ∀ b, b < n → sM_loop σ (64 * h + b) = pI (S b)
abbrev RowsM (σ : SM) (n : Nat) (d : Nat → Nat) (e : Nat → Nat → Nat) (j : Nat) : Prop := ∀ a, a < j → RowM σ n a (InL d e a)
theorem l22_ok {n : Nat} {d : Nat → Nat} {e : Nat → Nat → Nat} (hG : Gr n d e) {σ : SM} (hM : BasM σ n d e) {h b : Nat} (hh : h < n) (hb : b < n) :
    ∃ w, lp_Model_loops_22 100 σ (nI h) (nI b) 0 0 = some (pI (Hd d e b h), w) := by
  have g2 := hG.2.1
  have hdb := hG.2.2.1 b
  refine Exists.elim (loopN (lp := fun f (s : Int32) i => lp_Model_loops_22 f σ (nI h) (nI b) s i) (N := d b) (Inv := fun j s => s = pI (Rch d e b ∧ ∃ k, k < j ∧ e b k = h ∧ Bk d e b k)) (done := fun s => (s, nI (d b))) (fun f s hI => ?_) (fun f j s hj hI => ?_) (d b) 100 0 0 (by omega) (by omega) ?_) (fun s' hs' => ?_)
  · show lp_Model_loops_22 (f + 1) σ (nI h) (nI b) s (nI (d b)) = _
    rw [lp_Model_loops_22_s, gdN (k := b) (by omega) (by decide), nI_clamp (n := b) (by omega), hM.web.many b (by omega), if_pos (nI_le (Nat.le_refl _) (by omega))]
  · have hen := hG.2.2.2.2 b j hb hj
    show ∃ s' : Int32, lp_Model_loops_22 (f + 1) σ (nI h) (nI b) s (nI j) = lp_Model_loops_22 f σ (nI h) (nI b) s' (nI (j + 1)) ∧ _
    rw [lp_Model_loops_22_s, gdN (k := b) (by omega) (by decide), nI_clamp (n := b) (by omega), hM.web.many b (by omega), if_neg (nI_ge hj (by omega)), ix8', gdN (k := 8 * b + j) (by omega) (by decide), nI_clamp (n := 8 * b + j) (by omega), hM.web.ends b j hb hj, nI_1, hI]
    have stay : ¬ (Rch d e b ∧ ∃ k, k < j ∧ e b k = h ∧ Bk d e b k) → ¬ (Rch d e b ∧ e b j = h ∧ Bk d e b j) → ¬ (Rch d e b ∧ ∃ k, k < j + 1 ∧ e b k = h ∧ Bk d e b k) := by
      rintro q1 q2 ⟨r, k, hk, w⟩
      by_cases hkj : k = j
      · rw [hkj] at w
        exact q2 ⟨r, w⟩
      · exact q1 ⟨r, k, by omega, w⟩
    rcases Classical.em (Rch d e b ∧ ∃ k, k < j ∧ e b k = h ∧ Bk d e b k) with q | q
    · rw [pI_t q, if_neg (by decide)]
      obtain ⟨q1, k, hk, q2⟩ := q
      exact ⟨1, rfl, (pI_t ⟨q1, k, by omega, q2⟩).symm⟩
    · rw [pI_f q, if_pos rfl]
      by_cases he : e b j = h
      · rw [if_pos (by rw [he])]
        rcases Classical.em (Rch d e b) with hr | hr
        · rw [sortOf_r hG hM hb hj hr, Option.bind_some]
          rcases kI_ok d e b j with ⟨k1, k2, k3⟩ | ⟨k1, k2, k3⟩ | ⟨k1, k2, k3⟩
          · rw [k3, if_pos rfl]
            exact ⟨1, rfl, (pI_t ⟨hr, j, by omega, he, k1⟩).symm⟩
          · rw [k3, if_neg (by decide)]
            exact ⟨0, rfl, (pI_f (stay q (fun w => k1 w.2.2))).symm⟩
          · rw [k3, if_neg (by decide)]
            exact ⟨0, rfl, (pI_f (stay q (fun w => k1 w.2.2))).symm⟩
        · rw [sortOf_u hG hM hb hj hr, Option.bind_some, if_neg (by decide)]
          exact ⟨0, rfl, (pI_f (stay q (fun w => hr w.1))).symm⟩
      · rw [if_neg (fun w => he ((nI_eq (by omega) (by omega)).mp w))]
        exact ⟨0, rfl, (pI_f (stay q (fun w => he w.2.1))).symm⟩
  · refine (pI_f ?_).symm
    rintro ⟨_, k, hk, _⟩
    omega
  · refine ⟨nI (d b), ?_⟩
    have h2 : s' = pI (Hd d e b h) := hs'.2
    rw [← h2]
    exact hs'.1
theorem l9_ok {n : Nat} {d : Nat → Nat} {e : Nat → Nat → Nat} (hG : Gr n d e) {σ : SM} (hM : LpM σ n d e) {h : Nat} (hh : h < n) (hR : RowsM σ n d e h) :
    ∃ v σ', lp_Model_loops_9 100 σ (nI h) 0 = some (v, σ') ∧ LpM σ' n d e ∧ RowsM σ' n d e h ∧ RowM σ' n h (fun b => Hd d e b h ∨ (Head d e h ∧ b = h)) ∧ sM_loopSize σ' = sM_loopSize σ := by
  have g2 := hG.2.1
  refine Exists.elim (loopN (lp := fun f s i => lp_Model_loops_9 f s (nI h) i) (N := n) (Inv := fun j s => LpM s n d e ∧ RowsM s n d e h ∧ (∀ b, b < j → sM_loop s (64 * h + b) = pI (Hd d e b h ∨ (Head d e h ∧ b = h))) ∧ sM_loopSize s = sM_loopSize σ) (done := fun s => (nI n, s)) (fun f s hI => ?_) (fun f j s hj hI => ?_) n 100 0 σ (by omega) (by omega) ⟨hM, hR, fun b hb => absurd hb (Nat.not_lt_zero b), rfl⟩) (fun s' hs' => ?_)
  · show lp_Model_loops_9 (f + 1) s (nI h) (nI n) = _
    rw [lp_Model_loops_9_s, hI.1.bas.web.blocks, if_pos (nI_le (Nat.le_refl _) (by omega))]
  · obtain ⟨i1, i2, i3, i4⟩ := hI
    obtain ⟨w, j1⟩ := l22_ok hG i1.bas hh hj
    have key : ∀ v : Int32, v = pI (Hd d e j h ∨ (Head d e h ∧ j = h)) → LpM (uM_loop s (upd (sM_loop s) (64 * h + j) v)) n d e ∧ RowsM (uM_loop s (upd (sM_loop s) (64 * h + j) v)) n d e h ∧ (∀ b, b < j + 1 → sM_loop (uM_loop s (upd (sM_loop s) (64 * h + j) v)) (64 * h + b) = pI (Hd d e b h ∨ (Head d e h ∧ b = h))) ∧ sM_loopSize (uM_loop s (upd (sM_loop s) (64 * h + j) v)) = sM_loopSize σ := by
      intro v hv
      refine ⟨i1.u_loop, fun a ha b hb => ?_, fun b hb => ?_, i4⟩
      · rw [gM_loop_loop, pk_un (by omega)]; exact i2 a ha b hb
      · rw [gM_loop_loop]
        by_cases hbj : b = j
        · rw [hbj, pk_us, hv]
        · rw [pk_un (by omega)]; exact i3 b (by omega)
    show ∃ s' : SM, lp_Model_loops_9 (f + 1) s (nI h) (nI j) = lp_Model_loops_9 f s' (nI h) (nI (j + 1)) ∧ _
    rw [lp_Model_loops_9_s, i1.bas.web.blocks, if_neg (nI_ge hj (by omega)), j1, Option.bind_some, gdN (k := h) (by omega) (by decide), nI_clamp (n := h) (by omega), i1.head h hh, ix64, gdN (k := 64 * h + j) (by omega) (by decide), gdN (k := 64 * h + j) (by omega) (by decide), nI_clamp (n := 64 * h + j) (by omega), nI_1, nar0, nar1]
    rcases Classical.em (Hd d e j h) with q | q
    · rw [if_neg (show ¬ pI (Hd d e j h) = 0 by rw [pI_t q]; decide)]
      exact ⟨_, rfl, key 1 (pI_t (Or.inl q)).symm⟩
    · rw [if_pos (show pI (Hd d e j h) = 0 from pI_f q)]
      rcases Classical.em (Head d e h) with r | r
      · rw [if_neg (show ¬ pI (Head d e h) = 0 by rw [pI_t r]; decide)]
        by_cases hjh : j = h
        · rw [if_pos (by rw [hjh])]
          exact ⟨_, rfl, key 1 (pI_t (Or.inr ⟨r, hjh⟩)).symm⟩
        · rw [if_neg (fun w => hjh ((nI_eq (by omega) (by omega)).mp w))]
          exact ⟨_, rfl, key 0 (pI_f (fun w => w.elim q (fun w => hjh w.2))).symm⟩
      · rw [if_pos (show pI (Head d e h) = 0 from pI_f r)]
        exact ⟨_, rfl, key 0 (pI_f (fun w => w.elim q (fun w => r w.1))).symm⟩
  · exact ⟨nI n, s', hs'.1, hs'.2⟩
theorem l171_ok {n : Nat} {d : Nat → Nat} {e : Nat → Nat → Nat} (hG : Gr n d e) {σ : SM} (hM : WebD σ n d e) {h b : Nat} (hh : h < n) (hb : b < n) {T : Nat → Prop} (hT : RowM σ n h T) (v2 : Int32) :
    ∃ w, lp_Model_loops_171 100 σ (nI h) v2 (nI b) 0 0 = some (pI (∃ k, k < d b ∧ ¬ e b k = h ∧ T (e b k)), w) := by
  have g2 := hG.2.1
  have hdb := hG.2.2.1 b
  refine Exists.elim (loopN (lp := fun f (s : Int32) i => lp_Model_loops_171 f σ (nI h) v2 (nI b) s i) (N := d b) (Inv := fun j s => s = pI (∃ k, k < j ∧ ¬ e b k = h ∧ T (e b k))) (done := fun s => (s, nI (d b))) (fun f s hI => ?_) (fun f j s hj hI => ?_) (d b) 100 0 0 (by omega) (by omega) ?_) (fun s' hs' => ?_)
  · show lp_Model_loops_171 (f + 1) σ (nI h) v2 (nI b) s (nI (d b)) = _
    rw [lp_Model_loops_171_s, gdN (k := b) (by omega) (by decide), nI_clamp (n := b) (by omega), hM.many b (by omega), if_pos (nI_le (Nat.le_refl _) (by omega))]
  · have hen := hG.2.2.2.2 b j hb hj
    show ∃ s' : Int32, lp_Model_loops_171 (f + 1) σ (nI h) v2 (nI b) s (nI j) = lp_Model_loops_171 f σ (nI h) v2 (nI b) s' (nI (j + 1)) ∧ _
    rw [lp_Model_loops_171_s, gdN (k := b) (by omega) (by decide), nI_clamp (n := b) (by omega), hM.many b (by omega), if_neg (nI_ge hj (by omega)), ix8', gdN (k := 8 * b + j) (by omega) (by decide), nI_clamp (n := 8 * b + j) (by omega), hM.ends b j hb hj, ix64, gdN (k := 64 * h + e b j) (by omega) (by decide), nI_clamp (n := 64 * h + e b j) (by omega), hT _ hen, nI_1, hI]
    have stay : ¬ (∃ k, k < j ∧ ¬ e b k = h ∧ T (e b k)) → ¬ (¬ e b j = h ∧ T (e b j)) → ¬ (∃ k, k < j + 1 ∧ ¬ e b k = h ∧ T (e b k)) := by
      rintro q1 q2 ⟨k, hk, w⟩
      by_cases hkj : k = j
      · rw [hkj] at w
        exact q2 w
      · exact q1 ⟨k, by omega, w⟩
    rcases Classical.em (∃ k, k < j ∧ ¬ e b k = h ∧ T (e b k)) with q | q
    · rw [if_neg (show ¬ pI (∃ k, k < j ∧ ¬ e b k = h ∧ T (e b k)) = 0 by rw [pI_t q]; decide)]
      obtain ⟨k, hk, q2⟩ := q
      exact ⟨1, rfl, (pI_t ⟨k, by omega, q2⟩).symm⟩
    · rw [if_pos (show pI (∃ k, k < j ∧ ¬ e b k = h ∧ T (e b k)) = 0 from pI_f q)]
      by_cases he : e b j = h
      · rw [if_pos (by rw [he])]
        exact ⟨0, rfl, (pI_f (stay q (fun w => w.1 he))).symm⟩
      · rw [if_neg (fun w => he ((nI_eq (by omega) (by omega)).mp w))]
        rcases Classical.em (T (e b j)) with r | r
        · rw [if_neg (show ¬ pI (T (e b j)) = 0 by rw [pI_t r]; decide)]
          exact ⟨1, rfl, (pI_t ⟨j, by omega, he, r⟩).symm⟩
        · rw [if_pos (show pI (T (e b j)) = 0 from pI_f r)]
          exact ⟨0, rfl, (pI_f (stay q (fun w => r w.2))).symm⟩
  · refine (pI_f ?_).symm
    rintro ⟨k, hk, _⟩
    omega
  · refine ⟨nI (d b), ?_⟩
    have h2 : s' = pI (∃ k, k < d b ∧ ¬ e b k = h ∧ T (e b k)) := hs'.2
    rw [← h2]
    exact hs'.1
theorem l131_ok {n : Nat} {d : Nat → Nat} {e : Nat → Nat → Nat} (hG : Gr n d e) {σ : SM} (hM : LpM σ n d e) {h : Nat} (hh : h < n) (hR : RowsM σ n d e h) {B : Nat → Prop} (hB : RowM σ n h B) (hA : ∀ b, B b → InL d e h b) :
    ∃ v' w σ', ∃ S' : Nat → Prop, lp_Model_loops_131 100 σ (nI h) 0 0 = some (v', w, σ') ∧ LpM σ' n d e ∧ RowsM σ' n d e h ∧ sM_loopSize σ' = sM_loopSize σ ∧ RowM σ' n h S' ∧ (∀ b, S' b → InL d e h b) ∧ Prog B S' v' ∧ ∀ b, b < n → Rch d e b → ∀ k, k < d b → ¬ e b k = h → B (e b k) → S' b := by
  have g2 := hG.2.1
  refine Exists.elim (loopN (lp := fun f (s : Int32 × SM) i => lp_Model_loops_131 f s.2 (nI h) s.1 i) (N := n) (Inv := fun j s => LpM s.2 n d e ∧ RowsM s.2 n d e h ∧ sM_loopSize s.2 = sM_loopSize σ ∧ ∃ S' : Nat → Prop, RowM s.2 n h S' ∧ (∀ b, S' b → InL d e h b) ∧ Prog B S' s.1 ∧ ∀ b, b < j → Rch d e b → ∀ k, k < d b → ¬ e b k = h → B (e b k) → S' b) (done := fun s => (s.1, nI n, s.2)) (fun f s hI => ?_) (fun f j s hj hI => ?_) n 100 0 (0, σ) (by omega) (by omega) ⟨hM, hR, rfl, B, hB, hA, Or.inl ⟨rfl, fun b => Iff.rfl⟩, fun a ha => absurd ha (Nat.not_lt_zero a)⟩) (fun s' hs' => ?_)
  · show lp_Model_loops_131 (f + 1) s.2 (nI h) s.1 (nI n) = _
    rw [lp_Model_loops_131_s, hI.1.bas.web.blocks, if_pos (nI_le (Nat.le_refl _) (by omega))]
  · obtain ⟨i1, i2, i3, T, i4, i5, i6, i7⟩ := hI
    obtain ⟨w, j1⟩ := l171_ok hG i1.bas.web hh hj i4 s.1
    have hsame : (T j ∨ ¬ Rch d e j) → ∀ b, b < j + 1 → Rch d e b → ∀ k, k < d b → ¬ e b k = h → B (e b k) → T b := by
      intro q b hb hr k hk hn hBk
      by_cases hbj : b = j
      · rw [hbj] at hr ⊢
        exact q.resolve_right (fun w => w hr)
      · exact i7 b (by omega) hr k hk hn hBk
    show ∃ s' : Int32 × SM, lp_Model_loops_131 (f + 1) s.2 (nI h) s.1 (nI j) = lp_Model_loops_131 f s'.2 (nI h) s'.1 (nI (j + 1)) ∧ _
    rw [lp_Model_loops_131_s, i1.bas.web.blocks, if_neg (nI_ge hj (by omega)), ix64, gdN (k := 64 * h + j) (by omega) (by decide), nI_clamp (n := 64 * h + j) (by omega), i4 j hj, gdN (k := j) (by omega) (by decide), nI_clamp (n := j) (by omega), j1, Option.bind_some, nI_1]
    rcases Classical.em (T j) with q | q
    · rw [if_neg (show ¬ pI (T j) = 0 by rw [pI_t q]; decide)]
      exact ⟨(s.1, s.2), rfl, i1, i2, i3, T, i4, i5, i6, hsame (Or.inl q)⟩
    · rw [if_pos (show pI (T j) = 0 from pI_f q)]
      rcases Classical.em (Rch d e j) with hr | hr
      · have o1 := (od_ok hG hr).1
        have hle := (ord_ok hG).le
        rw [i1.bas.ord.od hG hr, if_pos (nI_pos' (by omega)), narP]
        rcases Classical.em (∃ k, k < d j ∧ ¬ e j k = h ∧ T (e j k)) with r | r
        · have r1 := pI_t r
          rw [r1, if_neg (show ¬ (1 : Int32) = 0 by decide)]
          have fin : ∃ s' : Int32 × SM, lp_Model_loops_131 f (uM_loop s.2 (upd (sM_loop s.2) (64 * h + j) 1)) (nI h) 1 (nI (j + 1)) = lp_Model_loops_131 f s'.2 (nI h) s'.1 (nI (j + 1)) ∧ LpM s'.2 n d e ∧ RowsM s'.2 n d e h ∧ sM_loopSize s'.2 = sM_loopSize σ ∧ ∃ S' : Nat → Prop, RowM s'.2 n h S' ∧ (∀ b, S' b → InL d e h b) ∧ Prog B S' s'.1 ∧ ∀ b, b < j + 1 → Rch d e b → ∀ k, k < d b → ¬ e b k = h → B (e b k) → S' b := by
            refine ⟨(1, uM_loop s.2 (upd (sM_loop s.2) (64 * h + j) 1)), rfl, i1.u_loop, fun a ha b hb => ?_, i3, fun b => T b ∨ b = j, fun b hb => ?_, ?_, i6.add (by omega) q, fun b hb hrb k hk hn hBk => ?_⟩
            · rw [gM_loop_loop, pk_un (by omega)]; exact i2 a ha b hb
            · rw [gM_loop_loop]
              by_cases hbj : b = j
              · rw [hbj, pk_us, pI_t (Or.inr rfl)]
              · rw [pk_un (by omega), i4 b hb]
                exact pI_congr ⟨Or.inl, fun w => w.resolve_right hbj⟩
            · rintro b (w | rfl)
              · exact i5 b w
              · obtain ⟨k, hk, hn, hT⟩ := r
                exact InL.pred hr hk hn (i5 _ hT)
            · by_cases hbj : b = j
              · exact Or.inr hbj
              · exact Or.inl (i7 b (by omega) hrb k hk hn hBk)
          by_cases hs : s.1 = 0
          · rw [if_pos hs]
            exact fin
          · rw [if_neg hs]
            exact fin
        · have r1 := pI_f r
          rw [r1, if_pos (show (0 : Int32) = 0 from rfl)]
          have fin : ∀ v : Int32, v = s.1 → ∃ s' : Int32 × SM, lp_Model_loops_131 f (uM_loop s.2 (upd (sM_loop s.2) (64 * h + j) 0)) (nI h) v (nI (j + 1)) = lp_Model_loops_131 f s'.2 (nI h) s'.1 (nI (j + 1)) ∧ LpM s'.2 n d e ∧ RowsM s'.2 n d e h ∧ sM_loopSize s'.2 = sM_loopSize σ ∧ ∃ S' : Nat → Prop, RowM s'.2 n h S' ∧ (∀ b, S' b → InL d e h b) ∧ Prog B S' s'.1 ∧ ∀ b, b < j + 1 → Rch d e b → ∀ k, k < d b → ¬ e b k = h → B (e b k) → S' b := by
            intro v hv
            subst hv
            refine ⟨(s.1, uM_loop s.2 (upd (sM_loop s.2) (64 * h + j) 0)), rfl, i1.u_loop, fun a ha b hb => ?_, i3, T, fun b hb => ?_, i5, i6, fun b hb hrb k hk hn hBk => ?_⟩
            · rw [gM_loop_loop, pk_un (by omega)]; exact i2 a ha b hb
            · rw [gM_loop_loop]
              by_cases hbj : b = j
              · rw [hbj, pk_us, pI_f q]
              · rw [pk_un (by omega)]; exact i4 b hb
            · by_cases hbj : b = j
              · rw [hbj] at hk hn hBk
                exact absurd ⟨k, hk, hn, i6.sub _ hBk⟩ r
              · exact i7 b (by omega) hrb k hk hn hBk
          by_cases hs : s.1 = 0
          · rw [if_pos hs]
            exact fin 0 hs.symm
          · have hs1 : s.1 = 1 := by
              rcases i6 with w | w
              · exact absurd w.1 hs
              · exact w.1
            rw [if_neg hs]
            exact fin 1 hs1.symm
      · rw [i1.bas.ord.ord0 j hj hr, if_neg (show ¬ (0 : Int32) ≤ -1 by decide)]
        exact ⟨(s.1, s.2), rfl, i1, i2, i3, T, i4, i5, i6, hsame (Or.inr hr)⟩
  · obtain ⟨h1, h2, h3, h4, S', h5⟩ := hs'
    exact ⟨s'.1, nI n, s'.2, S', h1, h2, h3, h4, h5⟩
theorem l123_ok {n : Nat} {d : Nat → Nat} {e : Nat → Nat → Nat} (hG : Gr n d e) {h : Nat} (hh : h < n) : ∀ (r f : Nat) (σ : SM) (B : Nat → Prop), 64 ≤ cnt B 64 + r → r + 1 < f → LpM σ n d e → RowsM σ n d e h → RowM σ n h B → (∀ b, B b → InL d e h b) → B h → (∀ a, Hd d e a h → B a) →
    ∃ v σ', lp_Model_loops_123 f σ (nI h) 1 = some (v, σ') ∧ LpM σ' n d e ∧ RowsM σ' n d e h ∧ sM_loopSize σ' = sM_loopSize σ ∧ RowM σ' n h (InL d e h) := by
  intro r
  induction r with
  | zero =>
    intro f σ B hr hf hM hR hS hA h0 h1
    obtain ⟨g, rfl⟩ : ∃ g, f = g + 1 + 1 := ⟨f - 2, by omega⟩
    obtain ⟨v', w, σ', S', j1, j2, j3, j4, j5, j6, j7, j8⟩ := l131_ok hG hM hh hR hS hA
    rcases j7 with ⟨rfl, j7⟩ | ⟨rfl, j7, j9⟩
    · refine ⟨0, σ', ?_, j2, j3, j4, fun b hb => (j5 b hb).trans (pI_congr ⟨j6 b, fun q => ?_⟩)⟩
      · rw [lp_Model_loops_123_s, if_neg (by decide), j1, Option.bind_some, lp_Model_loops_123_s, if_pos rfl]
      · exact q.ind (P := S') ((j7 h).mpr h0) (fun a ha => (j7 a).mpr (h1 a ha)) (fun a k ha hk hn hP => j8 a (rch_lt hG ha) ha k hk hn ((j7 _).mp hP))
    · have := cnt_le S' 64
      omega
  | succ r ih =>
    intro f σ B hr hf hM hR hS hA h0 h1
    obtain ⟨g, rfl⟩ : ∃ g, f = g + 1 + 1 := ⟨f - 2, by omega⟩
    obtain ⟨v', w, σ', S', j1, j2, j3, j4, j5, j6, j7, j8⟩ := l131_ok hG hM hh hR hS hA
    rcases j7 with ⟨rfl, j7⟩ | ⟨rfl, j7, j9⟩
    · refine ⟨0, σ', ?_, j2, j3, j4, fun b hb => (j5 b hb).trans (pI_congr ⟨j6 b, fun q => ?_⟩)⟩
      · rw [lp_Model_loops_123_s, if_neg (by decide), j1, Option.bind_some, lp_Model_loops_123_s, if_pos rfl]
      · exact q.ind (P := S') ((j7 h).mpr h0) (fun a ha => (j7 a).mpr (h1 a ha)) (fun a k ha hk hn hP => j8 a (rch_lt hG ha) ha k hk hn ((j7 _).mp hP))
    · obtain ⟨v, σ2, k1, k2, k3, k4, k5⟩ := ih (g + 1) σ' S' (by omega) (by omega) j2 j3 j5 j6 (j7 h h0) (fun a ha => j7 a (h1 a ha))
      refine ⟨v, σ2, ?_, k2, k3, k4.trans j4, k5⟩
      rw [lp_Model_loops_123_s, if_neg (by decide), j1, Option.bind_some]
      exact k1
theorem l280_ok {n : Nat} {d : Nat → Nat} {e : Nat → Nat → Nat} (hG : Gr n d e) {σ : SM} (hM : LpM σ n d e) {h : Nat} (hh : h < n) (hR : RowsM σ n d e h) (hS : RowM σ n h (InL d e h)) (h0 : sM_loopSize σ h = 0) :
    ∃ v σ', lp_Model_loops_280 100 σ (nI h) 0 = some (v, σ') ∧ LpM σ' n d e ∧ RowsM σ' n d e (h + 1) ∧ sM_loopSize σ' h = nI (cnt (InL d e h) n) ∧ ∀ c, ¬ c = h → sM_loopSize σ' c = sM_loopSize σ c := by
  have g2 := hG.2.1
  refine Exists.elim (loopN (lp := fun f s i => lp_Model_loops_280 f s (nI h) i) (N := n) (Inv := fun j s => LpM s n d e ∧ RowsM s n d e h ∧ RowM s n h (InL d e h) ∧ sM_loopSize s h = nI (cnt (InL d e h) j) ∧ ∀ c, ¬ c = h → sM_loopSize s c = sM_loopSize σ c) (done := fun s => (nI n, s)) (fun f s hI => ?_) (fun f j s hj hI => ?_) n 100 0 σ (by omega) (by omega) ⟨hM, hR, hS, by rw [h0, cnt_z]; rfl, fun c _ => rfl⟩) (fun s' hs' => ?_)
  · show lp_Model_loops_280 (f + 1) s (nI h) (nI n) = _
    rw [lp_Model_loops_280_s, hI.1.bas.web.blocks, if_pos (nI_le (Nat.le_refl _) (by omega))]
  · obtain ⟨i1, i2, i3, i4, i5⟩ := hI
    show ∃ s' : SM, lp_Model_loops_280 (f + 1) s (nI h) (nI j) = lp_Model_loops_280 f s' (nI h) (nI (j + 1)) ∧ _
    rw [lp_Model_loops_280_s, i1.bas.web.blocks, if_neg (nI_ge hj (by omega)), gdN (k := h) (by omega) (by decide), ix64, gdN (k := 64 * h + j) (by omega) (by decide), nI_clamp (n := h) (by omega), nI_clamp (n := 64 * h + j) (by omega), i3 j hj, nI_1 j, i4]
    have key : ∀ v : Int32, v = nI (cnt (InL d e h) (j + 1)) → LpM (uM_loopSize s (upd (sM_loopSize s) h v)) n d e ∧ RowsM (uM_loopSize s (upd (sM_loopSize s) h v)) n d e h ∧ RowM (uM_loopSize s (upd (sM_loopSize s) h v)) n h (InL d e h) ∧ sM_loopSize (uM_loopSize s (upd (sM_loopSize s) h v)) h = nI (cnt (InL d e h) (j + 1)) ∧ ∀ c, ¬ c = h → sM_loopSize (uM_loopSize s (upd (sM_loopSize s) h v)) c = sM_loopSize σ c := by
      intro v hv
      refine ⟨i1.u_loopSize, i2, i3, ?_, fun c hc => ?_⟩
      · rw [gM_loopSize_loopSize, pk_us, hv]
      · rw [gM_loopSize_loopSize, pk_un hc]; exact i5 c hc
    rcases Classical.em (InL d e h j) with q | q
    · rw [if_neg (show ¬ pI (InL d e h j) = 0 by rw [pI_t q]; decide)]
      exact ⟨_, rfl, key _ (by rw [nI_1, cnt_s' q])⟩
    · rw [if_pos (show pI (InL d e h j) = 0 from pI_f q)]
      exact ⟨_, rfl, key _ (by rw [Int32.add_zero, cnt_n' q])⟩
  · obtain ⟨h1, h2, h3, h4, h5⟩ := hs'
    refine ⟨nI n, s', h1, h2, fun a ha => ?_, h5⟩
    by_cases hah : a = h
    · rw [hah]; exact h4
    · exact h3 a (by omega)
theorem loops_ok {n : Nat} {d : Nat → Nat} {e : Nat → Nat → Nat} (hG : Gr n d e) {σ : SM} (hM : LpM σ n d e) {h : Nat} (hh : h < n) (hR : RowsM σ n d e h) :
    ∃ σ', f_Model_loops σ (nI h) = some σ' ∧ LpM σ' n d e ∧ RowsM σ' n d e (h + 1) ∧ sM_loopSize σ' h = nI (cnt (InL d e h) n) ∧ ∀ c, ¬ c = h → sM_loopSize σ' c = sM_loopSize σ c := by
  have g2 := hG.2.1
  obtain ⟨v1, σ1, a1, a2, a3, a4, a5⟩ := l9_ok hG (hM.u_loopSize (v := upd (sM_loopSize σ) h 0)) hh hR
  rw [gM_loopSize_loopSize] at a5
  have st : ∃ v σ2, lp_Model_loops_123 100 σ1 (nI h) (pI (Head d e h)) = some (v, σ2) ∧ LpM σ2 n d e ∧ RowsM σ2 n d e h ∧ sM_loopSize σ2 = sM_loopSize σ1 ∧ RowM σ2 n h (InL d e h) := by
    rcases Classical.em (Head d e h) with H | H
    · rw [pI_t H]
      refine l123_ok hG hh 64 100 σ1 _ (by omega) (by omega) a2 a3 a4 ?_ (Or.inr ⟨H, rfl⟩) (fun a ha => Or.inl ha)
      rintro b (q | ⟨q, rfl⟩)
      · exact InL.back q
      · exact InL.self q
    · rw [pI_f H]
      refine ⟨0, σ1, ?_, a2, a3, rfl, fun b hb => (a4 b hb).trans (pI_congr ⟨?_, ?_⟩)⟩
      · rw [lp_Model_loops_123_s, if_pos rfl]
      · rintro (q | q)
        · exact absurd ⟨b, q⟩ H
        · exact absurd q.1 H
      · intro q
        exact absurd q.1 H
  obtain ⟨v2, σ2, b1, b2, b3, b4, b5⟩ := st
  obtain ⟨v3, σ3, c1, c2, c3, c4, c5⟩ := l280_ok hG b2 hh b3 b5 (by rw [b4, a5, pk_us])
  refine ⟨σ3, ?_, c2, c3, c4, fun c hc => ?_⟩
  · unfold f_Model_loops
    rw [gdN (k := h) (by omega) (by decide), nI_clamp (n := h) (by omega), a1, Option.bind_some, a2.head h hh, Lt_eq, b1, Option.bind_some, c1]
    rfl
  · rw [c5 c hc, b4, a5, pk_un hc]
abbrev GoodM (σ : SM) (n : Nat) (d : Nat → Nat) (e : Nat → Nat → Nat) : Prop := (LpM σ n d e) ∧ (RowsM σ n d e n) ∧ (∀ a, a < n → sM_loopSize σ a = nI (cnt (InL d e a) n))
theorem GoodM.lp {σ : SM} {n : Nat} {d : Nat → Nat} {e : Nat → Nat → Nat} (I : GoodM σ n d e) : LpM σ n d e := I.1
theorem GoodM.rows {σ : SM} {n : Nat} {d : Nat → Nat} {e : Nat → Nat → Nat} (I : GoodM σ n d e) : RowsM σ n d e n := I.2.1
theorem GoodM.size {σ : SM} {n : Nat} {d : Nat → Nat} {e : Nat → Nat → Nat} (I : GoodM σ n d e) : ∀ a, a < n → sM_loopSize σ a = nI (cnt (InL d e a) n) := I.2.2
theorem GoodM.u_thrown {σ : SM} {n : Nat} {d : Nat → Nat} {e : Nat → Nat → Nat} {v} (h : GoodM σ n d e) : GoodM (uM_thrown σ v) n d e := h
theorem r204_ok {n : Nat} {d : Nat → Nat} {e : Nat → Nat → Nat} (hG : Gr n d e) {σ : SM} (hM : LpM σ n d e) : ∃ v σ', lp_Model_reckon_204 100 σ 0 = some (v, σ') ∧ GoodM σ' n d e := by
  have g2 := hG.2.1
  refine Exists.elim (loopN (lp := lp_Model_reckon_204) (N := n) (Inv := fun j s => LpM s n d e ∧ RowsM s n d e j ∧ ∀ a, a < j → sM_loopSize s a = nI (cnt (InL d e a) n)) (done := fun s => (nI n, s)) (fun f s hI => ?_) (fun f j s hj hI => ?_) n 100 0 σ (by omega) (by omega) ⟨hM, fun a ha => absurd ha (Nat.not_lt_zero a), fun a ha => absurd ha (Nat.not_lt_zero a)⟩) (fun s' hs' => ?_)
  · rw [lp_Model_reckon_204_s, hI.1.bas.web.blocks, if_pos (nI_le (Nat.le_refl _) (by omega))]
  · obtain ⟨i1, i2, i3⟩ := hI
    obtain ⟨σ', j1, j2, j3, j4, j5⟩ := loops_ok hG i1 hj i2
    refine ⟨σ', ?_, j2, j3, fun a ha => ?_⟩
    · rw [lp_Model_reckon_204_s, i1.bas.web.blocks, if_neg (nI_ge hj (by omega)), j1, Option.bind_some, nI_1]
    · by_cases haj : a = j
      · rw [haj]; exact j4
      · rw [j5 a haj]; exact i3 a (by omega)
  · exact ⟨nI n, s', hs'.1, hs'.2.1, hs'.2.2.1, hs'.2.2.2⟩
theorem reckon_ok {n : Nat} {d : Nat → Nat} {e : Nat → Nat → Nat} (hG : Gr n d e) {σ : SM} (hM : WebM σ n d e) (h0 : sM_isDone σ = 0) : ∃ σ', f_Model_reckon σ = some σ' ∧ GoodM σ' n d e := by
  obtain ⟨σ1, a1, a2, a3⟩ := orders_ok hG (σ := uM_isDone σ 1) ⟨hM.1, hM.2.1, hM.2.2, rfl⟩
  obtain ⟨v2, σ2, b1, b2, b3, b4⟩ := r19_ok hG a2 a3
  obtain ⟨v3, σ3, c1, c2, c3⟩ := r40_ok hG (σ := σ2) ⟨b2, b3, b4⟩
  obtain ⟨v4, σ4, d1, d2, d3, d4⟩ := r120_ok hG c2 c3
  obtain ⟨v5, σ5, e1, e2, e3, e4⟩ := r143_ok hG d2 d3 d4
  obtain ⟨v6, σ6, f1, f2⟩ := r204_ok hG (σ := σ5) ⟨e2, e3, e4⟩
  refine ⟨σ6, ?_, f2⟩
  unfold f_Model_reckon
  rw [h0, if_pos rfl, a1, Option.bind_some, b1, Option.bind_some, c1, Option.bind_some, d1, Option.bind_some, e1, Option.bind_some, f1]
  rfl
