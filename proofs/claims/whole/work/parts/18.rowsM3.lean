-- written by wip/gen (blockruler.py)
set_option maxHeartbeats 4000000 in
set_option maxRecDepth 100000 in
theorem lpW_Model_reckon_19 {p : Program} {l : Launch} {e : Env} {s : State} {m : MethodId} {args : Array Value} {below : List Frame} {meth : Method} {c : Code} {Q : State → Prop} {dC : Nat → ClassId} {dI : Nat → Nat → Nat} {a : Nat → Nat} {cs : Nat → ClassId} {A : Nat → Prop} (C0 : Cx "BlockRulerModel" b_Model_reckon 3 p s m args meth c) (hK : va_K (dC, dI) classes (tyM cs) s) (hN : NW s) (hA : ∀ q : Nat, s.heap.size ≤ q → A q) : ∀ (n : Nat) (σ : SM) (v1 : Int32) (y : Int32 × SM), lp_Model_reckon_19 n σ v1 = some y → ∀ (H : Heap) (locs : List Loc) (ls : Array Slot), va_P (dC, dI) classes (wsM a cs σ) H → va_D A (wsM a cs σ) → va_S A s.heap H locs → lv_has ls 3 [(0, .ref (a 0)), (1, .int v1)] → (∀ (H : Heap) (locs : List Loc) (ls : Array Slot), va_P (dC, dI) classes (wsM a cs y.2) H → va_D A (wsM a cs y.2) → va_S A s.heap H locs → lv_has ls 3 [(0, .ref (a 0)), (1, .int y.1)] → W p l e (headSpec w_Model_reckon rm_Model_reckon).room s m args below meth c H locs 0 0 Q (F0 m 38 ls [])) → W p l e (headSpec w_Model_reckon rm_Model_reckon).room s m args below meth c H locs 0 0 Q (F0 m 19 ls []) := by
  have C1 := C0
  obtain ⟨hx, hb, hml, hown, hg, hlocks⟩ := C1
  intro n
  induction n with
  | zero => intro σ v1 y h; exact absurd (show (none : Option (Int32 × SM)) = some y from h) (fun q => by cases q)
  | succ n ih =>
    intro σ v1 y h H locs ls hP hD hS hl k0
    rw [lp_Model_reckon_19_s] at h
    refine lv_iload_n hx hb d_Model_reckon_19 rfl (lv_at hl 1 rfl) ?_
    refine lv_aload_n hx hb d_Model_reckon_20 rfl (lv_at hl 0 rfl) ?_
    refine va_get (D := (dC, dI)) (ci := 5) (v := .int (sM_blocks σ)) (C := "BlockRulerModel") (T := F_Model) (N := 16) hx hb hg i_Model hown hK hP 0 rfl rfl 1 (by decide) (hg _ wd211) (fun _ h9 => h9) rfl d_Model_reckon_21 ?_
    refine lv_icmp_ge (tgt := 38) hx hb d_Model_reckon_24 (by decide) (fun c3 => ?_) (fun c3 => ?_)
    · have h := b_t h c3
      obtain rfl := Option.some.inj h
      exact k0 _ _ ls hP hD hS (lv_sub hl [0, 1] rfl)
    · have h := b_f h c3
      refine lv_aload_n hx hb d_Model_reckon_27 rfl (lv_at hl 0 rfl) ?_
      refine lv_iload_n hx hb d_Model_reckon_28 rfl (lv_at hl 1 rfl) ?_
      obtain ⟨r4, hr4, h⟩ := bd h
      have hFc := va_free (wc := wsM a cs σ) hD hS hA [0, 1, 2, 3, 4, 5, 6, 7, 8, 9, 10, 11, 12] (allM a cs σ)
      refine va_callv (va_runV (C := "BlockRulerModel") (As := [.int v1]) (rest := []) ⟨hx, hb, hml, hown, hg⟩ (c_Model_leaveOut l dC dI a cs _ σ v1 _ hr4) (cwV 1 hg (gdV wd244 wd243 wd242 wd215 wd245) rfl rfl rfl (by decide +kernel) ⟨Nat.le_of_ble_eq_true rfl, Nat.le_of_ble_eq_true rfl⟩) ⟨wbz_blind, va_recv hK hP (ci := 5) (q0 := 0) rfl rfl, fun U hU hW => ⟨rfl, by rw [hU], wb_preD hU hW hP hK hN hD⟩⟩ rfl rfl hl.1 rfl (lv_room (Nat.le_of_ble_eq_true rfl)) d_Model_reckon_29 ⟨Nat.zero_le _, Nat.zero_le _⟩) hS (fun q _ h => hFc q h) hFc (fun u t H locs ht hvm hw hB hz1 hk1 hS => ?_)
      obtain rfl : r4 = u := hw.symm
      have hP : va_P (dC, dI) classes (wsM a cs r4) H := by have q := hB.1; rw [ht] at q; exact q
      have hD : va_D A (wsM a cs r4) := hB.2.weaken (fun _ _ _ h => hFc _ h)
      refine lv_iinc (v := v1 + 1) (lv' := [(1, .int (v1 + 1)), (0, .ref (a 0))]) hx hb d_Model_reckon_32 hl (k := 1) rfl rfl (by decide) rfl (fun ls hl => ?_)
      refine lv_goto (tgt := 19) hx hb d_Model_reckon_35 (by decide) ?_
      exact ih r4 (v1 + 1) y h _ _ ls hP hD hS (lv_sub hl [1, 0] rfl) k0
set_option maxHeartbeats 4000000 in
set_option maxRecDepth 100000 in
theorem lpW_Model_reckon_57 {p : Program} {l : Launch} {e : Env} {s : State} {m : MethodId} {args : Array Value} {below : List Frame} {meth : Method} {c : Code} {Q : State → Prop} {dC : Nat → ClassId} {dI : Nat → Nat → Nat} {a : Nat → Nat} {cs : Nat → ClassId} {A : Nat → Prop} (C0 : Cx "BlockRulerModel" b_Model_reckon 3 p s m args meth c) (hK : va_K (dC, dI) classes (tyM cs) s) (hN : NW s) (hA : ∀ q : Nat, s.heap.size ≤ q → A q) : ∀ (n : Nat) (σ : SM) (v1 : Int32) (v2 : Int32) (y : Int32 × SM), lp_Model_reckon_57 n σ v1 v2 = some y → ∀ (H : Heap) (locs : List Loc) (ls : Array Slot), va_P (dC, dI) classes (wsM a cs σ) H → va_D A (wsM a cs σ) → va_S A s.heap H locs → lv_has ls 3 [(0, .ref (a 0)), (1, .int v1), (2, .int v2)] → (∀ (H : Heap) (locs : List Loc) (ls : Array Slot), va_P (dC, dI) classes (wsM a cs y.2) H → va_D A (wsM a cs y.2) → va_S A s.heap H locs → lv_has ls 3 [(0, .ref (a 0)), (1, .int v1), (2, .int y.1)] → W p l e (headSpec w_Model_reckon rm_Model_reckon).room s m args below meth c H locs 0 0 Q (F0 m 112 ls [])) → W p l e (headSpec w_Model_reckon rm_Model_reckon).room s m args below meth c H locs 0 0 Q (F0 m 57 ls []) := by
  have C1 := C0
  obtain ⟨hx, hb, hml, hown, hg, hlocks⟩ := C1
  intro n
  induction n with
  | zero => intro σ v1 v2 y h; exact absurd (show (none : Option (Int32 × SM)) = some y from h) (fun q => by cases q)
  | succ n ih =>
    intro σ v1 v2 y h H locs ls hP hD hS hl k0
    rw [lp_Model_reckon_57_s] at h
    refine lv_iload_n hx hb d_Model_reckon_57 rfl (lv_at hl 2 rfl) ?_
    refine lv_aload_n hx hb d_Model_reckon_58 rfl (lv_at hl 0 rfl) ?_
    refine va_get (D := (dC, dI)) (ci := 5) (v := .int (sM_reached σ)) (C := "BlockRulerModel") (T := F_Model) (N := 16) hx hb hg i_Model hown hK hP 0 rfl rfl 5 (by decide) (hg _ wd230) (fun _ h9 => h9) rfl d_Model_reckon_59 ?_
    refine lv_icmp_ge (tgt := 112) hx hb d_Model_reckon_62 (by decide) (fun c8 => ?_) (fun c8 => ?_)
    · have h := b_t h c8
      obtain rfl := Option.some.inj h
      exact k0 _ _ ls hP hD hS (lv_sub hl [0, 1, 2] rfl)
    · have h := b_f h c8
      refine lv_aload_n hx hb d_Model_reckon_65 rfl (lv_at hl 0 rfl) ?_
      refine va_get (D := (dC, dI)) (ci := 5) (v := .ref (a 4)) (C := "BlockRulerModel") (T := F_Model) (N := 16) hx hb hg i_Model hown hK hP 0 rfl rfl 7 (by decide) (hg _ wd229) (fun _ h9 => h9) rfl d_Model_reckon_66 ?_
      refine lv_iload_n hx hb d_Model_reckon_69 rfl (lv_at hl 2 rfl) ?_
      obtain ⟨hi9, h⟩ := gd h
      refine va_iald (f := sM_at σ) (n := 64) hx hb hK hP 4 3 rfl rfl hi9 d_Model_reckon_70 ?_
      refine lv_iload_n hx hb d_Model_reckon_71 rfl (lv_at hl 1 rfl) ?_
      refine lv_icmp_eq (tgt := 106) hx hb d_Model_reckon_72 (by decide) (fun c10 => ?_) (fun c10 => ?_)
      · have h := b_t h c10
        refine lv_iinc (v := v2 + 1) (lv' := [(2, .int (v2 + 1)), (0, .ref (a 0)), (1, .int v1)]) hx hb d_Model_reckon_106 hl (k := 2) rfl rfl (by decide) rfl (fun ls hl => ?_)
        refine lv_goto (tgt := 57) hx hb d_Model_reckon_109 (by decide) ?_
        exact ih σ v1 (v2 + 1) y h _ _ ls hP hD hS (lv_sub hl [1, 2, 0] rfl) k0
      · have h := b_f h c10
        refine lv_aload_n hx hb d_Model_reckon_75 rfl (lv_at hl 0 rfl) ?_
        refine va_get (D := (dC, dI)) (ci := 5) (v := .ref (a 5)) (C := "BlockRulerModel") (T := F_Model) (N := 16) hx hb hg i_Model hown hK hP 0 rfl rfl 8 (by decide) (hg _ wd225) (fun _ h9 => h9) rfl d_Model_reckon_76 ?_
        refine lv_bipush (v := 64) hx hb d_Model_reckon_79 (by decide) ?_
        refine lv_aload_n hx hb d_Model_reckon_81 rfl (lv_at hl 0 rfl) ?_
        refine va_get (D := (dC, dI)) (ci := 5) (v := .ref (a 4)) (C := "BlockRulerModel") (T := F_Model) (N := 16) hx hb hg i_Model hown hK hP 0 rfl rfl 7 (by decide) (hg _ wd229) (fun _ h9 => h9) rfl d_Model_reckon_82 ?_
        refine lv_iload_n hx hb d_Model_reckon_85 rfl (lv_at hl 2 rfl) ?_
        refine va_iald (f := sM_at σ) (n := 64) hx hb hK hP 4 3 rfl rfl hi9 d_Model_reckon_86 ?_
        refine lv_imul hx hb d_Model_reckon_87 ?_
        refine lv_iload_n hx hb d_Model_reckon_88 rfl (lv_at hl 1 rfl) ?_
        refine lv_iadd hx hb d_Model_reckon_89 ?_
        obtain ⟨hi11, h⟩ := gd h
        refine va_zald (f := sM_rules σ) (n := 4096) hx hb hK hP 5 4 rfl rfl hi11 d_Model_reckon_90 ?_
        refine lv_if_eq (tgt := 106) hx hb d_Model_reckon_91 (by decide) (fun c12 => ?_) (fun c12 => ?_)
        · have h := b_t h c12
          refine lv_iinc (v := v2 + 1) (lv' := [(2, .int (v2 + 1)), (0, .ref (a 0)), (1, .int v1)]) hx hb d_Model_reckon_106 hl (k := 2) rfl rfl (by decide) rfl (fun ls hl => ?_)
          refine lv_goto (tgt := 57) hx hb d_Model_reckon_109 (by decide) ?_
          exact ih σ v1 (v2 + 1) y h _ _ ls hP hD hS (lv_sub hl [1, 2, 0] rfl) k0
        · have h := b_f h c12
          refine lv_aload_n hx hb d_Model_reckon_94 rfl (lv_at hl 0 rfl) ?_
          refine va_get (D := (dC, dI)) (ci := 5) (v := .ref (a 6)) (C := "BlockRulerModel") (T := F_Model) (N := 16) hx hb hg i_Model hown hK hP 0 rfl rfl 9 (by decide) (hg _ wd246) (fun _ h9 => h9) rfl d_Model_reckon_95 ?_
          refine lv_iload_n hx hb d_Model_reckon_98 rfl (lv_at hl 1 rfl) ?_
          refine lv_aload_n hx hb d_Model_reckon_99 rfl (lv_at hl 0 rfl) ?_
          refine va_get (D := (dC, dI)) (ci := 5) (v := .ref (a 4)) (C := "BlockRulerModel") (T := F_Model) (N := 16) hx hb hg i_Model hown hK hP 0 rfl rfl 7 (by decide) (hg _ wd229) (fun _ h9 => h9) rfl d_Model_reckon_100 ?_
          refine lv_iload_n hx hb d_Model_reckon_103 rfl (lv_at hl 2 rfl) ?_
          refine va_iald (f := sM_at σ) (n := 64) hx hb hK hP 4 3 rfl rfl hi9 d_Model_reckon_104 ?_
          obtain ⟨hi13, h⟩ := gd h
          refine va_iast (f := sM_parent σ) (n := 64) hx hb hK hP hD hS 6 5 rfl rfl hi13 d_Model_reckon_105 (fun H locs hP hD hS => ?_)
          have hP := va_Pe (setM_parent a cs σ (upd (sM_parent σ) (Int32.toNatClampNeg v1) (sM_at σ (Int32.toNatClampNeg v2)))) hP
          have hD := va_De (setM_parent a cs σ (upd (sM_parent σ) (Int32.toNatClampNeg v1) (sM_at σ (Int32.toNatClampNeg v2)))) hD
          refine lv_iinc (v := v2 + 1) (lv' := [(2, .int (v2 + 1)), (0, .ref (a 0)), (1, .int v1)]) hx hb d_Model_reckon_106 hl (k := 2) rfl rfl (by decide) rfl (fun ls hl => ?_)
          refine lv_goto (tgt := 57) hx hb d_Model_reckon_109 (by decide) ?_
          exact ih (uM_parent σ (upd (sM_parent σ) (Int32.toNatClampNeg v1) (sM_at σ (Int32.toNatClampNeg v2)))) v1 (v2 + 1) y h _ _ ls hP hD hS (lv_sub hl [1, 2, 0] rfl) k0
set_option maxHeartbeats 4000000 in
set_option maxRecDepth 100000 in
theorem lpW_Model_reckon_40 {p : Program} {l : Launch} {e : Env} {s : State} {m : MethodId} {args : Array Value} {below : List Frame} {meth : Method} {c : Code} {Q : State → Prop} {dC : Nat → ClassId} {dI : Nat → Nat → Nat} {a : Nat → Nat} {cs : Nat → ClassId} {A : Nat → Prop} (C0 : Cx "BlockRulerModel" b_Model_reckon 3 p s m args meth c) (hK : va_K (dC, dI) classes (tyM cs) s) (hN : NW s) (hA : ∀ q : Nat, s.heap.size ≤ q → A q) : ∀ (n : Nat) (σ : SM) (v1 : Int32) (y : Int32 × SM), lp_Model_reckon_40 n σ v1 = some y → ∀ (H : Heap) (locs : List Loc) (ls : Array Slot), va_P (dC, dI) classes (wsM a cs σ) H → va_D A (wsM a cs σ) → va_S A s.heap H locs → lv_has ls 3 [(0, .ref (a 0)), (1, .int v1)] → (∀ (H : Heap) (locs : List Loc) (ls : Array Slot), va_P (dC, dI) classes (wsM a cs y.2) H → va_D A (wsM a cs y.2) → va_S A s.heap H locs → lv_has ls 3 [(0, .ref (a 0)), (1, .int y.1)] → W p l e (headSpec w_Model_reckon rm_Model_reckon).room s m args below meth c H locs 0 0 Q (F0 m 118 ls [])) → W p l e (headSpec w_Model_reckon rm_Model_reckon).room s m args below meth c H locs 0 0 Q (F0 m 40 ls []) := by
  have C1 := C0
  obtain ⟨hx, hb, hml, hown, hg, hlocks⟩ := C1
  intro n
  induction n with
  | zero => intro σ v1 y h; exact absurd (show (none : Option (Int32 × SM)) = some y from h) (fun q => by cases q)
  | succ n ih =>
    intro σ v1 y h H locs ls hP hD hS hl k0
    rw [lp_Model_reckon_40_s] at h
    refine lv_iload_n hx hb d_Model_reckon_40 rfl (lv_at hl 1 rfl) ?_
    refine lv_aload_n hx hb d_Model_reckon_41 rfl (lv_at hl 0 rfl) ?_
    refine va_get (D := (dC, dI)) (ci := 5) (v := .int (sM_blocks σ)) (C := "BlockRulerModel") (T := F_Model) (N := 16) hx hb hg i_Model hown hK hP 0 rfl rfl 1 (by decide) (hg _ wd211) (fun _ h9 => h9) rfl d_Model_reckon_42 ?_
    refine lv_icmp_ge (tgt := 118) hx hb d_Model_reckon_45 (by decide) (fun c6 => ?_) (fun c6 => ?_)
    · have h := b_t h c6
      obtain rfl := Option.some.inj h
      exact k0 _ _ ls hP hD hS (lv_sub hl [0, 1] rfl)
    · have h := b_f h c6
      refine lv_aload_n hx hb d_Model_reckon_48 rfl (lv_at hl 0 rfl) ?_
      refine va_get (D := (dC, dI)) (ci := 5) (v := .ref (a 6)) (C := "BlockRulerModel") (T := F_Model) (N := 16) hx hb hg i_Model hown hK hP 0 rfl rfl 9 (by decide) (hg _ wd246) (fun _ h9 => h9) rfl d_Model_reckon_49 ?_
      refine lv_iload_n hx hb d_Model_reckon_52 rfl (lv_at hl 1 rfl) ?_
      refine lv_iconst (v := -1) hx hb d_Model_reckon_53 (by decide) ?_
      obtain ⟨hi7, h⟩ := gd h
      refine va_iast (f := sM_parent σ) (n := 64) hx hb hK hP hD hS 6 5 rfl rfl hi7 d_Model_reckon_54 (fun H locs hP hD hS => ?_)
      have hP := va_Pe (setM_parent a cs σ (upd (sM_parent σ) (Int32.toNatClampNeg v1) (-1))) hP
      have hD := va_De (setM_parent a cs σ (upd (sM_parent σ) (Int32.toNatClampNeg v1) (-1))) hD
      refine lv_iconst (v := 0) hx hb d_Model_reckon_55 (by decide) ?_
      refine lv_istore_n (lv' := [(2, .int 0), (0, .ref (a 0)), (1, .int v1)]) hx hb d_Model_reckon_56 rfl hl (by decide) rfl (fun ls hl => ?_)
      obtain ⟨y14, hy14, h⟩ := bd h
      refine lpW_Model_reckon_57 C0 hK hN hA 100 (uM_parent σ (upd (sM_parent σ) (Int32.toNatClampNeg v1) (-1))) v1 0 y14 hy14 _ _ ls hP hD hS (lv_sub hl [1, 2, 0] rfl) (fun H locs ls hP hD hS hl => ?_)
      refine lv_iinc (v := v1 + 1) (lv' := [(1, .int (v1 + 1)), (0, .ref (a 0)), (2, .int y14.1)]) hx hb d_Model_reckon_112 hl (k := 1) rfl rfl (by decide) rfl (fun ls hl => ?_)
      refine lv_goto (tgt := 40) hx hb d_Model_reckon_115 (by decide) ?_
      exact ih y14.2 (v1 + 1) y h _ _ ls hP hD hS (lv_sub hl [1, 0] rfl) k0
set_option maxHeartbeats 4000000 in
set_option maxRecDepth 100000 in
theorem lpW_Model_reckon_120 {p : Program} {l : Launch} {e : Env} {s : State} {m : MethodId} {args : Array Value} {below : List Frame} {meth : Method} {c : Code} {Q : State → Prop} {dC : Nat → ClassId} {dI : Nat → Nat → Nat} {a : Nat → Nat} {cs : Nat → ClassId} {A : Nat → Prop} (C0 : Cx "BlockRulerModel" b_Model_reckon 3 p s m args meth c) (hK : va_K (dC, dI) classes (tyM cs) s) (hN : NW s) (hA : ∀ q : Nat, s.heap.size ≤ q → A q) : ∀ (n : Nat) (σ : SM) (v1 : Int32) (y : Int32 × SM), lp_Model_reckon_120 n σ v1 = some y → ∀ (H : Heap) (locs : List Loc) (ls : Array Slot), va_P (dC, dI) classes (wsM a cs σ) H → va_D A (wsM a cs σ) → va_S A s.heap H locs → lv_has ls 3 [(0, .ref (a 0)), (1, .int v1)] → (∀ (H : Heap) (locs : List Loc) (ls : Array Slot), va_P (dC, dI) classes (wsM a cs y.2) H → va_D A (wsM a cs y.2) → va_S A s.heap H locs → lv_has ls 3 [(0, .ref (a 0)), (1, .int y.1)] → W p l e (headSpec w_Model_reckon rm_Model_reckon).room s m args below meth c H locs 0 0 Q (F0 m 141 ls [])) → W p l e (headSpec w_Model_reckon rm_Model_reckon).room s m args below meth c H locs 0 0 Q (F0 m 120 ls []) := by
  have C1 := C0
  obtain ⟨hx, hb, hml, hown, hg, hlocks⟩ := C1
  intro n
  induction n with
  | zero => intro σ v1 y h; exact absurd (show (none : Option (Int32 × SM)) = some y from h) (fun q => by cases q)
  | succ n ih =>
    intro σ v1 y h H locs ls hP hD hS hl k0
    rw [lp_Model_reckon_120_s] at h
    refine lv_iload_n hx hb d_Model_reckon_120 rfl (lv_at hl 1 rfl) ?_
    refine lv_aload_n hx hb d_Model_reckon_121 rfl (lv_at hl 0 rfl) ?_
    refine va_get (D := (dC, dI)) (ci := 5) (v := .int (sM_blocks σ)) (C := "BlockRulerModel") (T := F_Model) (N := 16) hx hb hg i_Model hown hK hP 0 rfl rfl 1 (by decide) (hg _ wd211) (fun _ h9 => h9) rfl d_Model_reckon_122 ?_
    refine lv_icmp_ge (tgt := 141) hx hb d_Model_reckon_125 (by decide) (fun c16 => ?_) (fun c16 => ?_)
    · have h := b_t h c16
      obtain rfl := Option.some.inj h
      exact k0 _ _ ls hP hD hS (lv_sub hl [0, 1] rfl)
    · have h := b_f h c16
      refine lv_aload_n hx hb d_Model_reckon_128 rfl (lv_at hl 0 rfl) ?_
      refine va_get (D := (dC, dI)) (ci := 5) (v := .ref (a 7)) (C := "BlockRulerModel") (T := F_Model) (N := 16) hx hb hg i_Model hown hK hP 0 rfl rfl 10 (by decide) (hg _ wd237) (fun _ h9 => h9) rfl d_Model_reckon_129 ?_
      refine lv_iload_n hx hb d_Model_reckon_132 rfl (lv_at hl 1 rfl) ?_
      refine lv_iconst (v := 0) hx hb d_Model_reckon_133 (by decide) ?_
      obtain ⟨hi17, h⟩ := gd h
      refine va_zast (f := sM_isHead σ) (n := 64) hx hb hK hP hD hS 7 6 rfl rfl hi17 d_Model_reckon_134 (fun H locs hP hD hS => ?_)
      have hP := va_Pe (setM_isHead a cs σ (upd (sM_isHead σ) (Int32.toNatClampNeg v1) (vp_nar .boolean 0))) hP
      have hD := va_De (setM_isHead a cs σ (upd (sM_isHead σ) (Int32.toNatClampNeg v1) (vp_nar .boolean 0))) hD
      refine lv_iinc (v := v1 + 1) (lv' := [(1, .int (v1 + 1)), (0, .ref (a 0))]) hx hb d_Model_reckon_135 hl (k := 1) rfl rfl (by decide) rfl (fun ls hl => ?_)
      refine lv_goto (tgt := 120) hx hb d_Model_reckon_138 (by decide) ?_
      exact ih (uM_isHead σ (upd (sM_isHead σ) (Int32.toNatClampNeg v1) (vp_nar .boolean 0))) (v1 + 1) y h _ _ ls hP hD hS (lv_sub hl [1, 0] rfl) k0
set_option maxHeartbeats 4000000 in
set_option maxRecDepth 100000 in
theorem lpW_Model_reckon_153 {p : Program} {l : Launch} {e : Env} {s : State} {m : MethodId} {args : Array Value} {below : List Frame} {meth : Method} {c : Code} {Q : State → Prop} {dC : Nat → ClassId} {dI : Nat → Nat → Nat} {a : Nat → Nat} {cs : Nat → ClassId} {A : Nat → Prop} (C0 : Cx "BlockRulerModel" b_Model_reckon 3 p s m args meth c) (hK : va_K (dC, dI) classes (tyM cs) s) (hN : NW s) (hA : ∀ q : Nat, s.heap.size ≤ q → A q) : ∀ (n : Nat) (σ : SM) (v1 : Int32) (v2 : Int32) (y : Int32 × SM), lp_Model_reckon_153 n σ v1 v2 = some y → ∀ (H : Heap) (locs : List Loc) (ls : Array Slot), va_P (dC, dI) classes (wsM a cs σ) H → va_D A (wsM a cs σ) → va_S A s.heap H locs → lv_has ls 3 [(0, .ref (a 0)), (1, .int v1), (2, .int v2)] → (∀ (H : Heap) (locs : List Loc) (ls : Array Slot), va_P (dC, dI) classes (wsM a cs y.2) H → va_D A (wsM a cs y.2) → va_S A s.heap H locs → lv_has ls 3 [(0, .ref (a 0)), (1, .int v1), (2, .int y.1)] → W p l e (headSpec w_Model_reckon rm_Model_reckon).room s m args below meth c H locs 0 0 Q (F0 m 196 ls [])) → W p l e (headSpec w_Model_reckon rm_Model_reckon).room s m args below meth c H locs 0 0 Q (F0 m 153 ls []) := by
  have C1 := C0
  obtain ⟨hx, hb, hml, hown, hg, hlocks⟩ := C1
  intro n
  induction n with
  | zero => intro σ v1 v2 y h; exact absurd (show (none : Option (Int32 × SM)) = some y from h) (fun q => by cases q)
  | succ n ih =>
    intro σ v1 v2 y h H locs ls hP hD hS hl k0
    rw [lp_Model_reckon_153_s] at h
    refine lv_iload_n hx hb d_Model_reckon_153 rfl (lv_at hl 2 rfl) ?_
    refine lv_aload_n hx hb d_Model_reckon_154 rfl (lv_at hl 0 rfl) ?_
    refine va_get (D := (dC, dI)) (ci := 5) (v := .ref (a 1)) (C := "BlockRulerModel") (T := F_Model) (N := 16) hx hb hg i_Model hown hK hP 0 rfl rfl 2 (by decide) (hg _ wd217) (fun _ h9 => h9) rfl d_Model_reckon_155 ?_
    refine lv_iload_n hx hb d_Model_reckon_158 rfl (lv_at hl 1 rfl) ?_
    obtain ⟨hi20, h⟩ := gd h
    refine va_iald (f := sM_many σ) (n := 64) hx hb hK hP 1 0 rfl rfl hi20 d_Model_reckon_159 ?_
    refine lv_icmp_ge (tgt := 196) hx hb d_Model_reckon_160 (by decide) (fun c21 => ?_) (fun c21 => ?_)
    · have h := b_t h c21
      obtain rfl := Option.some.inj h
      exact k0 _ _ ls hP hD hS (lv_sub hl [0, 1, 2] rfl)
    · have h := b_f h c21
      refine lv_aload_n hx hb d_Model_reckon_163 rfl (lv_at hl 0 rfl) ?_
      refine lv_iload_n hx hb d_Model_reckon_164 rfl (lv_at hl 1 rfl) ?_
      refine lv_iload_n hx hb d_Model_reckon_165 rfl (lv_at hl 2 rfl) ?_
      obtain ⟨r22, hr22, h⟩ := bd h
      refine ro_call (v := .int r22) (va_runV (C := "BlockRulerModel") (As := [.int v1, .int v2]) (rest := []) ⟨hx, hb, hml, hown, hg⟩ (c_Model_sortOf l dC dI a cs σ v1 v2 _ hr22) (cwV 2 hg (gdV wd234 wd233 wd232 wd215 wd235) rfl rfl rfl (by decide +kernel) ⟨Nat.le_of_ble_eq_true rfl, Nat.le_of_ble_eq_true rfl⟩) ⟨wb_blind, va_recv hK hP (ci := 5) (q0 := 0) rfl rfl, fun U hU hW => ⟨rfl, wb_pre hU hW hP hK hN⟩⟩ rfl rfl hl.1 rfl (lv_room (Nat.le_of_ble_eq_true rfl)) d_Model_reckon_166 ⟨Nat.zero_le _, Nat.zero_le _⟩) ?_
      refine lv_iconst (v := 1) hx hb d_Model_reckon_169 (by decide) ?_
      refine lv_icmp_ne (tgt := 190) hx hb d_Model_reckon_170 (by decide) (fun c23 => ?_) (fun c23 => ?_)
      · have h := b_f h c23
        refine lv_iinc (v := v2 + 1) (lv' := [(2, .int (v2 + 1)), (0, .ref (a 0)), (1, .int v1)]) hx hb d_Model_reckon_190 hl (k := 2) rfl rfl (by decide) rfl (fun ls hl => ?_)
        refine lv_goto (tgt := 153) hx hb d_Model_reckon_193 (by decide) ?_
        exact ih σ v1 (v2 + 1) y h _ _ ls hP hD hS (lv_sub hl [1, 2, 0] rfl) k0
      · have h := b_t h c23
        refine lv_aload_n hx hb d_Model_reckon_173 rfl (lv_at hl 0 rfl) ?_
        refine va_get (D := (dC, dI)) (ci := 5) (v := .ref (a 7)) (C := "BlockRulerModel") (T := F_Model) (N := 16) hx hb hg i_Model hown hK hP 0 rfl rfl 10 (by decide) (hg _ wd237) (fun _ h9 => h9) rfl d_Model_reckon_174 ?_
        refine lv_aload_n hx hb d_Model_reckon_177 rfl (lv_at hl 0 rfl) ?_
        refine va_get (D := (dC, dI)) (ci := 5) (v := .ref (a 2)) (C := "BlockRulerModel") (T := F_Model) (N := 16) hx hb hg i_Model hown hK hP 0 rfl rfl 3 (by decide) (hg _ wd219) (fun _ h9 => h9) rfl d_Model_reckon_178 ?_
        refine lv_bipush (v := 8) hx hb d_Model_reckon_181 (by decide) ?_
        refine lv_iload_n hx hb d_Model_reckon_183 rfl (lv_at hl 1 rfl) ?_
        refine lv_imul hx hb d_Model_reckon_184 ?_
        refine lv_iload_n hx hb d_Model_reckon_185 rfl (lv_at hl 2 rfl) ?_
        refine lv_iadd hx hb d_Model_reckon_186 ?_
        obtain ⟨hi24, h⟩ := gd h
        refine va_iald (f := sM_ends σ) (n := 512) hx hb hK hP 2 1 rfl rfl hi24 d_Model_reckon_187 ?_
        refine lv_iconst (v := 1) hx hb d_Model_reckon_188 (by decide) ?_
        obtain ⟨hi25, h⟩ := gd h
        refine va_zast (f := sM_isHead σ) (n := 64) hx hb hK hP hD hS 7 6 rfl rfl hi25 d_Model_reckon_189 (fun H locs hP hD hS => ?_)
        have hP := va_Pe (setM_isHead a cs σ (upd (sM_isHead σ) (Int32.toNatClampNeg (sM_ends σ (Int32.toNatClampNeg ((8 * v1) + v2)))) (vp_nar .boolean 1))) hP
        have hD := va_De (setM_isHead a cs σ (upd (sM_isHead σ) (Int32.toNatClampNeg (sM_ends σ (Int32.toNatClampNeg ((8 * v1) + v2)))) (vp_nar .boolean 1))) hD
        refine lv_iinc (v := v2 + 1) (lv' := [(2, .int (v2 + 1)), (0, .ref (a 0)), (1, .int v1)]) hx hb d_Model_reckon_190 hl (k := 2) rfl rfl (by decide) rfl (fun ls hl => ?_)
        refine lv_goto (tgt := 153) hx hb d_Model_reckon_193 (by decide) ?_
        exact ih (uM_isHead σ (upd (sM_isHead σ) (Int32.toNatClampNeg (sM_ends σ (Int32.toNatClampNeg ((8 * v1) + v2)))) (vp_nar .boolean 1))) v1 (v2 + 1) y h _ _ ls hP hD hS (lv_sub hl [1, 2, 0] rfl) k0
set_option maxHeartbeats 4000000 in
set_option maxRecDepth 100000 in
theorem lpW_Model_reckon_143 {p : Program} {l : Launch} {e : Env} {s : State} {m : MethodId} {args : Array Value} {below : List Frame} {meth : Method} {c : Code} {Q : State → Prop} {dC : Nat → ClassId} {dI : Nat → Nat → Nat} {a : Nat → Nat} {cs : Nat → ClassId} {A : Nat → Prop} (C0 : Cx "BlockRulerModel" b_Model_reckon 3 p s m args meth c) (hK : va_K (dC, dI) classes (tyM cs) s) (hN : NW s) (hA : ∀ q : Nat, s.heap.size ≤ q → A q) : ∀ (n : Nat) (σ : SM) (v1 : Int32) (y : Int32 × SM), lp_Model_reckon_143 n σ v1 = some y → ∀ (H : Heap) (locs : List Loc) (ls : Array Slot), va_P (dC, dI) classes (wsM a cs σ) H → va_D A (wsM a cs σ) → va_S A s.heap H locs → lv_has ls 3 [(0, .ref (a 0)), (1, .int v1)] → (∀ (H : Heap) (locs : List Loc) (ls : Array Slot), va_P (dC, dI) classes (wsM a cs y.2) H → va_D A (wsM a cs y.2) → va_S A s.heap H locs → lv_has ls 3 [(0, .ref (a 0)), (1, .int y.1)] → W p l e (headSpec w_Model_reckon rm_Model_reckon).room s m args below meth c H locs 0 0 Q (F0 m 202 ls [])) → W p l e (headSpec w_Model_reckon rm_Model_reckon).room s m args below meth c H locs 0 0 Q (F0 m 143 ls []) := by
  have C1 := C0
  obtain ⟨hx, hb, hml, hown, hg, hlocks⟩ := C1
  intro n
  induction n with
  | zero => intro σ v1 y h; exact absurd (show (none : Option (Int32 × SM)) = some y from h) (fun q => by cases q)
  | succ n ih =>
    intro σ v1 y h H locs ls hP hD hS hl k0
    rw [lp_Model_reckon_143_s] at h
    refine lv_iload_n hx hb d_Model_reckon_143 rfl (lv_at hl 1 rfl) ?_
    refine lv_aload_n hx hb d_Model_reckon_144 rfl (lv_at hl 0 rfl) ?_
    refine va_get (D := (dC, dI)) (ci := 5) (v := .int (sM_blocks σ)) (C := "BlockRulerModel") (T := F_Model) (N := 16) hx hb hg i_Model hown hK hP 0 rfl rfl 1 (by decide) (hg _ wd211) (fun _ h9 => h9) rfl d_Model_reckon_145 ?_
    refine lv_icmp_ge (tgt := 202) hx hb d_Model_reckon_148 (by decide) (fun c19 => ?_) (fun c19 => ?_)
    · have h := b_t h c19
      obtain rfl := Option.some.inj h
      exact k0 _ _ ls hP hD hS (lv_sub hl [0, 1] rfl)
    · have h := b_f h c19
      refine lv_iconst (v := 0) hx hb d_Model_reckon_151 (by decide) ?_
      refine lv_istore_n (lv' := [(2, .int 0), (0, .ref (a 0)), (1, .int v1)]) hx hb d_Model_reckon_152 rfl hl (by decide) rfl (fun ls hl => ?_)
      obtain ⟨y26, hy26, h⟩ := bd h
      refine lpW_Model_reckon_153 C0 hK hN hA 100 σ v1 0 y26 hy26 _ _ ls hP hD hS (lv_sub hl [1, 2, 0] rfl) (fun H locs ls hP hD hS hl => ?_)
      refine lv_iinc (v := v1 + 1) (lv' := [(1, .int (v1 + 1)), (0, .ref (a 0)), (2, .int y26.1)]) hx hb d_Model_reckon_196 hl (k := 1) rfl rfl (by decide) rfl (fun ls hl => ?_)
      refine lv_goto (tgt := 143) hx hb d_Model_reckon_199 (by decide) ?_
      exact ih y26.2 (v1 + 1) y h _ _ ls hP hD hS (lv_sub hl [1, 0] rfl) k0
set_option maxHeartbeats 4000000 in
set_option maxRecDepth 100000 in
theorem lpW_Model_reckon_204 {p : Program} {l : Launch} {e : Env} {s : State} {m : MethodId} {args : Array Value} {below : List Frame} {meth : Method} {c : Code} {Q : State → Prop} {dC : Nat → ClassId} {dI : Nat → Nat → Nat} {a : Nat → Nat} {cs : Nat → ClassId} {A : Nat → Prop} (C0 : Cx "BlockRulerModel" b_Model_reckon 3 p s m args meth c) (hK : va_K (dC, dI) classes (tyM cs) s) (hN : NW s) (hA : ∀ q : Nat, s.heap.size ≤ q → A q) : ∀ (n : Nat) (σ : SM) (v1 : Int32) (y : Int32 × SM), lp_Model_reckon_204 n σ v1 = some y → ∀ (H : Heap) (locs : List Loc) (ls : Array Slot), va_P (dC, dI) classes (wsM a cs σ) H → va_D A (wsM a cs σ) → va_S A s.heap H locs → lv_has ls 3 [(0, .ref (a 0)), (1, .int v1)] → (∀ (H : Heap) (locs : List Loc) (ls : Array Slot), va_P (dC, dI) classes (wsM a cs y.2) H → va_D A (wsM a cs y.2) → va_S A s.heap H locs → lv_has ls 3 [(0, .ref (a 0)), (1, .int y.1)] → W p l e (headSpec w_Model_reckon rm_Model_reckon).room s m args below meth c H locs 0 0 Q (F0 m 223 ls [])) → W p l e (headSpec w_Model_reckon rm_Model_reckon).room s m args below meth c H locs 0 0 Q (F0 m 204 ls []) := by
  have C1 := C0
  obtain ⟨hx, hb, hml, hown, hg, hlocks⟩ := C1
  intro n
  induction n with
  | zero => intro σ v1 y h; exact absurd (show (none : Option (Int32 × SM)) = some y from h) (fun q => by cases q)
  | succ n ih =>
    intro σ v1 y h H locs ls hP hD hS hl k0
    rw [lp_Model_reckon_204_s] at h
    refine lv_iload_n hx hb d_Model_reckon_204 rfl (lv_at hl 1 rfl) ?_
    refine lv_aload_n hx hb d_Model_reckon_205 rfl (lv_at hl 0 rfl) ?_
    refine va_get (D := (dC, dI)) (ci := 5) (v := .int (sM_blocks σ)) (C := "BlockRulerModel") (T := F_Model) (N := 16) hx hb hg i_Model hown hK hP 0 rfl rfl 1 (by decide) (hg _ wd211) (fun _ h9 => h9) rfl d_Model_reckon_206 ?_
    refine lv_icmp_ge (tgt := 223) hx hb d_Model_reckon_209 (by decide) (fun c28 => ?_) (fun c28 => ?_)
    · have h := b_t h c28
      obtain rfl := Option.some.inj h
      exact k0 _ _ ls hP hD hS (lv_sub hl [0, 1] rfl)
    · have h := b_f h c28
      refine lv_aload_n hx hb d_Model_reckon_212 rfl (lv_at hl 0 rfl) ?_
      refine lv_iload_n hx hb d_Model_reckon_213 rfl (lv_at hl 1 rfl) ?_
      obtain ⟨r29, hr29, h⟩ := bd h
      have hFc := va_free (wc := wsM a cs σ) hD hS hA [0, 1, 2, 3, 4, 5, 6, 7, 8, 9, 10, 11, 12] (allM a cs σ)
      refine va_callv (va_runV (C := "BlockRulerModel") (As := [.int v1]) (rest := []) ⟨hx, hb, hml, hown, hg⟩ (c_Model_loops l dC dI a cs _ σ v1 _ hr29) (cwV 1 hg (gdV wd249 wd248 wd247 wd215 wd250) rfl rfl rfl (by decide +kernel) ⟨Nat.le_of_ble_eq_true rfl, Nat.le_of_ble_eq_true rfl⟩) ⟨wbz_blind, va_recv hK hP (ci := 5) (q0 := 0) rfl rfl, fun U hU hW => ⟨rfl, by rw [hU], wb_preD hU hW hP hK hN hD⟩⟩ rfl rfl hl.1 rfl (lv_room (Nat.le_of_ble_eq_true rfl)) d_Model_reckon_214 ⟨Nat.zero_le _, Nat.zero_le _⟩) hS (fun q _ h => hFc q h) hFc (fun u t H locs ht hvm hw hB hz1 hk1 hS => ?_)
      obtain rfl : r29 = u := hw.symm
      have hP : va_P (dC, dI) classes (wsM a cs r29) H := by have q := hB.1; rw [ht] at q; exact q
      have hD : va_D A (wsM a cs r29) := hB.2.weaken (fun _ _ _ h => hFc _ h)
      refine lv_iinc (v := v1 + 1) (lv' := [(1, .int (v1 + 1)), (0, .ref (a 0))]) hx hb d_Model_reckon_217 hl (k := 1) rfl rfl (by decide) rfl (fun ls hl => ?_)
      refine lv_goto (tgt := 204) hx hb d_Model_reckon_220 (by decide) ?_
      exact ih r29 (v1 + 1) y h _ _ ls hP hD hS (lv_sub hl [1, 0] rfl) k0
set_option maxHeartbeats 4000000 in
set_option maxRecDepth 100000 in
theorem c_Model_reckon (l : Launch) (dC : Nat → ClassId) (dI : Nat → Nat → Nat) (a : Nat → Nat) (cs : Nat → ClassId) (sz : Nat) (σ : SM) (r : SM) (h : f_Model_reckon σ = some r) : Met l y_Model_reckon w_Model_reckon rm_Model_reckon (va_Pc [.ref (a 0)] (fun U => U.heap.size = sz ∧ WDM dC dI a cs σ U)) (va_Qv (fun u : SM => u = r) (atM dC dI a cs (va_A (wsM a cs σ) sz)) (va_A (wsM a cs σ) sz)) 0 0 (va_A (wsM a cs σ) sz) := by
  refine Met.ofW (cc := b_Model_reckon) (maxL := 3) (ret := none) (by decide) rfl ?_
  intro p e s m args below meth c s₁ B hml hv
  obtain ⟨rfl, hsz, hP, hK, hN, hD0⟩ := hv
  have hx := B.exec
  have hb := B.bytes
  have hr := B.returns
  have hg : ∀ w ∈ G_, w.before _ s = true := fun w hw => atoms_spec (ws := w_Model_reckon) B.pre w (List.mem_cons_of_mem _ hw)
  have hown : s.vm.findClass "BlockRulerModel" = some m.cls := findClass_of_methodNamed B.named
  have hlocks := B.notSynchronized
  have C0 : Cx "BlockRulerModel" b_Model_reckon 3 p s m _ meth c := ⟨hx, hb, hml, hown, hg, hlocks⟩
  subst hsz
  have hD := hD0.self (sz := s.heap.size)
  generalize hAe : va_A (wsM a cs σ) s.heap.size = A at hD ⊢
  have hA : ∀ q : Nat, s.heap.size ≤ q → A q := fun q h => by rw [← hAe]; exact Or.inr h
  have hS : va_S A s.heap s.heap [] := va_S.rf
  have hl := lv_entry ([.ref (a 0)]) (n := 3) (Nat.le_of_ble_eq_true rfl)
  rw [lg_entry_eq]
  generalize (lg_sl ([.ref (a 0)]) ++ List.replicate (3 - (lg_sl ([.ref (a 0)])).length) Slot.unset).toArray = ls at hl ⊢
  have hl : lv_has ls 3 [(0, .ref (a 0))] := hl
  unfold f_Model_reckon at h
  refine lv_aload_n hx hb d_Model_reckon_0 rfl (lv_at hl 0 rfl) ?_
  refine va_get (D := (dC, dI)) (ci := 5) (v := .int (sM_isDone σ)) (C := "BlockRulerModel") (T := F_Model) (N := 16) hx hb hg i_Model hown hK hP 0 rfl rfl 4 (by decide) (hg _ wd218) (fun _ h9 => h9) rfl d_Model_reckon_1 ?_
  refine lv_if_eq (tgt := 8) hx hb d_Model_reckon_4 (by decide) (fun c1 => ?_) (fun c1 => ?_)
  · have h := b_t h c1
    refine lv_aload_n hx hb d_Model_reckon_8 rfl (lv_at hl 0 rfl) ?_
    refine lv_iconst (v := 1) hx hb d_Model_reckon_9 (by decide) ?_
    refine va_put (D := (dC, dI)) (ci := 5) (v := .int 1) (ty := .boolean) (C := "BlockRulerModel") (T := F_Model) (N := 16) hx hb hg i_Model t_Model t_Model_ok n_Model hown hK hP hD hS 0 rfl rfl 4 (by decide) (hg _ wd218) (fun _ h9 => h9) rfl (by decide +kernel) rfl rfl (Nat.le_of_ble_eq_true rfl) d_Model_reckon_10 (fun H locs hP hD hS => ?_)
    have hP := va_Pe (setM_isDone a cs σ 1) hP
    have hD := va_De (setM_isDone a cs σ 1) hD
    refine lv_aload_n hx hb d_Model_reckon_13 rfl (lv_at hl 0 rfl) ?_
    obtain ⟨r2, hr2, h⟩ := bd h
    have hFc := va_free (wc := wsM a cs (uM_isDone σ 1)) hD hS hA [0, 1, 2, 3, 4, 5, 6, 7, 8, 9, 10, 11, 12] (allM a cs (uM_isDone σ 1))
    refine va_callv (va_runV (C := "BlockRulerModel") (As := []) (rest := []) ⟨hx, hb, hml, hown, hg⟩ (c_Model_orders l dC dI a cs _ (uM_isDone σ 1) _ hr2) (cwV 0 hg (gdV wd240 wd239 wd238 wd215 wd241) rfl rfl rfl (by decide +kernel) ⟨Nat.le_of_ble_eq_true rfl, Nat.le_of_ble_eq_true rfl⟩) ⟨wbz_blind, va_recv hK hP (ci := 5) (q0 := 0) rfl rfl, fun U hU hW => ⟨rfl, by rw [hU], wb_preD hU hW hP hK hN hD⟩⟩ rfl rfl hl.1 rfl (lv_room (Nat.le_of_ble_eq_true rfl)) d_Model_reckon_14 ⟨Nat.zero_le _, Nat.zero_le _⟩) hS (fun q _ h => hFc q h) hFc (fun u t H locs ht hvm hw hB hz1 hk1 hS => ?_)
    obtain rfl : r2 = u := hw.symm
    have hP : va_P (dC, dI) classes (wsM a cs r2) H := by have q := hB.1; rw [ht] at q; exact q
    have hD : va_D A (wsM a cs r2) := hB.2.weaken (fun _ _ _ h => hFc _ h)
    refine lv_iconst (v := 0) hx hb d_Model_reckon_17 (by decide) ?_
    refine lv_istore_n (lv' := [(1, .int 0), (0, .ref (a 0))]) hx hb d_Model_reckon_18 rfl hl (by decide) rfl (fun ls hl => ?_)
    obtain ⟨y5, hy5, h⟩ := bd h
    refine lpW_Model_reckon_19 C0 hK hN hA 100 r2 0 y5 hy5 _ _ ls hP hD hS (lv_sub hl [1, 0] rfl) (fun H locs ls hP hD hS hl => ?_)
    refine lv_iconst (v := 0) hx hb d_Model_reckon_38 (by decide) ?_
    refine lv_istore_n (lv' := [(1, .int 0), (0, .ref (a 0))]) hx hb d_Model_reckon_39 rfl hl (by decide) rfl (fun ls hl => ?_)
    obtain ⟨y15, hy15, h⟩ := bd h
    refine lpW_Model_reckon_40 C0 hK hN hA 100 y5.2 0 y15 hy15 _ _ ls hP hD hS (lv_sub hl [1, 0] rfl) (fun H locs ls hP hD hS hl => ?_)
    refine lv_iconst (v := 0) hx hb d_Model_reckon_118 (by decide) ?_
    refine lv_istore_n (lv' := [(1, .int 0), (0, .ref (a 0))]) hx hb d_Model_reckon_119 rfl hl (by decide) rfl (fun ls hl => ?_)
    obtain ⟨y18, hy18, h⟩ := bd h
    refine lpW_Model_reckon_120 C0 hK hN hA 100 y15.2 0 y18 hy18 _ _ ls hP hD hS (lv_sub hl [1, 0] rfl) (fun H locs ls hP hD hS hl => ?_)
    refine lv_iconst (v := 0) hx hb d_Model_reckon_141 (by decide) ?_
    refine lv_istore_n (lv' := [(1, .int 0), (0, .ref (a 0))]) hx hb d_Model_reckon_142 rfl hl (by decide) rfl (fun ls hl => ?_)
    obtain ⟨y27, hy27, h⟩ := bd h
    refine lpW_Model_reckon_143 C0 hK hN hA 100 y18.2 0 y27 hy27 _ _ ls hP hD hS (lv_sub hl [1, 0] rfl) (fun H locs ls hP hD hS hl => ?_)
    refine lv_iconst (v := 0) hx hb d_Model_reckon_202 (by decide) ?_
    refine lv_istore_n (lv' := [(1, .int 0), (0, .ref (a 0))]) hx hb d_Model_reckon_203 rfl hl (by decide) rfl (fun ls hl => ?_)
    obtain ⟨y30, hy30, h⟩ := bd h
    refine lpW_Model_reckon_204 C0 hK hN hA 100 y27.2 0 y30 hy30 _ _ ls hP hD hS (lv_sub hl [1, 0] rfl) (fun H locs ls hP hD hS hl => ?_)
    exact W.vret hx hb hr (fun t ht hW => ⟨⟨y30.2, rfl, Option.some.inj h, by rw [ht]; exact hP, hD⟩, hS.F ht⟩) hS.2.2 d_Model_reckon_223
  · have h := b_f h c1
    exact W.vret hx hb hr (fun t ht hW => ⟨⟨σ, rfl, Option.some.inj h, by rw [ht]; exact hP, hD⟩, hS.F ht⟩) hS.2.2 d_Model_reckon_7
