-- written by wip/gen (blockruler.py)
set_option maxHeartbeats 4000000 in
set_option maxRecDepth 100000 in
theorem lpW_Model_loops_22 {p : Program} {l : Launch} {e : Env} {s : State} {m : MethodId} {args : Array Value} {below : List Frame} {meth : Method} {c : Code} {Q : State → Prop} {dC : Nat → ClassId} {dI : Nat → Nat → Nat} {a : Nat → Nat} {cs : Nat → ClassId} {H : Heap} {locs : List Loc} (C0 : Cx "BlockRulerModel" b_Model_loops 6 p s m args meth c) (hK : va_K (dC, dI) classes (tyM cs) s) (hN : NW s) : ∀ (n : Nat) (σ : SM) (v1 : Int32) (v2 : Int32) (v3 : Int32) (v4 : Int32) (y : Int32 × Int32), lp_Model_loops_22 n σ v1 v2 v3 v4 = some y → va_P (dC, dI) classes (wsM a cs σ) H → ∀ (ls : Array Slot), lv_has ls 6 [(0, .ref (a 0)), (1, .int v1), (2, .int v2), (3, .int v3), (4, .int v4)] → (∀ (ls : Array Slot), lv_has ls 6 [(0, .ref (a 0)), (1, .int v1), (2, .int v2), (3, .int y.1), (4, .int y.2)] → W p l e (headSpec w_Model_loops rm_Model_loops).room s m args below meth c H locs 0 0 Q (F0 m 76 ls [])) → W p l e (headSpec w_Model_loops rm_Model_loops).room s m args below meth c H locs 0 0 Q (F0 m 22 ls []) := by
  have C1 := C0
  obtain ⟨hx, hb, hml, hown, hg, hlocks⟩ := C1
  intro n
  induction n with
  | zero => intro σ v1 v2 v3 v4 y h; exact absurd (show (none : Option (Int32 × Int32)) = some y from h) (fun q => by cases q)
  | succ n ih =>
    intro σ v1 v2 v3 v4 y h hP ls hl k0
    rw [lp_Model_loops_22_s] at h
    refine lv_iload hx hb d_Model_loops_22 (lv_at hl 4 rfl) ?_
    refine lv_aload_n hx hb d_Model_loops_24 rfl (lv_at hl 0 rfl) ?_
    refine va_get (D := (dC, dI)) (ci := 5) (v := .ref (a 1)) (C := "BlockRulerModel") (T := F_Model) (N := 16) hx hb hg i_Model hown hK hP 0 rfl rfl 2 (by decide) (hg _ wd217) (fun _ h9 => h9) rfl d_Model_loops_25 ?_
    refine lv_iload_n hx hb d_Model_loops_28 rfl (lv_at hl 2 rfl) ?_
    obtain ⟨hi3, h⟩ := gd h
    refine va_iald (f := sM_many σ) (n := 64) hx hb hK hP 1 0 rfl rfl hi3 d_Model_loops_29 ?_
    refine lv_icmp_ge (tgt := 76) hx hb d_Model_loops_30 (by decide) (fun c4 => ?_) (fun c4 => ?_)
    · have h := b_t h c4
      obtain rfl := Option.some.inj h
      exact k0 ls (lv_sub hl [0, 1, 2, 3, 4] rfl)
    · have h := b_f h c4
      refine lv_iload_n hx hb d_Model_loops_33 rfl (lv_at hl 3 rfl) ?_
      refine lv_if_ne (tgt := 64) hx hb d_Model_loops_34 (by decide) (fun c5 => ?_) (fun c5 => ?_)
      · have h := b_f h c5
        refine lv_iconst (v := 1) hx hb d_Model_loops_64 (by decide) ?_
        refine lv_goto (tgt := 69) hx hb d_Model_loops_65 (by decide) ?_
        refine lv_istore_n (lv' := [(3, .int 1), (0, .ref (a 0)), (1, .int v1), (2, .int v2), (4, .int v4)]) hx hb d_Model_loops_69 rfl hl (by decide) rfl (fun ls hl => ?_)
        refine lv_iinc (v := v4 + 1) (lv' := [(4, .int (v4 + 1)), (3, .int 1), (0, .ref (a 0)), (1, .int v1), (2, .int v2)]) hx hb d_Model_loops_70 hl (k := 4) rfl rfl (by decide) rfl (fun ls hl => ?_)
        refine lv_goto (tgt := 22) hx hb d_Model_loops_73 (by decide) ?_
        exact ih σ v1 v2 1 (v4 + 1) y h hP ls (lv_sub hl [2, 3, 4, 1, 0] rfl) k0
      · have h := b_t h c5
        refine lv_aload_n hx hb d_Model_loops_37 rfl (lv_at hl 0 rfl) ?_
        refine va_get (D := (dC, dI)) (ci := 5) (v := .ref (a 2)) (C := "BlockRulerModel") (T := F_Model) (N := 16) hx hb hg i_Model hown hK hP 0 rfl rfl 3 (by decide) (hg _ wd219) (fun _ h9 => h9) rfl d_Model_loops_38 ?_
        refine lv_bipush (v := 8) hx hb d_Model_loops_41 (by decide) ?_
        refine lv_iload_n hx hb d_Model_loops_43 rfl (lv_at hl 2 rfl) ?_
        refine lv_imul hx hb d_Model_loops_44 ?_
        refine lv_iload hx hb d_Model_loops_45 (lv_at hl 4 rfl) ?_
        refine lv_iadd hx hb d_Model_loops_47 ?_
        obtain ⟨hi6, h⟩ := gd h
        refine va_iald (f := sM_ends σ) (n := 512) hx hb hK hP 2 1 rfl rfl hi6 d_Model_loops_48 ?_
        refine lv_iload_n hx hb d_Model_loops_49 rfl (lv_at hl 1 rfl) ?_
        refine lv_icmp_ne (tgt := 68) hx hb d_Model_loops_50 (by decide) (fun c7 => ?_) (fun c7 => ?_)
        · have h := b_f h c7
          refine lv_iconst (v := 0) hx hb d_Model_loops_68 (by decide) ?_
          refine lv_istore_n (lv' := [(3, .int 0), (0, .ref (a 0)), (1, .int v1), (2, .int v2), (4, .int v4)]) hx hb d_Model_loops_69 rfl hl (by decide) rfl (fun ls hl => ?_)
          refine lv_iinc (v := v4 + 1) (lv' := [(4, .int (v4 + 1)), (3, .int 0), (0, .ref (a 0)), (1, .int v1), (2, .int v2)]) hx hb d_Model_loops_70 hl (k := 4) rfl rfl (by decide) rfl (fun ls hl => ?_)
          refine lv_goto (tgt := 22) hx hb d_Model_loops_73 (by decide) ?_
          exact ih σ v1 v2 0 (v4 + 1) y h hP ls (lv_sub hl [2, 3, 4, 1, 0] rfl) k0
        · have h := b_t h c7
          refine lv_aload_n hx hb d_Model_loops_53 rfl (lv_at hl 0 rfl) ?_
          refine lv_iload_n hx hb d_Model_loops_54 rfl (lv_at hl 2 rfl) ?_
          refine lv_iload hx hb d_Model_loops_55 (lv_at hl 4 rfl) ?_
          obtain ⟨r8, hr8, h⟩ := bd h
          refine ro_call (v := .int r8) (va_runV (C := "BlockRulerModel") (As := [.int v2, .int v4]) (rest := []) ⟨hx, hb, hml, hown, hg⟩ (c_Model_sortOf l dC dI a cs σ v2 v4 _ hr8) (cwV 2 hg (gdV wd234 wd233 wd232 wd215 wd235) rfl rfl rfl (by decide +kernel) ⟨Nat.le_of_ble_eq_true rfl, Nat.le_of_ble_eq_true rfl⟩) ⟨wb_blind, va_recv hK hP (ci := 5) (q0 := 0) rfl rfl, fun U hU hW => ⟨rfl, wb_pre hU hW hP hK hN⟩⟩ rfl rfl hl.1 rfl (lv_room (Nat.le_of_ble_eq_true rfl)) d_Model_loops_57 ⟨Nat.zero_le _, Nat.zero_le _⟩) ?_
          refine lv_iconst (v := 1) hx hb d_Model_loops_60 (by decide) ?_
          refine lv_icmp_ne (tgt := 68) hx hb d_Model_loops_61 (by decide) (fun c9 => ?_) (fun c9 => ?_)
          · have h := b_f h c9
            refine lv_iconst (v := 0) hx hb d_Model_loops_68 (by decide) ?_
            refine lv_istore_n (lv' := [(3, .int 0), (0, .ref (a 0)), (1, .int v1), (2, .int v2), (4, .int v4)]) hx hb d_Model_loops_69 rfl hl (by decide) rfl (fun ls hl => ?_)
            refine lv_iinc (v := v4 + 1) (lv' := [(4, .int (v4 + 1)), (3, .int 0), (0, .ref (a 0)), (1, .int v1), (2, .int v2)]) hx hb d_Model_loops_70 hl (k := 4) rfl rfl (by decide) rfl (fun ls hl => ?_)
            refine lv_goto (tgt := 22) hx hb d_Model_loops_73 (by decide) ?_
            exact ih σ v1 v2 0 (v4 + 1) y h hP ls (lv_sub hl [2, 3, 4, 1, 0] rfl) k0
          · have h := b_t h c9
            refine lv_iconst (v := 1) hx hb d_Model_loops_64 (by decide) ?_
            refine lv_goto (tgt := 69) hx hb d_Model_loops_65 (by decide) ?_
            refine lv_istore_n (lv' := [(3, .int 1), (0, .ref (a 0)), (1, .int v1), (2, .int v2), (4, .int v4)]) hx hb d_Model_loops_69 rfl hl (by decide) rfl (fun ls hl => ?_)
            refine lv_iinc (v := v4 + 1) (lv' := [(4, .int (v4 + 1)), (3, .int 1), (0, .ref (a 0)), (1, .int v1), (2, .int v2)]) hx hb d_Model_loops_70 hl (k := 4) rfl rfl (by decide) rfl (fun ls hl => ?_)
            refine lv_goto (tgt := 22) hx hb d_Model_loops_73 (by decide) ?_
            exact ih σ v1 v2 1 (v4 + 1) y h hP ls (lv_sub hl [2, 3, 4, 1, 0] rfl) k0
set_option maxHeartbeats 4000000 in
set_option maxRecDepth 100000 in
theorem lpW_Model_loops_9 {p : Program} {l : Launch} {e : Env} {s : State} {m : MethodId} {args : Array Value} {below : List Frame} {meth : Method} {c : Code} {Q : State → Prop} {dC : Nat → ClassId} {dI : Nat → Nat → Nat} {a : Nat → Nat} {cs : Nat → ClassId} {A : Nat → Prop} (C0 : Cx "BlockRulerModel" b_Model_loops 6 p s m args meth c) (hK : va_K (dC, dI) classes (tyM cs) s) (hN : NW s) (hA : ∀ q : Nat, s.heap.size ≤ q → A q) : ∀ (n : Nat) (σ : SM) (v1 : Int32) (v2 : Int32) (y : Int32 × SM), lp_Model_loops_9 n σ v1 v2 = some y → ∀ (H : Heap) (locs : List Loc) (ls : Array Slot), va_P (dC, dI) classes (wsM a cs σ) H → va_D A (wsM a cs σ) → va_S A s.heap H locs → lv_has ls 6 [(0, .ref (a 0)), (1, .int v1), (2, .int v2)] → (∀ (H : Heap) (locs : List Loc) (ls : Array Slot), va_P (dC, dI) classes (wsM a cs y.2) H → va_D A (wsM a cs y.2) → va_S A s.heap H locs → lv_has ls 6 [(0, .ref (a 0)), (1, .int v1), (2, .int y.1)] → W p l e (headSpec w_Model_loops rm_Model_loops).room s m args below meth c H locs 0 0 Q (F0 m 116 ls [])) → W p l e (headSpec w_Model_loops rm_Model_loops).room s m args below meth c H locs 0 0 Q (F0 m 9 ls []) := by
  have C1 := C0
  obtain ⟨hx, hb, hml, hown, hg, hlocks⟩ := C1
  intro n
  induction n with
  | zero => intro σ v1 v2 y h; exact absurd (show (none : Option (Int32 × SM)) = some y from h) (fun q => by cases q)
  | succ n ih =>
    intro σ v1 v2 y h H locs ls hP hD hS hl k0
    rw [lp_Model_loops_9_s] at h
    refine lv_iload_n hx hb d_Model_loops_9 rfl (lv_at hl 2 rfl) ?_
    refine lv_aload_n hx hb d_Model_loops_10 rfl (lv_at hl 0 rfl) ?_
    refine va_get (D := (dC, dI)) (ci := 5) (v := .int (sM_blocks σ)) (C := "BlockRulerModel") (T := F_Model) (N := 16) hx hb hg i_Model hown hK hP 0 rfl rfl 1 (by decide) (hg _ wd211) (fun _ h9 => h9) rfl d_Model_loops_11 ?_
    refine lv_icmp_ge (tgt := 116) hx hb d_Model_loops_14 (by decide) (fun c2 => ?_) (fun c2 => ?_)
    · have h := b_t h c2
      obtain rfl := Option.some.inj h
      exact k0 _ _ ls hP hD hS (lv_sub hl [0, 1, 2] rfl)
    · have h := b_f h c2
      refine lv_iconst (v := 0) hx hb d_Model_loops_17 (by decide) ?_
      refine lv_istore_n (lv' := [(3, .int 0), (0, .ref (a 0)), (1, .int v1), (2, .int v2)]) hx hb d_Model_loops_18 rfl hl (by decide) rfl (fun ls hl => ?_)
      refine lv_iconst (v := 0) hx hb d_Model_loops_19 (by decide) ?_
      refine lv_istore (lv' := [(4, .int 0), (3, .int 0), (0, .ref (a 0)), (1, .int v1), (2, .int v2)]) hx hb d_Model_loops_20 hl (by decide) rfl (fun ls hl => ?_)
      obtain ⟨y10, hy10, h⟩ := bd h
      refine lpW_Model_loops_22 C0 hK hN 100 σ v1 v2 0 0 y10 hy10 hP ls (lv_sub hl [2, 3, 4, 1, 0] rfl) (fun ls hl => ?_)
      refine lv_aload_n hx hb d_Model_loops_76 rfl (lv_at hl 0 rfl) ?_
      refine va_get (D := (dC, dI)) (ci := 5) (v := .ref (a 8)) (C := "BlockRulerModel") (T := F_Model) (N := 16) hx hb hg i_Model hown hK hP 0 rfl rfl 11 (by decide) (hg _ wd236) (fun _ h9 => h9) rfl d_Model_loops_77 ?_
      refine lv_bipush (v := 64) hx hb d_Model_loops_80 (by decide) ?_
      refine lv_iload_n hx hb d_Model_loops_82 rfl (lv_at hl 1 rfl) ?_
      refine lv_imul hx hb d_Model_loops_83 ?_
      refine lv_iload_n hx hb d_Model_loops_84 rfl (lv_at hl 2 rfl) ?_
      refine lv_iadd hx hb d_Model_loops_85 ?_
      refine lv_iload_n hx hb d_Model_loops_86 rfl (lv_at hl 3 rfl) ?_
      refine lv_if_ne (tgt := 104) hx hb d_Model_loops_87 (by decide) (fun c11 => ?_) (fun c11 => ?_)
      · have h := b_f h c11
        refine lv_iconst (v := 1) hx hb d_Model_loops_104 (by decide) ?_
        refine lv_goto (tgt := 109) hx hb d_Model_loops_105 (by decide) ?_
        obtain ⟨hi12, h⟩ := gd h
        refine va_zast (f := sM_loop σ) (n := 4096) hx hb hK hP hD hS 8 7 rfl rfl hi12 d_Model_loops_109 (fun H locs hP hD hS => ?_)
        have hP := va_Pe (setM_loop a cs σ (upd (sM_loop σ) (Int32.toNatClampNeg ((64 * v1) + v2)) (vp_nar .boolean 1))) hP
        have hD := va_De (setM_loop a cs σ (upd (sM_loop σ) (Int32.toNatClampNeg ((64 * v1) + v2)) (vp_nar .boolean 1))) hD
        refine lv_iinc (v := v2 + 1) (lv' := [(2, .int (v2 + 1)), (0, .ref (a 0)), (1, .int v1), (3, .int y10.1), (4, .int y10.2)]) hx hb d_Model_loops_110 hl (k := 2) rfl rfl (by decide) rfl (fun ls hl => ?_)
        refine lv_goto (tgt := 9) hx hb d_Model_loops_113 (by decide) ?_
        exact ih (uM_loop σ (upd (sM_loop σ) (Int32.toNatClampNeg ((64 * v1) + v2)) (vp_nar .boolean 1))) v1 (v2 + 1) y h _ _ ls hP hD hS (lv_sub hl [1, 2, 0] rfl) k0
      · have h := b_t h c11
        refine lv_aload_n hx hb d_Model_loops_90 rfl (lv_at hl 0 rfl) ?_
        refine va_get (D := (dC, dI)) (ci := 5) (v := .ref (a 7)) (C := "BlockRulerModel") (T := F_Model) (N := 16) hx hb hg i_Model hown hK hP 0 rfl rfl 10 (by decide) (hg _ wd237) (fun _ h9 => h9) rfl d_Model_loops_91 ?_
        refine lv_iload_n hx hb d_Model_loops_94 rfl (lv_at hl 1 rfl) ?_
        obtain ⟨hi13, h⟩ := gd h
        refine va_zald (f := sM_isHead σ) (n := 64) hx hb hK hP 7 6 rfl rfl hi13 d_Model_loops_95 ?_
        refine lv_if_eq (tgt := 108) hx hb d_Model_loops_96 (by decide) (fun c14 => ?_) (fun c14 => ?_)
        · have h := b_t h c14
          refine lv_iconst (v := 0) hx hb d_Model_loops_108 (by decide) ?_
          obtain ⟨hi15, h⟩ := gd h
          refine va_zast (f := sM_loop σ) (n := 4096) hx hb hK hP hD hS 8 7 rfl rfl hi15 d_Model_loops_109 (fun H locs hP hD hS => ?_)
          have hP := va_Pe (setM_loop a cs σ (upd (sM_loop σ) (Int32.toNatClampNeg ((64 * v1) + v2)) (vp_nar .boolean 0))) hP
          have hD := va_De (setM_loop a cs σ (upd (sM_loop σ) (Int32.toNatClampNeg ((64 * v1) + v2)) (vp_nar .boolean 0))) hD
          refine lv_iinc (v := v2 + 1) (lv' := [(2, .int (v2 + 1)), (0, .ref (a 0)), (1, .int v1), (3, .int y10.1), (4, .int y10.2)]) hx hb d_Model_loops_110 hl (k := 2) rfl rfl (by decide) rfl (fun ls hl => ?_)
          refine lv_goto (tgt := 9) hx hb d_Model_loops_113 (by decide) ?_
          exact ih (uM_loop σ (upd (sM_loop σ) (Int32.toNatClampNeg ((64 * v1) + v2)) (vp_nar .boolean 0))) v1 (v2 + 1) y h _ _ ls hP hD hS (lv_sub hl [1, 2, 0] rfl) k0
        · have h := b_f h c14
          refine lv_iload_n hx hb d_Model_loops_99 rfl (lv_at hl 2 rfl) ?_
          refine lv_iload_n hx hb d_Model_loops_100 rfl (lv_at hl 1 rfl) ?_
          refine lv_icmp_ne (tgt := 108) hx hb d_Model_loops_101 (by decide) (fun c16 => ?_) (fun c16 => ?_)
          · have h := b_f h c16
            refine lv_iconst (v := 0) hx hb d_Model_loops_108 (by decide) ?_
            obtain ⟨hi17, h⟩ := gd h
            refine va_zast (f := sM_loop σ) (n := 4096) hx hb hK hP hD hS 8 7 rfl rfl hi17 d_Model_loops_109 (fun H locs hP hD hS => ?_)
            have hP := va_Pe (setM_loop a cs σ (upd (sM_loop σ) (Int32.toNatClampNeg ((64 * v1) + v2)) (vp_nar .boolean 0))) hP
            have hD := va_De (setM_loop a cs σ (upd (sM_loop σ) (Int32.toNatClampNeg ((64 * v1) + v2)) (vp_nar .boolean 0))) hD
            refine lv_iinc (v := v2 + 1) (lv' := [(2, .int (v2 + 1)), (0, .ref (a 0)), (1, .int v1), (3, .int y10.1), (4, .int y10.2)]) hx hb d_Model_loops_110 hl (k := 2) rfl rfl (by decide) rfl (fun ls hl => ?_)
            refine lv_goto (tgt := 9) hx hb d_Model_loops_113 (by decide) ?_
            exact ih (uM_loop σ (upd (sM_loop σ) (Int32.toNatClampNeg ((64 * v1) + v2)) (vp_nar .boolean 0))) v1 (v2 + 1) y h _ _ ls hP hD hS (lv_sub hl [1, 2, 0] rfl) k0
          · have h := b_t h c16
            refine lv_iconst (v := 1) hx hb d_Model_loops_104 (by decide) ?_
            refine lv_goto (tgt := 109) hx hb d_Model_loops_105 (by decide) ?_
            obtain ⟨hi18, h⟩ := gd h
            refine va_zast (f := sM_loop σ) (n := 4096) hx hb hK hP hD hS 8 7 rfl rfl hi18 d_Model_loops_109 (fun H locs hP hD hS => ?_)
            have hP := va_Pe (setM_loop a cs σ (upd (sM_loop σ) (Int32.toNatClampNeg ((64 * v1) + v2)) (vp_nar .boolean 1))) hP
            have hD := va_De (setM_loop a cs σ (upd (sM_loop σ) (Int32.toNatClampNeg ((64 * v1) + v2)) (vp_nar .boolean 1))) hD
            refine lv_iinc (v := v2 + 1) (lv' := [(2, .int (v2 + 1)), (0, .ref (a 0)), (1, .int v1), (3, .int y10.1), (4, .int y10.2)]) hx hb d_Model_loops_110 hl (k := 2) rfl rfl (by decide) rfl (fun ls hl => ?_)
            refine lv_goto (tgt := 9) hx hb d_Model_loops_113 (by decide) ?_
            exact ih (uM_loop σ (upd (sM_loop σ) (Int32.toNatClampNeg ((64 * v1) + v2)) (vp_nar .boolean 1))) v1 (v2 + 1) y h _ _ ls hP hD hS (lv_sub hl [1, 2, 0] rfl) k0
set_option maxHeartbeats 4000000 in
set_option maxRecDepth 100000 in
theorem lpW_Model_loops_171 {p : Program} {l : Launch} {e : Env} {s : State} {m : MethodId} {args : Array Value} {below : List Frame} {meth : Method} {c : Code} {Q : State → Prop} {dC : Nat → ClassId} {dI : Nat → Nat → Nat} {a : Nat → Nat} {cs : Nat → ClassId} {H : Heap} {locs : List Loc} (C0 : Cx "BlockRulerModel" b_Model_loops 6 p s m args meth c) (hK : va_K (dC, dI) classes (tyM cs) s) (hN : NW s) : ∀ (n : Nat) (σ : SM) (v1 : Int32) (v2 : Int32) (v3 : Int32) (v4 : Int32) (v5 : Int32) (y : Int32 × Int32), lp_Model_loops_171 n σ v1 v2 v3 v4 v5 = some y → va_P (dC, dI) classes (wsM a cs σ) H → ∀ (ls : Array Slot), lv_has ls 6 [(0, .ref (a 0)), (1, .int v1), (2, .int v2), (3, .int v3), (4, .int v4), (5, .int v5)] → (∀ (ls : Array Slot), lv_has ls 6 [(0, .ref (a 0)), (1, .int v1), (2, .int v2), (3, .int v3), (4, .int y.1), (5, .int y.2)] → W p l e (headSpec w_Model_loops rm_Model_loops).room s m args below meth c H locs 0 0 Q (F0 m 241 ls [])) → W p l e (headSpec w_Model_loops rm_Model_loops).room s m args below meth c H locs 0 0 Q (F0 m 171 ls []) := by
  have C1 := C0
  obtain ⟨hx, hb, hml, hown, hg, hlocks⟩ := C1
  intro n
  induction n with
  | zero => intro σ v1 v2 v3 v4 v5 y h; exact absurd (show (none : Option (Int32 × Int32)) = some y from h) (fun q => by cases q)
  | succ n ih =>
    intro σ v1 v2 v3 v4 v5 y h hP ls hl k0
    rw [lp_Model_loops_171_s] at h
    refine lv_iload hx hb d_Model_loops_171 (lv_at hl 5 rfl) ?_
    refine lv_aload_n hx hb d_Model_loops_173 rfl (lv_at hl 0 rfl) ?_
    refine va_get (D := (dC, dI)) (ci := 5) (v := .ref (a 1)) (C := "BlockRulerModel") (T := F_Model) (N := 16) hx hb hg i_Model hown hK hP 0 rfl rfl 2 (by decide) (hg _ wd217) (fun _ h9 => h9) rfl d_Model_loops_174 ?_
    refine lv_iload_n hx hb d_Model_loops_177 rfl (lv_at hl 3 rfl) ?_
    obtain ⟨hi27, h⟩ := gd h
    refine va_iald (f := sM_many σ) (n := 64) hx hb hK hP 1 0 rfl rfl hi27 d_Model_loops_178 ?_
    refine lv_icmp_ge (tgt := 241) hx hb d_Model_loops_179 (by decide) (fun c28 => ?_) (fun c28 => ?_)
    · have h := b_t h c28
      obtain rfl := Option.some.inj h
      exact k0 ls (lv_sub hl [0, 1, 2, 3, 4, 5] rfl)
    · have h := b_f h c28
      refine lv_iload hx hb d_Model_loops_182 (lv_at hl 4 rfl) ?_
      refine lv_if_ne (tgt := 228) hx hb d_Model_loops_184 (by decide) (fun c29 => ?_) (fun c29 => ?_)
      · have h := b_f h c29
        refine lv_iconst (v := 1) hx hb d_Model_loops_228 (by decide) ?_
        refine lv_goto (tgt := 233) hx hb d_Model_loops_229 (by decide) ?_
        refine lv_istore (lv' := [(4, .int 1), (0, .ref (a 0)), (1, .int v1), (2, .int v2), (3, .int v3), (5, .int v5)]) hx hb d_Model_loops_233 hl (by decide) rfl (fun ls hl => ?_)
        refine lv_iinc (v := v5 + 1) (lv' := [(5, .int (v5 + 1)), (4, .int 1), (0, .ref (a 0)), (1, .int v1), (2, .int v2), (3, .int v3)]) hx hb d_Model_loops_235 hl (k := 5) rfl rfl (by decide) rfl (fun ls hl => ?_)
        refine lv_goto (tgt := 171) hx hb d_Model_loops_238 (by decide) ?_
        exact ih σ v1 v2 v3 1 (v5 + 1) y h hP ls (lv_sub hl [2, 3, 4, 5, 1, 0] rfl) k0
      · have h := b_t h c29
        refine lv_aload_n hx hb d_Model_loops_187 rfl (lv_at hl 0 rfl) ?_
        refine va_get (D := (dC, dI)) (ci := 5) (v := .ref (a 2)) (C := "BlockRulerModel") (T := F_Model) (N := 16) hx hb hg i_Model hown hK hP 0 rfl rfl 3 (by decide) (hg _ wd219) (fun _ h9 => h9) rfl d_Model_loops_188 ?_
        refine lv_bipush (v := 8) hx hb d_Model_loops_191 (by decide) ?_
        refine lv_iload_n hx hb d_Model_loops_193 rfl (lv_at hl 3 rfl) ?_
        refine lv_imul hx hb d_Model_loops_194 ?_
        refine lv_iload hx hb d_Model_loops_195 (lv_at hl 5 rfl) ?_
        refine lv_iadd hx hb d_Model_loops_197 ?_
        obtain ⟨hi30, h⟩ := gd h
        refine va_iald (f := sM_ends σ) (n := 512) hx hb hK hP 2 1 rfl rfl hi30 d_Model_loops_198 ?_
        refine lv_iload_n hx hb d_Model_loops_199 rfl (lv_at hl 1 rfl) ?_
        refine lv_icmp_eq (tgt := 232) hx hb d_Model_loops_200 (by decide) (fun c31 => ?_) (fun c31 => ?_)
        · have h := b_t h c31
          refine lv_iconst (v := 0) hx hb d_Model_loops_232 (by decide) ?_
          refine lv_istore (lv' := [(4, .int 0), (0, .ref (a 0)), (1, .int v1), (2, .int v2), (3, .int v3), (5, .int v5)]) hx hb d_Model_loops_233 hl (by decide) rfl (fun ls hl => ?_)
          refine lv_iinc (v := v5 + 1) (lv' := [(5, .int (v5 + 1)), (4, .int 0), (0, .ref (a 0)), (1, .int v1), (2, .int v2), (3, .int v3)]) hx hb d_Model_loops_235 hl (k := 5) rfl rfl (by decide) rfl (fun ls hl => ?_)
          refine lv_goto (tgt := 171) hx hb d_Model_loops_238 (by decide) ?_
          exact ih σ v1 v2 v3 0 (v5 + 1) y h hP ls (lv_sub hl [2, 3, 4, 5, 1, 0] rfl) k0
        · have h := b_f h c31
          refine lv_aload_n hx hb d_Model_loops_203 rfl (lv_at hl 0 rfl) ?_
          refine va_get (D := (dC, dI)) (ci := 5) (v := .ref (a 8)) (C := "BlockRulerModel") (T := F_Model) (N := 16) hx hb hg i_Model hown hK hP 0 rfl rfl 11 (by decide) (hg _ wd236) (fun _ h9 => h9) rfl d_Model_loops_204 ?_
          refine lv_bipush (v := 64) hx hb d_Model_loops_207 (by decide) ?_
          refine lv_iload_n hx hb d_Model_loops_209 rfl (lv_at hl 1 rfl) ?_
          refine lv_imul hx hb d_Model_loops_210 ?_
          refine lv_aload_n hx hb d_Model_loops_211 rfl (lv_at hl 0 rfl) ?_
          refine va_get (D := (dC, dI)) (ci := 5) (v := .ref (a 2)) (C := "BlockRulerModel") (T := F_Model) (N := 16) hx hb hg i_Model hown hK hP 0 rfl rfl 3 (by decide) (hg _ wd219) (fun _ h9 => h9) rfl d_Model_loops_212 ?_
          refine lv_bipush (v := 8) hx hb d_Model_loops_215 (by decide) ?_
          refine lv_iload_n hx hb d_Model_loops_217 rfl (lv_at hl 3 rfl) ?_
          refine lv_imul hx hb d_Model_loops_218 ?_
          refine lv_iload hx hb d_Model_loops_219 (lv_at hl 5 rfl) ?_
          refine lv_iadd hx hb d_Model_loops_221 ?_
          refine va_iald (f := sM_ends σ) (n := 512) hx hb hK hP 2 1 rfl rfl hi30 d_Model_loops_222 ?_
          refine lv_iadd hx hb d_Model_loops_223 ?_
          obtain ⟨hi32, h⟩ := gd h
          refine va_zald (f := sM_loop σ) (n := 4096) hx hb hK hP 8 7 rfl rfl hi32 d_Model_loops_224 ?_
          refine lv_if_eq (tgt := 232) hx hb d_Model_loops_225 (by decide) (fun c33 => ?_) (fun c33 => ?_)
          · have h := b_t h c33
            refine lv_iconst (v := 0) hx hb d_Model_loops_232 (by decide) ?_
            refine lv_istore (lv' := [(4, .int 0), (0, .ref (a 0)), (1, .int v1), (2, .int v2), (3, .int v3), (5, .int v5)]) hx hb d_Model_loops_233 hl (by decide) rfl (fun ls hl => ?_)
            refine lv_iinc (v := v5 + 1) (lv' := [(5, .int (v5 + 1)), (4, .int 0), (0, .ref (a 0)), (1, .int v1), (2, .int v2), (3, .int v3)]) hx hb d_Model_loops_235 hl (k := 5) rfl rfl (by decide) rfl (fun ls hl => ?_)
            refine lv_goto (tgt := 171) hx hb d_Model_loops_238 (by decide) ?_
            exact ih σ v1 v2 v3 0 (v5 + 1) y h hP ls (lv_sub hl [2, 3, 4, 5, 1, 0] rfl) k0
          · have h := b_f h c33
            refine lv_iconst (v := 1) hx hb d_Model_loops_228 (by decide) ?_
            refine lv_goto (tgt := 233) hx hb d_Model_loops_229 (by decide) ?_
            refine lv_istore (lv' := [(4, .int 1), (0, .ref (a 0)), (1, .int v1), (2, .int v2), (3, .int v3), (5, .int v5)]) hx hb d_Model_loops_233 hl (by decide) rfl (fun ls hl => ?_)
            refine lv_iinc (v := v5 + 1) (lv' := [(5, .int (v5 + 1)), (4, .int 1), (0, .ref (a 0)), (1, .int v1), (2, .int v2), (3, .int v3)]) hx hb d_Model_loops_235 hl (k := 5) rfl rfl (by decide) rfl (fun ls hl => ?_)
            refine lv_goto (tgt := 171) hx hb d_Model_loops_238 (by decide) ?_
            exact ih σ v1 v2 v3 1 (v5 + 1) y h hP ls (lv_sub hl [2, 3, 4, 5, 1, 0] rfl) k0
set_option maxHeartbeats 4000000 in
set_option maxRecDepth 100000 in
theorem lpW_Model_loops_131 {p : Program} {l : Launch} {e : Env} {s : State} {m : MethodId} {args : Array Value} {below : List Frame} {meth : Method} {c : Code} {Q : State → Prop} {dC : Nat → ClassId} {dI : Nat → Nat → Nat} {a : Nat → Nat} {cs : Nat → ClassId} {A : Nat → Prop} (C0 : Cx "BlockRulerModel" b_Model_loops 6 p s m args meth c) (hK : va_K (dC, dI) classes (tyM cs) s) (hN : NW s) (hA : ∀ q : Nat, s.heap.size ≤ q → A q) : ∀ (n : Nat) (σ : SM) (v1 : Int32) (v2 : Int32) (v3 : Int32) (y : Int32 × Int32 × SM), lp_Model_loops_131 n σ v1 v2 v3 = some y → ∀ (H : Heap) (locs : List Loc) (ls : Array Slot), va_P (dC, dI) classes (wsM a cs σ) H → va_D A (wsM a cs σ) → va_S A s.heap H locs → lv_has ls 6 [(0, .ref (a 0)), (1, .int v1), (2, .int v2), (3, .int v3)] → (∀ (H : Heap) (locs : List Loc) (ls : Array Slot), va_P (dC, dI) classes (wsM a cs y.2.2) H → va_D A (wsM a cs y.2.2) → va_S A s.heap H locs → lv_has ls 6 [(0, .ref (a 0)), (1, .int v1), (2, .int y.1), (3, .int y.2.1)] → W p l e (headSpec w_Model_loops rm_Model_loops).room s m args below meth c H locs 0 0 Q (F0 m 275 ls [])) → W p l e (headSpec w_Model_loops rm_Model_loops).room s m args below meth c H locs 0 0 Q (F0 m 131 ls []) := by
  have C1 := C0
  obtain ⟨hx, hb, hml, hown, hg, hlocks⟩ := C1
  intro n
  induction n with
  | zero => intro σ v1 v2 v3 y h; exact absurd (show (none : Option (Int32 × Int32 × SM)) = some y from h) (fun q => by cases q)
  | succ n ih =>
    intro σ v1 v2 v3 y h H locs ls hP hD hS hl k0
    rw [lp_Model_loops_131_s] at h
    refine lv_iload_n hx hb d_Model_loops_131 rfl (lv_at hl 3 rfl) ?_
    refine lv_aload_n hx hb d_Model_loops_132 rfl (lv_at hl 0 rfl) ?_
    refine va_get (D := (dC, dI)) (ci := 5) (v := .int (sM_blocks σ)) (C := "BlockRulerModel") (T := F_Model) (N := 16) hx hb hg i_Model hown hK hP 0 rfl rfl 1 (by decide) (hg _ wd211) (fun _ h9 => h9) rfl d_Model_loops_133 ?_
    refine lv_icmp_ge (tgt := 275) hx hb d_Model_loops_136 (by decide) (fun c22 => ?_) (fun c22 => ?_)
    · have h := b_t h c22
      obtain rfl := Option.some.inj h
      exact k0 _ _ ls hP hD hS (lv_sub hl [0, 1, 2, 3] rfl)
    · have h := b_f h c22
      refine lv_aload_n hx hb d_Model_loops_139 rfl (lv_at hl 0 rfl) ?_
      refine va_get (D := (dC, dI)) (ci := 5) (v := .ref (a 8)) (C := "BlockRulerModel") (T := F_Model) (N := 16) hx hb hg i_Model hown hK hP 0 rfl rfl 11 (by decide) (hg _ wd236) (fun _ h9 => h9) rfl d_Model_loops_140 ?_
      refine lv_bipush (v := 64) hx hb d_Model_loops_143 (by decide) ?_
      refine lv_iload_n hx hb d_Model_loops_145 rfl (lv_at hl 1 rfl) ?_
      refine lv_imul hx hb d_Model_loops_146 ?_
      refine lv_iload_n hx hb d_Model_loops_147 rfl (lv_at hl 3 rfl) ?_
      refine lv_iadd hx hb d_Model_loops_148 ?_
      obtain ⟨hi23, h⟩ := gd h
      refine va_zald (f := sM_loop σ) (n := 4096) hx hb hK hP 8 7 rfl rfl hi23 d_Model_loops_149 ?_
      refine lv_if_ne (tgt := 269) hx hb d_Model_loops_150 (by decide) (fun c24 => ?_) (fun c24 => ?_)
      · have h := b_f h c24
        refine lv_iinc (v := v3 + 1) (lv' := [(3, .int (v3 + 1)), (0, .ref (a 0)), (1, .int v1), (2, .int v2)]) hx hb d_Model_loops_269 hl (k := 3) rfl rfl (by decide) rfl (fun ls hl => ?_)
        refine lv_goto (tgt := 131) hx hb d_Model_loops_272 (by decide) ?_
        exact ih σ v1 v2 (v3 + 1) y h _ _ ls hP hD hS (lv_sub hl [1, 2, 3, 0] rfl) k0
      · have h := b_t h c24
        refine lv_aload_n hx hb d_Model_loops_153 rfl (lv_at hl 0 rfl) ?_
        refine va_get (D := (dC, dI)) (ci := 5) (v := .ref (a 3)) (C := "BlockRulerModel") (T := F_Model) (N := 16) hx hb hg i_Model hown hK hP 0 rfl rfl 6 (by decide) (hg _ wd224) (fun _ h9 => h9) rfl d_Model_loops_154 ?_
        refine lv_iload_n hx hb d_Model_loops_157 rfl (lv_at hl 3 rfl) ?_
        obtain ⟨hi25, h⟩ := gd h
        refine va_iald (f := sM_order σ) (n := 64) hx hb hK hP 3 2 rfl rfl hi25 d_Model_loops_158 ?_
        refine lv_if_ge (tgt := 165) hx hb d_Model_loops_159 (by decide) (fun c26 => ?_) (fun c26 => ?_)
        · have h := b_t h c26
          refine lv_iconst (v := 0) hx hb d_Model_loops_165 (by decide) ?_
          refine lv_istore (lv' := [(4, .int 0), (0, .ref (a 0)), (1, .int v1), (2, .int v2), (3, .int v3)]) hx hb d_Model_loops_166 hl (by decide) rfl (fun ls hl => ?_)
          refine lv_iconst (v := 0) hx hb d_Model_loops_168 (by decide) ?_
          refine lv_istore (lv' := [(5, .int 0), (4, .int 0), (0, .ref (a 0)), (1, .int v1), (2, .int v2), (3, .int v3)]) hx hb d_Model_loops_169 hl (by decide) rfl (fun ls hl => ?_)
          obtain ⟨y34, hy34, h⟩ := bd h
          refine lpW_Model_loops_171 C0 hK hN 100 σ v1 v2 v3 0 0 y34 hy34 hP ls (lv_sub hl [2, 3, 4, 5, 1, 0] rfl) (fun ls hl => ?_)
          refine lv_aload_n hx hb d_Model_loops_241 rfl (lv_at hl 0 rfl) ?_
          refine va_get (D := (dC, dI)) (ci := 5) (v := .ref (a 8)) (C := "BlockRulerModel") (T := F_Model) (N := 16) hx hb hg i_Model hown hK hP 0 rfl rfl 11 (by decide) (hg _ wd236) (fun _ h9 => h9) rfl d_Model_loops_242 ?_
          refine lv_bipush (v := 64) hx hb d_Model_loops_245 (by decide) ?_
          refine lv_iload_n hx hb d_Model_loops_247 rfl (lv_at hl 1 rfl) ?_
          refine lv_imul hx hb d_Model_loops_248 ?_
          refine lv_iload_n hx hb d_Model_loops_249 rfl (lv_at hl 3 rfl) ?_
          refine lv_iadd hx hb d_Model_loops_250 ?_
          refine lv_iload hx hb d_Model_loops_251 (lv_at hl 4 rfl) ?_
          refine va_zast (f := sM_loop σ) (n := 4096) hx hb hK hP hD hS 8 7 rfl rfl hi23 d_Model_loops_253 (fun H locs hP hD hS => ?_)
          have hP := va_Pe (setM_loop a cs σ (upd (sM_loop σ) (Int32.toNatClampNeg ((64 * v1) + v3)) (vp_nar .boolean y34.1))) hP
          have hD := va_De (setM_loop a cs σ (upd (sM_loop σ) (Int32.toNatClampNeg ((64 * v1) + v3)) (vp_nar .boolean y34.1))) hD
          refine lv_iload_n hx hb d_Model_loops_254 rfl (lv_at hl 2 rfl) ?_
          refine lv_if_ne (tgt := 263) hx hb d_Model_loops_255 (by decide) (fun c35 => ?_) (fun c35 => ?_)
          · have h := b_f h c35
            refine lv_iconst (v := 1) hx hb d_Model_loops_263 (by decide) ?_
            refine lv_goto (tgt := 268) hx hb d_Model_loops_264 (by decide) ?_
            refine lv_istore_n (lv' := [(2, .int 1), (0, .ref (a 0)), (1, .int v1), (3, .int v3), (4, .int y34.1), (5, .int y34.2)]) hx hb d_Model_loops_268 rfl hl (by decide) rfl (fun ls hl => ?_)
            refine lv_iinc (v := v3 + 1) (lv' := [(3, .int (v3 + 1)), (2, .int 1), (0, .ref (a 0)), (1, .int v1), (4, .int y34.1), (5, .int y34.2)]) hx hb d_Model_loops_269 hl (k := 3) rfl rfl (by decide) rfl (fun ls hl => ?_)
            refine lv_goto (tgt := 131) hx hb d_Model_loops_272 (by decide) ?_
            exact ih (uM_loop σ (upd (sM_loop σ) (Int32.toNatClampNeg ((64 * v1) + v3)) (vp_nar .boolean y34.1))) v1 1 (v3 + 1) y h _ _ ls hP hD hS (lv_sub hl [2, 3, 1, 0] rfl) k0
          · have h := b_t h c35
            refine lv_iload hx hb d_Model_loops_258 (lv_at hl 4 rfl) ?_
            refine lv_if_eq (tgt := 267) hx hb d_Model_loops_260 (by decide) (fun c36 => ?_) (fun c36 => ?_)
            · have h := b_t h c36
              refine lv_iconst (v := 0) hx hb d_Model_loops_267 (by decide) ?_
              refine lv_istore_n (lv' := [(2, .int 0), (0, .ref (a 0)), (1, .int v1), (3, .int v3), (4, .int y34.1), (5, .int y34.2)]) hx hb d_Model_loops_268 rfl hl (by decide) rfl (fun ls hl => ?_)
              refine lv_iinc (v := v3 + 1) (lv' := [(3, .int (v3 + 1)), (2, .int 0), (0, .ref (a 0)), (1, .int v1), (4, .int y34.1), (5, .int y34.2)]) hx hb d_Model_loops_269 hl (k := 3) rfl rfl (by decide) rfl (fun ls hl => ?_)
              refine lv_goto (tgt := 131) hx hb d_Model_loops_272 (by decide) ?_
              exact ih (uM_loop σ (upd (sM_loop σ) (Int32.toNatClampNeg ((64 * v1) + v3)) (vp_nar .boolean y34.1))) v1 0 (v3 + 1) y h _ _ ls hP hD hS (lv_sub hl [2, 3, 1, 0] rfl) k0
            · have h := b_f h c36
              refine lv_iconst (v := 1) hx hb d_Model_loops_263 (by decide) ?_
              refine lv_goto (tgt := 268) hx hb d_Model_loops_264 (by decide) ?_
              refine lv_istore_n (lv' := [(2, .int 1), (0, .ref (a 0)), (1, .int v1), (3, .int v3), (4, .int y34.1), (5, .int y34.2)]) hx hb d_Model_loops_268 rfl hl (by decide) rfl (fun ls hl => ?_)
              refine lv_iinc (v := v3 + 1) (lv' := [(3, .int (v3 + 1)), (2, .int 1), (0, .ref (a 0)), (1, .int v1), (4, .int y34.1), (5, .int y34.2)]) hx hb d_Model_loops_269 hl (k := 3) rfl rfl (by decide) rfl (fun ls hl => ?_)
              refine lv_goto (tgt := 131) hx hb d_Model_loops_272 (by decide) ?_
              exact ih (uM_loop σ (upd (sM_loop σ) (Int32.toNatClampNeg ((64 * v1) + v3)) (vp_nar .boolean y34.1))) v1 1 (v3 + 1) y h _ _ ls hP hD hS (lv_sub hl [2, 3, 1, 0] rfl) k0
        · have h := b_f h c26
          refine lv_goto (tgt := 269) hx hb d_Model_loops_162 (by decide) ?_
          refine lv_iinc (v := v3 + 1) (lv' := [(3, .int (v3 + 1)), (0, .ref (a 0)), (1, .int v1), (2, .int v2)]) hx hb d_Model_loops_269 hl (k := 3) rfl rfl (by decide) rfl (fun ls hl => ?_)
          refine lv_goto (tgt := 131) hx hb d_Model_loops_272 (by decide) ?_
          exact ih σ v1 v2 (v3 + 1) y h _ _ ls hP hD hS (lv_sub hl [1, 2, 3, 0] rfl) k0
set_option maxHeartbeats 4000000 in
set_option maxRecDepth 100000 in
theorem lpW_Model_loops_123 {p : Program} {l : Launch} {e : Env} {s : State} {m : MethodId} {args : Array Value} {below : List Frame} {meth : Method} {c : Code} {Q : State → Prop} {dC : Nat → ClassId} {dI : Nat → Nat → Nat} {a : Nat → Nat} {cs : Nat → ClassId} {A : Nat → Prop} (C0 : Cx "BlockRulerModel" b_Model_loops 6 p s m args meth c) (hK : va_K (dC, dI) classes (tyM cs) s) (hN : NW s) (hA : ∀ q : Nat, s.heap.size ≤ q → A q) : ∀ (n : Nat) (σ : SM) (v1 : Int32) (v2 : Int32) (y : Int32 × SM), lp_Model_loops_123 n σ v1 v2 = some y → ∀ (H : Heap) (locs : List Loc) (ls : Array Slot), va_P (dC, dI) classes (wsM a cs σ) H → va_D A (wsM a cs σ) → va_S A s.heap H locs → lv_has ls 6 [(0, .ref (a 0)), (1, .int v1), (2, .int v2)] → (∀ (H : Heap) (locs : List Loc) (ls : Array Slot), va_P (dC, dI) classes (wsM a cs y.2) H → va_D A (wsM a cs y.2) → va_S A s.heap H locs → lv_has ls 6 [(0, .ref (a 0)), (1, .int v1), (2, .int y.1)] → W p l e (headSpec w_Model_loops rm_Model_loops).room s m args below meth c H locs 0 0 Q (F0 m 278 ls [])) → W p l e (headSpec w_Model_loops rm_Model_loops).room s m args below meth c H locs 0 0 Q (F0 m 123 ls []) := by
  have C1 := C0
  obtain ⟨hx, hb, hml, hown, hg, hlocks⟩ := C1
  intro n
  induction n with
  | zero => intro σ v1 v2 y h; exact absurd (show (none : Option (Int32 × SM)) = some y from h) (fun q => by cases q)
  | succ n ih =>
    intro σ v1 v2 y h H locs ls hP hD hS hl k0
    rw [lp_Model_loops_123_s] at h
    refine lv_iload_n hx hb d_Model_loops_123 rfl (lv_at hl 2 rfl) ?_
    refine lv_if_eq (tgt := 278) hx hb d_Model_loops_124 (by decide) (fun c21 => ?_) (fun c21 => ?_)
    · have h := b_t h c21
      obtain rfl := Option.some.inj h
      exact k0 _ _ ls hP hD hS (lv_sub hl [0, 1, 2] rfl)
    · have h := b_f h c21
      refine lv_iconst (v := 0) hx hb d_Model_loops_127 (by decide) ?_
      refine lv_istore_n (lv' := [(2, .int 0), (0, .ref (a 0)), (1, .int v1)]) hx hb d_Model_loops_128 rfl hl (by decide) rfl (fun ls hl => ?_)
      refine lv_iconst (v := 0) hx hb d_Model_loops_129 (by decide) ?_
      refine lv_istore_n (lv' := [(3, .int 0), (2, .int 0), (0, .ref (a 0)), (1, .int v1)]) hx hb d_Model_loops_130 rfl hl (by decide) rfl (fun ls hl => ?_)
      obtain ⟨y37, hy37, h⟩ := bd h
      refine lpW_Model_loops_131 C0 hK hN hA 100 σ v1 0 0 y37 hy37 _ _ ls hP hD hS (lv_sub hl [2, 3, 1, 0] rfl) (fun H locs ls hP hD hS hl => ?_)
      refine lv_goto (tgt := 123) hx hb d_Model_loops_275 (by decide) ?_
      exact ih y37.2.2 v1 y37.1 y h _ _ ls hP hD hS (lv_sub hl [0, 1, 2] rfl) k0
set_option maxHeartbeats 4000000 in
set_option maxRecDepth 100000 in
theorem lpW_Model_loops_280 {p : Program} {l : Launch} {e : Env} {s : State} {m : MethodId} {args : Array Value} {below : List Frame} {meth : Method} {c : Code} {Q : State → Prop} {dC : Nat → ClassId} {dI : Nat → Nat → Nat} {a : Nat → Nat} {cs : Nat → ClassId} {A : Nat → Prop} (C0 : Cx "BlockRulerModel" b_Model_loops 6 p s m args meth c) (hK : va_K (dC, dI) classes (tyM cs) s) (hN : NW s) (hA : ∀ q : Nat, s.heap.size ≤ q → A q) : ∀ (n : Nat) (σ : SM) (v1 : Int32) (v3 : Int32) (y : Int32 × SM), lp_Model_loops_280 n σ v1 v3 = some y → ∀ (H : Heap) (locs : List Loc) (ls : Array Slot), va_P (dC, dI) classes (wsM a cs σ) H → va_D A (wsM a cs σ) → va_S A s.heap H locs → lv_has ls 6 [(0, .ref (a 0)), (1, .int v1), (3, .int v3)] → (∀ (H : Heap) (locs : List Loc) (ls : Array Slot), va_P (dC, dI) classes (wsM a cs y.2) H → va_D A (wsM a cs y.2) → va_S A s.heap H locs → lv_has ls 6 [(0, .ref (a 0)), (1, .int v1), (3, .int y.1)] → W p l e (headSpec w_Model_loops rm_Model_loops).room s m args below meth c H locs 0 0 Q (F0 m 322 ls [])) → W p l e (headSpec w_Model_loops rm_Model_loops).room s m args below meth c H locs 0 0 Q (F0 m 280 ls []) := by
  have C1 := C0
  obtain ⟨hx, hb, hml, hown, hg, hlocks⟩ := C1
  intro n
  induction n with
  | zero => intro σ v1 v3 y h; exact absurd (show (none : Option (Int32 × SM)) = some y from h) (fun q => by cases q)
  | succ n ih =>
    intro σ v1 v3 y h H locs ls hP hD hS hl k0
    rw [lp_Model_loops_280_s] at h
    refine lv_iload_n hx hb d_Model_loops_280 rfl (lv_at hl 2 rfl) ?_
    refine lv_aload_n hx hb d_Model_loops_281 rfl (lv_at hl 0 rfl) ?_
    refine va_get (D := (dC, dI)) (ci := 5) (v := .int (sM_blocks σ)) (C := "BlockRulerModel") (T := F_Model) (N := 16) hx hb hg i_Model hown hK hP 0 rfl rfl 1 (by decide) (hg _ wd211) (fun _ h9 => h9) rfl d_Model_loops_282 ?_
    refine lv_icmp_ge (tgt := 322) hx hb d_Model_loops_285 (by decide) (fun c39 => ?_) (fun c39 => ?_)
    · have h := b_t h c39
      obtain rfl := Option.some.inj h
      exact k0 _ _ ls hP hD hS (lv_sub hl [0, 1, 2] rfl)
    · have h := b_f h c39
      refine lv_aload_n hx hb d_Model_loops_288 rfl (lv_at hl 0 rfl) ?_
      refine va_get (D := (dC, dI)) (ci := 5) (v := .ref (a 9)) (C := "BlockRulerModel") (T := F_Model) (N := 16) hx hb hg i_Model hown hK hP 0 rfl rfl 12 (by decide) (hg _ wd231) (fun _ h9 => h9) rfl d_Model_loops_289 ?_
      refine lv_iload_n hx hb d_Model_loops_292 rfl (lv_at hl 1 rfl) ?_
      refine lv_dup2_11 hx hb d_Model_loops_293 rfl rfl ?_
      obtain ⟨hi40, h⟩ := gd h
      refine va_iald (f := sM_loopSize σ) (n := 64) hx hb hK hP 9 8 rfl rfl hi40 d_Model_loops_294 ?_
      refine lv_aload_n hx hb d_Model_loops_295 rfl (lv_at hl 0 rfl) ?_
      refine va_get (D := (dC, dI)) (ci := 5) (v := .ref (a 8)) (C := "BlockRulerModel") (T := F_Model) (N := 16) hx hb hg i_Model hown hK hP 0 rfl rfl 11 (by decide) (hg _ wd236) (fun _ h9 => h9) rfl d_Model_loops_296 ?_
      refine lv_bipush (v := 64) hx hb d_Model_loops_299 (by decide) ?_
      refine lv_iload_n hx hb d_Model_loops_301 rfl (lv_at hl 1 rfl) ?_
      refine lv_imul hx hb d_Model_loops_302 ?_
      refine lv_iload_n hx hb d_Model_loops_303 rfl (lv_at hl 2 rfl) ?_
      refine lv_iadd hx hb d_Model_loops_304 ?_
      obtain ⟨hi41, h⟩ := gd h
      refine va_zald (f := sM_loop σ) (n := 4096) hx hb hK hP 8 7 rfl rfl hi41 d_Model_loops_305 ?_
      refine lv_if_eq (tgt := 313) hx hb d_Model_loops_306 (by decide) (fun c42 => ?_) (fun c42 => ?_)
      · have h := b_t h c42
        refine lv_iconst (v := 0) hx hb d_Model_loops_313 (by decide) ?_
        refine lv_iadd hx hb d_Model_loops_314 ?_
        refine va_iast (f := sM_loopSize σ) (n := 64) hx hb hK hP hD hS 9 8 rfl rfl hi40 d_Model_loops_315 (fun H locs hP hD hS => ?_)
        have hP := va_Pe (setM_loopSize a cs σ (upd (sM_loopSize σ) (Int32.toNatClampNeg v1) ((sM_loopSize σ (Int32.toNatClampNeg v1)) + 0))) hP
        have hD := va_De (setM_loopSize a cs σ (upd (sM_loopSize σ) (Int32.toNatClampNeg v1) ((sM_loopSize σ (Int32.toNatClampNeg v1)) + 0))) hD
        refine lv_iinc (v := v3 + 1) (lv' := [(3, .int (v3 + 1)), (0, .ref (a 0)), (1, .int v1)]) hx hb d_Model_loops_316 hl (k := 2) rfl rfl (by decide) rfl (fun ls hl => ?_)
        refine lv_goto (tgt := 280) hx hb d_Model_loops_319 (by decide) ?_
        exact ih (uM_loopSize σ (upd (sM_loopSize σ) (Int32.toNatClampNeg v1) ((sM_loopSize σ (Int32.toNatClampNeg v1)) + 0))) v1 (v3 + 1) y h _ _ ls hP hD hS (lv_sub hl [1, 2, 0] rfl) k0
      · have h := b_f h c42
        refine lv_iconst (v := 1) hx hb d_Model_loops_309 (by decide) ?_
        refine lv_goto (tgt := 314) hx hb d_Model_loops_310 (by decide) ?_
        refine lv_iadd hx hb d_Model_loops_314 ?_
        refine va_iast (f := sM_loopSize σ) (n := 64) hx hb hK hP hD hS 9 8 rfl rfl hi40 d_Model_loops_315 (fun H locs hP hD hS => ?_)
        have hP := va_Pe (setM_loopSize a cs σ (upd (sM_loopSize σ) (Int32.toNatClampNeg v1) ((sM_loopSize σ (Int32.toNatClampNeg v1)) + 1))) hP
        have hD := va_De (setM_loopSize a cs σ (upd (sM_loopSize σ) (Int32.toNatClampNeg v1) ((sM_loopSize σ (Int32.toNatClampNeg v1)) + 1))) hD
        refine lv_iinc (v := v3 + 1) (lv' := [(3, .int (v3 + 1)), (0, .ref (a 0)), (1, .int v1)]) hx hb d_Model_loops_316 hl (k := 2) rfl rfl (by decide) rfl (fun ls hl => ?_)
        refine lv_goto (tgt := 280) hx hb d_Model_loops_319 (by decide) ?_
        exact ih (uM_loopSize σ (upd (sM_loopSize σ) (Int32.toNatClampNeg v1) ((sM_loopSize σ (Int32.toNatClampNeg v1)) + 1))) v1 (v3 + 1) y h _ _ ls hP hD hS (lv_sub hl [1, 2, 0] rfl) k0
set_option maxHeartbeats 4000000 in
set_option maxRecDepth 100000 in
theorem c_Model_loops (l : Launch) (dC : Nat → ClassId) (dI : Nat → Nat → Nat) (a : Nat → Nat) (cs : Nat → ClassId) (sz : Nat) (σ : SM) (v1 : Int32) (r : SM) (h : f_Model_loops σ v1 = some r) : Met l y_Model_loops w_Model_loops rm_Model_loops (va_Pc [.ref (a 0), .int v1] (fun U => U.heap.size = sz ∧ WDM dC dI a cs σ U)) (va_Qv (fun u : SM => u = r) (atM dC dI a cs (va_A (wsM a cs σ) sz)) (va_A (wsM a cs σ) sz)) 0 0 (va_A (wsM a cs σ) sz) := by
  refine Met.ofW (cc := b_Model_loops) (maxL := 6) (ret := none) (by decide) rfl ?_
  intro p e s m args below meth c s₁ B hml hv
  obtain ⟨rfl, hsz, hP, hK, hN, hD0⟩ := hv
  have hx := B.exec
  have hb := B.bytes
  have hr := B.returns
  have hg : ∀ w ∈ G_, w.before _ s = true := fun w hw => atoms_spec (ws := w_Model_loops) B.pre w (List.mem_cons_of_mem _ hw)
  have hown : s.vm.findClass "BlockRulerModel" = some m.cls := findClass_of_methodNamed B.named
  have hlocks := B.notSynchronized
  have C0 : Cx "BlockRulerModel" b_Model_loops 6 p s m _ meth c := ⟨hx, hb, hml, hown, hg, hlocks⟩
  subst hsz
  have hD := hD0.self (sz := s.heap.size)
  generalize hAe : va_A (wsM a cs σ) s.heap.size = A at hD ⊢
  have hA : ∀ q : Nat, s.heap.size ≤ q → A q := fun q h => by rw [← hAe]; exact Or.inr h
  have hS : va_S A s.heap s.heap [] := va_S.rf
  have hl := lv_entry ([.ref (a 0), .int v1]) (n := 6) (Nat.le_of_ble_eq_true rfl)
  rw [lg_entry_eq]
  generalize (lg_sl ([.ref (a 0), .int v1]) ++ List.replicate (6 - (lg_sl ([.ref (a 0), .int v1])).length) Slot.unset).toArray = ls at hl ⊢
  have hl : lv_has ls 6 [(0, .ref (a 0)), (1, .int v1)] := hl
  unfold f_Model_loops at h
  refine lv_aload_n hx hb d_Model_loops_0 rfl (lv_at hl 0 rfl) ?_
  refine va_get (D := (dC, dI)) (ci := 5) (v := .ref (a 9)) (C := "BlockRulerModel") (T := F_Model) (N := 16) hx hb hg i_Model hown hK hP 0 rfl rfl 12 (by decide) (hg _ wd231) (fun _ h9 => h9) rfl d_Model_loops_1 ?_
  refine lv_iload_n hx hb d_Model_loops_4 rfl (lv_at hl 1 rfl) ?_
  refine lv_iconst (v := 0) hx hb d_Model_loops_5 (by decide) ?_
  obtain ⟨hi1, h⟩ := gd h
  refine va_iast (f := sM_loopSize σ) (n := 64) hx hb hK hP hD hS 9 8 rfl rfl hi1 d_Model_loops_6 (fun H locs hP hD hS => ?_)
  have hP := va_Pe (setM_loopSize a cs σ (upd (sM_loopSize σ) (Int32.toNatClampNeg v1) 0)) hP
  have hD := va_De (setM_loopSize a cs σ (upd (sM_loopSize σ) (Int32.toNatClampNeg v1) 0)) hD
  refine lv_iconst (v := 0) hx hb d_Model_loops_7 (by decide) ?_
  refine lv_istore_n (lv' := [(2, .int 0), (0, .ref (a 0)), (1, .int v1)]) hx hb d_Model_loops_8 rfl hl (by decide) rfl (fun ls hl => ?_)
  obtain ⟨y19, hy19, h⟩ := bd h
  refine lpW_Model_loops_9 C0 hK hN hA 100 (uM_loopSize σ (upd (sM_loopSize σ) (Int32.toNatClampNeg v1) 0)) v1 0 y19 hy19 _ _ ls hP hD hS (lv_sub hl [1, 2, 0] rfl) (fun H locs ls hP hD hS hl => ?_)
  refine lv_aload_n hx hb d_Model_loops_116 rfl (lv_at hl 0 rfl) ?_
  refine va_get (D := (dC, dI)) (ci := 5) (v := .ref (a 7)) (C := "BlockRulerModel") (T := F_Model) (N := 16) hx hb hg i_Model hown hK hP 0 rfl rfl 10 (by decide) (hg _ wd237) (fun _ h9 => h9) rfl d_Model_loops_117 ?_
  refine lv_iload_n hx hb d_Model_loops_120 rfl (lv_at hl 1 rfl) ?_
  refine va_zald (f := sM_isHead y19.2) (n := 64) hx hb hK hP 7 6 rfl rfl hi1 d_Model_loops_121 ?_
  refine lv_topi (fun x20 ex20 => ?_)
  have h := lt_ h x20 ex20
  refine lv_istore_n (lv' := [(2, .int x20), (0, .ref (a 0)), (1, .int v1)]) hx hb d_Model_loops_122 rfl hl (by decide) rfl (fun ls hl => ?_)
  obtain ⟨y38, hy38, h⟩ := bd h
  refine lpW_Model_loops_123 C0 hK hN hA 100 y19.2 v1 x20 y38 hy38 _ _ ls hP hD hS (lv_sub hl [1, 2, 0] rfl) (fun H locs ls hP hD hS hl => ?_)
  refine lv_iconst (v := 0) hx hb d_Model_loops_278 (by decide) ?_
  refine lv_istore_n (lv' := [(3, .int 0), (0, .ref (a 0)), (1, .int v1), (2, .int y38.1)]) hx hb d_Model_loops_279 rfl hl (by decide) rfl (fun ls hl => ?_)
  obtain ⟨y43, hy43, h⟩ := bd h
  refine lpW_Model_loops_280 C0 hK hN hA 100 y38.2 v1 0 y43 hy43 _ _ ls hP hD hS (lv_sub hl [1, 2, 0] rfl) (fun H locs ls hP hD hS hl => ?_)
  exact W.vret hx hb hr (fun t ht hW => ⟨⟨y43.2, rfl, Option.some.inj h, by rw [ht]; exact hP, hD⟩, hS.F ht⟩) hS.2.2 d_Model_loops_322
