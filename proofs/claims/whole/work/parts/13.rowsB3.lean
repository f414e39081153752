-- written by wip/gen (blockruler.py)
set_option maxHeartbeats 4000000 in
set_option maxRecDepth 100000 in
theorem c_Loops_kindOf (l : Launch) (dC : Nat → ClassId) (dI : Nat → Nat → Nat) (a : Nat → Nat) (cs : Nat → ClassId) (σ : SB) (v1 : Int32) (v2 : Int32) (r : Int32) (h : f_Loops_kindOf σ v1 v2 = some r) : Met l y_Loops_kindOf w_Loops_kindOf rm_Loops_kindOf (va_Pc [.ref (a 4), .int v1, .int v2] (WBB dC dI a cs σ)) (QcV (.int r)) 0 0 (fun _ => False) := by
  refine Met.ofW (cc := b_Loops_kindOf) (maxL := 4) (ret := (some .int)) (by decide) rfl ?_
  intro p e s m args below meth c s₁ B hml hv
  obtain ⟨rfl, hP, hK, hN⟩ := hv
  have hx := B.exec
  have hb := B.bytes
  have hr := B.returns
  have hg : ∀ w ∈ G_, w.before _ s = true := fun w hw => atoms_spec (ws := w_Loops_kindOf) B.pre w (List.mem_cons_of_mem _ hw)
  have hown : s.vm.findClass "BlockRuler$Loops" = some m.cls := findClass_of_methodNamed B.named
  have hlocks := B.notSynchronized
  have C0 : Cx "BlockRuler$Loops" b_Loops_kindOf 4 p s m _ meth c := ⟨hx, hb, hml, hown, hg, hlocks⟩
  have hl := lv_entry ([.ref (a 4), .int v1, .int v2]) (n := 4) (Nat.le_of_ble_eq_true rfl)
  rw [lg_entry_eq]
  generalize (lg_sl ([.ref (a 4), .int v1, .int v2]) ++ List.replicate (4 - (lg_sl ([.ref (a 4), .int v1, .int v2])).length) Slot.unset).toArray = ls at hl ⊢
  have hl : lv_has ls 4 [(0, .ref (a 4)), (1, .int v1), (2, .int v2)] := hl
  unfold f_Loops_kindOf at h
  refine lv_aload_n hx hb d_Loops_kindOf_0 rfl (lv_at hl 0 rfl) ?_
  refine va_get (D := (dC, dI)) (ci := 4) (v := .ref (a 1)) (C := "BlockRuler$Loops") (T := F_Loops) (N := 7) hx hb hg i_Loops hown hK hP 4 rfl rfl 0 (by decide) (hg _ wd84) (fun _ h9 => h9) rfl d_Loops_kindOf_1 ?_
  refine lv_iload_n hx hb d_Loops_kindOf_4 rfl (lv_at hl 1 rfl) ?_
  refine lv_iload_n hx hb d_Loops_kindOf_5 rfl (lv_at hl 2 rfl) ?_
  obtain ⟨r1, hr1, h⟩ := bd h
  refine ro_call (v := .int r1) (va_runV (C := "BlockRuler$Web") (As := [.int v1, .int v2]) (rest := []) ⟨hx, hb, hml, hown, hg⟩ (c_Web_endOf l dC dI a cs σ v1 v2 _ hr1) (cwV 2 hg (gdV wd85 wd13 wd12 wd7 wd15) rfl rfl rfl (by decide +kernel) ⟨Nat.le_of_ble_eq_true rfl, Nat.le_of_ble_eq_true rfl⟩) ⟨wb_blind, va_recv hK hP (ci := 1) (q0 := 1) rfl rfl, fun U hU hW => ⟨rfl, wb_pre hU hW hP hK hN⟩⟩ rfl rfl hl.1 rfl (lv_room (Nat.le_of_ble_eq_true rfl)) d_Loops_kindOf_6 ⟨Nat.zero_le _, Nat.zero_le _⟩) ?_
  refine lv_istore_n (lv' := [(3, .int r1), (0, .ref (a 4)), (1, .int v1), (2, .int v2)]) hx hb d_Loops_kindOf_9 rfl hl (by decide) rfl (fun ls hl => ?_)
  refine lv_aload_n hx hb d_Loops_kindOf_10 rfl (lv_at hl 1 rfl) ?_
  refine va_get (D := (dC, dI)) (ci := 4) (v := .ref (a 2)) (C := "BlockRuler$Loops") (T := F_Loops) (N := 7) hx hb hg i_Loops hown hK hP 4 rfl rfl 1 (by decide) (hg _ wd86) (fun _ h9 => h9) rfl d_Loops_kindOf_11 ?_
  refine va_get (D := (dC, dI)) (ci := 2) (v := .ref (a 7)) (C := "BlockRuler$Walk") (T := F_Walk) (N := 9) hx hb hg i_Walk hown hK hP 2 rfl rfl 1 (by decide) (hg _ wd87) (fun _ h9 => h9) rfl d_Loops_kindOf_14 ?_
  refine lv_iload_n hx hb d_Loops_kindOf_17 rfl (lv_at hl 0 rfl) ?_
  obtain ⟨hi2, h⟩ := gd h
  refine va_iald (f := sB_orders σ) (n := 64) hx hb hK hP 7 2 rfl rfl hi2 d_Loops_kindOf_18 ?_
  refine lv_aload_n hx hb d_Loops_kindOf_19 rfl (lv_at hl 1 rfl) ?_
  refine va_get (D := (dC, dI)) (ci := 4) (v := .ref (a 2)) (C := "BlockRuler$Loops") (T := F_Loops) (N := 7) hx hb hg i_Loops hown hK hP 4 rfl rfl 1 (by decide) (hg _ wd86) (fun _ h9 => h9) rfl d_Loops_kindOf_20 ?_
  refine va_get (D := (dC, dI)) (ci := 2) (v := .ref (a 7)) (C := "BlockRuler$Walk") (T := F_Walk) (N := 9) hx hb hg i_Walk hown hK hP 2 rfl rfl 1 (by decide) (hg _ wd87) (fun _ h9 => h9) rfl d_Loops_kindOf_23 ?_
  refine lv_iload_n hx hb d_Loops_kindOf_26 rfl (lv_at hl 2 rfl) ?_
  obtain ⟨hi3, h⟩ := gd h
  refine va_iald (f := sB_orders σ) (n := 64) hx hb hK hP 7 2 rfl rfl hi3 d_Loops_kindOf_27 ?_
  refine lv_icmp_le (tgt := 33) hx hb d_Loops_kindOf_28 (by decide) (fun c4 => ?_) (fun c4 => ?_)
  · have h := b_t h c4
    refine lv_aload_n hx hb d_Loops_kindOf_33 rfl (lv_at hl 1 rfl) ?_
    refine va_get (D := (dC, dI)) (ci := 4) (v := .ref (a 3)) (C := "BlockRuler$Loops") (T := F_Loops) (N := 7) hx hb hg i_Loops hown hK hP 4 rfl rfl 2 (by decide) (hg _ wd88) (fun _ h9 => h9) rfl d_Loops_kindOf_34 ?_
    refine lv_iload_n hx hb d_Loops_kindOf_37 rfl (lv_at hl 0 rfl) ?_
    refine lv_iload_n hx hb d_Loops_kindOf_38 rfl (lv_at hl 2 rfl) ?_
    obtain ⟨r5, hr5, h⟩ := bd h
    refine ro_call (v := .int r5) (va_runV (C := "BlockRuler$Rulers") (As := [.int r1, .int v1]) (rest := []) ⟨hx, hb, hml, hown, hg⟩ (c_Rulers_isRuled l dC dI a cs σ r1 v1 _ hr5) (cwV 2 hg (gdV wd89 wd61 wd60 wd63 wd64) rfl rfl rfl (by decide +kernel) ⟨Nat.le_of_ble_eq_true rfl, Nat.le_of_ble_eq_true rfl⟩) ⟨wb_blind, va_recv hK hP (ci := 3) (q0 := 3) rfl rfl, fun U hU hW => ⟨rfl, wb_pre hU hW hP hK hN⟩⟩ rfl rfl hl.1 rfl (lv_room (Nat.le_of_ble_eq_true rfl)) d_Loops_kindOf_39 ⟨Nat.zero_le _, Nat.zero_le _⟩) ?_
    refine lv_if_eq (tgt := 49) hx hb d_Loops_kindOf_42 (by decide) (fun c6 => ?_) (fun c6 => ?_)
    · have h := b_t h c6
      refine lv_iconst (v := 2) hx hb d_Loops_kindOf_49 (by decide) ?_
      exact W.iret (v := 2) hx hb hr (fun t ht _ => ⟨by rw [Option.some.inj h], ht⟩) (fun q hq => by cases hq) d_Loops_kindOf_50
    · have h := b_f h c6
      refine lv_iconst (v := 1) hx hb d_Loops_kindOf_45 (by decide) ?_
      refine lv_goto (tgt := 50) hx hb d_Loops_kindOf_46 (by decide) ?_
      exact W.iret (v := 1) hx hb hr (fun t ht _ => ⟨by rw [Option.some.inj h], ht⟩) (fun q hq => by cases hq) d_Loops_kindOf_50
  · have h := b_f h c4
    refine lv_iconst (v := 0) hx hb d_Loops_kindOf_31 (by decide) ?_
    exact W.iret (v := 0) hx hb hr (fun t ht _ => ⟨by rw [Option.some.inj h], ht⟩) (fun q hq => by cases hq) d_Loops_kindOf_32
set_option maxHeartbeats 4000000 in
set_option maxRecDepth 100000 in
theorem lpW_Loops_depthOf_4 {p : Program} {l : Launch} {e : Env} {s : State} {m : MethodId} {args : Array Value} {below : List Frame} {meth : Method} {c : Code} {Q : State → Prop} {dC : Nat → ClassId} {dI : Nat → Nat → Nat} {a : Nat → Nat} {cs : Nat → ClassId} {H : Heap} {locs : List Loc} (C0 : Cx "BlockRuler$Loops" b_Loops_depthOf 4 p s m args meth c) (hK : va_K (dC, dI) classes (tyB cs) s) (hN : NW s) : ∀ (n : Nat) (σ : SB) (v1 : Int32) (v2 : Int32) (v3 : Int32) (y : Int32 × Int32), lp_Loops_depthOf_4 n σ v1 v2 v3 = some y → va_P (dC, dI) classes (wsB a cs σ) H → ∀ (ls : Array Slot), lv_has ls 4 [(0, .ref (a 4)), (1, .int v1), (2, .int v2), (3, .int v3)] → (∀ (ls : Array Slot), lv_has ls 4 [(0, .ref (a 4)), (1, .int v1), (2, .int y.1), (3, .int y.2)] → W p l e (headSpec w_Loops_depthOf rm_Loops_depthOf).room s m args below meth c H locs 0 0 Q (F0 m 32 ls [])) → W p l e (headSpec w_Loops_depthOf rm_Loops_depthOf).room s m args below meth c H locs 0 0 Q (F0 m 4 ls []) := by
  have C1 := C0
  obtain ⟨hx, hb, hml, hown, hg, hlocks⟩ := C1
  intro n
  induction n with
  | zero => intro σ v1 v2 v3 y h; exact absurd (show (none : Option (Int32 × Int32)) = some y from h) (fun q => by cases q)
  | succ n ih =>
    intro σ v1 v2 v3 y h hP ls hl k0
    rw [lp_Loops_depthOf_4_s] at h
    refine lv_iload_n hx hb d_Loops_depthOf_4 rfl (lv_at hl 3 rfl) ?_
    refine lv_bipush (v := 64) hx hb d_Loops_depthOf_5 (by decide) ?_
    refine lv_icmp_ge (tgt := 32) hx hb d_Loops_depthOf_7 (by decide) (fun c1 => ?_) (fun c1 => ?_)
    · have h := b_t h c1
      obtain rfl := Option.some.inj h
      exact k0 ls (lv_sub hl [0, 1, 2, 3] rfl)
    · have h := b_f h c1
      refine lv_aload_n hx hb d_Loops_depthOf_10 rfl (lv_at hl 0 rfl) ?_
      refine va_get (D := (dC, dI)) (ci := 4) (v := .ref (a 14)) (C := "BlockRuler$Loops") (T := F_Loops) (N := 7) hx hb hg i_Loops hown hK hP 4 rfl rfl 3 (by decide) (hg _ wd90) (fun _ h9 => h9) rfl d_Loops_depthOf_11 ?_
      refine lv_iload_n hx hb d_Loops_depthOf_14 rfl (lv_at hl 3 rfl) ?_
      obtain ⟨hi2, h⟩ := gd h
      refine va_lald (f := sB_lof σ) (n := 64) hx hb hK hP 14 9 rfl rfl hi2 d_Loops_depthOf_15 ?_
      refine lv_iload_n hx hb d_Loops_depthOf_16 rfl (lv_at hl 1 rfl) ?_
      refine ro_call (v := .int (f_BlockRuler_holds (sB_lof σ (Int32.toNatClampNeg v3)) v1)) (va_runSN (As := [.long (sB_lof σ (Int32.toNatClampNeg v3)), .int v1]) (rest := []) ⟨hx, hb, hml, hown, hg⟩ (c_BlockRuler_holds l (sB_lof σ (Int32.toNatClampNeg v3)) v1 _ rfl) ⟨va_cnB 2 hg (gdC wd29) rfl rfl rfl (hN _ nw6) (hg _ wd22) (by decide +kernel) ⟨Nat.le_of_ble_eq_true rfl, Nat.le_of_ble_eq_true rfl⟩, hg _ wd30, trivial⟩ ⟨va_blind0, fun U hU hW => ⟨rfl, trivial⟩⟩ rfl rfl hl.1 rfl (lv_room (Nat.le_of_ble_eq_true rfl)) d_Loops_depthOf_17 ⟨Nat.zero_le _, Nat.zero_le _⟩) ?_
      refine lv_if_eq (tgt := 26) hx hb d_Loops_depthOf_20 (by decide) (fun c3 => ?_) (fun c3 => ?_)
      · have h := b_t h c3
        refine lv_iinc (v := v3 + 1) (lv' := [(3, .int (v3 + 1)), (0, .ref (a 4)), (1, .int v1), (2, .int v2)]) hx hb d_Loops_depthOf_26 hl (k := 3) rfl rfl (by decide) rfl (fun ls hl => ?_)
        refine lv_goto (tgt := 4) hx hb d_Loops_depthOf_29 (by decide) ?_
        exact ih σ v1 v2 (v3 + 1) y h hP ls (lv_sub hl [1, 2, 3, 0] rfl) k0
      · have h := b_f h c3
        refine lv_iinc (v := v2 + 1) (lv' := [(2, .int (v2 + 1)), (0, .ref (a 4)), (1, .int v1), (3, .int v3)]) hx hb d_Loops_depthOf_23 hl (k := 2) rfl rfl (by decide) rfl (fun ls hl => ?_)
        refine lv_iinc (v := v3 + 1) (lv' := [(3, .int (v3 + 1)), (2, .int (v2 + 1)), (0, .ref (a 4)), (1, .int v1)]) hx hb d_Loops_depthOf_26 hl (k := 3) rfl rfl (by decide) rfl (fun ls hl => ?_)
        refine lv_goto (tgt := 4) hx hb d_Loops_depthOf_29 (by decide) ?_
        exact ih σ v1 (v2 + 1) (v3 + 1) y h hP ls (lv_sub hl [2, 3, 1, 0] rfl) k0
set_option maxHeartbeats 4000000 in
set_option maxRecDepth 100000 in
theorem c_Loops_depthOf (l : Launch) (dC : Nat → ClassId) (dI : Nat → Nat → Nat) (a : Nat → Nat) (cs : Nat → ClassId) (σ : SB) (v1 : Int32) (r : Int32) (h : f_Loops_depthOf σ v1 = some r) : Met l y_Loops_depthOf w_Loops_depthOf rm_Loops_depthOf (va_Pc [.ref (a 4), .int v1] (WBB dC dI a cs σ)) (QcV (.int r)) 0 0 (fun _ => False) := by
  refine Met.ofW (cc := b_Loops_depthOf) (maxL := 4) (ret := (some .int)) (by decide) rfl ?_
  intro p e s m args below meth c s₁ B hml hv
  obtain ⟨rfl, hP, hK, hN⟩ := hv
  have hx := B.exec
  have hb := B.bytes
  have hr := B.returns
  have hg : ∀ w ∈ G_, w.before _ s = true := fun w hw => atoms_spec (ws := w_Loops_depthOf) B.pre w (List.mem_cons_of_mem _ hw)
  have hown : s.vm.findClass "BlockRuler$Loops" = some m.cls := findClass_of_methodNamed B.named
  have hlocks := B.notSynchronized
  have C0 : Cx "BlockRuler$Loops" b_Loops_depthOf 4 p s m _ meth c := ⟨hx, hb, hml, hown, hg, hlocks⟩
  have hl := lv_entry ([.ref (a 4), .int v1]) (n := 4) (Nat.le_of_ble_eq_true rfl)
  rw [lg_entry_eq]
  generalize (lg_sl ([.ref (a 4), .int v1]) ++ List.replicate (4 - (lg_sl ([.ref (a 4), .int v1])).length) Slot.unset).toArray = ls at hl ⊢
  have hl : lv_has ls 4 [(0, .ref (a 4)), (1, .int v1)] := hl
  unfold f_Loops_depthOf at h
  refine lv_iconst (v := 0) hx hb d_Loops_depthOf_0 (by decide) ?_
  refine lv_istore_n (lv' := [(2, .int 0), (0, .ref (a 4)), (1, .int v1)]) hx hb d_Loops_depthOf_1 rfl hl (by decide) rfl (fun ls hl => ?_)
  refine lv_iconst (v := 0) hx hb d_Loops_depthOf_2 (by decide) ?_
  refine lv_istore_n (lv' := [(3, .int 0), (2, .int 0), (0, .ref (a 4)), (1, .int v1)]) hx hb d_Loops_depthOf_3 rfl hl (by decide) rfl (fun ls hl => ?_)
  obtain ⟨y4, hy4, h⟩ := bd h
  refine lpW_Loops_depthOf_4 C0 hK hN 100 σ v1 0 0 y4 hy4 hP ls (lv_sub hl [2, 3, 1, 0] rfl) (fun ls hl => ?_)
  refine lv_iload_n hx hb d_Loops_depthOf_32 rfl (lv_at hl 2 rfl) ?_
  exact W.iret (v := y4.1) hx hb hr (fun t ht _ => ⟨by rw [Option.some.inj h], ht⟩) (fun q hq => by cases hq) d_Loops_depthOf_33
set_option maxHeartbeats 4000000 in
set_option maxRecDepth 100000 in
theorem lpW_Loops_greatestDepth_4 {p : Program} {l : Launch} {e : Env} {s : State} {m : MethodId} {args : Array Value} {below : List Frame} {meth : Method} {c : Code} {Q : State → Prop} {dC : Nat → ClassId} {dI : Nat → Nat → Nat} {a : Nat → Nat} {cs : Nat → ClassId} {H : Heap} {locs : List Loc} (C0 : Cx "BlockRuler$Loops" b_Loops_greatestDepth 3 p s m args meth c) (hK : va_K (dC, dI) classes (tyB cs) s) (hN : NW s) : ∀ (n : Nat) (σ : SB) (v1 : Int32) (v2 : Int32) (y : Int32 × Int32), lp_Loops_greatestDepth_4 n σ v1 v2 = some y → va_P (dC, dI) classes (wsB a cs σ) H → ∀ (ls : Array Slot), lv_has ls 3 [(0, .ref (a 4)), (1, .int v1), (2, .int v2)] → (∀ (ls : Array Slot), lv_has ls 3 [(0, .ref (a 4)), (1, .int y.1), (2, .int y.2)] → W p l e (headSpec w_Loops_greatestDepth rm_Loops_greatestDepth).room s m args below meth c H locs 0 0 Q (F0 m 26 ls [])) → W p l e (headSpec w_Loops_greatestDepth rm_Loops_greatestDepth).room s m args below meth c H locs 0 0 Q (F0 m 4 ls []) := by
  have C1 := C0
  obtain ⟨hx, hb, hml, hown, hg, hlocks⟩ := C1
  intro n
  induction n with
  | zero => intro σ v1 v2 y h; exact absurd (show (none : Option (Int32 × Int32)) = some y from h) (fun q => by cases q)
  | succ n ih =>
    intro σ v1 v2 y h hP ls hl k0
    rw [lp_Loops_greatestDepth_4_s] at h
    refine lv_iload_n hx hb d_Loops_greatestDepth_4 rfl (lv_at hl 2 rfl) ?_
    refine lv_bipush (v := 64) hx hb d_Loops_greatestDepth_5 (by decide) ?_
    refine lv_icmp_ge (tgt := 26) hx hb d_Loops_greatestDepth_7 (by decide) (fun c1 => ?_) (fun c1 => ?_)
    · have h := b_t h c1
      obtain rfl := Option.some.inj h
      exact k0 ls (lv_sub hl [0, 1, 2] rfl)
    · have h := b_f h c1
      refine lv_iload_n hx hb d_Loops_greatestDepth_10 rfl (lv_at hl 1 rfl) ?_
      refine lv_aload_n hx hb d_Loops_greatestDepth_11 rfl (lv_at hl 0 rfl) ?_
      refine lv_iload_n hx hb d_Loops_greatestDepth_12 rfl (lv_at hl 2 rfl) ?_
      obtain ⟨r2, hr2, h⟩ := bd h
      refine ro_call (v := .int r2) (va_runV (C := "BlockRuler$Loops") (As := [.int v2]) (rest := [.int v1]) ⟨hx, hb, hml, hown, hg⟩ (c_Loops_depthOf l dC dI a cs σ v2 _ hr2) (cwV 1 hg (gdV wd93 wd92 wd91 wd94 wd95) rfl rfl rfl (by decide +kernel) ⟨Nat.le_of_ble_eq_true rfl, Nat.le_of_ble_eq_true rfl⟩) ⟨wb_blind, va_recv hK hP (ci := 4) (q0 := 4) rfl rfl, fun U hU hW => ⟨rfl, wb_pre hU hW hP hK hN⟩⟩ rfl rfl hl.1 rfl (lv_room (Nat.le_of_ble_eq_true rfl)) d_Loops_greatestDepth_13 ⟨Nat.zero_le _, Nat.zero_le _⟩) ?_
      refine va_mmax hx hb (by rw [hml]; exact hl.1.symm) hown (hg _ wd96) (hg _ wd97) (hg _ wd98) (hg _ wd99) (Nat.le_of_ble_eq_true rfl) (Nat.le_of_ble_eq_true rfl) (Nat.zero_le _) (Nat.zero_le _) d_Loops_greatestDepth_16 ?_
      refine lv_topi (fun x3 ex3 => ?_)
      have h := lt_ h x3 ex3
      refine lv_istore_n (lv' := [(1, .int x3), (0, .ref (a 4)), (2, .int v2)]) hx hb d_Loops_greatestDepth_19 rfl hl (by decide) rfl (fun ls hl => ?_)
      refine lv_iinc (v := v2 + 1) (lv' := [(2, .int (v2 + 1)), (1, .int x3), (0, .ref (a 4))]) hx hb d_Loops_greatestDepth_20 hl (k := 2) rfl rfl (by decide) rfl (fun ls hl => ?_)
      refine lv_goto (tgt := 4) hx hb d_Loops_greatestDepth_23 (by decide) ?_
      exact ih σ x3 (v2 + 1) y h hP ls (lv_sub hl [2, 1, 0] rfl) k0
set_option maxHeartbeats 4000000 in
set_option maxRecDepth 100000 in
theorem c_Loops_greatestDepth (l : Launch) (dC : Nat → ClassId) (dI : Nat → Nat → Nat) (a : Nat → Nat) (cs : Nat → ClassId) (σ : SB) (r : Int32) (h : f_Loops_greatestDepth σ = some r) : Met l y_Loops_greatestDepth w_Loops_greatestDepth rm_Loops_greatestDepth (va_Pc [.ref (a 4)] (WBB dC dI a cs σ)) (QcV (.int r)) 0 0 (fun _ => False) := by
  refine Met.ofW (cc := b_Loops_greatestDepth) (maxL := 3) (ret := (some .int)) (by decide) rfl ?_
  intro p e s m args below meth c s₁ B hml hv
  obtain ⟨rfl, hP, hK, hN⟩ := hv
  have hx := B.exec
  have hb := B.bytes
  have hr := B.returns
  have hg : ∀ w ∈ G_, w.before _ s = true := fun w hw => atoms_spec (ws := w_Loops_greatestDepth) B.pre w (List.mem_cons_of_mem _ hw)
  have hown : s.vm.findClass "BlockRuler$Loops" = some m.cls := findClass_of_methodNamed B.named
  have hlocks := B.notSynchronized
  have C0 : Cx "BlockRuler$Loops" b_Loops_greatestDepth 3 p s m _ meth c := ⟨hx, hb, hml, hown, hg, hlocks⟩
  have hl := lv_entry ([.ref (a 4)]) (n := 3) (Nat.le_of_ble_eq_true rfl)
  rw [lg_entry_eq]
  generalize (lg_sl ([.ref (a 4)]) ++ List.replicate (3 - (lg_sl ([.ref (a 4)])).length) Slot.unset).toArray = ls at hl ⊢
  have hl : lv_has ls 3 [(0, .ref (a 4))] := hl
  unfold f_Loops_greatestDepth at h
  refine lv_iconst (v := 0) hx hb d_Loops_greatestDepth_0 (by decide) ?_
  refine lv_istore_n (lv' := [(1, .int 0), (0, .ref (a 4))]) hx hb d_Loops_greatestDepth_1 rfl hl (by decide) rfl (fun ls hl => ?_)
  refine lv_iconst (v := 0) hx hb d_Loops_greatestDepth_2 (by decide) ?_
  refine lv_istore_n (lv' := [(2, .int 0), (1, .int 0), (0, .ref (a 4))]) hx hb d_Loops_greatestDepth_3 rfl hl (by decide) rfl (fun ls hl => ?_)
  obtain ⟨y4, hy4, h⟩ := bd h
  refine lpW_Loops_greatestDepth_4 C0 hK hN 100 σ 0 0 y4 hy4 hP ls (lv_sub hl [2, 1, 0] rfl) (fun ls hl => ?_)
  refine lv_iload_n hx hb d_Loops_greatestDepth_26 rfl (lv_at hl 1 rfl) ?_
  exact W.iret (v := y4.1) hx hb hr (fun t ht _ => ⟨by rw [Option.some.inj h], ht⟩) (fun q hq => by cases hq) d_Loops_greatestDepth_27
set_option maxHeartbeats 4000000 in
set_option maxRecDepth 100000 in
theorem lpW_Loops_innermostOf_16 {p : Program} {l : Launch} {e : Env} {s : State} {m : MethodId} {args : Array Value} {below : List Frame} {meth : Method} {c : Code} {Q : State → Prop} {dC : Nat → ClassId} {dI : Nat → Nat → Nat} {a : Nat → Nat} {cs : Nat → ClassId} {H : Heap} {locs : List Loc} (C0 : Cx "BlockRuler$Loops" b_Loops_innermostOf 7 p s m args meth c) (hK : va_K (dC, dI) classes (tyB cs) s) (hN : NW s) : ∀ (n : Nat) (σ : SB) (v1 : Int32) (v2 : Int32) (v3 : Int32) (v4 : Int32) (y : Int32 × Int32 × Int32), lp_Loops_innermostOf_16 n σ v1 v2 v3 v4 = some y → va_P (dC, dI) classes (wsB a cs σ) H → ∀ (ls : Array Slot), lv_has ls 7 [(0, .ref (a 4)), (1, .int v1), (2, .int v2), (3, .int v3), (4, .int v4)] → (∀ (ls : Array Slot), lv_has ls 7 [(0, .ref (a 4)), (1, .int v1), (2, .int y.1), (3, .int y.2.1), (4, .int y.2.2)] → W p l e (headSpec w_Loops_innermostOf rm_Loops_innermostOf).room s m args below meth c H locs 0 0 Q (F0 m 76 ls [])) → W p l e (headSpec w_Loops_innermostOf rm_Loops_innermostOf).room s m args below meth c H locs 0 0 Q (F0 m 16 ls []) := by
  have C1 := C0
  obtain ⟨hx, hb, hml, hown, hg, hlocks⟩ := C1
  intro n
  induction n with
  | zero => intro σ v1 v2 v3 v4 y h; exact absurd (show (none : Option (Int32 × Int32 × Int32)) = some y from h) (fun q => by cases q)
  | succ n ih =>
    intro σ v1 v2 v3 v4 y h hP ls hl k0
    rw [lp_Loops_innermostOf_16_s] at h
    refine lv_iload hx hb d_Loops_innermostOf_16 (lv_at hl 4 rfl) ?_
    refine lv_if_lt (tgt := 76) hx hb d_Loops_innermostOf_18 (by decide) (fun c1 => ?_) (fun c1 => ?_)
    · have h := b_t h c1
      obtain rfl := Option.some.inj h
      exact k0 ls (lv_sub hl [0, 1, 2, 3, 4] rfl)
    · have h := b_f h c1
      refine lv_aload_n hx hb d_Loops_innermostOf_21 rfl (lv_at hl 0 rfl) ?_
      refine va_get (D := (dC, dI)) (ci := 4) (v := .ref (a 2)) (C := "BlockRuler$Loops") (T := F_Loops) (N := 7) hx hb hg i_Loops hown hK hP 4 rfl rfl 1 (by decide) (hg _ wd86) (fun _ h9 => h9) rfl d_Loops_innermostOf_22 ?_
      refine lv_iload hx hb d_Loops_innermostOf_25 (lv_at hl 4 rfl) ?_
      obtain ⟨r2, hr2, h⟩ := bd h
      refine ro_call (v := .int r2) (va_runV (C := "BlockRuler$Walk") (As := [.int v4]) (rest := []) ⟨hx, hb, hml, hown, hg⟩ (c_Walk_blockAt l dC dI a cs σ v4 _ hr2) (cwV 1 hg (gdV wd101 wd52 wd51 wd45 wd54) rfl rfl rfl (by decide +kernel) ⟨Nat.le_of_ble_eq_true rfl, Nat.le_of_ble_eq_true rfl⟩) ⟨wb_blind, va_recv hK hP (ci := 2) (q0 := 2) rfl rfl, fun U hU hW => ⟨rfl, wb_pre hU hW hP hK hN⟩⟩ rfl rfl hl.1 rfl (lv_room (Nat.le_of_ble_eq_true rfl)) d_Loops_innermostOf_27 ⟨Nat.zero_le _, Nat.zero_le _⟩) ?_
      refine lv_istore (lv' := [(5, .int r2), (0, .ref (a 4)), (1, .int v1), (2, .int v2), (3, .int v3), (4, .int v4)]) hx hb d_Loops_innermostOf_30 hl (by decide) rfl (fun ls hl => ?_)
      refine lv_aload_n hx hb d_Loops_innermostOf_32 rfl (lv_at hl 1 rfl) ?_
      refine va_get (D := (dC, dI)) (ci := 4) (v := .ref (a 14)) (C := "BlockRuler$Loops") (T := F_Loops) (N := 7) hx hb hg i_Loops hown hK hP 4 rfl rfl 3 (by decide) (hg _ wd90) (fun _ h9 => h9) rfl d_Loops_innermostOf_33 ?_
      refine lv_iload hx hb d_Loops_innermostOf_36 (lv_at hl 0 rfl) ?_
      obtain ⟨hi3, h⟩ := gd h
      refine va_lald (f := sB_lof σ) (n := 64) hx hb hK hP 14 9 rfl rfl hi3 d_Loops_innermostOf_38 ?_
      refine ro_call (v := .int (f_Long_bitCount (sB_lof σ (Int32.toNatClampNeg r2)))) (va_runS (As := [.long (sB_lof σ (Int32.toNatClampNeg r2))]) (rest := []) ⟨hx, hb, hml, hown, hg⟩ (c_Long_bitCount l (sB_lof σ (Int32.toNatClampNeg r2)) _ rfl) (va_cwS 1 hg (gdSX wd102 wd17 wd18 wd19) rfl rfl rfl (by decide +kernel) ⟨Nat.le_of_ble_eq_true rfl, Nat.le_of_ble_eq_true rfl⟩) ⟨va_blind0, fun U hU hW => ⟨rfl, trivial⟩⟩ rfl rfl hl.1 rfl (lv_room (Nat.le_of_ble_eq_true rfl)) d_Loops_innermostOf_39 ⟨Nat.zero_le _, Nat.zero_le _⟩) ?_
      refine lv_topi (fun x4 ex4 => ?_)
      have h := lt_ h x4 ex4
      refine lv_istore (lv' := [(6, .int x4), (5, .int r2), (0, .ref (a 4)), (1, .int v1), (2, .int v2), (3, .int v3), (4, .int v4)]) hx hb d_Loops_innermostOf_42 hl (by decide) rfl (fun ls hl => ?_)
      refine lv_aload_n hx hb d_Loops_innermostOf_44 rfl (lv_at hl 2 rfl) ?_
      refine va_get (D := (dC, dI)) (ci := 4) (v := .ref (a 14)) (C := "BlockRuler$Loops") (T := F_Loops) (N := 7) hx hb hg i_Loops hown hK hP 4 rfl rfl 3 (by decide) (hg _ wd90) (fun _ h9 => h9) rfl d_Loops_innermostOf_45 ?_
      refine lv_iload hx hb d_Loops_innermostOf_48 (lv_at hl 1 rfl) ?_
      refine va_lald (f := sB_lof σ) (n := 64) hx hb hK hP 14 9 rfl rfl hi3 d_Loops_innermostOf_50 ?_
      refine lv_iload_n hx hb d_Loops_innermostOf_51 rfl (lv_at hl 3 rfl) ?_
      refine ro_call (v := .int (f_BlockRuler_holds (sB_lof σ (Int32.toNatClampNeg r2)) v1)) (va_runSN (As := [.long (sB_lof σ (Int32.toNatClampNeg r2)), .int v1]) (rest := []) ⟨hx, hb, hml, hown, hg⟩ (c_BlockRuler_holds l (sB_lof σ (Int32.toNatClampNeg r2)) v1 _ rfl) ⟨va_cnB 2 hg (gdC wd29) rfl rfl rfl (hN _ nw6) (hg _ wd22) (by decide +kernel) ⟨Nat.le_of_ble_eq_true rfl, Nat.le_of_ble_eq_true rfl⟩, hg _ wd30, trivial⟩ ⟨va_blind0, fun U hU hW => ⟨rfl, trivial⟩⟩ rfl rfl hl.1 rfl (lv_room (Nat.le_of_ble_eq_true rfl)) d_Loops_innermostOf_52 ⟨Nat.zero_le _, Nat.zero_le _⟩) ?_
      refine lv_if_eq (tgt := 70) hx hb d_Loops_innermostOf_55 (by decide) (fun c5 => ?_) (fun c5 => ?_)
      · have h := b_t h c5
        refine lv_iinc (v := v4 + (-1)) (lv' := [(4, .int (v4 + (-1))), (6, .int x4), (5, .int r2), (0, .ref (a 4)), (1, .int v1), (2, .int v2), (3, .int v3)]) hx hb d_Loops_innermostOf_70 hl (k := 6) rfl rfl (by decide) rfl (fun ls hl => ?_)
        refine lv_goto (tgt := 16) hx hb d_Loops_innermostOf_73 (by decide) ?_
        exact ih σ v1 v2 v3 (v4 + (-1)) y h hP ls (lv_sub hl [3, 4, 5, 6, 0] rfl) k0
      · have h := b_f h c5
        refine lv_iload hx hb d_Loops_innermostOf_58 (lv_at hl 0 rfl) ?_
        refine lv_iload_n hx hb d_Loops_innermostOf_60 rfl (lv_at hl 5 rfl) ?_
        refine lv_icmp_ge (tgt := 70) hx hb d_Loops_innermostOf_61 (by decide) (fun c6 => ?_) (fun c6 => ?_)
        · have h := b_t h c6
          refine lv_iinc (v := v4 + (-1)) (lv' := [(4, .int (v4 + (-1))), (6, .int x4), (5, .int r2), (0, .ref (a 4)), (1, .int v1), (2, .int v2), (3, .int v3)]) hx hb d_Loops_innermostOf_70 hl (k := 6) rfl rfl (by decide) rfl (fun ls hl => ?_)
          refine lv_goto (tgt := 16) hx hb d_Loops_innermostOf_73 (by decide) ?_
          exact ih σ v1 v2 v3 (v4 + (-1)) y h hP ls (lv_sub hl [3, 4, 5, 6, 0] rfl) k0
        · have h := b_f h c6
          refine lv_iload hx hb d_Loops_innermostOf_64 (lv_at hl 1 rfl) ?_
          refine lv_istore_n (lv' := [(2, .int r2), (6, .int x4), (5, .int r2), (0, .ref (a 4)), (1, .int v1), (3, .int v3), (4, .int v4)]) hx hb d_Loops_innermostOf_66 rfl hl (by decide) rfl (fun ls hl => ?_)
          refine lv_iload hx hb d_Loops_innermostOf_67 (lv_at hl 1 rfl) ?_
          refine lv_istore_n (lv' := [(3, .int x4), (2, .int r2), (6, .int x4), (5, .int r2), (0, .ref (a 4)), (1, .int v1), (4, .int v4)]) hx hb d_Loops_innermostOf_69 rfl hl (by decide) rfl (fun ls hl => ?_)
          refine lv_iinc (v := v4 + (-1)) (lv' := [(4, .int (v4 + (-1))), (3, .int x4), (2, .int r2), (6, .int x4), (5, .int r2), (0, .ref (a 4)), (1, .int v1)]) hx hb d_Loops_innermostOf_70 hl (k := 6) rfl rfl (by decide) rfl (fun ls hl => ?_)
          refine lv_goto (tgt := 16) hx hb d_Loops_innermostOf_73 (by decide) ?_
          exact ih σ v1 r2 x4 (v4 + (-1)) y h hP ls (lv_sub hl [5, 6, 2, 1, 0] rfl) k0
set_option maxHeartbeats 4000000 in
set_option maxRecDepth 100000 in
theorem c_Loops_innermostOf (l : Launch) (dC : Nat → ClassId) (dI : Nat → Nat → Nat) (a : Nat → Nat) (cs : Nat → ClassId) (σ : SB) (v1 : Int32) (r : Int32) (h : f_Loops_innermostOf σ v1 = some r) : Met l y_Loops_innermostOf w_Loops_innermostOf rm_Loops_innermostOf (va_Pc [.ref (a 4), .int v1] (WBB dC dI a cs σ)) (QcV (.int r)) 0 0 (fun _ => False) := by
  refine Met.ofW (cc := b_Loops_innermostOf) (maxL := 7) (ret := (some .int)) (by decide) rfl ?_
  intro p e s m args below meth c s₁ B hml hv
  obtain ⟨rfl, hP, hK, hN⟩ := hv
  have hx := B.exec
  have hb := B.bytes
  have hr := B.returns
  have hg : ∀ w ∈ G_, w.before _ s = true := fun w hw => atoms_spec (ws := w_Loops_innermostOf) B.pre w (List.mem_cons_of_mem _ hw)
  have hown : s.vm.findClass "BlockRuler$Loops" = some m.cls := findClass_of_methodNamed B.named
  have hlocks := B.notSynchronized
  have C0 : Cx "BlockRuler$Loops" b_Loops_innermostOf 7 p s m _ meth c := ⟨hx, hb, hml, hown, hg, hlocks⟩
  have hl := lv_entry ([.ref (a 4), .int v1]) (n := 7) (Nat.le_of_ble_eq_true rfl)
  rw [lg_entry_eq]
  generalize (lg_sl ([.ref (a 4), .int v1]) ++ List.replicate (7 - (lg_sl ([.ref (a 4), .int v1])).length) Slot.unset).toArray = ls at hl ⊢
  have hl : lv_has ls 7 [(0, .ref (a 4)), (1, .int v1)] := hl
  unfold f_Loops_innermostOf at h
  refine lv_iconst (v := -1) hx hb d_Loops_innermostOf_0 (by decide) ?_
  refine lv_istore_n (lv' := [(2, .int (-1)), (0, .ref (a 4)), (1, .int v1)]) hx hb d_Loops_innermostOf_1 rfl hl (by decide) rfl (fun ls hl => ?_)
  refine lv_bipush (v := 65) hx hb d_Loops_innermostOf_2 (by decide) ?_
  refine lv_istore_n (lv' := [(3, .int 65), (2, .int (-1)), (0, .ref (a 4)), (1, .int v1)]) hx hb d_Loops_innermostOf_4 rfl hl (by decide) rfl (fun ls hl => ?_)
  refine lv_aload_n hx hb d_Loops_innermostOf_5 rfl (lv_at hl 2 rfl) ?_
  refine va_get (D := (dC, dI)) (ci := 4) (v := .ref (a 2)) (C := "BlockRuler$Loops") (T := F_Loops) (N := 7) hx hb hg i_Loops hown hK hP 4 rfl rfl 1 (by decide) (hg _ wd86) (fun _ h9 => h9) rfl d_Loops_innermostOf_6 ?_
  refine va_get (D := (dC, dI)) (ci := 2) (v := .int (sB_reached σ)) (C := "BlockRuler$Walk") (T := F_Walk) (N := 9) hx hb hg i_Walk hown hK hP 2 rfl rfl 7 (by decide) (hg _ wd100) (fun _ h9 => h9) rfl d_Loops_innermostOf_9 ?_
  refine lv_iconst (v := 1) hx hb d_Loops_innermostOf_12 (by decide) ?_
  refine lv_isub hx hb d_Loops_innermostOf_13 ?_
  refine lv_istore (lv' := [(4, .int ((sB_reached σ) - 1)), (3, .int 65), (2, .int (-1)), (0, .ref (a 4)), (1, .int v1)]) hx hb d_Loops_innermostOf_14 hl (by decide) rfl (fun ls hl => ?_)
  obtain ⟨y7, hy7, h⟩ := bd h
  refine lpW_Loops_innermostOf_16 C0 hK hN 100 σ v1 (-1) 65 ((sB_reached σ) - 1) y7 hy7 hP ls (lv_sub hl [3, 4, 2, 1, 0] rfl) (fun ls hl => ?_)
  refine lv_iload_n hx hb d_Loops_innermostOf_76 rfl (lv_at hl 2 rfl) ?_
  exact W.iret (v := y7.1) hx hb hr (fun t ht _ => ⟨by rw [Option.some.inj h], ht⟩) (fun q hq => by cases hq) d_Loops_innermostOf_77
set_option maxHeartbeats 4000000 in
set_option maxRecDepth 100000 in
theorem lpW_Loops_clear_17 {p : Program} {l : Launch} {e : Env} {s : State} {m : MethodId} {args : Array Value} {below : List Frame} {meth : Method} {c : Code} {Q : State → Prop} {dC : Nat → ClassId} {dI : Nat → Nat → Nat} {a : Nat → Nat} {cs : Nat → ClassId} {A : Nat → Prop} (C0 : Cx "BlockRuler$Loops" b_Loops_clear 2 p s m args meth c) (hK : va_K (dC, dI) classes (tyB cs) s) (hN : NW s) (hA : ∀ q : Nat, s.heap.size ≤ q → A q) : ∀ (n : Nat) (σ : SB) (v1 : Int32) (y : Int32 × SB), lp_Loops_clear_17 n σ v1 = some y → ∀ (H : Heap) (locs : List Loc) (ls : Array Slot), va_P (dC, dI) classes (wsB a cs σ) H → va_D A (wsB a cs σ) → va_S A s.heap H locs → lv_has ls 2 [(0, .ref (a 4)), (1, .int v1)] → (∀ (H : Heap) (locs : List Loc) (ls : Array Slot), va_P (dC, dI) classes (wsB a cs y.2) H → va_D A (wsB a cs y.2) → va_S A s.heap H locs → lv_has ls 2 [(0, .ref (a 4)), (1, .int y.1)] → W p l e (headSpec w_Loops_clear rm_Loops_clear).room s m args below meth c H locs 0 0 Q (F0 m 36 ls [])) → W p l e (headSpec w_Loops_clear rm_Loops_clear).room s m args below meth c H locs 0 0 Q (F0 m 17 ls []) := by
  have C1 := C0
  obtain ⟨hx, hb, hml, hown, hg, hlocks⟩ := C1
  intro n
  induction n with
  | zero => intro σ v1 y h; exact absurd (show (none : Option (Int32 × SB)) = some y from h) (fun q => by cases q)
  | succ n ih =>
    intro σ v1 y h H locs ls hP hD hS hl k0
    rw [lp_Loops_clear_17_s] at h
    refine lv_iload_n hx hb d_Loops_clear_17 rfl (lv_at hl 1 rfl) ?_
    refine lv_bipush (v := 64) hx hb d_Loops_clear_18 (by decide) ?_
    refine lv_icmp_ge (tgt := 36) hx hb d_Loops_clear_20 (by decide) (fun c1 => ?_) (fun c1 => ?_)
    · have h := b_t h c1
      obtain rfl := Option.some.inj h
      exact k0 _ _ ls hP hD hS (lv_sub hl [0, 1] rfl)
    · have h := b_f h c1
      refine lv_aload_n hx hb d_Loops_clear_23 rfl (lv_at hl 0 rfl) ?_
      refine va_get (D := (dC, dI)) (ci := 4) (v := .ref (a 14)) (C := "BlockRuler$Loops") (T := F_Loops) (N := 7) hx hb hg i_Loops hown hK hP 4 rfl rfl 3 (by decide) (hg _ wd90) (fun _ h9 => h9) rfl d_Loops_clear_24 ?_
      refine lv_iload_n hx hb d_Loops_clear_27 rfl (lv_at hl 1 rfl) ?_
      refine lv_lconst (v := 0) hx hb d_Loops_clear_28 (by decide) ?_
      obtain ⟨hi2, h⟩ := gd h
      refine va_last (f := sB_lof σ) (n := 64) hx hb hK hP hD hS 14 9 rfl rfl hi2 d_Loops_clear_29 (fun H locs hP hD hS => ?_)
      have hP := va_Pe (setB_lof a cs σ (vp_updL (sB_lof σ) (Int32.toNatClampNeg v1) 0)) hP
      have hD := va_De (setB_lof a cs σ (vp_updL (sB_lof σ) (Int32.toNatClampNeg v1) 0)) hD
      refine lv_iinc (v := v1 + 1) (lv' := [(1, .int (v1 + 1)), (0, .ref (a 4))]) hx hb d_Loops_clear_30 hl (k := 1) rfl rfl (by decide) rfl (fun ls hl => ?_)
      refine lv_goto (tgt := 17) hx hb d_Loops_clear_33 (by decide) ?_
      exact ih (uB_lof σ (vp_updL (sB_lof σ) (Int32.toNatClampNeg v1) 0)) (v1 + 1) y h _ _ ls hP hD hS (lv_sub hl [1, 0] rfl) k0
set_option maxHeartbeats 4000000 in
set_option maxRecDepth 100000 in
theorem c_Loops_clear (l : Launch) (dC : Nat → ClassId) (dI : Nat → Nat → Nat) (a : Nat → Nat) (cs : Nat → ClassId) (sz : Nat) (σ : SB) (r : SB) (h : f_Loops_clear σ = some r) : Met l y_Loops_clear w_Loops_clear rm_Loops_clear (va_Pc [.ref (a 4)] (fun U => U.heap.size = sz ∧ WDB dC dI a cs σ U)) (va_Qv (fun u : SB => u = r) (atB dC dI a cs (va_A (wsB a cs σ) sz)) (va_A (wsB a cs σ) sz)) 0 0 (va_A (wsB a cs σ) sz) := by
  refine Met.ofW (cc := b_Loops_clear) (maxL := 2) (ret := none) (by decide) rfl ?_
  intro p e s m args below meth c s₁ B hml hv
  obtain ⟨rfl, hsz, hP, hK, hN, hD0⟩ := hv
  have hx := B.exec
  have hb := B.bytes
  have hr := B.returns
  have hg : ∀ w ∈ G_, w.before _ s = true := fun w hw => atoms_spec (ws := w_Loops_clear) B.pre w (List.mem_cons_of_mem _ hw)
  have hown : s.vm.findClass "BlockRuler$Loops" = some m.cls := findClass_of_methodNamed B.named
  have hlocks := B.notSynchronized
  have C0 : Cx "BlockRuler$Loops" b_Loops_clear 2 p s m _ meth c := ⟨hx, hb, hml, hown, hg, hlocks⟩
  subst hsz
  have hD := hD0.self (sz := s.heap.size)
  generalize hAe : va_A (wsB a cs σ) s.heap.size = A at hD ⊢
  have hA : ∀ q : Nat, s.heap.size ≤ q → A q := fun q h => by rw [← hAe]; exact Or.inr h
  have hS : va_S A s.heap s.heap [] := va_S.rf
  have hl := lv_entry ([.ref (a 4)]) (n := 2) (Nat.le_of_ble_eq_true rfl)
  rw [lg_entry_eq]
  generalize (lg_sl ([.ref (a 4)]) ++ List.replicate (2 - (lg_sl ([.ref (a 4)])).length) Slot.unset).toArray = ls at hl ⊢
  have hl : lv_has ls 2 [(0, .ref (a 4))] := hl
  unfold f_Loops_clear at h
  refine lv_aload_n hx hb d_Loops_clear_0 rfl (lv_at hl 0 rfl) ?_
  refine lv_iconst (v := 0) hx hb d_Loops_clear_1 (by decide) ?_
  refine va_put (D := (dC, dI)) (ci := 4) (v := .int 0) (ty := .int) (C := "BlockRuler$Loops") (T := F_Loops) (N := 7) hx hb hg i_Loops t_Loops t_Loops_ok n_Loops hown hK hP hD hS 4 rfl rfl 4 (by decide) (hg _ wd103) (fun _ h9 => h9) rfl (by decide +kernel) rfl rfl (Nat.le_of_ble_eq_true rfl) d_Loops_clear_2 (fun H locs hP hD hS => ?_)
  have hP := va_Pe (setB_heads a cs σ 0) hP
  have hD := va_De (setB_heads a cs σ 0) hD
  refine lv_aload_n hx hb d_Loops_clear_5 rfl (lv_at hl 0 rfl) ?_
  refine lv_iconst (v := 0) hx hb d_Loops_clear_6 (by decide) ?_
  refine va_put (D := (dC, dI)) (ci := 4) (v := .int 0) (ty := .int) (C := "BlockRuler$Loops") (T := F_Loops) (N := 7) hx hb hg i_Loops t_Loops t_Loops_ok n_Loops hown hK hP hD hS 4 rfl rfl 5 (by decide) (hg _ wd104) (fun _ h9 => h9) rfl (by decide +kernel) rfl rfl (Nat.le_of_ble_eq_true rfl) d_Loops_clear_7 (fun H locs hP hD hS => ?_)
  have hP := va_Pe (setB_backs a cs (uB_heads σ 0) 0) hP
  have hD := va_De (setB_backs a cs (uB_heads σ 0) 0) hD
  refine lv_aload_n hx hb d_Loops_clear_10 rfl (lv_at hl 0 rfl) ?_
  refine lv_iconst (v := 0) hx hb d_Loops_clear_11 (by decide) ?_
  refine va_put (D := (dC, dI)) (ci := 4) (v := .int 0) (ty := .int) (C := "BlockRuler$Loops") (T := F_Loops) (N := 7) hx hb hg i_Loops t_Loops t_Loops_ok n_Loops hown hK hP hD hS 4 rfl rfl 6 (by decide) (hg _ wd105) (fun _ h9 => h9) rfl (by decide +kernel) rfl rfl (Nat.le_of_ble_eq_true rfl) d_Loops_clear_12 (fun H locs hP hD hS => ?_)
  have hP := va_Pe (setB_knots a cs (uB_backs (uB_heads σ 0) 0) 0) hP
  have hD := va_De (setB_knots a cs (uB_backs (uB_heads σ 0) 0) 0) hD
  refine lv_iconst (v := 0) hx hb d_Loops_clear_15 (by decide) ?_
  refine lv_istore_n (lv' := [(1, .int 0), (0, .ref (a 4))]) hx hb d_Loops_clear_16 rfl hl (by decide) rfl (fun ls hl => ?_)
  obtain ⟨y3, hy3, h⟩ := bd h
  refine lpW_Loops_clear_17 C0 hK hN hA 100 (uB_knots (uB_backs (uB_heads σ 0) 0) 0) 0 y3 hy3 _ _ ls hP hD hS (lv_sub hl [1, 0] rfl) (fun H locs ls hP hD hS hl => ?_)
  exact W.vret hx hb hr (fun t ht hW => ⟨⟨y3.2, rfl, Option.some.inj h, by rw [ht]; exact hP, hD⟩, hS.F ht⟩) hS.2.2 d_Loops_clear_36
set_option maxHeartbeats 4000000 in
set_option maxRecDepth 100000 in
theorem lpW_Loops_markWaysOf_2 {p : Program} {l : Launch} {e : Env} {s : State} {m : MethodId} {args : Array Value} {below : List Frame} {meth : Method} {c : Code} {Q : State → Prop} {dC : Nat → ClassId} {dI : Nat → Nat → Nat} {a : Nat → Nat} {cs : Nat → ClassId} {A : Nat → Prop} (C0 : Cx "BlockRuler$Loops" b_Loops_markWaysOf 4 p s m args meth c) (hK : va_K (dC, dI) classes (tyB cs) s) (hN : NW s) (hA : ∀ q : Nat, s.heap.size ≤ q → A q) : ∀ (n : Nat) (σ : SB) (v1 : Int32) (v2 : Int32) (y : Int32 × SB), lp_Loops_markWaysOf_2 n σ v1 v2 = some y → ∀ (H : Heap) (locs : List Loc) (ls : Array Slot), va_P (dC, dI) classes (wsB a cs σ) H → va_D A (wsB a cs σ) → va_S A s.heap H locs → lv_has ls 4 [(0, .ref (a 4)), (1, .int v1), (2, .int v2)] → (∀ (H : Heap) (locs : List Loc) (ls : Array Slot), va_P (dC, dI) classes (wsB a cs y.2) H → va_D A (wsB a cs y.2) → va_S A s.heap H locs → lv_has ls 4 [(0, .ref (a 4)), (1, .int v1), (2, .int y.1)] → W p l e (headSpec w_Loops_markWaysOf rm_Loops_markWaysOf).room s m args below meth c H locs 0 0 Q (F0 m 83 ls [])) → W p l e (headSpec w_Loops_markWaysOf rm_Loops_markWaysOf).room s m args below meth c H locs 0 0 Q (F0 m 2 ls []) := by
  have C1 := C0
  obtain ⟨hx, hb, hml, hown, hg, hlocks⟩ := C1
  intro n
  induction n with
  | zero => intro σ v1 v2 y h; exact absurd (show (none : Option (Int32 × SB)) = some y from h) (fun q => by cases q)
  | succ n ih =>
    intro σ v1 v2 y h H locs ls hP hD hS hl k0
    rw [lp_Loops_markWaysOf_2_s] at h
    refine lv_iload_n hx hb d_Loops_markWaysOf_2 rfl (lv_at hl 2 rfl) ?_
    refine lv_aload_n hx hb d_Loops_markWaysOf_3 rfl (lv_at hl 0 rfl) ?_
    refine va_get (D := (dC, dI)) (ci := 4) (v := .ref (a 1)) (C := "BlockRuler$Loops") (T := F_Loops) (N := 7) hx hb hg i_Loops hown hK hP 4 rfl rfl 0 (by decide) (hg _ wd84) (fun _ h9 => h9) rfl d_Loops_markWaysOf_4 ?_
    refine va_get (D := (dC, dI)) (ci := 1) (v := .ref (a 5)) (C := "BlockRuler$Web") (T := F_Web) (N := 4) hx hb hg i_Web hown hK hP 1 rfl rfl 0 (by decide) (hg _ wd106) (fun _ h9 => h9) rfl d_Loops_markWaysOf_7 ?_
    refine lv_iload_n hx hb d_Loops_markWaysOf_10 rfl (lv_at hl 1 rfl) ?_
    obtain ⟨hi1, h⟩ := gd h
    refine va_iald (f := sB_deg σ) (n := 64) hx hb hK hP 5 0 rfl rfl hi1 d_Loops_markWaysOf_11 ?_
    refine lv_icmp_ge (tgt := 83) hx hb d_Loops_markWaysOf_12 (by decide) (fun c2 => ?_) (fun c2 => ?_)
    · have h := b_t h c2
      obtain rfl := Option.some.inj h
      exact k0 _ _ ls hP hD hS (lv_sub hl [0, 1, 2] rfl)
    · have h := b_f h c2
      refine lv_aload_n hx hb d_Loops_markWaysOf_15 rfl (lv_at hl 0 rfl) ?_
      refine lv_iload_n hx hb d_Loops_markWaysOf_16 rfl (lv_at hl 1 rfl) ?_
      refine lv_iload_n hx hb d_Loops_markWaysOf_17 rfl (lv_at hl 2 rfl) ?_
      obtain ⟨r3, hr3, h⟩ := bd h
      refine ro_call (v := .int r3) (va_runV (C := "BlockRuler$Loops") (As := [.int v1, .int v2]) (rest := []) ⟨hx, hb, hml, hown, hg⟩ (c_Loops_kindOf l dC dI a cs σ v1 v2 _ hr3) (cwV 2 hg (gdV wd109 wd108 wd107 wd94 wd110) rfl rfl rfl (by decide +kernel) ⟨Nat.le_of_ble_eq_true rfl, Nat.le_of_ble_eq_true rfl⟩) ⟨wb_blind, va_recv hK hP (ci := 4) (q0 := 4) rfl rfl, fun U hU hW => ⟨rfl, wb_pre hU hW hP hK hN⟩⟩ rfl rfl hl.1 rfl (lv_room (Nat.le_of_ble_eq_true rfl)) d_Loops_markWaysOf_18 ⟨Nat.zero_le _, Nat.zero_le _⟩) ?_
      refine lv_istore_n (lv' := [(3, .int r3), (0, .ref (a 4)), (1, .int v1), (2, .int v2)]) hx hb d_Loops_markWaysOf_21 rfl hl (by decide) rfl (fun ls hl => ?_)
      refine lv_iload_n hx hb d_Loops_markWaysOf_22 rfl (lv_at hl 0 rfl) ?_
      refine lv_if_eq (tgt := 36) hx hb d_Loops_markWaysOf_23 (by decide) (fun c4 => ?_) (fun c4 => ?_)
      · have h := b_t h c4
        refine lv_iload_n hx hb d_Loops_markWaysOf_36 rfl (lv_at hl 0 rfl) ?_
        refine lv_iconst (v := 2) hx hb d_Loops_markWaysOf_37 (by decide) ?_
        refine lv_icmp_ne (tgt := 51) hx hb d_Loops_markWaysOf_38 (by decide) (fun c5 => ?_) (fun c5 => ?_)
        · have h := b_f h c5
          refine lv_iload_n hx hb d_Loops_markWaysOf_51 rfl (lv_at hl 0 rfl) ?_
          refine lv_iconst (v := 1) hx hb d_Loops_markWaysOf_52 (by decide) ?_
          refine lv_icmp_ne (tgt := 77) hx hb d_Loops_markWaysOf_53 (by decide) (fun c6 => ?_) (fun c6 => ?_)
          · have h := b_f h c6
            refine lv_iinc (v := v2 + 1) (lv' := [(2, .int (v2 + 1)), (3, .int r3), (0, .ref (a 4)), (1, .int v1)]) hx hb d_Loops_markWaysOf_77 hl (k := 3) rfl rfl (by decide) rfl (fun ls hl => ?_)
            refine lv_goto (tgt := 2) hx hb d_Loops_markWaysOf_80 (by decide) ?_
            exact ih σ v1 (v2 + 1) y h _ _ ls hP hD hS (lv_sub hl [2, 3, 0] rfl) k0
          · have h := b_t h c6
            refine lv_aload_n hx hb d_Loops_markWaysOf_56 rfl (lv_at hl 1 rfl) ?_
            refine va_get (D := (dC, dI)) (ci := 4) (v := .ref (a 14)) (C := "BlockRuler$Loops") (T := F_Loops) (N := 7) hx hb hg i_Loops hown hK hP 4 rfl rfl 3 (by decide) (hg _ wd90) (fun _ h9 => h9) rfl d_Loops_markWaysOf_57 ?_
            refine lv_aload_n hx hb d_Loops_markWaysOf_60 rfl (lv_at hl 1 rfl) ?_
            refine va_get (D := (dC, dI)) (ci := 4) (v := .ref (a 1)) (C := "BlockRuler$Loops") (T := F_Loops) (N := 7) hx hb hg i_Loops hown hK hP 4 rfl rfl 0 (by decide) (hg _ wd84) (fun _ h9 => h9) rfl d_Loops_markWaysOf_61 ?_
            refine lv_iload_n hx hb d_Loops_markWaysOf_64 rfl (lv_at hl 2 rfl) ?_
            refine lv_iload_n hx hb d_Loops_markWaysOf_65 rfl (lv_at hl 3 rfl) ?_
            obtain ⟨r7, hr7, h⟩ := bd h
            refine ro_call (v := .int r7) (va_runV (C := "BlockRuler$Web") (As := [.int v1, .int v2]) (rest := [.ref (a 14)]) ⟨hx, hb, hml, hown, hg⟩ (c_Web_endOf l dC dI a cs σ v1 v2 _ hr7) (cwV 2 hg (gdV wd85 wd13 wd12 wd7 wd15) rfl rfl rfl (by decide +kernel) ⟨Nat.le_of_ble_eq_true rfl, Nat.le_of_ble_eq_true rfl⟩) ⟨wb_blind, va_recv hK hP (ci := 1) (q0 := 1) rfl rfl, fun U hU hW => ⟨rfl, wb_pre hU hW hP hK hN⟩⟩ rfl rfl hl.1 rfl (lv_room (Nat.le_of_ble_eq_true rfl)) d_Loops_markWaysOf_66 ⟨Nat.zero_le _, Nat.zero_le _⟩) ?_
            refine lv_dup2_11 hx hb d_Loops_markWaysOf_69 rfl rfl ?_
            obtain ⟨hi8, h⟩ := gd h
            refine va_lald (f := sB_lof σ) (n := 64) hx hb hK hP 14 9 rfl rfl hi8 d_Loops_markWaysOf_70 ?_
            refine lv_iload_n hx hb d_Loops_markWaysOf_71 rfl (lv_at hl 2 rfl) ?_
            refine ro_call (v := .long (f_BlockRuler_only v1)) (va_runSN (As := [.int v1]) (rest := [.long (sB_lof σ (Int32.toNatClampNeg r7)), .int r7, .ref (a 14)]) ⟨hx, hb, hml, hown, hg⟩ (c_BlockRuler_only l v1 _ rfl) ⟨va_cnB 1 hg (gdC wd35) rfl rfl rfl (hN _ nw7) (hg _ wd22) (by decide +kernel) ⟨Nat.le_of_ble_eq_true rfl, Nat.le_of_ble_eq_true rfl⟩, hg _ wd36, trivial⟩ ⟨va_blind0, fun U hU hW => ⟨rfl, trivial⟩⟩ rfl rfl hl.1 rfl (lv_room (Nat.le_of_ble_eq_true rfl)) d_Loops_markWaysOf_72 ⟨Nat.zero_le _, Nat.zero_le _⟩) ?_
            refine lv_lor hx hb d_Loops_markWaysOf_75 ?_
            refine va_last (f := sB_lof σ) (n := 64) hx hb hK hP hD hS 14 9 rfl rfl hi8 d_Loops_markWaysOf_76 (fun H locs hP hD hS => ?_)
            have hP := va_Pe (setB_lof a cs σ (vp_updL (sB_lof σ) (Int32.toNatClampNeg r7) ((sB_lof σ (Int32.toNatClampNeg r7)) ||| (f_BlockRuler_only v1)))) hP
            have hD := va_De (setB_lof a cs σ (vp_updL (sB_lof σ) (Int32.toNatClampNeg r7) ((sB_lof σ (Int32.toNatClampNeg r7)) ||| (f_BlockRuler_only v1)))) hD
            refine lv_iinc (v := v2 + 1) (lv' := [(2, .int (v2 + 1)), (3, .int r3), (0, .ref (a 4)), (1, .int v1)]) hx hb d_Loops_markWaysOf_77 hl (k := 3) rfl rfl (by decide) rfl (fun ls hl => ?_)
            refine lv_goto (tgt := 2) hx hb d_Loops_markWaysOf_80 (by decide) ?_
            exact ih (uB_lof σ (vp_updL (sB_lof σ) (Int32.toNatClampNeg r7) ((sB_lof σ (Int32.toNatClampNeg r7)) ||| (f_BlockRuler_only v1)))) v1 (v2 + 1) y h _ _ ls hP hD hS (lv_sub hl [2, 3, 0] rfl) k0
        · have h := b_t h c5
          refine lv_aload_n hx hb d_Loops_markWaysOf_41 rfl (lv_at hl 1 rfl) ?_
          refine lv_dup hx hb d_Loops_markWaysOf_42 rfl ?_
          refine va_get (D := (dC, dI)) (ci := 4) (v := .int (sB_knots σ)) (C := "BlockRuler$Loops") (T := F_Loops) (N := 7) hx hb hg i_Loops hown hK hP 4 rfl rfl 6 (by decide) (hg _ wd105) (fun _ h9 => h9) rfl d_Loops_markWaysOf_43 ?_
          refine lv_iconst (v := 1) hx hb d_Loops_markWaysOf_46 (by decide) ?_
          refine lv_iadd hx hb d_Loops_markWaysOf_47 ?_
          refine va_put (D := (dC, dI)) (ci := 4) (v := .int ((sB_knots σ) + 1)) (ty := .int) (C := "BlockRuler$Loops") (T := F_Loops) (N := 7) hx hb hg i_Loops t_Loops t_Loops_ok n_Loops hown hK hP hD hS 4 rfl rfl 6 (by decide) (hg _ wd105) (fun _ h9 => h9) rfl (by decide +kernel) rfl rfl (Nat.le_of_ble_eq_true rfl) d_Loops_markWaysOf_48 (fun H locs hP hD hS => ?_)
          have hP := va_Pe (setB_knots a cs σ ((sB_knots σ) + 1)) hP
          have hD := va_De (setB_knots a cs σ ((sB_knots σ) + 1)) hD
          refine lv_iload_n hx hb d_Loops_markWaysOf_51 rfl (lv_at hl 0 rfl) ?_
          refine lv_iconst (v := 1) hx hb d_Loops_markWaysOf_52 (by decide) ?_
          refine lv_icmp_ne (tgt := 77) hx hb d_Loops_markWaysOf_53 (by decide) (fun c9 => ?_) (fun c9 => ?_)
          · have h := b_f h c9
            refine lv_iinc (v := v2 + 1) (lv' := [(2, .int (v2 + 1)), (3, .int r3), (0, .ref (a 4)), (1, .int v1)]) hx hb d_Loops_markWaysOf_77 hl (k := 3) rfl rfl (by decide) rfl (fun ls hl => ?_)
            refine lv_goto (tgt := 2) hx hb d_Loops_markWaysOf_80 (by decide) ?_
            exact ih (uB_knots σ ((sB_knots σ) + 1)) v1 (v2 + 1) y h _ _ ls hP hD hS (lv_sub hl [2, 3, 0] rfl) k0
          · have h := b_t h c9
            refine lv_aload_n hx hb d_Loops_markWaysOf_56 rfl (lv_at hl 1 rfl) ?_
            refine va_get (D := (dC, dI)) (ci := 4) (v := .ref (a 14)) (C := "BlockRuler$Loops") (T := F_Loops) (N := 7) hx hb hg i_Loops hown hK hP 4 rfl rfl 3 (by decide) (hg _ wd90) (fun _ h9 => h9) rfl d_Loops_markWaysOf_57 ?_
            refine lv_aload_n hx hb d_Loops_markWaysOf_60 rfl (lv_at hl 1 rfl) ?_
            refine va_get (D := (dC, dI)) (ci := 4) (v := .ref (a 1)) (C := "BlockRuler$Loops") (T := F_Loops) (N := 7) hx hb hg i_Loops hown hK hP 4 rfl rfl 0 (by decide) (hg _ wd84) (fun _ h9 => h9) rfl d_Loops_markWaysOf_61 ?_
            refine lv_iload_n hx hb d_Loops_markWaysOf_64 rfl (lv_at hl 2 rfl) ?_
            refine lv_iload_n hx hb d_Loops_markWaysOf_65 rfl (lv_at hl 3 rfl) ?_
            obtain ⟨r10, hr10, h⟩ := bd h
            refine ro_call (v := .int r10) (va_runV (C := "BlockRuler$Web") (As := [.int v1, .int v2]) (rest := [.ref (a 14)]) ⟨hx, hb, hml, hown, hg⟩ (c_Web_endOf l dC dI a cs (uB_knots σ ((sB_knots σ) + 1)) v1 v2 _ hr10) (cwV 2 hg (gdV wd85 wd13 wd12 wd7 wd15) rfl rfl rfl (by decide +kernel) ⟨Nat.le_of_ble_eq_true rfl, Nat.le_of_ble_eq_true rfl⟩) ⟨wb_blind, va_recv hK hP (ci := 1) (q0 := 1) rfl rfl, fun U hU hW => ⟨rfl, wb_pre hU hW hP hK hN⟩⟩ rfl rfl hl.1 rfl (lv_room (Nat.le_of_ble_eq_true rfl)) d_Loops_markWaysOf_66 ⟨Nat.zero_le _, Nat.zero_le _⟩) ?_
            refine lv_dup2_11 hx hb d_Loops_markWaysOf_69 rfl rfl ?_
            obtain ⟨hi11, h⟩ := gd h
            refine va_lald (f := sB_lof σ) (n := 64) hx hb hK hP 14 9 (rdB_lof a cs (uB_knots σ ((sB_knots σ) + 1)) (gB_lof_knots _ _)) rfl hi11 d_Loops_markWaysOf_70 ?_
            refine lv_iload_n hx hb d_Loops_markWaysOf_71 rfl (lv_at hl 2 rfl) ?_
            refine ro_call (v := .long (f_BlockRuler_only v1)) (va_runSN (As := [.int v1]) (rest := [.long (sB_lof σ (Int32.toNatClampNeg r10)), .int r10, .ref (a 14)]) ⟨hx, hb, hml, hown, hg⟩ (c_BlockRuler_only l v1 _ rfl) ⟨va_cnB 1 hg (gdC wd35) rfl rfl rfl (hN _ nw7) (hg _ wd22) (by decide +kernel) ⟨Nat.le_of_ble_eq_true rfl, Nat.le_of_ble_eq_true rfl⟩, hg _ wd36, trivial⟩ ⟨va_blind0, fun U hU hW => ⟨rfl, trivial⟩⟩ rfl rfl hl.1 rfl (lv_room (Nat.le_of_ble_eq_true rfl)) d_Loops_markWaysOf_72 ⟨Nat.zero_le _, Nat.zero_le _⟩) ?_
            refine lv_lor hx hb d_Loops_markWaysOf_75 ?_
            refine va_last (f := sB_lof σ) (n := 64) hx hb hK hP hD hS 14 9 (rdB_lof a cs (uB_knots σ ((sB_knots σ) + 1)) (gB_lof_knots _ _)) rfl hi11 d_Loops_markWaysOf_76 (fun H locs hP hD hS => ?_)
            have hP := va_Pe (setB_lof a cs (uB_knots σ ((sB_knots σ) + 1)) (vp_updL (sB_lof σ) (Int32.toNatClampNeg r10) ((sB_lof σ (Int32.toNatClampNeg r10)) ||| (f_BlockRuler_only v1)))) hP
            have hD := va_De (setB_lof a cs (uB_knots σ ((sB_knots σ) + 1)) (vp_updL (sB_lof σ) (Int32.toNatClampNeg r10) ((sB_lof σ (Int32.toNatClampNeg r10)) ||| (f_BlockRuler_only v1)))) hD
            refine lv_iinc (v := v2 + 1) (lv' := [(2, .int (v2 + 1)), (3, .int r3), (0, .ref (a 4)), (1, .int v1)]) hx hb d_Loops_markWaysOf_77 hl (k := 3) rfl rfl (by decide) rfl (fun ls hl => ?_)
            refine lv_goto (tgt := 2) hx hb d_Loops_markWaysOf_80 (by decide) ?_
            exact ih (uB_lof (uB_knots σ ((sB_knots σ) + 1)) (vp_updL (sB_lof σ) (Int32.toNatClampNeg r10) ((sB_lof σ (Int32.toNatClampNeg r10)) ||| (f_BlockRuler_only v1)))) v1 (v2 + 1) y h _ _ ls hP hD hS (lv_sub hl [2, 3, 0] rfl) k0
      · have h := b_f h c4
        refine lv_aload_n hx hb d_Loops_markWaysOf_26 rfl (lv_at hl 1 rfl) ?_
        refine lv_dup hx hb d_Loops_markWaysOf_27 rfl ?_
        refine va_get (D := (dC, dI)) (ci := 4) (v := .int (sB_backs σ)) (C := "BlockRuler$Loops") (T := F_Loops) (N := 7) hx hb hg i_Loops hown hK hP 4 rfl rfl 5 (by decide) (hg _ wd104) (fun _ h9 => h9) rfl d_Loops_markWaysOf_28 ?_
        refine lv_iconst (v := 1) hx hb d_Loops_markWaysOf_31 (by decide) ?_
        refine lv_iadd hx hb d_Loops_markWaysOf_32 ?_
        refine va_put (D := (dC, dI)) (ci := 4) (v := .int ((sB_backs σ) + 1)) (ty := .int) (C := "BlockRuler$Loops") (T := F_Loops) (N := 7) hx hb hg i_Loops t_Loops t_Loops_ok n_Loops hown hK hP hD hS 4 rfl rfl 5 (by decide) (hg _ wd104) (fun _ h9 => h9) rfl (by decide +kernel) rfl rfl (Nat.le_of_ble_eq_true rfl) d_Loops_markWaysOf_33 (fun H locs hP hD hS => ?_)
        have hP := va_Pe (setB_backs a cs σ ((sB_backs σ) + 1)) hP
        have hD := va_De (setB_backs a cs σ ((sB_backs σ) + 1)) hD
        refine lv_iload_n hx hb d_Loops_markWaysOf_36 rfl (lv_at hl 0 rfl) ?_
        refine lv_iconst (v := 2) hx hb d_Loops_markWaysOf_37 (by decide) ?_
        refine lv_icmp_ne (tgt := 51) hx hb d_Loops_markWaysOf_38 (by decide) (fun c12 => ?_) (fun c12 => ?_)
        · have h := b_f h c12
          refine lv_iload_n hx hb d_Loops_markWaysOf_51 rfl (lv_at hl 0 rfl) ?_
          refine lv_iconst (v := 1) hx hb d_Loops_markWaysOf_52 (by decide) ?_
          refine lv_icmp_ne (tgt := 77) hx hb d_Loops_markWaysOf_53 (by decide) (fun c13 => ?_) (fun c13 => ?_)
          · have h := b_f h c13
            refine lv_iinc (v := v2 + 1) (lv' := [(2, .int (v2 + 1)), (3, .int r3), (0, .ref (a 4)), (1, .int v1)]) hx hb d_Loops_markWaysOf_77 hl (k := 3) rfl rfl (by decide) rfl (fun ls hl => ?_)
            refine lv_goto (tgt := 2) hx hb d_Loops_markWaysOf_80 (by decide) ?_
            exact ih (uB_backs σ ((sB_backs σ) + 1)) v1 (v2 + 1) y h _ _ ls hP hD hS (lv_sub hl [2, 3, 0] rfl) k0
          · have h := b_t h c13
            refine lv_aload_n hx hb d_Loops_markWaysOf_56 rfl (lv_at hl 1 rfl) ?_
            refine va_get (D := (dC, dI)) (ci := 4) (v := .ref (a 14)) (C := "BlockRuler$Loops") (T := F_Loops) (N := 7) hx hb hg i_Loops hown hK hP 4 rfl rfl 3 (by decide) (hg _ wd90) (fun _ h9 => h9) rfl d_Loops_markWaysOf_57 ?_
            refine lv_aload_n hx hb d_Loops_markWaysOf_60 rfl (lv_at hl 1 rfl) ?_
            refine va_get (D := (dC, dI)) (ci := 4) (v := .ref (a 1)) (C := "BlockRuler$Loops") (T := F_Loops) (N := 7) hx hb hg i_Loops hown hK hP 4 rfl rfl 0 (by decide) (hg _ wd84) (fun _ h9 => h9) rfl d_Loops_markWaysOf_61 ?_
            refine lv_iload_n hx hb d_Loops_markWaysOf_64 rfl (lv_at hl 2 rfl) ?_
            refine lv_iload_n hx hb d_Loops_markWaysOf_65 rfl (lv_at hl 3 rfl) ?_
            obtain ⟨r14, hr14, h⟩ := bd h
            refine ro_call (v := .int r14) (va_runV (C := "BlockRuler$Web") (As := [.int v1, .int v2]) (rest := [.ref (a 14)]) ⟨hx, hb, hml, hown, hg⟩ (c_Web_endOf l dC dI a cs (uB_backs σ ((sB_backs σ) + 1)) v1 v2 _ hr14) (cwV 2 hg (gdV wd85 wd13 wd12 wd7 wd15) rfl rfl rfl (by decide +kernel) ⟨Nat.le_of_ble_eq_true rfl, Nat.le_of_ble_eq_true rfl⟩) ⟨wb_blind, va_recv hK hP (ci := 1) (q0 := 1) rfl rfl, fun U hU hW => ⟨rfl, wb_pre hU hW hP hK hN⟩⟩ rfl rfl hl.1 rfl (lv_room (Nat.le_of_ble_eq_true rfl)) d_Loops_markWaysOf_66 ⟨Nat.zero_le _, Nat.zero_le _⟩) ?_
            refine lv_dup2_11 hx hb d_Loops_markWaysOf_69 rfl rfl ?_
            obtain ⟨hi15, h⟩ := gd h
            refine va_lald (f := sB_lof σ) (n := 64) hx hb hK hP 14 9 (rdB_lof a cs (uB_backs σ ((sB_backs σ) + 1)) (gB_lof_backs _ _)) rfl hi15 d_Loops_markWaysOf_70 ?_
            refine lv_iload_n hx hb d_Loops_markWaysOf_71 rfl (lv_at hl 2 rfl) ?_
            refine ro_call (v := .long (f_BlockRuler_only v1)) (va_runSN (As := [.int v1]) (rest := [.long (sB_lof σ (Int32.toNatClampNeg r14)), .int r14, .ref (a 14)]) ⟨hx, hb, hml, hown, hg⟩ (c_BlockRuler_only l v1 _ rfl) ⟨va_cnB 1 hg (gdC wd35) rfl rfl rfl (hN _ nw7) (hg _ wd22) (by decide +kernel) ⟨Nat.le_of_ble_eq_true rfl, Nat.le_of_ble_eq_true rfl⟩, hg _ wd36, trivial⟩ ⟨va_blind0, fun U hU hW => ⟨rfl, trivial⟩⟩ rfl rfl hl.1 rfl (lv_room (Nat.le_of_ble_eq_true rfl)) d_Loops_markWaysOf_72 ⟨Nat.zero_le _, Nat.zero_le _⟩) ?_
            refine lv_lor hx hb d_Loops_markWaysOf_75 ?_
            refine va_last (f := sB_lof σ) (n := 64) hx hb hK hP hD hS 14 9 (rdB_lof a cs (uB_backs σ ((sB_backs σ) + 1)) (gB_lof_backs _ _)) rfl hi15 d_Loops_markWaysOf_76 (fun H locs hP hD hS => ?_)
            have hP := va_Pe (setB_lof a cs (uB_backs σ ((sB_backs σ) + 1)) (vp_updL (sB_lof σ) (Int32.toNatClampNeg r14) ((sB_lof σ (Int32.toNatClampNeg r14)) ||| (f_BlockRuler_only v1)))) hP
            have hD := va_De (setB_lof a cs (uB_backs σ ((sB_backs σ) + 1)) (vp_updL (sB_lof σ) (Int32.toNatClampNeg r14) ((sB_lof σ (Int32.toNatClampNeg r14)) ||| (f_BlockRuler_only v1)))) hD
            refine lv_iinc (v := v2 + 1) (lv' := [(2, .int (v2 + 1)), (3, .int r3), (0, .ref (a 4)), (1, .int v1)]) hx hb d_Loops_markWaysOf_77 hl (k := 3) rfl rfl (by decide) rfl (fun ls hl => ?_)
            refine lv_goto (tgt := 2) hx hb d_Loops_markWaysOf_80 (by decide) ?_
            exact ih (uB_lof (uB_backs σ ((sB_backs σ) + 1)) (vp_updL (sB_lof σ) (Int32.toNatClampNeg r14) ((sB_lof σ (Int32.toNatClampNeg r14)) ||| (f_BlockRuler_only v1)))) v1 (v2 + 1) y h _ _ ls hP hD hS (lv_sub hl [2, 3, 0] rfl) k0
        · have h := b_t h c12
          refine lv_aload_n hx hb d_Loops_markWaysOf_41 rfl (lv_at hl 1 rfl) ?_
          refine lv_dup hx hb d_Loops_markWaysOf_42 rfl ?_
          refine va_get (D := (dC, dI)) (ci := 4) (v := .int (sB_knots σ)) (C := "BlockRuler$Loops") (T := F_Loops) (N := 7) hx hb hg i_Loops hown hK hP 4 rfl rfl 6 (by decide) (hg _ wd105) (fun _ h9 => h9) (rfB_knots a cs (uB_backs σ ((sB_backs σ) + 1)) (gB_knots_backs _ _)) d_Loops_markWaysOf_43 ?_
          refine lv_iconst (v := 1) hx hb d_Loops_markWaysOf_46 (by decide) ?_
          refine lv_iadd hx hb d_Loops_markWaysOf_47 ?_
          refine va_put (D := (dC, dI)) (ci := 4) (v := .int ((sB_knots σ) + 1)) (ty := .int) (C := "BlockRuler$Loops") (T := F_Loops) (N := 7) hx hb hg i_Loops t_Loops t_Loops_ok n_Loops hown hK hP hD hS 4 rfl rfl 6 (by decide) (hg _ wd105) (fun _ h9 => h9) rfl (by decide +kernel) rfl rfl (Nat.le_of_ble_eq_true rfl) d_Loops_markWaysOf_48 (fun H locs hP hD hS => ?_)
          have hP := va_Pe (setB_knots a cs (uB_backs σ ((sB_backs σ) + 1)) ((sB_knots σ) + 1)) hP
          have hD := va_De (setB_knots a cs (uB_backs σ ((sB_backs σ) + 1)) ((sB_knots σ) + 1)) hD
          refine lv_iload_n hx hb d_Loops_markWaysOf_51 rfl (lv_at hl 0 rfl) ?_
          refine lv_iconst (v := 1) hx hb d_Loops_markWaysOf_52 (by decide) ?_
          refine lv_icmp_ne (tgt := 77) hx hb d_Loops_markWaysOf_53 (by decide) (fun c16 => ?_) (fun c16 => ?_)
          · have h := b_f h c16
            refine lv_iinc (v := v2 + 1) (lv' := [(2, .int (v2 + 1)), (3, .int r3), (0, .ref (a 4)), (1, .int v1)]) hx hb d_Loops_markWaysOf_77 hl (k := 3) rfl rfl (by decide) rfl (fun ls hl => ?_)
            refine lv_goto (tgt := 2) hx hb d_Loops_markWaysOf_80 (by decide) ?_
            exact ih (uB_knots (uB_backs σ ((sB_backs σ) + 1)) ((sB_knots σ) + 1)) v1 (v2 + 1) y h _ _ ls hP hD hS (lv_sub hl [2, 3, 0] rfl) k0
          · have h := b_t h c16
            refine lv_aload_n hx hb d_Loops_markWaysOf_56 rfl (lv_at hl 1 rfl) ?_
            refine va_get (D := (dC, dI)) (ci := 4) (v := .ref (a 14)) (C := "BlockRuler$Loops") (T := F_Loops) (N := 7) hx hb hg i_Loops hown hK hP 4 rfl rfl 3 (by decide) (hg _ wd90) (fun _ h9 => h9) rfl d_Loops_markWaysOf_57 ?_
            refine lv_aload_n hx hb d_Loops_markWaysOf_60 rfl (lv_at hl 1 rfl) ?_
            refine va_get (D := (dC, dI)) (ci := 4) (v := .ref (a 1)) (C := "BlockRuler$Loops") (T := F_Loops) (N := 7) hx hb hg i_Loops hown hK hP 4 rfl rfl 0 (by decide) (hg _ wd84) (fun _ h9 => h9) rfl d_Loops_markWaysOf_61 ?_
            refine lv_iload_n hx hb d_Loops_markWaysOf_64 rfl (lv_at hl 2 rfl) ?_
            refine lv_iload_n hx hb d_Loops_markWaysOf_65 rfl (lv_at hl 3 rfl) ?_
            obtain ⟨r17, hr17, h⟩ := bd h
            refine ro_call (v := .int r17) (va_runV (C := "BlockRuler$Web") (As := [.int v1, .int v2]) (rest := [.ref (a 14)]) ⟨hx, hb, hml, hown, hg⟩ (c_Web_endOf l dC dI a cs (uB_knots (uB_backs σ ((sB_backs σ) + 1)) ((sB_knots σ) + 1)) v1 v2 _ hr17) (cwV 2 hg (gdV wd85 wd13 wd12 wd7 wd15) rfl rfl rfl (by decide +kernel) ⟨Nat.le_of_ble_eq_true rfl, Nat.le_of_ble_eq_true rfl⟩) ⟨wb_blind, va_recv hK hP (ci := 1) (q0 := 1) rfl rfl, fun U hU hW => ⟨rfl, wb_pre hU hW hP hK hN⟩⟩ rfl rfl hl.1 rfl (lv_room (Nat.le_of_ble_eq_true rfl)) d_Loops_markWaysOf_66 ⟨Nat.zero_le _, Nat.zero_le _⟩) ?_
            refine lv_dup2_11 hx hb d_Loops_markWaysOf_69 rfl rfl ?_
            obtain ⟨hi18, h⟩ := gd h
            refine va_lald (f := sB_lof σ) (n := 64) hx hb hK hP 14 9 (rdB_lof a cs (uB_knots (uB_backs σ ((sB_backs σ) + 1)) ((sB_knots σ) + 1)) ((gB_lof_knots _ _).trans (gB_lof_backs _ _))) rfl hi18 d_Loops_markWaysOf_70 ?_
            refine lv_iload_n hx hb d_Loops_markWaysOf_71 rfl (lv_at hl 2 rfl) ?_
            refine ro_call (v := .long (f_BlockRuler_only v1)) (va_runSN (As := [.int v1]) (rest := [.long (sB_lof σ (Int32.toNatClampNeg r17)), .int r17, .ref (a 14)]) ⟨hx, hb, hml, hown, hg⟩ (c_BlockRuler_only l v1 _ rfl) ⟨va_cnB 1 hg (gdC wd35) rfl rfl rfl (hN _ nw7) (hg _ wd22) (by decide +kernel) ⟨Nat.le_of_ble_eq_true rfl, Nat.le_of_ble_eq_true rfl⟩, hg _ wd36, trivial⟩ ⟨va_blind0, fun U hU hW => ⟨rfl, trivial⟩⟩ rfl rfl hl.1 rfl (lv_room (Nat.le_of_ble_eq_true rfl)) d_Loops_markWaysOf_72 ⟨Nat.zero_le _, Nat.zero_le _⟩) ?_
            refine lv_lor hx hb d_Loops_markWaysOf_75 ?_
            refine va_last (f := sB_lof σ) (n := 64) hx hb hK hP hD hS 14 9 (rdB_lof a cs (uB_knots (uB_backs σ ((sB_backs σ) + 1)) ((sB_knots σ) + 1)) ((gB_lof_knots _ _).trans (gB_lof_backs _ _))) rfl hi18 d_Loops_markWaysOf_76 (fun H locs hP hD hS => ?_)
            have hP := va_Pe (setB_lof a cs (uB_knots (uB_backs σ ((sB_backs σ) + 1)) ((sB_knots σ) + 1)) (vp_updL (sB_lof σ) (Int32.toNatClampNeg r17) ((sB_lof σ (Int32.toNatClampNeg r17)) ||| (f_BlockRuler_only v1)))) hP
            have hD := va_De (setB_lof a cs (uB_knots (uB_backs σ ((sB_backs σ) + 1)) ((sB_knots σ) + 1)) (vp_updL (sB_lof σ) (Int32.toNatClampNeg r17) ((sB_lof σ (Int32.toNatClampNeg r17)) ||| (f_BlockRuler_only v1)))) hD
            refine lv_iinc (v := v2 + 1) (lv' := [(2, .int (v2 + 1)), (3, .int r3), (0, .ref (a 4)), (1, .int v1)]) hx hb d_Loops_markWaysOf_77 hl (k := 3) rfl rfl (by decide) rfl (fun ls hl => ?_)
            refine lv_goto (tgt := 2) hx hb d_Loops_markWaysOf_80 (by decide) ?_
            exact ih (uB_lof (uB_knots (uB_backs σ ((sB_backs σ) + 1)) ((sB_knots σ) + 1)) (vp_updL (sB_lof σ) (Int32.toNatClampNeg r17) ((sB_lof σ (Int32.toNatClampNeg r17)) ||| (f_BlockRuler_only v1)))) v1 (v2 + 1) y h _ _ ls hP hD hS (lv_sub hl [2, 3, 0] rfl) k0
set_option maxHeartbeats 4000000 in
set_option maxRecDepth 100000 in
theorem c_Loops_markWaysOf (l : Launch) (dC : Nat → ClassId) (dI : Nat → Nat → Nat) (a : Nat → Nat) (cs : Nat → ClassId) (sz : Nat) (σ : SB) (v1 : Int32) (r : SB) (h : f_Loops_markWaysOf σ v1 = some r) : Met l y_Loops_markWaysOf w_Loops_markWaysOf rm_Loops_markWaysOf (va_Pc [.ref (a 4), .int v1] (fun U => U.heap.size = sz ∧ WDB dC dI a cs σ U)) (va_Qv (fun u : SB => u = r) (atB dC dI a cs (va_A (wsB a cs σ) sz)) (va_A (wsB a cs σ) sz)) 0 0 (va_A (wsB a cs σ) sz) := by
  refine Met.ofW (cc := b_Loops_markWaysOf) (maxL := 4) (ret := none) (by decide) rfl ?_
  intro p e s m args below meth c s₁ B hml hv
  obtain ⟨rfl, hsz, hP, hK, hN, hD0⟩ := hv
  have hx := B.exec
  have hb := B.bytes
  have hr := B.returns
  have hg : ∀ w ∈ G_, w.before _ s = true := fun w hw => atoms_spec (ws := w_Loops_markWaysOf) B.pre w (List.mem_cons_of_mem _ hw)
  have hown : s.vm.findClass "BlockRuler$Loops" = some m.cls := findClass_of_methodNamed B.named
  have hlocks := B.notSynchronized
  have C0 : Cx "BlockRuler$Loops" b_Loops_markWaysOf 4 p s m _ meth c := ⟨hx, hb, hml, hown, hg, hlocks⟩
  subst hsz
  have hD := hD0.self (sz := s.heap.size)
  generalize hAe : va_A (wsB a cs σ) s.heap.size = A at hD ⊢
  have hA : ∀ q : Nat, s.heap.size ≤ q → A q := fun q h => by rw [← hAe]; exact Or.inr h
  have hS : va_S A s.heap s.heap [] := va_S.rf
  have hl := lv_entry ([.ref (a 4), .int v1]) (n := 4) (Nat.le_of_ble_eq_true rfl)
  rw [lg_entry_eq]
  generalize (lg_sl ([.ref (a 4), .int v1]) ++ List.replicate (4 - (lg_sl ([.ref (a 4), .int v1])).length) Slot.unset).toArray = ls at hl ⊢
  have hl : lv_has ls 4 [(0, .ref (a 4)), (1, .int v1)] := hl
  unfold f_Loops_markWaysOf at h
  refine lv_iconst (v := 0) hx hb d_Loops_markWaysOf_0 (by decide) ?_
  refine lv_istore_n (lv' := [(2, .int 0), (0, .ref (a 4)), (1, .int v1)]) hx hb d_Loops_markWaysOf_1 rfl hl (by decide) rfl (fun ls hl => ?_)
  obtain ⟨y19, hy19, h⟩ := bd h
  refine lpW_Loops_markWaysOf_2 C0 hK hN hA 100 σ v1 0 y19 hy19 _ _ ls hP hD hS (lv_sub hl [1, 2, 0] rfl) (fun H locs ls hP hD hS hl => ?_)
  exact W.vret hx hb hr (fun t ht hW => ⟨⟨y19.2, rfl, Option.some.inj h, by rw [ht]; exact hP, hD⟩, hS.F ht⟩) hS.2.2 d_Loops_markWaysOf_83
set_option maxHeartbeats 4000000 in
set_option maxRecDepth 100000 in
theorem lpW_Loops_grown_23 {p : Program} {l : Launch} {e : Env} {s : State} {m : MethodId} {args : Array Value} {below : List Frame} {meth : Method} {c : Code} {Q : State → Prop} {dC : Nat → ClassId} {dI : Nat → Nat → Nat} {a : Nat → Nat} {cs : Nat → ClassId} {H : Heap} {locs : List Loc} (C0 : Cx "BlockRuler$Loops" b_Loops_grown 11 p s m args meth c) (hK : va_K (dC, dI) classes (tyB cs) s) (hN : NW s) : ∀ (n : Nat) (σ : SB) (v4 : Int64) (v6 : Int64) (v8 : Int32) (y : Int64 × Int64 × Int32), lp_Loops_grown_23 n σ v4 v6 v8 = some y → va_P (dC, dI) classes (wsB a cs σ) H → ∀ (ls : Array Slot), lv_has ls 11 [(0, .ref (a 4)), (4, .long v4), (6, .long v6), (8, .int v8)] → (∀ (ls : Array Slot), lv_has ls 11 [(0, .ref (a 4)), (4, .long y.1), (6, .long y.2.1), (8, .int y.2.2)] → W p l e (headSpec w_Loops_grown rm_Loops_grown).room s m args below meth c H locs 0 0 Q (F0 m 82 ls [])) → W p l e (headSpec w_Loops_grown rm_Loops_grown).room s m args below meth c H locs 0 0 Q (F0 m 23 ls []) := by
  have C1 := C0
  obtain ⟨hx, hb, hml, hown, hg, hlocks⟩ := C1
  intro n
  induction n with
  | zero => intro σ v4 v6 v8 y h; exact absurd (show (none : Option (Int64 × Int64 × Int32)) = some y from h) (fun q => by cases q)
  | succ n ih =>
    intro σ v4 v6 v8 y h hP ls hl k0
    rw [lp_Loops_grown_23_s] at h
    refine lv_iload hx hb d_Loops_grown_23 (lv_at hl 3 rfl) ?_
    refine lv_bipush (v := 64) hx hb d_Loops_grown_25 (by decide) ?_
    refine lv_icmp_ge (tgt := 82) hx hb d_Loops_grown_27 (by decide) (fun c3 => ?_) (fun c3 => ?_)
    · have h := b_t h c3
      obtain rfl := Option.some.inj h
      exact k0 ls (lv_sub hl [0, 1, 2, 3] rfl)
    · have h := b_f h c3
      refine lv_lload hx hb d_Loops_grown_30 (lv_at hl 2 rfl) ?_
      refine lv_lconst (v := 0) hx hb d_Loops_grown_32 (by decide) ?_
      refine W.lcmp hx hb d_Loops_grown_33 ?_
      refine lv_if_eq (tgt := 82) hx hb d_Loops_grown_34 (by decide) (fun c4 => ?_) (fun c4 => ?_)
      · have h := b_t h c4
        obtain rfl := Option.some.inj h
        exact k0 ls (lv_sub hl [0, 1, 2, 3] rfl)
      · have h := b_f h c4
        refine lv_aload_n hx hb d_Loops_grown_37 rfl (lv_at hl 0 rfl) ?_
        refine va_get (D := (dC, dI)) (ci := 4) (v := .ref (a 2)) (C := "BlockRuler$Loops") (T := F_Loops) (N := 7) hx hb hg i_Loops hown hK hP 4 rfl rfl 1 (by decide) (hg _ wd86) (fun _ h9 => h9) rfl d_Loops_grown_38 ?_
        refine va_get (D := (dC, dI)) (ci := 2) (v := .ref (a 11)) (C := "BlockRuler$Walk") (T := F_Walk) (N := 9) hx hb hg i_Walk hown hK hP 2 rfl rfl 5 (by decide) (hg _ wd112) (fun _ h9 => h9) rfl d_Loops_grown_41 ?_
        refine lv_lload hx hb d_Loops_grown_44 (lv_at hl 2 rfl) ?_
        refine ro_call (v := .int (f_BlockRuler_least v6)) (va_runSN (As := [.long v6]) (rest := [.ref (a 11)]) ⟨hx, hb, hml, hown, hg⟩ (c_BlockRuler_least l v6 _ rfl) ⟨va_cnB 1 hg (gdC wd26) rfl rfl rfl (hN _ nw8) (hg _ wd22) (by decide +kernel) ⟨Nat.le_of_ble_eq_true rfl, Nat.le_of_ble_eq_true rfl⟩, hg _ wd25, trivial⟩ ⟨va_blind0, fun U hU hW => ⟨rfl, trivial⟩⟩ rfl rfl hl.1 rfl (lv_room (Nat.le_of_ble_eq_true rfl)) d_Loops_grown_46 ⟨Nat.zero_le _, Nat.zero_le _⟩) ?_
        obtain ⟨hi5, h⟩ := gd h
        refine va_lald (f := sB_comers σ) (n := 64) hx hb hK hP 11 6 rfl rfl hi5 d_Loops_grown_49 ?_
        refine lv_lload hx hb d_Loops_grown_50 (lv_at hl 1 rfl) ?_
        refine lv_ldc2 (v := -1) hx hb hown (hg _ wd111) d_Loops_grown_52 ?_
        refine lv_lxor hx hb d_Loops_grown_55 ?_
        refine lv_land hx hb d_Loops_grown_56 ?_
        refine lv_topl (fun x6 ex6 => ?_)
        have h := lt_ h x6 ex6
        refine lv_lstore (lv' := [(9, .long x6), (0, .ref (a 4)), (4, .long v4), (6, .long v6), (8, .int v8)]) hx hb d_Loops_grown_57 hl (by decide) rfl (fun ls hl => ?_)
        refine lv_lload hx hb d_Loops_grown_59 (lv_at hl 2 rfl) ?_
        refine lv_lload hx hb d_Loops_grown_61 (lv_at hl 0 rfl) ?_
        refine lv_lor hx hb d_Loops_grown_63 ?_
        refine lv_lstore (lv' := [(4, .long (v4 ||| x6)), (9, .long x6), (0, .ref (a 4)), (6, .long v6), (8, .int v8)]) hx hb d_Loops_grown_64 hl (by decide) rfl (fun ls hl => ?_)
        refine lv_lload hx hb d_Loops_grown_66 (lv_at hl 3 rfl) ?_
        refine ro_call (v := .long (f_BlockRuler_withoutLeast v6)) (va_runSN (As := [.long v6]) (rest := []) ⟨hx, hb, hml, hown, hg⟩ (c_BlockRuler_withoutLeast l v6 _ rfl) ⟨va_cnB 1 hg (gdC wd23) rfl rfl rfl (hN _ nw9) (hg _ wd22) (by decide +kernel) ⟨Nat.le_of_ble_eq_true rfl, Nat.le_of_ble_eq_true rfl⟩, hg _ wd21, trivial⟩ ⟨va_blind0, fun U hU hW => ⟨rfl, trivial⟩⟩ rfl rfl hl.1 rfl (lv_room (Nat.le_of_ble_eq_true rfl)) d_Loops_grown_68 ⟨Nat.zero_le _, Nat.zero_le _⟩) ?_
        refine lv_lload hx hb d_Loops_grown_71 (lv_at hl 1 rfl) ?_
        refine lv_lor hx hb d_Loops_grown_73 ?_
        refine lv_topl (fun x7 ex7 => ?_)
        have h := lt_ h x7 ex7
        refine lv_lstore (lv' := [(6, .long x7), (4, .long (v4 ||| x6)), (9, .long x6), (0, .ref (a 4)), (8, .int v8)]) hx hb d_Loops_grown_74 hl (by decide) rfl (fun ls hl => ?_)
        refine lv_iinc (v := v8 + 1) (lv' := [(8, .int (v8 + 1)), (6, .long x7), (4, .long (v4 ||| x6)), (9, .long x6), (0, .ref (a 4))]) hx hb d_Loops_grown_76 hl (k := 4) rfl rfl (by decide) rfl (fun ls hl => ?_)
        refine lv_goto (tgt := 23) hx hb d_Loops_grown_79 (by decide) ?_
        exact ih σ (v4 ||| x6) x7 (v8 + 1) y h hP ls (lv_sub hl [4, 2, 1, 0] rfl) k0
set_option maxHeartbeats 4000000 in
set_option maxRecDepth 100000 in
theorem c_Loops_grown (l : Launch) (dC : Nat → ClassId) (dI : Nat → Nat → Nat) (a : Nat → Nat) (cs : Nat → ClassId) (σ : SB) (v1 : Int32) (v2 : Int64) (r : Int64) (h : f_Loops_grown σ v1 v2 = some r) : Met l y_Loops_grown w_Loops_grown rm_Loops_grown (va_Pc [.ref (a 4), .int v1, .long v2] (WBB dC dI a cs σ)) (QcV (.long r)) 0 0 (fun _ => False) := by
  refine Met.ofW (cc := b_Loops_grown) (maxL := 11) (ret := (some .long)) (by decide) rfl ?_
  intro p e s m args below meth c s₁ B hml hv
  obtain ⟨rfl, hP, hK, hN⟩ := hv
  have hx := B.exec
  have hb := B.bytes
  have hr := B.returns
  have hg : ∀ w ∈ G_, w.before _ s = true := fun w hw => atoms_spec (ws := w_Loops_grown) B.pre w (List.mem_cons_of_mem _ hw)
  have hown : s.vm.findClass "BlockRuler$Loops" = some m.cls := findClass_of_methodNamed B.named
  have hlocks := B.notSynchronized
  have C0 : Cx "BlockRuler$Loops" b_Loops_grown 11 p s m _ meth c := ⟨hx, hb, hml, hown, hg, hlocks⟩
  have hl := lv_entry ([.ref (a 4), .int v1, .long v2]) (n := 11) (Nat.le_of_ble_eq_true rfl)
  rw [lg_entry_eq]
  generalize (lg_sl ([.ref (a 4), .int v1, .long v2]) ++ List.replicate (11 - (lg_sl ([.ref (a 4), .int v1, .long v2])).length) Slot.unset).toArray = ls at hl ⊢
  have hl : lv_has ls 11 [(0, .ref (a 4)), (1, .int v1), (2, .long v2)] := hl
  unfold f_Loops_grown at h
  refine lv_lload_n hx hb d_Loops_grown_0 rfl (lv_at hl 2 rfl) ?_
  refine lv_iload_n hx hb d_Loops_grown_1 rfl (lv_at hl 1 rfl) ?_
  refine ro_call (v := .long (f_BlockRuler_only v1)) (va_runSN (As := [.int v1]) (rest := [.long v2]) ⟨hx, hb, hml, hown, hg⟩ (c_BlockRuler_only l v1 _ rfl) ⟨va_cnB 1 hg (gdC wd35) rfl rfl rfl (hN _ nw7) (hg _ wd22) (by decide +kernel) ⟨Nat.le_of_ble_eq_true rfl, Nat.le_of_ble_eq_true rfl⟩, hg _ wd36, trivial⟩ ⟨va_blind0, fun U hU hW => ⟨rfl, trivial⟩⟩ rfl rfl hl.1 rfl (lv_room (Nat.le_of_ble_eq_true rfl)) d_Loops_grown_2 ⟨Nat.zero_le _, Nat.zero_le _⟩) ?_
  refine lv_lor hx hb d_Loops_grown_5 ?_
  refine lv_topl (fun x1 ex1 => ?_)
  have h := lt_ h x1 ex1
  refine lv_lstore (lv' := [(4, .long x1), (0, .ref (a 4)), (1, .int v1), (2, .long v2)]) hx hb d_Loops_grown_6 hl (by decide) rfl (fun ls hl => ?_)
  refine lv_lload_n hx hb d_Loops_grown_8 rfl (lv_at hl 3 rfl) ?_
  refine lv_iload_n hx hb d_Loops_grown_9 rfl (lv_at hl 2 rfl) ?_
  refine ro_call (v := .long (f_BlockRuler_only v1)) (va_runSN (As := [.int v1]) (rest := [.long v2]) ⟨hx, hb, hml, hown, hg⟩ (c_BlockRuler_only l v1 _ rfl) ⟨va_cnB 1 hg (gdC wd35) rfl rfl rfl (hN _ nw7) (hg _ wd22) (by decide +kernel) ⟨Nat.le_of_ble_eq_true rfl, Nat.le_of_ble_eq_true rfl⟩, hg _ wd36, trivial⟩ ⟨va_blind0, fun U hU hW => ⟨rfl, trivial⟩⟩ rfl rfl hl.1 rfl (lv_room (Nat.le_of_ble_eq_true rfl)) d_Loops_grown_10 ⟨Nat.zero_le _, Nat.zero_le _⟩) ?_
  refine lv_ldc2 (v := -1) hx hb hown (hg _ wd111) d_Loops_grown_13 ?_
  refine lv_lxor hx hb d_Loops_grown_16 ?_
  refine lv_land hx hb d_Loops_grown_17 ?_
  refine lv_topl (fun x2 ex2 => ?_)
  have h := lt_ h x2 ex2
  refine lv_lstore (lv' := [(6, .long x2), (4, .long x1), (0, .ref (a 4)), (1, .int v1), (2, .long v2)]) hx hb d_Loops_grown_18 hl (by decide) rfl (fun ls hl => ?_)
  refine lv_iconst (v := 0) hx hb d_Loops_grown_20 (by decide) ?_
  refine lv_istore (lv' := [(8, .int 0), (6, .long x2), (4, .long x1), (0, .ref (a 4)), (1, .int v1), (2, .long v2)]) hx hb d_Loops_grown_21 hl (by decide) rfl (fun ls hl => ?_)
  obtain ⟨y8, hy8, h⟩ := bd h
  refine lpW_Loops_grown_23 C0 hK hN 100 σ x1 x2 0 y8 hy8 hP ls (lv_sub hl [3, 2, 1, 0] rfl) (fun ls hl => ?_)
  refine lv_lload hx hb d_Loops_grown_82 (lv_at hl 1 rfl) ?_
  exact W.lret (v := y8.1) hx hb hr (fun t ht _ => ⟨by rw [Option.some.inj h], ht⟩) (fun q hq => by cases hq) d_Loops_grown_84
set_option maxHeartbeats 4000000 in
set_option maxRecDepth 100000 in
theorem lpW_Loops_make_6 {p : Program} {l : Launch} {e : Env} {s : State} {m : MethodId} {args : Array Value} {below : List Frame} {meth : Method} {c : Code} {Q : State → Prop} {dC : Nat → ClassId} {dI : Nat → Nat → Nat} {a : Nat → Nat} {cs : Nat → ClassId} {A : Nat → Prop} (C0 : Cx "BlockRuler$Loops" b_Loops_make 2 p s m args meth c) (hK : va_K (dC, dI) classes (tyB cs) s) (hN : NW s) (hA : ∀ q : Nat, s.heap.size ≤ q → A q) : ∀ (n : Nat) (σ : SB) (v1 : Int32) (y : Int32 × SB), lp_Loops_make_6 n σ v1 = some y → ∀ (H : Heap) (locs : List Loc) (ls : Array Slot), va_P (dC, dI) classes (wsB a cs σ) H → va_D A (wsB a cs σ) → va_S A s.heap H locs → lv_has ls 2 [(0, .ref (a 4)), (1, .int v1)] → (∀ (H : Heap) (locs : List Loc) (ls : Array Slot), va_P (dC, dI) classes (wsB a cs y.2) H → va_D A (wsB a cs y.2) → va_S A s.heap H locs → lv_has ls 2 [(0, .ref (a 4)), (1, .int y.1)] → W p l e (headSpec w_Loops_make rm_Loops_make).room s m args below meth c H locs 0 0 Q (F0 m 35 ls [])) → W p l e (headSpec w_Loops_make rm_Loops_make).room s m args below meth c H locs 0 0 Q (F0 m 6 ls []) := by
  have C1 := C0
  obtain ⟨hx, hb, hml, hown, hg, hlocks⟩ := C1
  intro n
  induction n with
  | zero => intro σ v1 y h; exact absurd (show (none : Option (Int32 × SB)) = some y from h) (fun q => by cases q)
  | succ n ih =>
    intro σ v1 y h H locs ls hP hD hS hl k0
    rw [lp_Loops_make_6_s] at h
    refine lv_iload_n hx hb d_Loops_make_6 rfl (lv_at hl 1 rfl) ?_
    refine lv_aload_n hx hb d_Loops_make_7 rfl (lv_at hl 0 rfl) ?_
    refine va_get (D := (dC, dI)) (ci := 4) (v := .ref (a 2)) (C := "BlockRuler$Loops") (T := F_Loops) (N := 7) hx hb hg i_Loops hown hK hP 4 rfl rfl 1 (by decide) (hg _ wd86) (fun _ h9 => h9) rfl d_Loops_make_8 ?_
    refine va_get (D := (dC, dI)) (ci := 2) (v := .int (sB_reached σ)) (C := "BlockRuler$Walk") (T := F_Walk) (N := 9) hx hb hg i_Walk hown hK hP 2 rfl rfl 7 (by decide) (hg _ wd100) (fun _ h9 => h9) rfl d_Loops_make_11 ?_
    refine lv_icmp_ge (tgt := 35) hx hb d_Loops_make_14 (by decide) (fun c2 => ?_) (fun c2 => ?_)
    · have h := b_t h c2
      obtain rfl := Option.some.inj h
      exact k0 _ _ ls hP hD hS (lv_sub hl [0, 1] rfl)
    · have h := b_f h c2
      refine lv_aload_n hx hb d_Loops_make_17 rfl (lv_at hl 0 rfl) ?_
      refine lv_aload_n hx hb d_Loops_make_18 rfl (lv_at hl 0 rfl) ?_
      refine va_get (D := (dC, dI)) (ci := 4) (v := .ref (a 2)) (C := "BlockRuler$Loops") (T := F_Loops) (N := 7) hx hb hg i_Loops hown hK hP 4 rfl rfl 1 (by decide) (hg _ wd86) (fun _ h9 => h9) rfl d_Loops_make_19 ?_
      refine lv_iload_n hx hb d_Loops_make_22 rfl (lv_at hl 1 rfl) ?_
      obtain ⟨r3, hr3, h⟩ := bd h
      refine ro_call (v := .int r3) (va_runV (C := "BlockRuler$Walk") (As := [.int v1]) (rest := [.ref (a 4)]) ⟨hx, hb, hml, hown, hg⟩ (c_Walk_blockAt l dC dI a cs σ v1 _ hr3) (cwV 1 hg (gdV wd101 wd52 wd51 wd45 wd54) rfl rfl rfl (by decide +kernel) ⟨Nat.le_of_ble_eq_true rfl, Nat.le_of_ble_eq_true rfl⟩) ⟨wb_blind, va_recv hK hP (ci := 2) (q0 := 2) rfl rfl, fun U hU hW => ⟨rfl, wb_pre hU hW hP hK hN⟩⟩ rfl rfl hl.1 rfl (lv_room (Nat.le_of_ble_eq_true rfl)) d_Loops_make_23 ⟨Nat.zero_le _, Nat.zero_le _⟩) ?_
      obtain ⟨r4, hr4, h⟩ := bd h
      have hFc := va_free (wc := wsB a cs σ) hD hS hA [0, 1, 2, 3, 4, 5, 6, 7, 8, 9, 10, 11, 12, 13, 14] (allB a cs σ)
      refine va_callv (va_runV (C := "BlockRuler$Loops") (As := [.int r3]) (rest := []) ⟨hx, hb, hml, hown, hg⟩ (c_Loops_markWaysOf l dC dI a cs _ σ r3 _ hr4) (cwV 1 hg (gdV wd119 wd118 wd117 wd94 wd120) rfl rfl rfl (by decide +kernel) ⟨Nat.le_of_ble_eq_true rfl, Nat.le_of_ble_eq_true rfl⟩) ⟨wbz_blind, va_recv hK hP (ci := 4) (q0 := 4) rfl rfl, fun U hU hW => ⟨rfl, by rw [hU], wb_preD hU hW hP hK hN hD⟩⟩ rfl rfl hl.1 rfl (lv_room (Nat.le_of_ble_eq_true rfl)) d_Loops_make_26 ⟨Nat.zero_le _, Nat.zero_le _⟩) hS (fun q _ h => hFc q h) hFc (fun u t H locs ht hvm hw hB hz1 hk1 hS => ?_)
      obtain rfl : r4 = u := hw.symm
      have hP : va_P (dC, dI) classes (wsB a cs r4) H := by have q := hB.1; rw [ht] at q; exact q
      have hD : va_D A (wsB a cs r4) := hB.2.weaken (fun _ _ _ h => hFc _ h)
      refine lv_iinc (v := v1 + 1) (lv' := [(1, .int (v1 + 1)), (0, .ref (a 4))]) hx hb d_Loops_make_29 hl (k := 1) rfl rfl (by decide) rfl (fun ls hl => ?_)
      refine lv_goto (tgt := 6) hx hb d_Loops_make_32 (by decide) ?_
      exact ih r4 (v1 + 1) y h _ _ ls hP hD hS (lv_sub hl [1, 0] rfl) k0
set_option maxHeartbeats 4000000 in
set_option maxRecDepth 100000 in
theorem lpW_Loops_make_37 {p : Program} {l : Launch} {e : Env} {s : State} {m : MethodId} {args : Array Value} {below : List Frame} {meth : Method} {c : Code} {Q : State → Prop} {dC : Nat → ClassId} {dI : Nat → Nat → Nat} {a : Nat → Nat} {cs : Nat → ClassId} {A : Nat → Prop} (C0 : Cx "BlockRuler$Loops" b_Loops_make 2 p s m args meth c) (hK : va_K (dC, dI) classes (tyB cs) s) (hN : NW s) (hA : ∀ q : Nat, s.heap.size ≤ q → A q) : ∀ (n : Nat) (σ : SB) (v1 : Int32) (y : Int32 × SB), lp_Loops_make_37 n σ v1 = some y → ∀ (H : Heap) (locs : List Loc) (ls : Array Slot), va_P (dC, dI) classes (wsB a cs σ) H → va_D A (wsB a cs σ) → va_S A s.heap H locs → lv_has ls 2 [(0, .ref (a 4)), (1, .int v1)] → (∀ (H : Heap) (locs : List Loc) (ls : Array Slot), va_P (dC, dI) classes (wsB a cs y.2) H → va_D A (wsB a cs y.2) → va_S A s.heap H locs → lv_has ls 2 [(0, .ref (a 4)), (1, .int y.1)] → W p l e (headSpec w_Loops_make rm_Loops_make).room s m args below meth c H locs 0 0 Q (F0 m 87 ls [])) → W p l e (headSpec w_Loops_make rm_Loops_make).room s m args below meth c H locs 0 0 Q (F0 m 37 ls []) := by
  have C1 := C0
  obtain ⟨hx, hb, hml, hown, hg, hlocks⟩ := C1
  intro n
  induction n with
  | zero => intro σ v1 y h; exact absurd (show (none : Option (Int32 × SB)) = some y from h) (fun q => by cases q)
  | succ n ih =>
    intro σ v1 y h H locs ls hP hD hS hl k0
    rw [lp_Loops_make_37_s] at h
    refine lv_iload_n hx hb d_Loops_make_37 rfl (lv_at hl 1 rfl) ?_
    refine lv_bipush (v := 64) hx hb d_Loops_make_38 (by decide) ?_
    refine lv_icmp_ge (tgt := 87) hx hb d_Loops_make_40 (by decide) (fun c6 => ?_) (fun c6 => ?_)
    · have h := b_t h c6
      obtain rfl := Option.some.inj h
      exact k0 _ _ ls hP hD hS (lv_sub hl [0, 1] rfl)
    · have h := b_f h c6
      refine lv_aload_n hx hb d_Loops_make_43 rfl (lv_at hl 0 rfl) ?_
      refine va_get (D := (dC, dI)) (ci := 4) (v := .ref (a 14)) (C := "BlockRuler$Loops") (T := F_Loops) (N := 7) hx hb hg i_Loops hown hK hP 4 rfl rfl 3 (by decide) (hg _ wd90) (fun _ h9 => h9) rfl d_Loops_make_44 ?_
      refine lv_iload_n hx hb d_Loops_make_47 rfl (lv_at hl 1 rfl) ?_
      obtain ⟨hi7, h⟩ := gd h
      refine va_lald (f := sB_lof σ) (n := 64) hx hb hK hP 14 9 rfl rfl hi7 d_Loops_make_48 ?_
      refine lv_lconst (v := 0) hx hb d_Loops_make_49 (by decide) ?_
      refine W.lcmp hx hb d_Loops_make_50 ?_
      refine lv_if_eq (tgt := 81) hx hb d_Loops_make_51 (by decide) (fun c8 => ?_) (fun c8 => ?_)
      · have h := b_t h c8
        refine lv_iinc (v := v1 + 1) (lv' := [(1, .int (v1 + 1)), (0, .ref (a 4))]) hx hb d_Loops_make_81 hl (k := 1) rfl rfl (by decide) rfl (fun ls hl => ?_)
        refine lv_goto (tgt := 37) hx hb d_Loops_make_84 (by decide) ?_
        exact ih σ (v1 + 1) y h _ _ ls hP hD hS (lv_sub hl [1, 0] rfl) k0
      · have h := b_f h c8
        refine lv_aload_n hx hb d_Loops_make_54 rfl (lv_at hl 0 rfl) ?_
        refine lv_dup hx hb d_Loops_make_55 rfl ?_
        refine va_get (D := (dC, dI)) (ci := 4) (v := .int (sB_heads σ)) (C := "BlockRuler$Loops") (T := F_Loops) (N := 7) hx hb hg i_Loops hown hK hP 4 rfl rfl 4 (by decide) (hg _ wd103) (fun _ h9 => h9) rfl d_Loops_make_56 ?_
        refine lv_iconst (v := 1) hx hb d_Loops_make_59 (by decide) ?_
        refine lv_iadd hx hb d_Loops_make_60 ?_
        refine va_put (D := (dC, dI)) (ci := 4) (v := .int ((sB_heads σ) + 1)) (ty := .int) (C := "BlockRuler$Loops") (T := F_Loops) (N := 7) hx hb hg i_Loops t_Loops t_Loops_ok n_Loops hown hK hP hD hS 4 rfl rfl 4 (by decide) (hg _ wd103) (fun _ h9 => h9) rfl (by decide +kernel) rfl rfl (Nat.le_of_ble_eq_true rfl) d_Loops_make_61 (fun H locs hP hD hS => ?_)
        have hP := va_Pe (setB_heads a cs σ ((sB_heads σ) + 1)) hP
        have hD := va_De (setB_heads a cs σ ((sB_heads σ) + 1)) hD
        refine lv_aload_n hx hb d_Loops_make_64 rfl (lv_at hl 0 rfl) ?_
        refine va_get (D := (dC, dI)) (ci := 4) (v := .ref (a 14)) (C := "BlockRuler$Loops") (T := F_Loops) (N := 7) hx hb hg i_Loops hown hK hP 4 rfl rfl 3 (by decide) (hg _ wd90) (fun _ h9 => h9) rfl d_Loops_make_65 ?_
        refine lv_iload_n hx hb d_Loops_make_68 rfl (lv_at hl 1 rfl) ?_
        refine lv_aload_n hx hb d_Loops_make_69 rfl (lv_at hl 0 rfl) ?_
        refine lv_iload_n hx hb d_Loops_make_70 rfl (lv_at hl 1 rfl) ?_
        refine lv_aload_n hx hb d_Loops_make_71 rfl (lv_at hl 0 rfl) ?_
        refine va_get (D := (dC, dI)) (ci := 4) (v := .ref (a 14)) (C := "BlockRuler$Loops") (T := F_Loops) (N := 7) hx hb hg i_Loops hown hK hP 4 rfl rfl 3 (by decide) (hg _ wd90) (fun _ h9 => h9) rfl d_Loops_make_72 ?_
        refine lv_iload_n hx hb d_Loops_make_75 rfl (lv_at hl 1 rfl) ?_
        refine va_lald (f := sB_lof σ) (n := 64) hx hb hK hP 14 9 (rdB_lof a cs (uB_heads σ ((sB_heads σ) + 1)) (gB_lof_heads _ _)) rfl hi7 d_Loops_make_76 ?_
        obtain ⟨r9, hr9, h⟩ := bd h
        refine ro_call (v := .long r9) (va_runV (C := "BlockRuler$Loops") (As := [.int v1, .long (sB_lof σ (Int32.toNatClampNeg v1))]) (rest := [.int v1, .ref (a 14)]) ⟨hx, hb, hml, hown, hg⟩ (c_Loops_grown l dC dI a cs (uB_heads σ ((sB_heads σ) + 1)) v1 (sB_lof σ (Int32.toNatClampNeg v1)) _ hr9) (cwV 2 hg (gdV wd123 wd122 wd121 wd94 wd124) rfl rfl rfl (by decide +kernel) ⟨Nat.le_of_ble_eq_true rfl, Nat.le_of_ble_eq_true rfl⟩) ⟨wb_blind, va_recv hK hP (ci := 4) (q0 := 4) rfl rfl, fun U hU hW => ⟨rfl, wb_pre hU hW hP hK hN⟩⟩ rfl rfl hl.1 rfl (lv_room (Nat.le_of_ble_eq_true rfl)) d_Loops_make_77 ⟨Nat.zero_le _, Nat.zero_le _⟩) ?_
        refine va_last (f := sB_lof σ) (n := 64) hx hb hK hP hD hS 14 9 (rdB_lof a cs (uB_heads σ ((sB_heads σ) + 1)) (gB_lof_heads _ _)) rfl hi7 d_Loops_make_80 (fun H locs hP hD hS => ?_)
        have hP := va_Pe (setB_lof a cs (uB_heads σ ((sB_heads σ) + 1)) (vp_updL (sB_lof σ) (Int32.toNatClampNeg v1) r9)) hP
        have hD := va_De (setB_lof a cs (uB_heads σ ((sB_heads σ) + 1)) (vp_updL (sB_lof σ) (Int32.toNatClampNeg v1) r9)) hD
        refine lv_iinc (v := v1 + 1) (lv' := [(1, .int (v1 + 1)), (0, .ref (a 4))]) hx hb d_Loops_make_81 hl (k := 1) rfl rfl (by decide) rfl (fun ls hl => ?_)
        refine lv_goto (tgt := 37) hx hb d_Loops_make_84 (by decide) ?_
        exact ih (uB_lof (uB_heads σ ((sB_heads σ) + 1)) (vp_updL (sB_lof σ) (Int32.toNatClampNeg v1) r9)) (v1 + 1) y h _ _ ls hP hD hS (lv_sub hl [1, 0] rfl) k0
set_option maxHeartbeats 4000000 in
set_option maxRecDepth 100000 in
theorem c_Loops_make (l : Launch) (dC : Nat → ClassId) (dI : Nat → Nat → Nat) (a : Nat → Nat) (cs : Nat → ClassId) (sz : Nat) (σ : SB) (r : SB) (h : f_Loops_make σ = some r) : Met l y_Loops_make w_Loops_make rm_Loops_make (va_Pc [.ref (a 4)] (fun U => U.heap.size = sz ∧ WDB dC dI a cs σ U)) (va_Qv (fun u : SB => u = r) (atB dC dI a cs (va_A (wsB a cs σ) sz)) (va_A (wsB a cs σ) sz)) 0 0 (va_A (wsB a cs σ) sz) := by
  refine Met.ofW (cc := b_Loops_make) (maxL := 2) (ret := none) (by decide) rfl ?_
  intro p e s m args below meth c s₁ B hml hv
  obtain ⟨rfl, hsz, hP, hK, hN, hD0⟩ := hv
  have hx := B.exec
  have hb := B.bytes
  have hr := B.returns
  have hg : ∀ w ∈ G_, w.before _ s = true := fun w hw => atoms_spec (ws := w_Loops_make) B.pre w (List.mem_cons_of_mem _ hw)
  have hown : s.vm.findClass "BlockRuler$Loops" = some m.cls := findClass_of_methodNamed B.named
  have hlocks := B.notSynchronized
  have C0 : Cx "BlockRuler$Loops" b_Loops_make 2 p s m _ meth c := ⟨hx, hb, hml, hown, hg, hlocks⟩
  subst hsz
  have hD := hD0.self (sz := s.heap.size)
  generalize hAe : va_A (wsB a cs σ) s.heap.size = A at hD ⊢
  have hA : ∀ q : Nat, s.heap.size ≤ q → A q := fun q h => by rw [← hAe]; exact Or.inr h
  have hS : va_S A s.heap s.heap [] := va_S.rf
  have hl := lv_entry ([.ref (a 4)]) (n := 2) (Nat.le_of_ble_eq_true rfl)
  rw [lg_entry_eq]
  generalize (lg_sl ([.ref (a 4)]) ++ List.replicate (2 - (lg_sl ([.ref (a 4)])).length) Slot.unset).toArray = ls at hl ⊢
  have hl : lv_has ls 2 [(0, .ref (a 4))] := hl
  unfold f_Loops_make at h
  refine lv_aload_n hx hb d_Loops_make_0 rfl (lv_at hl 0 rfl) ?_
  obtain ⟨r1, hr1, h⟩ := bd h
  have hFc := va_free (wc := wsB a cs σ) hD hS hA [0, 1, 2, 3, 4, 5, 6, 7, 8, 9, 10, 11, 12, 13, 14] (allB a cs σ)
  refine va_callv (va_runV (C := "BlockRuler$Loops") (As := []) (rest := []) ⟨hx, hb, hml, hown, hg⟩ (c_Loops_clear l dC dI a cs _ σ _ hr1) (cwV 0 hg (gdV wd115 wd114 wd113 wd94 wd116) rfl rfl rfl (by decide +kernel) ⟨Nat.le_of_ble_eq_true rfl, Nat.le_of_ble_eq_true rfl⟩) ⟨wbz_blind, va_recv hK hP (ci := 4) (q0 := 4) rfl rfl, fun U hU hW => ⟨rfl, by rw [hU], wb_preD hU hW hP hK hN hD⟩⟩ rfl rfl hl.1 rfl (lv_room (Nat.le_of_ble_eq_true rfl)) d_Loops_make_1 ⟨Nat.zero_le _, Nat.zero_le _⟩) hS (fun q _ h => hFc q h) hFc (fun u t H locs ht hvm hw hB hz1 hk1 hS => ?_)
  obtain rfl : r1 = u := hw.symm
  have hP : va_P (dC, dI) classes (wsB a cs r1) H := by have q := hB.1; rw [ht] at q; exact q
  have hD : va_D A (wsB a cs r1) := hB.2.weaken (fun _ _ _ h => hFc _ h)
  refine lv_iconst (v := 0) hx hb d_Loops_make_4 (by decide) ?_
  refine lv_istore_n (lv' := [(1, .int 0), (0, .ref (a 4))]) hx hb d_Loops_make_5 rfl hl (by decide) rfl (fun ls hl => ?_)
  obtain ⟨y5, hy5, h⟩ := bd h
  refine lpW_Loops_make_6 C0 hK hN hA 100 r1 0 y5 hy5 _ _ ls hP hD hS (lv_sub hl [1, 0] rfl) (fun H locs ls hP hD hS hl => ?_)
  refine lv_iconst (v := 0) hx hb d_Loops_make_35 (by decide) ?_
  refine lv_istore_n (lv' := [(1, .int 0), (0, .ref (a 4))]) hx hb d_Loops_make_36 rfl hl (by decide) rfl (fun ls hl => ?_)
  obtain ⟨y10, hy10, h⟩ := bd h
  refine lpW_Loops_make_37 C0 hK hN hA 100 y5.2 0 y10 hy10 _ _ ls hP hD hS (lv_sub hl [1, 0] rfl) (fun H locs ls hP hD hS hl => ?_)
  exact W.vret hx hb hr (fun t ht hW => ⟨⟨y10.2, rfl, Option.some.inj h, by rw [ht]; exact hP, hD⟩, hS.F ht⟩) hS.2.2 d_Loops_make_87
