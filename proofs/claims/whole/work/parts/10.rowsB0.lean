-- written by wip/gen (blockruler.py)
set_option maxHeartbeats 4000000 in
set_option maxRecDepth 100000 in
theorem c_Long_bitCount (l : Launch) (v0 : Int64) (r : Int32) (h : f_Long_bitCount v0 = r) : Met l y_Long_bitCount w_Long_bitCount rm_Long_bitCount (va_Pc [.long v0] (fun _ => True)) (QcV (.int r)) 0 0 (fun _ => False) := by
  refine Met.ofW (cc := b_Long_bitCount) (maxL := 2) (ret := (some .int)) (by decide) rfl ?_
  intro p e s m args below meth c s₁ B hml hv
  obtain ⟨rfl, -⟩ := hv
  have hx := B.exec
  have hb := B.bytes
  have hr := B.returns
  have hg : ∀ w ∈ G_, w.before _ s = true := fun w hw => atoms_spec (ws := w_Long_bitCount) B.pre w (List.mem_cons_of_mem _ hw)
  have hown : s.vm.findClass "java/lang/Long" = some m.cls := findClass_of_methodNamed B.named
  have hlocks := B.notSynchronized
  have C0 : Cx "java/lang/Long" b_Long_bitCount 2 p s m _ meth c := ⟨hx, hb, hml, hown, hg, hlocks⟩
  have hl := lv_entry ([.long v0]) (n := 2) (Nat.le_of_ble_eq_true rfl)
  rw [lg_entry_eq]
  generalize (lg_sl ([.long v0]) ++ List.replicate (2 - (lg_sl ([.long v0])).length) Slot.unset).toArray = ls at hl ⊢
  have hl : lv_has ls 2 [(0, .long v0)] := hl
  unfold f_Long_bitCount at h
  refine lv_lload_n hx hb d_Long_bitCount_0 rfl (lv_at hl 0 rfl) ?_
  refine lv_lload_n hx hb d_Long_bitCount_1 rfl (lv_at hl 0 rfl) ?_
  refine lv_iconst (v := 1) hx hb d_Long_bitCount_2 (by decide) ?_
  refine lv_lushr (v := jushr v0 1) hx hb d_Long_bitCount_3 rfl ?_
  refine lv_ldc2 (v := 6148914691236517205) hx hb hown (hg _ wd0) d_Long_bitCount_4 ?_
  refine lv_land hx hb d_Long_bitCount_7 ?_
  refine lv_lsub hx hb d_Long_bitCount_8 ?_
  refine lv_topl (fun x1 ex1 => ?_)
  have h := lt_ h x1 ex1
  refine lv_lstore_n (lv' := [(0, .long x1)]) hx hb d_Long_bitCount_9 rfl hl (by decide) rfl (fun ls hl => ?_)
  refine lv_lload_n hx hb d_Long_bitCount_10 rfl (lv_at hl 0 rfl) ?_
  refine lv_ldc2 (v := 3689348814741910323) hx hb hown (hg _ wd1) d_Long_bitCount_11 ?_
  refine lv_land hx hb d_Long_bitCount_14 ?_
  refine lv_lload_n hx hb d_Long_bitCount_15 rfl (lv_at hl 0 rfl) ?_
  refine lv_iconst (v := 2) hx hb d_Long_bitCount_16 (by decide) ?_
  refine lv_lushr (v := jushr x1 2) hx hb d_Long_bitCount_17 rfl ?_
  refine lv_ldc2 (v := 3689348814741910323) hx hb hown (hg _ wd1) d_Long_bitCount_18 ?_
  refine lv_land hx hb d_Long_bitCount_21 ?_
  refine lv_ladd hx hb d_Long_bitCount_22 ?_
  refine lv_topl (fun x2 ex2 => ?_)
  have h := lt_ h x2 ex2
  refine lv_lstore_n (lv' := [(0, .long x2)]) hx hb d_Long_bitCount_23 rfl hl (by decide) rfl (fun ls hl => ?_)
  refine lv_lload_n hx hb d_Long_bitCount_24 rfl (lv_at hl 0 rfl) ?_
  refine lv_lload_n hx hb d_Long_bitCount_25 rfl (lv_at hl 0 rfl) ?_
  refine lv_iconst (v := 4) hx hb d_Long_bitCount_26 (by decide) ?_
  refine lv_lushr (v := jushr x2 4) hx hb d_Long_bitCount_27 rfl ?_
  refine lv_ladd hx hb d_Long_bitCount_28 ?_
  refine lv_ldc2 (v := 1085102592571150095) hx hb hown (hg _ wd2) d_Long_bitCount_29 ?_
  refine lv_land hx hb d_Long_bitCount_32 ?_
  refine lv_topl (fun x3 ex3 => ?_)
  have h := lt_ h x3 ex3
  refine lv_lstore_n (lv' := [(0, .long x3)]) hx hb d_Long_bitCount_33 rfl hl (by decide) rfl (fun ls hl => ?_)
  refine lv_lload_n hx hb d_Long_bitCount_34 rfl (lv_at hl 0 rfl) ?_
  refine lv_lload_n hx hb d_Long_bitCount_35 rfl (lv_at hl 0 rfl) ?_
  refine lv_bipush (v := 8) hx hb d_Long_bitCount_36 (by decide) ?_
  refine lv_lushr (v := jushr x3 8) hx hb d_Long_bitCount_38 rfl ?_
  refine lv_ladd hx hb d_Long_bitCount_39 ?_
  refine lv_lstore_n (lv' := [(0, .long (x3 + (jushr x3 8)))]) hx hb d_Long_bitCount_40 rfl hl (by decide) rfl (fun ls hl => ?_)
  refine lv_lload_n hx hb d_Long_bitCount_41 rfl (lv_at hl 0 rfl) ?_
  refine lv_lload_n hx hb d_Long_bitCount_42 rfl (lv_at hl 0 rfl) ?_
  refine lv_bipush (v := 16) hx hb d_Long_bitCount_43 (by decide) ?_
  refine lv_lushr (v := jushr (x3 + (jushr x3 8)) 16) hx hb d_Long_bitCount_45 rfl ?_
  refine lv_ladd hx hb d_Long_bitCount_46 ?_
  refine lv_topl (fun x4 ex4 => ?_)
  have h := lt_ h x4 ex4
  refine lv_lstore_n (lv' := [(0, .long x4)]) hx hb d_Long_bitCount_47 rfl hl (by decide) rfl (fun ls hl => ?_)
  refine lv_lload_n hx hb d_Long_bitCount_48 rfl (lv_at hl 0 rfl) ?_
  refine lv_lload_n hx hb d_Long_bitCount_49 rfl (lv_at hl 0 rfl) ?_
  refine lv_bipush (v := 32) hx hb d_Long_bitCount_50 (by decide) ?_
  refine lv_lushr (v := jushr x4 32) hx hb d_Long_bitCount_52 rfl ?_
  refine lv_ladd hx hb d_Long_bitCount_53 ?_
  refine lv_lstore_n (lv' := [(0, .long (x4 + (jushr x4 32)))]) hx hb d_Long_bitCount_54 rfl hl (by decide) rfl (fun ls hl => ?_)
  refine lv_lload_n hx hb d_Long_bitCount_55 rfl (lv_at hl 0 rfl) ?_
  refine lv_l2i (v := Int64.toInt32 (x4 + (jushr x4 32))) hx hb d_Long_bitCount_56 rfl ?_
  refine lv_bipush (v := 127) hx hb d_Long_bitCount_57 (by decide) ?_
  refine lv_iand hx hb d_Long_bitCount_59 ?_
  exact W.iret (v := (Int64.toInt32 (x4 + (jushr x4 32))) &&& 127) hx hb hr (fun t ht _ => ⟨by rw [h], ht⟩) (fun q hq => by cases hq) d_Long_bitCount_60
set_option maxHeartbeats 4000000 in
set_option maxRecDepth 100000 in
theorem c_Web_hasBlock (l : Launch) (dC : Nat → ClassId) (dI : Nat → Nat → Nat) (a : Nat → Nat) (cs : Nat → ClassId) (σ : SB) (v1 : Int32) (r : Int32) (h : f_Web_hasBlock σ v1 = r) : Met l y_Web_hasBlock w_Web_hasBlock rm_Web_hasBlock (va_Pc [.ref (a 1), .int v1] (WBB dC dI a cs σ)) (QcV (.int r)) 0 0 (fun _ => False) := by
  refine Met.ofW (cc := b_Web_hasBlock) (maxL := 2) (ret := (some .boolean)) (by decide) rfl ?_
  intro p e s m args below meth c s₁ B hml hv
  obtain ⟨rfl, hP, hK, hN⟩ := hv
  have hx := B.exec
  have hb := B.bytes
  have hr := B.returns
  have hg : ∀ w ∈ G_, w.before _ s = true := fun w hw => atoms_spec (ws := w_Web_hasBlock) B.pre w (List.mem_cons_of_mem _ hw)
  have hown : s.vm.findClass "BlockRuler$Web" = some m.cls := findClass_of_methodNamed B.named
  have hlocks := B.notSynchronized
  have C0 : Cx "BlockRuler$Web" b_Web_hasBlock 2 p s m _ meth c := ⟨hx, hb, hml, hown, hg, hlocks⟩
  have hl := lv_entry ([.ref (a 1), .int v1]) (n := 2) (Nat.le_of_ble_eq_true rfl)
  rw [lg_entry_eq]
  generalize (lg_sl ([.ref (a 1), .int v1]) ++ List.replicate (2 - (lg_sl ([.ref (a 1), .int v1])).length) Slot.unset).toArray = ls at hl ⊢
  have hl : lv_has ls 2 [(0, .ref (a 1)), (1, .int v1)] := hl
  unfold f_Web_hasBlock at h
  refine lv_iload_n hx hb d_Web_hasBlock_0 rfl (lv_at hl 1 rfl) ?_
  refine lv_if_lt (tgt := 16) hx hb d_Web_hasBlock_1 (by decide) (fun c1 => ?_) (fun c1 => ?_)
  · have h := b_t h c1
    refine lv_iconst (v := 0) hx hb d_Web_hasBlock_16 (by decide) ?_
    exact W.zret (v := 0) (ty := .boolean) hx hb hr rfl (fun t ht _ => ⟨by rw [h], ht⟩) (fun q hq => by cases hq) d_Web_hasBlock_17
  · have h := b_f h c1
    refine lv_iload_n hx hb d_Web_hasBlock_4 rfl (lv_at hl 1 rfl) ?_
    refine lv_aload_n hx hb d_Web_hasBlock_5 rfl (lv_at hl 0 rfl) ?_
    refine va_get (D := (dC, dI)) (ci := 1) (v := .int (sB_blocks σ)) (C := "BlockRuler$Web") (T := F_Web) (N := 4) hx hb hg i_Web hown hK hP 1 rfl rfl 2 (by decide) (hg _ wd3) (fun _ h9 => h9) rfl d_Web_hasBlock_6 ?_
    refine lv_icmp_ge (tgt := 16) hx hb d_Web_hasBlock_9 (by decide) (fun c2 => ?_) (fun c2 => ?_)
    · have h := b_t h c2
      refine lv_iconst (v := 0) hx hb d_Web_hasBlock_16 (by decide) ?_
      exact W.zret (v := 0) (ty := .boolean) hx hb hr rfl (fun t ht _ => ⟨by rw [h], ht⟩) (fun q hq => by cases hq) d_Web_hasBlock_17
    · have h := b_f h c2
      refine lv_iconst (v := 1) hx hb d_Web_hasBlock_12 (by decide) ?_
      refine lv_goto (tgt := 17) hx hb d_Web_hasBlock_13 (by decide) ?_
      exact W.zret (v := 1) (ty := .boolean) hx hb hr rfl (fun t ht _ => ⟨by rw [h], ht⟩) (fun q hq => by cases hq) d_Web_hasBlock_17
set_option maxHeartbeats 4000000 in
set_option maxRecDepth 100000 in
theorem c_Web_hasWay (l : Launch) (dC : Nat → ClassId) (dI : Nat → Nat → Nat) (a : Nat → Nat) (cs : Nat → ClassId) (σ : SB) (v1 : Int32) (v2 : Int32) (r : Int32) (h : f_Web_hasWay σ v1 v2 = some r) : Met l y_Web_hasWay w_Web_hasWay rm_Web_hasWay (va_Pc [.ref (a 1), .int v1, .int v2] (WBB dC dI a cs σ)) (QcV (.int r)) 0 0 (fun _ => False) := by
  refine Met.ofW (cc := b_Web_hasWay) (maxL := 3) (ret := (some .boolean)) (by decide) rfl ?_
  intro p e s m args below meth c s₁ B hml hv
  obtain ⟨rfl, hP, hK, hN⟩ := hv
  have hx := B.exec
  have hb := B.bytes
  have hr := B.returns
  have hg : ∀ w ∈ G_, w.before _ s = true := fun w hw => atoms_spec (ws := w_Web_hasWay) B.pre w (List.mem_cons_of_mem _ hw)
  have hown : s.vm.findClass "BlockRuler$Web" = some m.cls := findClass_of_methodNamed B.named
  have hlocks := B.notSynchronized
  have C0 : Cx "BlockRuler$Web" b_Web_hasWay 3 p s m _ meth c := ⟨hx, hb, hml, hown, hg, hlocks⟩
  have hl := lv_entry ([.ref (a 1), .int v1, .int v2]) (n := 3) (Nat.le_of_ble_eq_true rfl)
  rw [lg_entry_eq]
  generalize (lg_sl ([.ref (a 1), .int v1, .int v2]) ++ List.replicate (3 - (lg_sl ([.ref (a 1), .int v1, .int v2])).length) Slot.unset).toArray = ls at hl ⊢
  have hl : lv_has ls 3 [(0, .ref (a 1)), (1, .int v1), (2, .int v2)] := hl
  unfold f_Web_hasWay at h
  refine lv_aload_n hx hb d_Web_hasWay_0 rfl (lv_at hl 0 rfl) ?_
  refine lv_iload_n hx hb d_Web_hasWay_1 rfl (lv_at hl 1 rfl) ?_
  refine ro_call (v := .int (f_Web_hasBlock σ v1)) (va_runV (C := "BlockRuler$Web") (As := [.int v1]) (rest := []) ⟨hx, hb, hml, hown, hg⟩ (c_Web_hasBlock l dC dI a cs σ v1 _ rfl) (cwV 1 hg (gdV wd6 wd5 wd4 wd7 wd8) rfl rfl rfl (by decide +kernel) ⟨Nat.le_of_ble_eq_true rfl, Nat.le_of_ble_eq_true rfl⟩) ⟨wb_blind, va_recv hK hP (ci := 1) (q0 := 1) rfl rfl, fun U hU hW => ⟨rfl, wb_pre hU hW hP hK hN⟩⟩ rfl rfl hl.1 rfl (lv_room (Nat.le_of_ble_eq_true rfl)) d_Web_hasWay_2 ⟨Nat.zero_le _, Nat.zero_le _⟩) ?_
  refine lv_if_eq (tgt := 26) hx hb d_Web_hasWay_5 (by decide) (fun c1 => ?_) (fun c1 => ?_)
  · have h := b_t h c1
    refine lv_iconst (v := 0) hx hb d_Web_hasWay_26 (by decide) ?_
    exact W.zret (v := 0) (ty := .boolean) hx hb hr rfl (fun t ht _ => ⟨by rw [Option.some.inj h], ht⟩) (fun q hq => by cases hq) d_Web_hasWay_27
  · have h := b_f h c1
    refine lv_iload_n hx hb d_Web_hasWay_8 rfl (lv_at hl 2 rfl) ?_
    refine lv_if_lt (tgt := 26) hx hb d_Web_hasWay_9 (by decide) (fun c2 => ?_) (fun c2 => ?_)
    · have h := b_t h c2
      refine lv_iconst (v := 0) hx hb d_Web_hasWay_26 (by decide) ?_
      exact W.zret (v := 0) (ty := .boolean) hx hb hr rfl (fun t ht _ => ⟨by rw [Option.some.inj h], ht⟩) (fun q hq => by cases hq) d_Web_hasWay_27
    · have h := b_f h c2
      refine lv_iload_n hx hb d_Web_hasWay_12 rfl (lv_at hl 2 rfl) ?_
      refine lv_aload_n hx hb d_Web_hasWay_13 rfl (lv_at hl 0 rfl) ?_
      refine va_get (D := (dC, dI)) (ci := 1) (v := .ref (a 5)) (C := "BlockRuler$Web") (T := F_Web) (N := 4) hx hb hg i_Web hown hK hP 1 rfl rfl 0 (by decide) (hg _ wd9) (fun _ h9 => h9) rfl d_Web_hasWay_14 ?_
      refine lv_iload_n hx hb d_Web_hasWay_17 rfl (lv_at hl 1 rfl) ?_
      obtain ⟨hi3, h⟩ := gd h
      refine va_iald (f := sB_deg σ) (n := 64) hx hb hK hP 5 0 rfl rfl hi3 d_Web_hasWay_18 ?_
      refine lv_icmp_ge (tgt := 26) hx hb d_Web_hasWay_19 (by decide) (fun c4 => ?_) (fun c4 => ?_)
      · have h := b_t h c4
        refine lv_iconst (v := 0) hx hb d_Web_hasWay_26 (by decide) ?_
        exact W.zret (v := 0) (ty := .boolean) hx hb hr rfl (fun t ht _ => ⟨by rw [Option.some.inj h], ht⟩) (fun q hq => by cases hq) d_Web_hasWay_27
      · have h := b_f h c4
        refine lv_iconst (v := 1) hx hb d_Web_hasWay_22 (by decide) ?_
        refine lv_goto (tgt := 27) hx hb d_Web_hasWay_23 (by decide) ?_
        exact W.zret (v := 1) (ty := .boolean) hx hb hr rfl (fun t ht _ => ⟨by rw [Option.some.inj h], ht⟩) (fun q hq => by cases hq) d_Web_hasWay_27
set_option maxHeartbeats 4000000 in
set_option maxRecDepth 100000 in
theorem c_Web_endOf (l : Launch) (dC : Nat → ClassId) (dI : Nat → Nat → Nat) (a : Nat → Nat) (cs : Nat → ClassId) (σ : SB) (v1 : Int32) (v2 : Int32) (r : Int32) (h : f_Web_endOf σ v1 v2 = some r) : Met l y_Web_endOf w_Web_endOf rm_Web_endOf (va_Pc [.ref (a 1), .int v1, .int v2] (WBB dC dI a cs σ)) (QcV (.int r)) 0 0 (fun _ => False) := by
  refine Met.ofW (cc := b_Web_endOf) (maxL := 3) (ret := (some .int)) (by decide) rfl ?_
  intro p e s m args below meth c s₁ B hml hv
  obtain ⟨rfl, hP, hK, hN⟩ := hv
  have hx := B.exec
  have hb := B.bytes
  have hr := B.returns
  have hg : ∀ w ∈ G_, w.before _ s = true := fun w hw => atoms_spec (ws := w_Web_endOf) B.pre w (List.mem_cons_of_mem _ hw)
  have hown : s.vm.findClass "BlockRuler$Web" = some m.cls := findClass_of_methodNamed B.named
  have hlocks := B.notSynchronized
  have C0 : Cx "BlockRuler$Web" b_Web_endOf 3 p s m _ meth c := ⟨hx, hb, hml, hown, hg, hlocks⟩
  have hl := lv_entry ([.ref (a 1), .int v1, .int v2]) (n := 3) (Nat.le_of_ble_eq_true rfl)
  rw [lg_entry_eq]
  generalize (lg_sl ([.ref (a 1), .int v1, .int v2]) ++ List.replicate (3 - (lg_sl ([.ref (a 1), .int v1, .int v2])).length) Slot.unset).toArray = ls at hl ⊢
  have hl : lv_has ls 3 [(0, .ref (a 1)), (1, .int v1), (2, .int v2)] := hl
  unfold f_Web_endOf at h
  refine lv_aload_n hx hb d_Web_endOf_0 rfl (lv_at hl 0 rfl) ?_
  refine va_get (D := (dC, dI)) (ci := 1) (v := .ref (a 6)) (C := "BlockRuler$Web") (T := F_Web) (N := 4) hx hb hg i_Web hown hK hP 1 rfl rfl 1 (by decide) (hg _ wd10) (fun _ h9 => h9) rfl d_Web_endOf_1 ?_
  refine lv_iload_n hx hb d_Web_endOf_4 rfl (lv_at hl 1 rfl) ?_
  refine lv_bipush (v := 8) hx hb d_Web_endOf_5 (by decide) ?_
  refine lv_imul hx hb d_Web_endOf_7 ?_
  refine lv_iload_n hx hb d_Web_endOf_8 rfl (lv_at hl 2 rfl) ?_
  refine lv_iadd hx hb d_Web_endOf_9 ?_
  obtain ⟨hi1, h⟩ := gd h
  refine va_iald (f := sB_ends σ) (n := 512) hx hb hK hP 6 1 rfl rfl hi1 d_Web_endOf_10 ?_
  exact W.iret (v := sB_ends σ (Int32.toNatClampNeg ((v1 * 8) + v2))) hx hb hr (fun t ht _ => ⟨by rw [Option.some.inj h], ht⟩) (fun q hq => by cases hq) d_Web_endOf_11
set_option maxHeartbeats 4000000 in
set_option maxRecDepth 100000 in
theorem c_Web_addBlock (l : Launch) (dC : Nat → ClassId) (dI : Nat → Nat → Nat) (a : Nat → Nat) (cs : Nat → ClassId) (sz : Nat) (σ : SB) (r : Int32 × SB) (h : f_Web_addBlock σ = r) : Met l y_Web_addBlock w_Web_addBlock rm_Web_addBlock (va_Pc [.ref (a 1)] (fun U => U.heap.size = sz ∧ WDB dC dI a cs σ U)) (va_Qi (fun (x : Int32) (u : SB) => (x, u) = r) (atB dC dI a cs (va_A (wsB a cs σ) sz)) (va_A (wsB a cs σ) sz)) 0 0 (va_A (wsB a cs σ) sz) := by
  refine Met.ofW (cc := b_Web_addBlock) (maxL := 2) (ret := (some .int)) (by decide) rfl ?_
  intro p e s m args below meth c s₁ B hml hv
  obtain ⟨rfl, hsz, hP, hK, hN, hD0⟩ := hv
  have hx := B.exec
  have hb := B.bytes
  have hr := B.returns
  have hg : ∀ w ∈ G_, w.before _ s = true := fun w hw => atoms_spec (ws := w_Web_addBlock) B.pre w (List.mem_cons_of_mem _ hw)
  have hown : s.vm.findClass "BlockRuler$Web" = some m.cls := findClass_of_methodNamed B.named
  have hlocks := B.notSynchronized
  have C0 : Cx "BlockRuler$Web" b_Web_addBlock 2 p s m _ meth c := ⟨hx, hb, hml, hown, hg, hlocks⟩
  subst hsz
  have hD := hD0.self (sz := s.heap.size)
  generalize hAe : va_A (wsB a cs σ) s.heap.size = A at hD ⊢
  have hA : ∀ q : Nat, s.heap.size ≤ q → A q := fun q h => by rw [← hAe]; exact Or.inr h
  have hS : va_S A s.heap s.heap [] := va_S.rf
  have hl := lv_entry ([.ref (a 1)]) (n := 2) (Nat.le_of_ble_eq_true rfl)
  rw [lg_entry_eq]
  generalize (lg_sl ([.ref (a 1)]) ++ List.replicate (2 - (lg_sl ([.ref (a 1)])).length) Slot.unset).toArray = ls at hl ⊢
  have hl : lv_has ls 2 [(0, .ref (a 1))] := hl
  unfold f_Web_addBlock at h
  refine lv_aload_n hx hb d_Web_addBlock_0 rfl (lv_at hl 0 rfl) ?_
  refine va_get (D := (dC, dI)) (ci := 1) (v := .int (sB_blocks σ)) (C := "BlockRuler$Web") (T := F_Web) (N := 4) hx hb hg i_Web hown hK hP 1 rfl rfl 2 (by decide) (hg _ wd3) (fun _ h9 => h9) rfl d_Web_addBlock_1 ?_
  refine lv_istore_n (lv' := [(1, .int (sB_blocks σ)), (0, .ref (a 1))]) hx hb d_Web_addBlock_4 rfl hl (by decide) rfl (fun ls hl => ?_)
  refine lv_aload_n hx hb d_Web_addBlock_5 rfl (lv_at hl 1 rfl) ?_
  refine lv_dup hx hb d_Web_addBlock_6 rfl ?_
  refine va_get (D := (dC, dI)) (ci := 1) (v := .int (sB_blocks σ)) (C := "BlockRuler$Web") (T := F_Web) (N := 4) hx hb hg i_Web hown hK hP 1 rfl rfl 2 (by decide) (hg _ wd3) (fun _ h9 => h9) rfl d_Web_addBlock_7 ?_
  refine lv_iconst (v := 1) hx hb d_Web_addBlock_10 (by decide) ?_
  refine lv_iadd hx hb d_Web_addBlock_11 ?_
  refine va_put (D := (dC, dI)) (ci := 1) (v := .int ((sB_blocks σ) + 1)) (ty := .int) (C := "BlockRuler$Web") (T := F_Web) (N := 4) hx hb hg i_Web t_Web t_Web_ok n_Web hown hK hP hD hS 1 rfl rfl 2 (by decide) (hg _ wd3) (fun _ h9 => h9) rfl (by decide +kernel) rfl rfl (Nat.le_of_ble_eq_true rfl) d_Web_addBlock_12 (fun H locs hP hD hS => ?_)
  have hP := va_Pe (setB_blocks a cs σ ((sB_blocks σ) + 1)) hP
  have hD := va_De (setB_blocks a cs σ ((sB_blocks σ) + 1)) hD
  refine lv_iload_n hx hb d_Web_addBlock_15 rfl (lv_at hl 0 rfl) ?_
  exact W.iret (v := sB_blocks σ) hx hb hr (fun t ht hW => ⟨⟨sB_blocks σ, uB_blocks σ ((sB_blocks σ) + 1), rfl, h, by rw [ht]; exact hP, hD⟩, hS.F ht⟩) hS.2.2 d_Web_addBlock_16
set_option maxHeartbeats 4000000 in
set_option maxRecDepth 100000 in
theorem c_Web_addWay (l : Launch) (dC : Nat → ClassId) (dI : Nat → Nat → Nat) (a : Nat → Nat) (cs : Nat → ClassId) (sz : Nat) (σ : SB) (v1 : Int32) (v2 : Int32) (r : Int32 × SB) (h : f_Web_addWay σ v1 v2 = some r) : Met l y_Web_addWay w_Web_addWay rm_Web_addWay (va_Pc [.ref (a 1), .int v1, .int v2] (fun U => U.heap.size = sz ∧ WDB dC dI a cs σ U)) (va_Qi (fun (x : Int32) (u : SB) => (x, u) = r) (atB dC dI a cs (va_A (wsB a cs σ) sz)) (va_A (wsB a cs σ) sz)) 0 0 (va_A (wsB a cs σ) sz) := by
  refine Met.ofW (cc := b_Web_addWay) (maxL := 4) (ret := (some .int)) (by decide) rfl ?_
  intro p e s m args below meth c s₁ B hml hv
  obtain ⟨rfl, hsz, hP, hK, hN, hD0⟩ := hv
  have hx := B.exec
  have hb := B.bytes
  have hr := B.returns
  have hg : ∀ w ∈ G_, w.before _ s = true := fun w hw => atoms_spec (ws := w_Web_addWay) B.pre w (List.mem_cons_of_mem _ hw)
  have hown : s.vm.findClass "BlockRuler$Web" = some m.cls := findClass_of_methodNamed B.named
  have hlocks := B.notSynchronized
  have C0 : Cx "BlockRuler$Web" b_Web_addWay 4 p s m _ meth c := ⟨hx, hb, hml, hown, hg, hlocks⟩
  subst hsz
  have hD := hD0.self (sz := s.heap.size)
  generalize hAe : va_A (wsB a cs σ) s.heap.size = A at hD ⊢
  have hA : ∀ q : Nat, s.heap.size ≤ q → A q := fun q h => by rw [← hAe]; exact Or.inr h
  have hS : va_S A s.heap s.heap [] := va_S.rf
  have hl := lv_entry ([.ref (a 1), .int v1, .int v2]) (n := 4) (Nat.le_of_ble_eq_true rfl)
  rw [lg_entry_eq]
  generalize (lg_sl ([.ref (a 1), .int v1, .int v2]) ++ List.replicate (4 - (lg_sl ([.ref (a 1), .int v1, .int v2])).length) Slot.unset).toArray = ls at hl ⊢
  have hl : lv_has ls 4 [(0, .ref (a 1)), (1, .int v1), (2, .int v2)] := hl
  unfold f_Web_addWay at h
  refine lv_aload_n hx hb d_Web_addWay_0 rfl (lv_at hl 0 rfl) ?_
  refine va_get (D := (dC, dI)) (ci := 1) (v := .ref (a 5)) (C := "BlockRuler$Web") (T := F_Web) (N := 4) hx hb hg i_Web hown hK hP 1 rfl rfl 0 (by decide) (hg _ wd9) (fun _ h9 => h9) rfl d_Web_addWay_1 ?_
  refine lv_iload_n hx hb d_Web_addWay_4 rfl (lv_at hl 1 rfl) ?_
  obtain ⟨hi1, h⟩ := gd h
  refine va_iald (f := sB_deg σ) (n := 64) hx hb hK hP 5 0 rfl rfl hi1 d_Web_addWay_5 ?_
  refine lv_topi (fun x2 ex2 => ?_)
  have h := lt_ h x2 ex2
  refine lv_istore_n (lv' := [(3, .int x2), (0, .ref (a 1)), (1, .int v1), (2, .int v2)]) hx hb d_Web_addWay_6 rfl hl (by decide) rfl (fun ls hl => ?_)
  refine lv_aload_n hx hb d_Web_addWay_7 rfl (lv_at hl 1 rfl) ?_
  refine va_get (D := (dC, dI)) (ci := 1) (v := .ref (a 6)) (C := "BlockRuler$Web") (T := F_Web) (N := 4) hx hb hg i_Web hown hK hP 1 rfl rfl 1 (by decide) (hg _ wd10) (fun _ h9 => h9) rfl d_Web_addWay_8 ?_
  refine lv_iload_n hx hb d_Web_addWay_11 rfl (lv_at hl 2 rfl) ?_
  refine lv_bipush (v := 8) hx hb d_Web_addWay_12 (by decide) ?_
  refine lv_imul hx hb d_Web_addWay_14 ?_
  refine lv_iload_n hx hb d_Web_addWay_15 rfl (lv_at hl 0 rfl) ?_
  refine lv_iadd hx hb d_Web_addWay_16 ?_
  refine lv_iload_n hx hb d_Web_addWay_17 rfl (lv_at hl 3 rfl) ?_
  obtain ⟨hi3, h⟩ := gd h
  refine va_iast (f := sB_ends σ) (n := 512) hx hb hK hP hD hS 6 1 rfl rfl hi3 d_Web_addWay_18 (fun H locs hP hD hS => ?_)
  have hP := va_Pe (setB_ends a cs σ (upd (sB_ends σ) (Int32.toNatClampNeg ((v1 * 8) + x2)) v2)) hP
  have hD := va_De (setB_ends a cs σ (upd (sB_ends σ) (Int32.toNatClampNeg ((v1 * 8) + x2)) v2)) hD
  refine lv_aload_n hx hb d_Web_addWay_19 rfl (lv_at hl 1 rfl) ?_
  refine va_get (D := (dC, dI)) (ci := 1) (v := .ref (a 5)) (C := "BlockRuler$Web") (T := F_Web) (N := 4) hx hb hg i_Web hown hK hP 1 rfl rfl 0 (by decide) (hg _ wd9) (fun _ h9 => h9) rfl d_Web_addWay_20 ?_
  refine lv_iload_n hx hb d_Web_addWay_23 rfl (lv_at hl 2 rfl) ?_
  refine lv_dup2_11 hx hb d_Web_addWay_24 rfl rfl ?_
  refine va_iald (f := sB_deg σ) (n := 64) hx hb hK hP 5 0 (rdB_deg a cs (uB_ends σ (upd (sB_ends σ) (Int32.toNatClampNeg ((v1 * 8) + x2)) v2)) (gB_deg_ends _ _)) rfl hi1 d_Web_addWay_25 ?_
  refine lv_iconst (v := 1) hx hb d_Web_addWay_26 (by decide) ?_
  refine lv_iadd hx hb d_Web_addWay_27 ?_
  refine va_iast (f := sB_deg σ) (n := 64) hx hb hK hP hD hS 5 0 (rdB_deg a cs (uB_ends σ (upd (sB_ends σ) (Int32.toNatClampNeg ((v1 * 8) + x2)) v2)) (gB_deg_ends _ _)) rfl hi1 d_Web_addWay_28 (fun H locs hP hD hS => ?_)
  have hP := va_Pe (setB_deg a cs (uB_ends σ (upd (sB_ends σ) (Int32.toNatClampNeg ((v1 * 8) + x2)) v2)) (upd (sB_deg σ) (Int32.toNatClampNeg v1) ((sB_deg σ (Int32.toNatClampNeg v1)) + 1))) hP
  have hD := va_De (setB_deg a cs (uB_ends σ (upd (sB_ends σ) (Int32.toNatClampNeg ((v1 * 8) + x2)) v2)) (upd (sB_deg σ) (Int32.toNatClampNeg v1) ((sB_deg σ (Int32.toNatClampNeg v1)) + 1))) hD
  refine lv_aload_n hx hb d_Web_addWay_29 rfl (lv_at hl 1 rfl) ?_
  refine lv_dup hx hb d_Web_addWay_30 rfl ?_
  refine va_get (D := (dC, dI)) (ci := 1) (v := .int (sB_ways σ)) (C := "BlockRuler$Web") (T := F_Web) (N := 4) hx hb hg i_Web hown hK hP 1 rfl rfl 3 (by decide) (hg _ wd11) (fun _ h9 => h9) (rfB_ways a cs (uB_deg (uB_ends σ (upd (sB_ends σ) (Int32.toNatClampNeg ((v1 * 8) + x2)) v2)) (upd (sB_deg σ) (Int32.toNatClampNeg v1) ((sB_deg σ (Int32.toNatClampNeg v1)) + 1))) ((gB_ways_deg _ _).trans (gB_ways_ends _ _))) d_Web_addWay_31 ?_
  refine lv_iconst (v := 1) hx hb d_Web_addWay_34 (by decide) ?_
  refine lv_iadd hx hb d_Web_addWay_35 ?_
  refine va_put (D := (dC, dI)) (ci := 1) (v := .int ((sB_ways σ) + 1)) (ty := .int) (C := "BlockRuler$Web") (T := F_Web) (N := 4) hx hb hg i_Web t_Web t_Web_ok n_Web hown hK hP hD hS 1 rfl rfl 3 (by decide) (hg _ wd11) (fun _ h9 => h9) rfl (by decide +kernel) rfl rfl (Nat.le_of_ble_eq_true rfl) d_Web_addWay_36 (fun H locs hP hD hS => ?_)
  have hP := va_Pe (setB_ways a cs (uB_deg (uB_ends σ (upd (sB_ends σ) (Int32.toNatClampNeg ((v1 * 8) + x2)) v2)) (upd (sB_deg σ) (Int32.toNatClampNeg v1) ((sB_deg σ (Int32.toNatClampNeg v1)) + 1))) ((sB_ways σ) + 1)) hP
  have hD := va_De (setB_ways a cs (uB_deg (uB_ends σ (upd (sB_ends σ) (Int32.toNatClampNeg ((v1 * 8) + x2)) v2)) (upd (sB_deg σ) (Int32.toNatClampNeg v1) ((sB_deg σ (Int32.toNatClampNeg v1)) + 1))) ((sB_ways σ) + 1)) hD
  refine lv_iload_n hx hb d_Web_addWay_39 rfl (lv_at hl 0 rfl) ?_
  exact W.iret (v := x2) hx hb hr (fun t ht hW => ⟨⟨x2, uB_ways (uB_deg (uB_ends σ (upd (sB_ends σ) (Int32.toNatClampNeg ((v1 * 8) + x2)) v2)) (upd (sB_deg σ) (Int32.toNatClampNeg v1) ((sB_deg σ (Int32.toNatClampNeg v1)) + 1))) ((sB_ways σ) + 1), rfl, Option.some.inj h, by rw [ht]; exact hP, hD⟩, hS.F ht⟩) hS.2.2 d_Web_addWay_40
set_option maxHeartbeats 4000000 in
set_option maxRecDepth 100000 in
theorem lpW_Web_removeWay_18 {p : Program} {l : Launch} {e : Env} {s : State} {m : MethodId} {args : Array Value} {below : List Frame} {meth : Method} {c : Code} {Q : State → Prop} {dC : Nat → ClassId} {dI : Nat → Nat → Nat} {a : Nat → Nat} {cs : Nat → ClassId} {A : Nat → Prop} (C0 : Cx "BlockRuler$Web" b_Web_removeWay 6 p s m args meth c) (hK : va_K (dC, dI) classes (tyB cs) s) (hN : NW s) (hA : ∀ q : Nat, s.heap.size ≤ q → A q) : ∀ (n : Nat) (σ : SB) (v1 : Int32) (v3 : Int32) (v4 : Int32) (v5 : Int32) (y : Int32 × SB), lp_Web_removeWay_18 n σ v1 v3 v4 v5 = some y → ∀ (H : Heap) (locs : List Loc) (ls : Array Slot), va_P (dC, dI) classes (wsB a cs σ) H → va_D A (wsB a cs σ) → va_S A s.heap H locs → lv_has ls 6 [(0, .ref (a 1)), (1, .int v1), (3, .int v3), (4, .int v4), (5, .int v5)] → (∀ (H : Heap) (locs : List Loc) (ls : Array Slot), va_P (dC, dI) classes (wsB a cs y.2) H → va_D A (wsB a cs y.2) → va_S A s.heap H locs → lv_has ls 6 [(0, .ref (a 1)), (1, .int v1), (3, .int v3), (4, .int v4), (5, .int y.1)] → W p l e (headSpec w_Web_removeWay rm_Web_removeWay).room s m args below meth c H locs 0 0 Q (F0 m 57 ls [])) → W p l e (headSpec w_Web_removeWay rm_Web_removeWay).room s m args below meth c H locs 0 0 Q (F0 m 18 ls []) := by
  have C1 := C0
  obtain ⟨hx, hb, hml, hown, hg, hlocks⟩ := C1
  intro n
  induction n with
  | zero => intro σ v1 v3 v4 v5 y h; exact absurd (show (none : Option (Int32 × SB)) = some y from h) (fun q => by cases q)
  | succ n ih =>
    intro σ v1 v3 v4 v5 y h H locs ls hP hD hS hl k0
    rw [lp_Web_removeWay_18_s] at h
    refine lv_iload hx hb d_Web_removeWay_18 (lv_at hl 4 rfl) ?_
    refine lv_aload_n hx hb d_Web_removeWay_20 rfl (lv_at hl 0 rfl) ?_
    refine va_get (D := (dC, dI)) (ci := 1) (v := .ref (a 5)) (C := "BlockRuler$Web") (T := F_Web) (N := 4) hx hb hg i_Web hown hK hP 1 rfl rfl 0 (by decide) (hg _ wd9) (fun _ h9 => h9) rfl d_Web_removeWay_21 ?_
    refine lv_iload_n hx hb d_Web_removeWay_24 rfl (lv_at hl 1 rfl) ?_
    obtain ⟨hi2, h⟩ := gd h
    refine va_iald (f := sB_deg σ) (n := 64) hx hb hK hP 5 0 rfl rfl hi2 d_Web_removeWay_25 ?_
    refine lv_icmp_ge (tgt := 57) hx hb d_Web_removeWay_26 (by decide) (fun c3 => ?_) (fun c3 => ?_)
    · have h := b_t h c3
      obtain rfl := Option.some.inj h
      exact k0 _ _ ls hP hD hS (lv_sub hl [0, 1, 2, 3, 4] rfl)
    · have h := b_f h c3
      refine lv_aload_n hx hb d_Web_removeWay_29 rfl (lv_at hl 0 rfl) ?_
      refine va_get (D := (dC, dI)) (ci := 1) (v := .ref (a 6)) (C := "BlockRuler$Web") (T := F_Web) (N := 4) hx hb hg i_Web hown hK hP 1 rfl rfl 1 (by decide) (hg _ wd10) (fun _ h9 => h9) rfl d_Web_removeWay_30 ?_
      refine lv_iload hx hb d_Web_removeWay_33 (lv_at hl 3 rfl) ?_
      refine lv_iload hx hb d_Web_removeWay_35 (lv_at hl 4 rfl) ?_
      refine lv_iadd hx hb d_Web_removeWay_37 ?_
      refine lv_iconst (v := 1) hx hb d_Web_removeWay_38 (by decide) ?_
      refine lv_isub hx hb d_Web_removeWay_39 ?_
      refine lv_aload_n hx hb d_Web_removeWay_40 rfl (lv_at hl 0 rfl) ?_
      refine va_get (D := (dC, dI)) (ci := 1) (v := .ref (a 6)) (C := "BlockRuler$Web") (T := F_Web) (N := 4) hx hb hg i_Web hown hK hP 1 rfl rfl 1 (by decide) (hg _ wd10) (fun _ h9 => h9) rfl d_Web_removeWay_41 ?_
      refine lv_iload hx hb d_Web_removeWay_44 (lv_at hl 3 rfl) ?_
      refine lv_iload hx hb d_Web_removeWay_46 (lv_at hl 4 rfl) ?_
      refine lv_iadd hx hb d_Web_removeWay_48 ?_
      obtain ⟨hi4, h⟩ := gd h
      refine va_iald (f := sB_ends σ) (n := 512) hx hb hK hP 6 1 rfl rfl hi4 d_Web_removeWay_49 ?_
      obtain ⟨hi5, h⟩ := gd h
      refine va_iast (f := sB_ends σ) (n := 512) hx hb hK hP hD hS 6 1 rfl rfl hi5 d_Web_removeWay_50 (fun H locs hP hD hS => ?_)
      have hP := va_Pe (setB_ends a cs σ (upd (sB_ends σ) (Int32.toNatClampNeg ((v4 + v5) - 1)) (sB_ends σ (Int32.toNatClampNeg (v4 + v5))))) hP
      have hD := va_De (setB_ends a cs σ (upd (sB_ends σ) (Int32.toNatClampNeg ((v4 + v5) - 1)) (sB_ends σ (Int32.toNatClampNeg (v4 + v5))))) hD
      refine lv_iinc (v := v5 + 1) (lv' := [(5, .int (v5 + 1)), (0, .ref (a 1)), (1, .int v1), (3, .int v3), (4, .int v4)]) hx hb d_Web_removeWay_51 hl (k := 4) rfl rfl (by decide) rfl (fun ls hl => ?_)
      refine lv_goto (tgt := 18) hx hb d_Web_removeWay_54 (by decide) ?_
      exact ih (uB_ends σ (upd (sB_ends σ) (Int32.toNatClampNeg ((v4 + v5) - 1)) (sB_ends σ (Int32.toNatClampNeg (v4 + v5))))) v1 v3 v4 (v5 + 1) y h _ _ ls hP hD hS (lv_sub hl [1, 2, 3, 4, 0] rfl) k0
set_option maxHeartbeats 4000000 in
set_option maxRecDepth 100000 in
theorem c_Web_removeWay (l : Launch) (dC : Nat → ClassId) (dI : Nat → Nat → Nat) (a : Nat → Nat) (cs : Nat → ClassId) (sz : Nat) (σ : SB) (v1 : Int32) (v2 : Int32) (r : Int32 × SB) (h : f_Web_removeWay σ v1 v2 = some r) : Met l y_Web_removeWay w_Web_removeWay rm_Web_removeWay (va_Pc [.ref (a 1), .int v1, .int v2] (fun U => U.heap.size = sz ∧ WDB dC dI a cs σ U)) (va_Qi (fun (x : Int32) (u : SB) => (x, u) = r) (atB dC dI a cs (va_A (wsB a cs σ) sz)) (va_A (wsB a cs σ) sz)) 0 0 (va_A (wsB a cs σ) sz) := by
  refine Met.ofW (cc := b_Web_removeWay) (maxL := 6) (ret := (some .int)) (by decide) rfl ?_
  intro p e s m args below meth c s₁ B hml hv
  obtain ⟨rfl, hsz, hP, hK, hN, hD0⟩ := hv
  have hx := B.exec
  have hb := B.bytes
  have hr := B.returns
  have hg : ∀ w ∈ G_, w.before _ s = true := fun w hw => atoms_spec (ws := w_Web_removeWay) B.pre w (List.mem_cons_of_mem _ hw)
  have hown : s.vm.findClass "BlockRuler$Web" = some m.cls := findClass_of_methodNamed B.named
  have hlocks := B.notSynchronized
  have C0 : Cx "BlockRuler$Web" b_Web_removeWay 6 p s m _ meth c := ⟨hx, hb, hml, hown, hg, hlocks⟩
  subst hsz
  have hD := hD0.self (sz := s.heap.size)
  generalize hAe : va_A (wsB a cs σ) s.heap.size = A at hD ⊢
  have hA : ∀ q : Nat, s.heap.size ≤ q → A q := fun q h => by rw [← hAe]; exact Or.inr h
  have hS : va_S A s.heap s.heap [] := va_S.rf
  have hl := lv_entry ([.ref (a 1), .int v1, .int v2]) (n := 6) (Nat.le_of_ble_eq_true rfl)
  rw [lg_entry_eq]
  generalize (lg_sl ([.ref (a 1), .int v1, .int v2]) ++ List.replicate (6 - (lg_sl ([.ref (a 1), .int v1, .int v2])).length) Slot.unset).toArray = ls at hl ⊢
  have hl : lv_has ls 6 [(0, .ref (a 1)), (1, .int v1), (2, .int v2)] := hl
  unfold f_Web_removeWay at h
  refine lv_aload_n hx hb d_Web_removeWay_0 rfl (lv_at hl 0 rfl) ?_
  refine lv_iload_n hx hb d_Web_removeWay_1 rfl (lv_at hl 1 rfl) ?_
  refine lv_iload_n hx hb d_Web_removeWay_2 rfl (lv_at hl 2 rfl) ?_
  obtain ⟨r1, hr1, h⟩ := bd h
  refine ro_call (v := .int r1) (va_runV (C := "BlockRuler$Web") (As := [.int v1, .int v2]) (rest := []) ⟨hx, hb, hml, hown, hg⟩ (c_Web_endOf l dC dI a cs σ v1 v2 _ hr1) (cwV 2 hg (gdV wd14 wd13 wd12 wd7 wd15) rfl rfl rfl (by decide +kernel) ⟨Nat.le_of_ble_eq_true rfl, Nat.le_of_ble_eq_true rfl⟩) ⟨wb_blind, va_recv hK hP (ci := 1) (q0 := 1) rfl rfl, fun U hU hW => ⟨rfl, wb_pre hU hW hP hK hN⟩⟩ rfl rfl hl.1 rfl (lv_room (Nat.le_of_ble_eq_true rfl)) d_Web_removeWay_3 ⟨Nat.zero_le _, Nat.zero_le _⟩) ?_
  refine lv_istore_n (lv' := [(3, .int r1), (0, .ref (a 1)), (1, .int v1), (2, .int v2)]) hx hb d_Web_removeWay_6 rfl hl (by decide) rfl (fun ls hl => ?_)
  refine lv_iload_n hx hb d_Web_removeWay_7 rfl (lv_at hl 2 rfl) ?_
  refine lv_bipush (v := 8) hx hb d_Web_removeWay_8 (by decide) ?_
  refine lv_imul hx hb d_Web_removeWay_10 ?_
  refine lv_istore (lv' := [(4, .int (v1 * 8)), (3, .int r1), (0, .ref (a 1)), (1, .int v1), (2, .int v2)]) hx hb d_Web_removeWay_11 hl (by decide) rfl (fun ls hl => ?_)
  refine lv_iload_n hx hb d_Web_removeWay_13 rfl (lv_at hl 4 rfl) ?_
  refine lv_iconst (v := 1) hx hb d_Web_removeWay_14 (by decide) ?_
  refine lv_iadd hx hb d_Web_removeWay_15 ?_
  refine lv_istore (lv' := [(5, .int (v2 + 1)), (4, .int (v1 * 8)), (3, .int r1), (0, .ref (a 1)), (1, .int v1), (2, .int v2)]) hx hb d_Web_removeWay_16 hl (by decide) rfl (fun ls hl => ?_)
  obtain ⟨y6, hy6, h⟩ := bd h
  refine lpW_Web_removeWay_18 C0 hK hN hA 100 σ v1 r1 (v1 * 8) (v2 + 1) y6 hy6 _ _ ls hP hD hS (lv_sub hl [3, 4, 2, 1, 0] rfl) (fun H locs ls hP hD hS hl => ?_)
  refine lv_aload_n hx hb d_Web_removeWay_57 rfl (lv_at hl 0 rfl) ?_
  refine va_get (D := (dC, dI)) (ci := 1) (v := .ref (a 5)) (C := "BlockRuler$Web") (T := F_Web) (N := 4) hx hb hg i_Web hown hK hP 1 rfl rfl 0 (by decide) (hg _ wd9) (fun _ h9 => h9) rfl d_Web_removeWay_58 ?_
  refine lv_iload_n hx hb d_Web_removeWay_61 rfl (lv_at hl 1 rfl) ?_
  refine lv_dup2_11 hx hb d_Web_removeWay_62 rfl rfl ?_
  obtain ⟨hi7, h⟩ := gd h
  refine va_iald (f := sB_deg y6.2) (n := 64) hx hb hK hP 5 0 rfl rfl hi7 d_Web_removeWay_63 ?_
  refine lv_iconst (v := 1) hx hb d_Web_removeWay_64 (by decide) ?_
  refine lv_isub hx hb d_Web_removeWay_65 ?_
  refine va_iast (f := sB_deg y6.2) (n := 64) hx hb hK hP hD hS 5 0 rfl rfl hi7 d_Web_removeWay_66 (fun H locs hP hD hS => ?_)
  have hP := va_Pe (setB_deg a cs y6.2 (upd (sB_deg y6.2) (Int32.toNatClampNeg v1) ((sB_deg y6.2 (Int32.toNatClampNeg v1)) - 1))) hP
  have hD := va_De (setB_deg a cs y6.2 (upd (sB_deg y6.2) (Int32.toNatClampNeg v1) ((sB_deg y6.2 (Int32.toNatClampNeg v1)) - 1))) hD
  refine lv_aload_n hx hb d_Web_removeWay_67 rfl (lv_at hl 0 rfl) ?_
  refine lv_dup hx hb d_Web_removeWay_68 rfl ?_
  refine va_get (D := (dC, dI)) (ci := 1) (v := .int (sB_ways y6.2)) (C := "BlockRuler$Web") (T := F_Web) (N := 4) hx hb hg i_Web hown hK hP 1 rfl rfl 3 (by decide) (hg _ wd11) (fun _ h9 => h9) (rfB_ways a cs (uB_deg y6.2 (upd (sB_deg y6.2) (Int32.toNatClampNeg v1) ((sB_deg y6.2 (Int32.toNatClampNeg v1)) - 1))) (gB_ways_deg _ _)) d_Web_removeWay_69 ?_
  refine lv_iconst (v := 1) hx hb d_Web_removeWay_72 (by decide) ?_
  refine lv_isub hx hb d_Web_removeWay_73 ?_
  refine va_put (D := (dC, dI)) (ci := 1) (v := .int ((sB_ways y6.2) - 1)) (ty := .int) (C := "BlockRuler$Web") (T := F_Web) (N := 4) hx hb hg i_Web t_Web t_Web_ok n_Web hown hK hP hD hS 1 rfl rfl 3 (by decide) (hg _ wd11) (fun _ h9 => h9) rfl (by decide +kernel) rfl rfl (Nat.le_of_ble_eq_true rfl) d_Web_removeWay_74 (fun H locs hP hD hS => ?_)
  have hP := va_Pe (setB_ways a cs (uB_deg y6.2 (upd (sB_deg y6.2) (Int32.toNatClampNeg v1) ((sB_deg y6.2 (Int32.toNatClampNeg v1)) - 1))) ((sB_ways y6.2) - 1)) hP
  have hD := va_De (setB_ways a cs (uB_deg y6.2 (upd (sB_deg y6.2) (Int32.toNatClampNeg v1) ((sB_deg y6.2 (Int32.toNatClampNeg v1)) - 1))) ((sB_ways y6.2) - 1)) hD
  refine lv_iload_n hx hb d_Web_removeWay_77 rfl (lv_at hl 2 rfl) ?_
  exact W.iret (v := r1) hx hb hr (fun t ht hW => ⟨⟨r1, uB_ways (uB_deg y6.2 (upd (sB_deg y6.2) (Int32.toNatClampNeg v1) ((sB_deg y6.2 (Int32.toNatClampNeg v1)) - 1))) ((sB_ways y6.2) - 1), rfl, Option.some.inj h, by rw [ht]; exact hP, hD⟩, hS.F ht⟩) hS.2.2 d_Web_removeWay_78
set_option maxHeartbeats 4000000 in
set_option maxRecDepth 100000 in
theorem c_Web_moveWay (l : Launch) (dC : Nat → ClassId) (dI : Nat → Nat → Nat) (a : Nat → Nat) (cs : Nat → ClassId) (sz : Nat) (σ : SB) (v1 : Int32) (v2 : Int32) (v3 : Int32) (r : Int32 × SB) (h : f_Web_moveWay σ v1 v2 v3 = some r) : Met l y_Web_moveWay w_Web_moveWay rm_Web_moveWay (va_Pc [.ref (a 1), .int v1, .int v2, .int v3] (fun U => U.heap.size = sz ∧ WDB dC dI a cs σ U)) (va_Qi (fun (x : Int32) (u : SB) => (x, u) = r) (atB dC dI a cs (va_A (wsB a cs σ) sz)) (va_A (wsB a cs σ) sz)) 0 0 (va_A (wsB a cs σ) sz) := by
  refine Met.ofW (cc := b_Web_moveWay) (maxL := 5) (ret := (some .int)) (by decide) rfl ?_
  intro p e s m args below meth c s₁ B hml hv
  obtain ⟨rfl, hsz, hP, hK, hN, hD0⟩ := hv
  have hx := B.exec
  have hb := B.bytes
  have hr := B.returns
  have hg : ∀ w ∈ G_, w.before _ s = true := fun w hw => atoms_spec (ws := w_Web_moveWay) B.pre w (List.mem_cons_of_mem _ hw)
  have hown : s.vm.findClass "BlockRuler$Web" = some m.cls := findClass_of_methodNamed B.named
  have hlocks := B.notSynchronized
  have C0 : Cx "BlockRuler$Web" b_Web_moveWay 5 p s m _ meth c := ⟨hx, hb, hml, hown, hg, hlocks⟩
  subst hsz
  have hD := hD0.self (sz := s.heap.size)
  generalize hAe : va_A (wsB a cs σ) s.heap.size = A at hD ⊢
  have hA : ∀ q : Nat, s.heap.size ≤ q → A q := fun q h => by rw [← hAe]; exact Or.inr h
  have hS : va_S A s.heap s.heap [] := va_S.rf
  have hl := lv_entry ([.ref (a 1), .int v1, .int v2, .int v3]) (n := 5) (Nat.le_of_ble_eq_true rfl)
  rw [lg_entry_eq]
  generalize (lg_sl ([.ref (a 1), .int v1, .int v2, .int v3]) ++ List.replicate (5 - (lg_sl ([.ref (a 1), .int v1, .int v2, .int v3])).length) Slot.unset).toArray = ls at hl ⊢
  have hl : lv_has ls 5 [(0, .ref (a 1)), (1, .int v1), (2, .int v2), (3, .int v3)] := hl
  unfold f_Web_moveWay at h
  refine lv_aload_n hx hb d_Web_moveWay_0 rfl (lv_at hl 0 rfl) ?_
  refine lv_iload_n hx hb d_Web_moveWay_1 rfl (lv_at hl 1 rfl) ?_
  refine lv_iload_n hx hb d_Web_moveWay_2 rfl (lv_at hl 2 rfl) ?_
  obtain ⟨r1, hr1, h⟩ := bd h
  refine ro_call (v := .int r1) (va_runV (C := "BlockRuler$Web") (As := [.int v1, .int v2]) (rest := []) ⟨hx, hb, hml, hown, hg⟩ (c_Web_endOf l dC dI a cs σ v1 v2 _ hr1) (cwV 2 hg (gdV wd14 wd13 wd12 wd7 wd15) rfl rfl rfl (by decide +kernel) ⟨Nat.le_of_ble_eq_true rfl, Nat.le_of_ble_eq_true rfl⟩) ⟨wb_blind, va_recv hK hP (ci := 1) (q0 := 1) rfl rfl, fun U hU hW => ⟨rfl, wb_pre hU hW hP hK hN⟩⟩ rfl rfl hl.1 rfl (lv_room (Nat.le_of_ble_eq_true rfl)) d_Web_moveWay_3 ⟨Nat.zero_le _, Nat.zero_le _⟩) ?_
  refine lv_istore (lv' := [(4, .int r1), (0, .ref (a 1)), (1, .int v1), (2, .int v2), (3, .int v3)]) hx hb d_Web_moveWay_6 hl (by decide) rfl (fun ls hl => ?_)
  refine lv_aload_n hx hb d_Web_moveWay_8 rfl (lv_at hl 1 rfl) ?_
  refine va_get (D := (dC, dI)) (ci := 1) (v := .ref (a 6)) (C := "BlockRuler$Web") (T := F_Web) (N := 4) hx hb hg i_Web hown hK hP 1 rfl rfl 1 (by decide) (hg _ wd10) (fun _ h9 => h9) rfl d_Web_moveWay_9 ?_
  refine lv_iload_n hx hb d_Web_moveWay_12 rfl (lv_at hl 2 rfl) ?_
  refine lv_bipush (v := 8) hx hb d_Web_moveWay_13 (by decide) ?_
  refine lv_imul hx hb d_Web_moveWay_15 ?_
  refine lv_iload_n hx hb d_Web_moveWay_16 rfl (lv_at hl 3 rfl) ?_
  refine lv_iadd hx hb d_Web_moveWay_17 ?_
  refine lv_iload_n hx hb d_Web_moveWay_18 rfl (lv_at hl 4 rfl) ?_
  obtain ⟨hi2, h⟩ := gd h
  refine va_iast (f := sB_ends σ) (n := 512) hx hb hK hP hD hS 6 1 rfl rfl hi2 d_Web_moveWay_19 (fun H locs hP hD hS => ?_)
  have hP := va_Pe (setB_ends a cs σ (upd (sB_ends σ) (Int32.toNatClampNeg ((v1 * 8) + v2)) v3)) hP
  have hD := va_De (setB_ends a cs σ (upd (sB_ends σ) (Int32.toNatClampNeg ((v1 * 8) + v2)) v3)) hD
  refine lv_iload hx hb d_Web_moveWay_20 (lv_at hl 0 rfl) ?_
  exact W.iret (v := r1) hx hb hr (fun t ht hW => ⟨⟨r1, uB_ends σ (upd (sB_ends σ) (Int32.toNatClampNeg ((v1 * 8) + v2)) v3), rfl, Option.some.inj h, by rw [ht]; exact hP, hD⟩, hS.F ht⟩) hS.2.2 d_Web_moveWay_22
