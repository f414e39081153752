-- written by wip/gen (blockruler.py)
set_option maxHeartbeats 4000000 in
set_option maxRecDepth 100000 in
theorem c_Model_thrown (l : Launch) (dC : Nat → ClassId) (dI : Nat → Nat → Nat) (a : Nat → Nat) (cs : Nat → ClassId) (σ : SM) (r : Int32) (h : f_Model_thrown σ = r) : Met l y_Model_thrown w_Model_thrown rm_Model_thrown (va_Pc [.ref (a 0)] (WBM dC dI a cs σ)) (QcV (.int r)) 0 0 (fun _ => False) := by
  refine Met.ofW (cc := b_Model_thrown) (maxL := 1) (ret := (some .int)) (by decide) rfl ?_
  intro p e s m args below meth c s₁ B hml hv
  obtain ⟨rfl, hP, hK, hN⟩ := hv
  have hx := B.exec
  have hb := B.bytes
  have hr := B.returns
  have hg : ∀ w ∈ G_, w.before _ s = true := fun w hw => atoms_spec (ws := w_Model_thrown) B.pre w (List.mem_cons_of_mem _ hw)
  have hown : s.vm.findClass "BlockRulerModel" = some m.cls := findClass_of_methodNamed B.named
  have hlocks := B.notSynchronized
  have C0 : Cx "BlockRulerModel" b_Model_thrown 1 p s m _ meth c := ⟨hx, hb, hml, hown, hg, hlocks⟩
  have hl := lv_entry ([.ref (a 0)]) (n := 1) (Nat.le_of_ble_eq_true rfl)
  rw [lg_entry_eq]
  generalize (lg_sl ([.ref (a 0)]) ++ List.replicate (1 - (lg_sl ([.ref (a 0)])).length) Slot.unset).toArray = ls at hl ⊢
  have hl : lv_has ls 1 [(0, .ref (a 0))] := hl
  unfold f_Model_thrown at h
  refine lv_aload_n hx hb d_Model_thrown_0 rfl (lv_at hl 0 rfl) ?_
  refine va_get (D := (dC, dI)) (ci := 5) (v := .int (sM_thrown σ)) (C := "BlockRulerModel") (T := F_Model) (N := 16) hx hb hg i_Model hown hK hP 0 rfl rfl 0 (by decide) (hg _ wd210) (fun _ h9 => h9) rfl d_Model_thrown_1 ?_
  exact W.iret (v := sM_thrown σ) hx hb hr (fun t ht _ => ⟨by rw [h], ht⟩) (fun q hq => by cases hq) d_Model_thrown_4
set_option maxHeartbeats 4000000 in
set_option maxRecDepth 100000 in
theorem c_Model_isBlock (l : Launch) (dC : Nat → ClassId) (dI : Nat → Nat → Nat) (a : Nat → Nat) (cs : Nat → ClassId) (σ : SM) (v1 : Int32) (r : Int32) (h : f_Model_isBlock σ v1 = r) : Met l y_Model_isBlock w_Model_isBlock rm_Model_isBlock (va_Pc [.ref (a 0), .int v1] (WBM dC dI a cs σ)) (QcV (.int r)) 0 0 (fun _ => False) := by
  refine Met.ofW (cc := b_Model_isBlock) (maxL := 2) (ret := (some .boolean)) (by decide) rfl ?_
  intro p e s m args below meth c s₁ B hml hv
  obtain ⟨rfl, hP, hK, hN⟩ := hv
  have hx := B.exec
  have hb := B.bytes
  have hr := B.returns
  have hg : ∀ w ∈ G_, w.before _ s = true := fun w hw => atoms_spec (ws := w_Model_isBlock) B.pre w (List.mem_cons_of_mem _ hw)
  have hown : s.vm.findClass "BlockRulerModel" = some m.cls := findClass_of_methodNamed B.named
  have hlocks := B.notSynchronized
  have C0 : Cx "BlockRulerModel" b_Model_isBlock 2 p s m _ meth c := ⟨hx, hb, hml, hown, hg, hlocks⟩
  have hl := lv_entry ([.ref (a 0), .int v1]) (n := 2) (Nat.le_of_ble_eq_true rfl)
  rw [lg_entry_eq]
  generalize (lg_sl ([.ref (a 0), .int v1]) ++ List.replicate (2 - (lg_sl ([.ref (a 0), .int v1])).length) Slot.unset).toArray = ls at hl ⊢
  have hl : lv_has ls 2 [(0, .ref (a 0)), (1, .int v1)] := hl
  unfold f_Model_isBlock at h
  refine lv_iload_n hx hb d_Model_isBlock_0 rfl (lv_at hl 1 rfl) ?_
  refine lv_if_lt (tgt := 16) hx hb d_Model_isBlock_1 (by decide) (fun c1 => ?_) (fun c1 => ?_)
  · have h := b_t h c1
    refine lv_iconst (v := 0) hx hb d_Model_isBlock_16 (by decide) ?_
    exact W.zret (v := 0) (ty := .boolean) hx hb hr rfl (fun t ht _ => ⟨by rw [h], ht⟩) (fun q hq => by cases hq) d_Model_isBlock_17
  · have h := b_f h c1
    refine lv_iload_n hx hb d_Model_isBlock_4 rfl (lv_at hl 1 rfl) ?_
    refine lv_aload_n hx hb d_Model_isBlock_5 rfl (lv_at hl 0 rfl) ?_
    refine va_get (D := (dC, dI)) (ci := 5) (v := .int (sM_blocks σ)) (C := "BlockRulerModel") (T := F_Model) (N := 16) hx hb hg i_Model hown hK hP 0 rfl rfl 1 (by decide) (hg _ wd211) (fun _ h9 => h9) rfl d_Model_isBlock_6 ?_
    refine lv_icmp_ge (tgt := 16) hx hb d_Model_isBlock_9 (by decide) (fun c2 => ?_) (fun c2 => ?_)
    · have h := b_t h c2
      refine lv_iconst (v := 0) hx hb d_Model_isBlock_16 (by decide) ?_
      exact W.zret (v := 0) (ty := .boolean) hx hb hr rfl (fun t ht _ => ⟨by rw [h], ht⟩) (fun q hq => by cases hq) d_Model_isBlock_17
    · have h := b_f h c2
      refine lv_iconst (v := 1) hx hb d_Model_isBlock_12 (by decide) ?_
      refine lv_goto (tgt := 17) hx hb d_Model_isBlock_13 (by decide) ?_
      exact W.zret (v := 1) (ty := .boolean) hx hb hr rfl (fun t ht _ => ⟨by rw [h], ht⟩) (fun q hq => by cases hq) d_Model_isBlock_17
set_option maxHeartbeats 4000000 in
set_option maxRecDepth 100000 in
theorem c_Model_isWay (l : Launch) (dC : Nat → ClassId) (dI : Nat → Nat → Nat) (a : Nat → Nat) (cs : Nat → ClassId) (σ : SM) (v1 : Int32) (v2 : Int32) (r : Int32) (h : f_Model_isWay σ v1 v2 = some r) : Met l y_Model_isWay w_Model_isWay rm_Model_isWay (va_Pc [.ref (a 0), .int v1, .int v2] (WBM dC dI a cs σ)) (QcV (.int r)) 0 0 (fun _ => False) := by
  refine Met.ofW (cc := b_Model_isWay) (maxL := 3) (ret := (some .boolean)) (by decide) rfl ?_
  intro p e s m args below meth c s₁ B hml hv
  obtain ⟨rfl, hP, hK, hN⟩ := hv
  have hx := B.exec
  have hb := B.bytes
  have hr := B.returns
  have hg : ∀ w ∈ G_, w.before _ s = true := fun w hw => atoms_spec (ws := w_Model_isWay) B.pre w (List.mem_cons_of_mem _ hw)
  have hown : s.vm.findClass "BlockRulerModel" = some m.cls := findClass_of_methodNamed B.named
  have hlocks := B.notSynchronized
  have C0 : Cx "BlockRulerModel" b_Model_isWay 3 p s m _ meth c := ⟨hx, hb, hml, hown, hg, hlocks⟩
  have hl := lv_entry ([.ref (a 0), .int v1, .int v2]) (n := 3) (Nat.le_of_ble_eq_true rfl)
  rw [lg_entry_eq]
  generalize (lg_sl ([.ref (a 0), .int v1, .int v2]) ++ List.replicate (3 - (lg_sl ([.ref (a 0), .int v1, .int v2])).length) Slot.unset).toArray = ls at hl ⊢
  have hl : lv_has ls 3 [(0, .ref (a 0)), (1, .int v1), (2, .int v2)] := hl
  unfold f_Model_isWay at h
  refine lv_aload_n hx hb d_Model_isWay_0 rfl (lv_at hl 0 rfl) ?_
  refine lv_iload_n hx hb d_Model_isWay_1 rfl (lv_at hl 1 rfl) ?_
  refine ro_call (v := .int (f_Model_isBlock σ v1)) (va_runV (C := "BlockRulerModel") (As := [.int v1]) (rest := []) ⟨hx, hb, hml, hown, hg⟩ (c_Model_isBlock l dC dI a cs σ v1 _ rfl) (cwV 1 hg (gdV wd214 wd213 wd212 wd215 wd216) rfl rfl rfl (by decide +kernel) ⟨Nat.le_of_ble_eq_true rfl, Nat.le_of_ble_eq_true rfl⟩) ⟨wb_blind, va_recv hK hP (ci := 5) (q0 := 0) rfl rfl, fun U hU hW => ⟨rfl, wb_pre hU hW hP hK hN⟩⟩ rfl rfl hl.1 rfl (lv_room (Nat.le_of_ble_eq_true rfl)) d_Model_isWay_2 ⟨Nat.zero_le _, Nat.zero_le _⟩) ?_
  refine lv_if_eq (tgt := 26) hx hb d_Model_isWay_5 (by decide) (fun c1 => ?_) (fun c1 => ?_)
  · have h := b_t h c1
    refine lv_iconst (v := 0) hx hb d_Model_isWay_26 (by decide) ?_
    exact W.zret (v := 0) (ty := .boolean) hx hb hr rfl (fun t ht _ => ⟨by rw [Option.some.inj h], ht⟩) (fun q hq => by cases hq) d_Model_isWay_27
  · have h := b_f h c1
    refine lv_iload_n hx hb d_Model_isWay_8 rfl (lv_at hl 2 rfl) ?_
    refine lv_if_lt (tgt := 26) hx hb d_Model_isWay_9 (by decide) (fun c2 => ?_) (fun c2 => ?_)
    · have h := b_t h c2
      refine lv_iconst (v := 0) hx hb d_Model_isWay_26 (by decide) ?_
      exact W.zret (v := 0) (ty := .boolean) hx hb hr rfl (fun t ht _ => ⟨by rw [Option.some.inj h], ht⟩) (fun q hq => by cases hq) d_Model_isWay_27
    · have h := b_f h c2
      refine lv_iload_n hx hb d_Model_isWay_12 rfl (lv_at hl 2 rfl) ?_
      refine lv_aload_n hx hb d_Model_isWay_13 rfl (lv_at hl 0 rfl) ?_
      refine va_get (D := (dC, dI)) (ci := 5) (v := .ref (a 1)) (C := "BlockRulerModel") (T := F_Model) (N := 16) hx hb hg i_Model hown hK hP 0 rfl rfl 2 (by decide) (hg _ wd217) (fun _ h9 => h9) rfl d_Model_isWay_14 ?_
      refine lv_iload_n hx hb d_Model_isWay_17 rfl (lv_at hl 1 rfl) ?_
      obtain ⟨hi3, h⟩ := gd h
      refine va_iald (f := sM_many σ) (n := 64) hx hb hK hP 1 0 rfl rfl hi3 d_Model_isWay_18 ?_
      refine lv_icmp_ge (tgt := 26) hx hb d_Model_isWay_19 (by decide) (fun c4 => ?_) (fun c4 => ?_)
      · have h := b_t h c4
        refine lv_iconst (v := 0) hx hb d_Model_isWay_26 (by decide) ?_
        exact W.zret (v := 0) (ty := .boolean) hx hb hr rfl (fun t ht _ => ⟨by rw [Option.some.inj h], ht⟩) (fun q hq => by cases hq) d_Model_isWay_27
      · have h := b_f h c4
        refine lv_iconst (v := 1) hx hb d_Model_isWay_22 (by decide) ?_
        refine lv_goto (tgt := 27) hx hb d_Model_isWay_23 (by decide) ?_
        exact W.zret (v := 1) (ty := .boolean) hx hb hr rfl (fun t ht _ => ⟨by rw [Option.some.inj h], ht⟩) (fun q hq => by cases hq) d_Model_isWay_27
set_option maxHeartbeats 4000000 in
set_option maxRecDepth 100000 in
theorem c_Model_block (l : Launch) (dC : Nat → ClassId) (dI : Nat → Nat → Nat) (a : Nat → Nat) (cs : Nat → ClassId) (sz : Nat) (σ : SM) (r : Int32 × SM) (h : f_Model_block σ = some r) : Met l y_Model_block w_Model_block rm_Model_block (va_Pc [.ref (a 0)] (fun U => U.heap.size = sz ∧ WDM dC dI a cs σ U)) (va_Qi (fun (x : Int32) (u : SM) => (x, u) = r) (atM dC dI a cs (va_A (wsM a cs σ) sz)) (va_A (wsM a cs σ) sz)) 0 0 (va_A (wsM a cs σ) sz) := by
  refine Met.ofW (cc := b_Model_block) (maxL := 1) (ret := (some .int)) (by decide) rfl ?_
  intro p e s m args below meth c s₁ B hml hv
  obtain ⟨rfl, hsz, hP, hK, hN, hD0⟩ := hv
  have hx := B.exec
  have hb := B.bytes
  have hr := B.returns
  have hg : ∀ w ∈ G_, w.before _ s = true := fun w hw => atoms_spec (ws := w_Model_block) B.pre w (List.mem_cons_of_mem _ hw)
  have hown : s.vm.findClass "BlockRulerModel" = some m.cls := findClass_of_methodNamed B.named
  have hlocks := B.notSynchronized
  have C0 : Cx "BlockRulerModel" b_Model_block 1 p s m _ meth c := ⟨hx, hb, hml, hown, hg, hlocks⟩
  subst hsz
  have hD := hD0.self (sz := s.heap.size)
  generalize hAe : va_A (wsM a cs σ) s.heap.size = A at hD ⊢
  have hA : ∀ q : Nat, s.heap.size ≤ q → A q := fun q h => by rw [← hAe]; exact Or.inr h
  have hS : va_S A s.heap s.heap [] := va_S.rf
  have hl := lv_entry ([.ref (a 0)]) (n := 1) (Nat.le_of_ble_eq_true rfl)
  rw [lg_entry_eq]
  generalize (lg_sl ([.ref (a 0)]) ++ List.replicate (1 - (lg_sl ([.ref (a 0)])).length) Slot.unset).toArray = ls at hl ⊢
  have hl : lv_has ls 1 [(0, .ref (a 0))] := hl
  unfold f_Model_block at h
  refine lv_aload_n hx hb d_Model_block_0 rfl (lv_at hl 0 rfl) ?_
  refine lv_aload_n hx hb d_Model_block_1 rfl (lv_at hl 0 rfl) ?_
  refine va_get (D := (dC, dI)) (ci := 5) (v := .int (sM_blocks σ)) (C := "BlockRulerModel") (T := F_Model) (N := 16) hx hb hg i_Model hown hK hP 0 rfl rfl 1 (by decide) (hg _ wd211) (fun _ h9 => h9) rfl d_Model_block_2 ?_
  refine lv_bipush (v := 64) hx hb d_Model_block_5 (by decide) ?_
  refine lv_icmp_ne (tgt := 14) hx hb d_Model_block_7 (by decide) (fun c1 => ?_) (fun c1 => ?_)
  · have h := b_f h c1
    refine lv_iconst (v := 0) hx hb d_Model_block_14 (by decide) ?_
    refine va_put (D := (dC, dI)) (ci := 5) (v := .int 0) (ty := .int) (C := "BlockRulerModel") (T := F_Model) (N := 16) hx hb hg i_Model t_Model t_Model_ok n_Model hown hK hP hD hS 0 rfl rfl 0 (by decide) (hg _ wd210) (fun _ h9 => h9) rfl (by decide +kernel) rfl rfl (Nat.le_of_ble_eq_true rfl) d_Model_block_15 (fun H locs hP hD hS => ?_)
    have hP := va_Pe (setM_thrown a cs σ 0) hP
    have hD := va_De (setM_thrown a cs σ 0) hD
    refine lv_aload_n hx hb d_Model_block_18 rfl (lv_at hl 0 rfl) ?_
    refine va_get (D := (dC, dI)) (ci := 5) (v := .int 0) (C := "BlockRulerModel") (T := F_Model) (N := 16) hx hb hg i_Model hown hK hP 0 rfl rfl 0 (by decide) (hg _ wd210) (fun _ h9 => h9) (rfM_thrown a cs (uM_thrown σ 0) (gM_thrown_thrown _ _)) d_Model_block_19 ?_
    refine lv_if_le (tgt := 27) hx hb d_Model_block_22 (by decide) (fun c2 => ?_) (fun c2 => ?_)
    · have h := b_t h c2
      refine lv_aload_n hx hb d_Model_block_27 rfl (lv_at hl 0 rfl) ?_
      refine lv_iconst (v := 0) hx hb d_Model_block_28 (by decide) ?_
      refine va_put (D := (dC, dI)) (ci := 5) (v := .int 0) (ty := .boolean) (C := "BlockRulerModel") (T := F_Model) (N := 16) hx hb hg i_Model t_Model t_Model_ok n_Model hown hK hP hD hS 0 rfl rfl 4 (by decide) (hg _ wd218) (fun _ h9 => h9) rfl (by decide +kernel) rfl rfl (Nat.le_of_ble_eq_true rfl) d_Model_block_29 (fun H locs hP hD hS => ?_)
      have hP := va_Pe (setM_isDone a cs (uM_thrown σ 0) 0) hP
      have hD := va_De (setM_isDone a cs (uM_thrown σ 0) 0) hD
      refine lv_aload_n hx hb d_Model_block_32 rfl (lv_at hl 0 rfl) ?_
      refine va_get (D := (dC, dI)) (ci := 5) (v := .ref (a 1)) (C := "BlockRulerModel") (T := F_Model) (N := 16) hx hb hg i_Model hown hK hP 0 rfl rfl 2 (by decide) (hg _ wd217) (fun _ h9 => h9) rfl d_Model_block_33 ?_
      refine lv_aload_n hx hb d_Model_block_36 rfl (lv_at hl 0 rfl) ?_
      refine va_get (D := (dC, dI)) (ci := 5) (v := .int (sM_blocks σ)) (C := "BlockRulerModel") (T := F_Model) (N := 16) hx hb hg i_Model hown hK hP 0 rfl rfl 1 (by decide) (hg _ wd211) (fun _ h9 => h9) (rfM_blocks a cs (uM_isDone (uM_thrown σ 0) 0) ((gM_blocks_isDone _ _).trans (gM_blocks_thrown _ _))) d_Model_block_37 ?_
      refine lv_iconst (v := 0) hx hb d_Model_block_40 (by decide) ?_
      obtain ⟨hi3, h⟩ := gd h
      refine va_iast (f := sM_many σ) (n := 64) hx hb hK hP hD hS 1 0 (rdM_many a cs (uM_isDone (uM_thrown σ 0) 0) ((gM_many_isDone _ _).trans (gM_many_thrown _ _))) rfl hi3 d_Model_block_41 (fun H locs hP hD hS => ?_)
      have hP := va_Pe (setM_many a cs (uM_isDone (uM_thrown σ 0) 0) (upd (sM_many σ) (Int32.toNatClampNeg (sM_blocks σ)) 0)) hP
      have hD := va_De (setM_many a cs (uM_isDone (uM_thrown σ 0) 0) (upd (sM_many σ) (Int32.toNatClampNeg (sM_blocks σ)) 0)) hD
      refine lv_aload_n hx hb d_Model_block_42 rfl (lv_at hl 0 rfl) ?_
      refine lv_dup hx hb d_Model_block_43 rfl ?_
      refine va_get (D := (dC, dI)) (ci := 5) (v := .int (sM_blocks σ)) (C := "BlockRulerModel") (T := F_Model) (N := 16) hx hb hg i_Model hown hK hP 0 rfl rfl 1 (by decide) (hg _ wd211) (fun _ h9 => h9) (rfM_blocks a cs (uM_many (uM_isDone (uM_thrown σ 0) 0) (upd (sM_many σ) (Int32.toNatClampNeg (sM_blocks σ)) 0)) ((gM_blocks_many _ _).trans ((gM_blocks_isDone _ _).trans (gM_blocks_thrown _ _)))) d_Model_block_44 ?_
      refine lv_iconst (v := 1) hx hb d_Model_block_47 (by decide) ?_
      refine lv_iadd hx hb d_Model_block_48 ?_
      refine va_put (D := (dC, dI)) (ci := 5) (v := .int ((sM_blocks σ) + 1)) (ty := .int) (C := "BlockRulerModel") (T := F_Model) (N := 16) hx hb hg i_Model t_Model t_Model_ok n_Model hown hK hP hD hS 0 rfl rfl 1 (by decide) (hg _ wd211) (fun _ h9 => h9) rfl (by decide +kernel) rfl rfl (Nat.le_of_ble_eq_true rfl) d_Model_block_49 (fun H locs hP hD hS => ?_)
      have hP := va_Pe (setM_blocks a cs (uM_many (uM_isDone (uM_thrown σ 0) 0) (upd (sM_many σ) (Int32.toNatClampNeg (sM_blocks σ)) 0)) ((sM_blocks σ) + 1)) hP
      have hD := va_De (setM_blocks a cs (uM_many (uM_isDone (uM_thrown σ 0) 0) (upd (sM_many σ) (Int32.toNatClampNeg (sM_blocks σ)) 0)) ((sM_blocks σ) + 1)) hD
      refine lv_aload_n hx hb d_Model_block_52 rfl (lv_at hl 0 rfl) ?_
      refine va_get (D := (dC, dI)) (ci := 5) (v := .int ((sM_blocks σ) + 1)) (C := "BlockRulerModel") (T := F_Model) (N := 16) hx hb hg i_Model hown hK hP 0 rfl rfl 1 (by decide) (hg _ wd211) (fun _ h9 => h9) (rfM_blocks a cs (uM_blocks (uM_many (uM_isDone (uM_thrown σ 0) 0) (upd (sM_many σ) (Int32.toNatClampNeg (sM_blocks σ)) 0)) ((sM_blocks σ) + 1)) (gM_blocks_blocks _ _)) d_Model_block_53 ?_
      refine lv_iconst (v := 1) hx hb d_Model_block_56 (by decide) ?_
      refine lv_isub hx hb d_Model_block_57 ?_
      exact W.iret (v := ((sM_blocks σ) + 1) - 1) hx hb hr (fun t ht hW => ⟨⟨((sM_blocks σ) + 1) - 1, uM_blocks (uM_many (uM_isDone (uM_thrown σ 0) 0) (upd (sM_many σ) (Int32.toNatClampNeg (sM_blocks σ)) 0)) ((sM_blocks σ) + 1), rfl, Option.some.inj h, by rw [ht]; exact hP, hD⟩, hS.F ht⟩) hS.2.2 d_Model_block_58
    · have h := b_f h c2
      refine lv_iconst (v := 0) hx hb d_Model_block_25 (by decide) ?_
      exact W.iret (v := 0) hx hb hr (fun t ht hW => ⟨⟨0, uM_thrown σ 0, rfl, Option.some.inj h, by rw [ht]; exact hP, hD⟩, hS.F ht⟩) hS.2.2 d_Model_block_26
  · have h := b_t h c1
    refine lv_iconst (v := 1) hx hb d_Model_block_10 (by decide) ?_
    refine lv_goto (tgt := 15) hx hb d_Model_block_11 (by decide) ?_
    refine va_put (D := (dC, dI)) (ci := 5) (v := .int 1) (ty := .int) (C := "BlockRulerModel") (T := F_Model) (N := 16) hx hb hg i_Model t_Model t_Model_ok n_Model hown hK hP hD hS 0 rfl rfl 0 (by decide) (hg _ wd210) (fun _ h9 => h9) rfl (by decide +kernel) rfl rfl (Nat.le_of_ble_eq_true rfl) d_Model_block_15 (fun H locs hP hD hS => ?_)
    have hP := va_Pe (setM_thrown a cs σ 1) hP
    have hD := va_De (setM_thrown a cs σ 1) hD
    refine lv_aload_n hx hb d_Model_block_18 rfl (lv_at hl 0 rfl) ?_
    refine va_get (D := (dC, dI)) (ci := 5) (v := .int 1) (C := "BlockRulerModel") (T := F_Model) (N := 16) hx hb hg i_Model hown hK hP 0 rfl rfl 0 (by decide) (hg _ wd210) (fun _ h9 => h9) (rfM_thrown a cs (uM_thrown σ 1) (gM_thrown_thrown _ _)) d_Model_block_19 ?_
    refine lv_if_le (tgt := 27) hx hb d_Model_block_22 (by decide) (fun c4 => ?_) (fun c4 => ?_)
    · have h := b_t h c4
      refine lv_aload_n hx hb d_Model_block_27 rfl (lv_at hl 0 rfl) ?_
      refine lv_iconst (v := 0) hx hb d_Model_block_28 (by decide) ?_
      refine va_put (D := (dC, dI)) (ci := 5) (v := .int 0) (ty := .boolean) (C := "BlockRulerModel") (T := F_Model) (N := 16) hx hb hg i_Model t_Model t_Model_ok n_Model hown hK hP hD hS 0 rfl rfl 4 (by decide) (hg _ wd218) (fun _ h9 => h9) rfl (by decide +kernel) rfl rfl (Nat.le_of_ble_eq_true rfl) d_Model_block_29 (fun H locs hP hD hS => ?_)
      have hP := va_Pe (setM_isDone a cs (uM_thrown σ 1) 0) hP
      have hD := va_De (setM_isDone a cs (uM_thrown σ 1) 0) hD
      refine lv_aload_n hx hb d_Model_block_32 rfl (lv_at hl 0 rfl) ?_
      refine va_get (D := (dC, dI)) (ci := 5) (v := .ref (a 1)) (C := "BlockRulerModel") (T := F_Model) (N := 16) hx hb hg i_Model hown hK hP 0 rfl rfl 2 (by decide) (hg _ wd217) (fun _ h9 => h9) rfl d_Model_block_33 ?_
      refine lv_aload_n hx hb d_Model_block_36 rfl (lv_at hl 0 rfl) ?_
      refine va_get (D := (dC, dI)) (ci := 5) (v := .int (sM_blocks σ)) (C := "BlockRulerModel") (T := F_Model) (N := 16) hx hb hg i_Model hown hK hP 0 rfl rfl 1 (by decide) (hg _ wd211) (fun _ h9 => h9) (rfM_blocks a cs (uM_isDone (uM_thrown σ 1) 0) ((gM_blocks_isDone _ _).trans (gM_blocks_thrown _ _))) d_Model_block_37 ?_
      refine lv_iconst (v := 0) hx hb d_Model_block_40 (by decide) ?_
      obtain ⟨hi5, h⟩ := gd h
      refine va_iast (f := sM_many σ) (n := 64) hx hb hK hP hD hS 1 0 (rdM_many a cs (uM_isDone (uM_thrown σ 1) 0) ((gM_many_isDone _ _).trans (gM_many_thrown _ _))) rfl hi5 d_Model_block_41 (fun H locs hP hD hS => ?_)
      have hP := va_Pe (setM_many a cs (uM_isDone (uM_thrown σ 1) 0) (upd (sM_many σ) (Int32.toNatClampNeg (sM_blocks σ)) 0)) hP
      have hD := va_De (setM_many a cs (uM_isDone (uM_thrown σ 1) 0) (upd (sM_many σ) (Int32.toNatClampNeg (sM_blocks σ)) 0)) hD
      refine lv_aload_n hx hb d_Model_block_42 rfl (lv_at hl 0 rfl) ?_
      refine lv_dup hx hb d_Model_block_43 rfl ?_
      refine va_get (D := (dC, dI)) (ci := 5) (v := .int (sM_blocks σ)) (C := "BlockRulerModel") (T := F_Model) (N := 16) hx hb hg i_Model hown hK hP 0 rfl rfl 1 (by decide) (hg _ wd211) (fun _ h9 => h9) (rfM_blocks a cs (uM_many (uM_isDone (uM_thrown σ 1) 0) (upd (sM_many σ) (Int32.toNatClampNeg (sM_blocks σ)) 0)) ((gM_blocks_many _ _).trans ((gM_blocks_isDone _ _).trans (gM_blocks_thrown _ _)))) d_Model_block_44 ?_
      refine lv_iconst (v := 1) hx hb d_Model_block_47 (by decide) ?_
      refine lv_iadd hx hb d_Model_block_48 ?_
      refine va_put (D := (dC, dI)) (ci := 5) (v := .int ((sM_blocks σ) + 1)) (ty := .int) (C := "BlockRulerModel") (T := F_Model) (N := 16) hx hb hg i_Model t_Model t_Model_ok n_Model hown hK hP hD hS 0 rfl rfl 1 (by decide) (hg _ wd211) (fun _ h9 => h9) rfl (by decide +kernel) rfl rfl (Nat.le_of_ble_eq_true rfl) d_Model_block_49 (fun H locs hP hD hS => ?_)
      have hP := va_Pe (setM_blocks a cs (uM_many (uM_isDone (uM_thrown σ 1) 0) (upd (sM_many σ) (Int32.toNatClampNeg (sM_blocks σ)) 0)) ((sM_blocks σ) + 1)) hP
      have hD := va_De (setM_blocks a cs (uM_many (uM_isDone (uM_thrown σ 1) 0) (upd (sM_many σ) (Int32.toNatClampNeg (sM_blocks σ)) 0)) ((sM_blocks σ) + 1)) hD
      refine lv_aload_n hx hb d_Model_block_52 rfl (lv_at hl 0 rfl) ?_
      refine va_get (D := (dC, dI)) (ci := 5) (v := .int ((sM_blocks σ) + 1)) (C := "BlockRulerModel") (T := F_Model) (N := 16) hx hb hg i_Model hown hK hP 0 rfl rfl 1 (by decide) (hg _ wd211) (fun _ h9 => h9) (rfM_blocks a cs (uM_blocks (uM_many (uM_isDone (uM_thrown σ 1) 0) (upd (sM_many σ) (Int32.toNatClampNeg (sM_blocks σ)) 0)) ((sM_blocks σ) + 1)) (gM_blocks_blocks _ _)) d_Model_block_53 ?_
      refine lv_iconst (v := 1) hx hb d_Model_block_56 (by decide) ?_
      refine lv_isub hx hb d_Model_block_57 ?_
      exact W.iret (v := ((sM_blocks σ) + 1) - 1) hx hb hr (fun t ht hW => ⟨⟨((sM_blocks σ) + 1) - 1, uM_blocks (uM_many (uM_isDone (uM_thrown σ 1) 0) (upd (sM_many σ) (Int32.toNatClampNeg (sM_blocks σ)) 0)) ((sM_blocks σ) + 1), rfl, Option.some.inj h, by rw [ht]; exact hP, hD⟩, hS.F ht⟩) hS.2.2 d_Model_block_58
    · have h := b_f h c4
      refine lv_iconst (v := 0) hx hb d_Model_block_25 (by decide) ?_
      exact W.iret (v := 0) hx hb hr (fun t ht hW => ⟨⟨0, uM_thrown σ 1, rfl, Option.some.inj h, by rw [ht]; exact hP, hD⟩, hS.F ht⟩) hS.2.2 d_Model_block_26
set_option maxHeartbeats 4000000 in
set_option maxRecDepth 100000 in
theorem c_Model_way (l : Launch) (dC : Nat → ClassId) (dI : Nat → Nat → Nat) (a : Nat → Nat) (cs : Nat → ClassId) (sz : Nat) (σ : SM) (v1 : Int32) (v2 : Int32) (r : Int32 × SM) (h : f_Model_way σ v1 v2 = some r) : Met l y_Model_way w_Model_way rm_Model_way (va_Pc [.ref (a 0), .int v1, .int v2] (fun U => U.heap.size = sz ∧ WDM dC dI a cs σ U)) (va_Qi (fun (x : Int32) (u : SM) => (x, u) = r) (atM dC dI a cs (va_A (wsM a cs σ) sz)) (va_A (wsM a cs σ) sz)) 0 0 (va_A (wsM a cs σ) sz) := by
  refine Met.ofW (cc := b_Model_way) (maxL := 3) (ret := (some .int)) (by decide) rfl ?_
  intro p e s m args below meth c s₁ B hml hv
  obtain ⟨rfl, hsz, hP, hK, hN, hD0⟩ := hv
  have hx := B.exec
  have hb := B.bytes
  have hr := B.returns
  have hg : ∀ w ∈ G_, w.before _ s = true := fun w hw => atoms_spec (ws := w_Model_way) B.pre w (List.mem_cons_of_mem _ hw)
  have hown : s.vm.findClass "BlockRulerModel" = some m.cls := findClass_of_methodNamed B.named
  have hlocks := B.notSynchronized
  have C0 : Cx "BlockRulerModel" b_Model_way 3 p s m _ meth c := ⟨hx, hb, hml, hown, hg, hlocks⟩
  subst hsz
  have hD := hD0.self (sz := s.heap.size)
  generalize hAe : va_A (wsM a cs σ) s.heap.size = A at hD ⊢
  have hA : ∀ q : Nat, s.heap.size ≤ q → A q := fun q h => by rw [← hAe]; exact Or.inr h
  have hS : va_S A s.heap s.heap [] := va_S.rf
  have hl := lv_entry ([.ref (a 0), .int v1, .int v2]) (n := 3) (Nat.le_of_ble_eq_true rfl)
  rw [lg_entry_eq]
  generalize (lg_sl ([.ref (a 0), .int v1, .int v2]) ++ List.replicate (3 - (lg_sl ([.ref (a 0), .int v1, .int v2])).length) Slot.unset).toArray = ls at hl ⊢
  have hl : lv_has ls 3 [(0, .ref (a 0)), (1, .int v1), (2, .int v2)] := hl
  unfold f_Model_way at h
  refine lv_aload_n hx hb d_Model_way_0 rfl (lv_at hl 0 rfl) ?_
  refine lv_aload_n hx hb d_Model_way_1 rfl (lv_at hl 0 rfl) ?_
  refine lv_iload_n hx hb d_Model_way_2 rfl (lv_at hl 1 rfl) ?_
  refine ro_call (v := .int (f_Model_isBlock σ v1)) (va_runV (C := "BlockRulerModel") (As := [.int v1]) (rest := [.ref (a 0)]) ⟨hx, hb, hml, hown, hg⟩ (c_Model_isBlock l dC dI a cs σ v1 _ rfl) (cwV 1 hg (gdV wd214 wd213 wd212 wd215 wd216) rfl rfl rfl (by decide +kernel) ⟨Nat.le_of_ble_eq_true rfl, Nat.le_of_ble_eq_true rfl⟩) ⟨wb_blind, va_recv hK hP (ci := 5) (q0 := 0) rfl rfl, fun U hU hW => ⟨rfl, wb_pre hU hW hP hK hN⟩⟩ rfl rfl hl.1 rfl (lv_room (Nat.le_of_ble_eq_true rfl)) d_Model_way_3 ⟨Nat.zero_le _, Nat.zero_le _⟩) ?_
  refine lv_if_eq (tgt := 17) hx hb d_Model_way_6 (by decide) (fun c1 => ?_) (fun c1 => ?_)
  · have h := b_t h c1
    refine lv_iconst (v := 1) hx hb d_Model_way_17 (by decide) ?_
    refine lv_goto (tgt := 37) hx hb d_Model_way_18 (by decide) ?_
    refine va_put (D := (dC, dI)) (ci := 5) (v := .int 1) (ty := .int) (C := "BlockRulerModel") (T := F_Model) (N := 16) hx hb hg i_Model t_Model t_Model_ok n_Model hown hK hP hD hS 0 rfl rfl 0 (by decide) (hg _ wd210) (fun _ h9 => h9) rfl (by decide +kernel) rfl rfl (Nat.le_of_ble_eq_true rfl) d_Model_way_37 (fun H locs hP hD hS => ?_)
    have hP := va_Pe (setM_thrown a cs σ 1) hP
    have hD := va_De (setM_thrown a cs σ 1) hD
    refine lv_aload_n hx hb d_Model_way_40 rfl (lv_at hl 0 rfl) ?_
    refine va_get (D := (dC, dI)) (ci := 5) (v := .int 1) (C := "BlockRulerModel") (T := F_Model) (N := 16) hx hb hg i_Model hown hK hP 0 rfl rfl 0 (by decide) (hg _ wd210) (fun _ h9 => h9) (rfM_thrown a cs (uM_thrown σ 1) (gM_thrown_thrown _ _)) d_Model_way_41 ?_
    refine lv_if_le (tgt := 49) hx hb d_Model_way_44 (by decide) (fun c2 => ?_) (fun c2 => ?_)
    · have h := b_t h c2
      refine lv_aload_n hx hb d_Model_way_49 rfl (lv_at hl 0 rfl) ?_
      refine lv_iconst (v := 0) hx hb d_Model_way_50 (by decide) ?_
      refine va_put (D := (dC, dI)) (ci := 5) (v := .int 0) (ty := .boolean) (C := "BlockRulerModel") (T := F_Model) (N := 16) hx hb hg i_Model t_Model t_Model_ok n_Model hown hK hP hD hS 0 rfl rfl 4 (by decide) (hg _ wd218) (fun _ h9 => h9) rfl (by decide +kernel) rfl rfl (Nat.le_of_ble_eq_true rfl) d_Model_way_51 (fun H locs hP hD hS => ?_)
      have hP := va_Pe (setM_isDone a cs (uM_thrown σ 1) 0) hP
      have hD := va_De (setM_isDone a cs (uM_thrown σ 1) 0) hD
      refine lv_aload_n hx hb d_Model_way_54 rfl (lv_at hl 0 rfl) ?_
      refine va_get (D := (dC, dI)) (ci := 5) (v := .ref (a 2)) (C := "BlockRulerModel") (T := F_Model) (N := 16) hx hb hg i_Model hown hK hP 0 rfl rfl 3 (by decide) (hg _ wd219) (fun _ h9 => h9) rfl d_Model_way_55 ?_
      refine lv_bipush (v := 8) hx hb d_Model_way_58 (by decide) ?_
      refine lv_iload_n hx hb d_Model_way_60 rfl (lv_at hl 1 rfl) ?_
      refine lv_imul hx hb d_Model_way_61 ?_
      refine lv_aload_n hx hb d_Model_way_62 rfl (lv_at hl 0 rfl) ?_
      refine va_get (D := (dC, dI)) (ci := 5) (v := .ref (a 1)) (C := "BlockRulerModel") (T := F_Model) (N := 16) hx hb hg i_Model hown hK hP 0 rfl rfl 2 (by decide) (hg _ wd217) (fun _ h9 => h9) rfl d_Model_way_63 ?_
      refine lv_iload_n hx hb d_Model_way_66 rfl (lv_at hl 1 rfl) ?_
      obtain ⟨hi3, h⟩ := gd h
      refine va_iald (f := sM_many σ) (n := 64) hx hb hK hP 1 0 (rdM_many a cs (uM_isDone (uM_thrown σ 1) 0) ((gM_many_isDone _ _).trans (gM_many_thrown _ _))) rfl hi3 d_Model_way_67 ?_
      refine lv_iadd hx hb d_Model_way_68 ?_
      refine lv_iload_n hx hb d_Model_way_69 rfl (lv_at hl 2 rfl) ?_
      obtain ⟨hi4, h⟩ := gd h
      refine va_iast (f := sM_ends σ) (n := 512) hx hb hK hP hD hS 2 1 (rdM_ends a cs (uM_isDone (uM_thrown σ 1) 0) ((gM_ends_isDone _ _).trans (gM_ends_thrown _ _))) rfl hi4 d_Model_way_70 (fun H locs hP hD hS => ?_)
      have hP := va_Pe (setM_ends a cs (uM_isDone (uM_thrown σ 1) 0) (upd (sM_ends σ) (Int32.toNatClampNeg ((8 * v1) + (sM_many σ (Int32.toNatClampNeg v1)))) v2)) hP
      have hD := va_De (setM_ends a cs (uM_isDone (uM_thrown σ 1) 0) (upd (sM_ends σ) (Int32.toNatClampNeg ((8 * v1) + (sM_many σ (Int32.toNatClampNeg v1)))) v2)) hD
      refine lv_aload_n hx hb d_Model_way_71 rfl (lv_at hl 0 rfl) ?_
      refine va_get (D := (dC, dI)) (ci := 5) (v := .ref (a 1)) (C := "BlockRulerModel") (T := F_Model) (N := 16) hx hb hg i_Model hown hK hP 0 rfl rfl 2 (by decide) (hg _ wd217) (fun _ h9 => h9) rfl d_Model_way_72 ?_
      refine lv_iload_n hx hb d_Model_way_75 rfl (lv_at hl 1 rfl) ?_
      refine lv_dup2_11 hx hb d_Model_way_76 rfl rfl ?_
      refine va_iald (f := sM_many σ) (n := 64) hx hb hK hP 1 0 (rdM_many a cs (uM_ends (uM_isDone (uM_thrown σ 1) 0) (upd (sM_ends σ) (Int32.toNatClampNeg ((8 * v1) + (sM_many σ (Int32.toNatClampNeg v1)))) v2)) ((gM_many_ends _ _).trans ((gM_many_isDone _ _).trans (gM_many_thrown _ _)))) rfl hi3 d_Model_way_77 ?_
      refine lv_iconst (v := 1) hx hb d_Model_way_78 (by decide) ?_
      refine lv_iadd hx hb d_Model_way_79 ?_
      refine va_iast (f := sM_many σ) (n := 64) hx hb hK hP hD hS 1 0 (rdM_many a cs (uM_ends (uM_isDone (uM_thrown σ 1) 0) (upd (sM_ends σ) (Int32.toNatClampNeg ((8 * v1) + (sM_many σ (Int32.toNatClampNeg v1)))) v2)) ((gM_many_ends _ _).trans ((gM_many_isDone _ _).trans (gM_many_thrown _ _)))) rfl hi3 d_Model_way_80 (fun H locs hP hD hS => ?_)
      have hP := va_Pe (setM_many a cs (uM_ends (uM_isDone (uM_thrown σ 1) 0) (upd (sM_ends σ) (Int32.toNatClampNeg ((8 * v1) + (sM_many σ (Int32.toNatClampNeg v1)))) v2)) (upd (sM_many σ) (Int32.toNatClampNeg v1) ((sM_many σ (Int32.toNatClampNeg v1)) + 1))) hP
      have hD := va_De (setM_many a cs (uM_ends (uM_isDone (uM_thrown σ 1) 0) (upd (sM_ends σ) (Int32.toNatClampNeg ((8 * v1) + (sM_many σ (Int32.toNatClampNeg v1)))) v2)) (upd (sM_many σ) (Int32.toNatClampNeg v1) ((sM_many σ (Int32.toNatClampNeg v1)) + 1))) hD
      refine lv_aload_n hx hb d_Model_way_81 rfl (lv_at hl 0 rfl) ?_
      refine va_get (D := (dC, dI)) (ci := 5) (v := .ref (a 1)) (C := "BlockRulerModel") (T := F_Model) (N := 16) hx hb hg i_Model hown hK hP 0 rfl rfl 2 (by decide) (hg _ wd217) (fun _ h9 => h9) rfl d_Model_way_82 ?_
      refine lv_iload_n hx hb d_Model_way_85 rfl (lv_at hl 1 rfl) ?_
      refine va_iald (f := upd (sM_many σ) (Int32.toNatClampNeg v1) ((sM_many σ (Int32.toNatClampNeg v1)) + 1)) (n := 64) hx hb hK hP 1 0 (rdM_many a cs (uM_many (uM_ends (uM_isDone (uM_thrown σ 1) 0) (upd (sM_ends σ) (Int32.toNatClampNeg ((8 * v1) + (sM_many σ (Int32.toNatClampNeg v1)))) v2)) (upd (sM_many σ) (Int32.toNatClampNeg v1) ((sM_many σ (Int32.toNatClampNeg v1)) + 1))) (gM_many_many _ _)) rfl hi3 d_Model_way_86 ?_
      refine lv_iconst (v := 1) hx hb d_Model_way_87 (by decide) ?_
      refine lv_isub hx hb d_Model_way_88 ?_
      exact W.iret (v := ((upd (sM_many σ) (Int32.toNatClampNeg v1) ((sM_many σ (Int32.toNatClampNeg v1)) + 1)) (Int32.toNatClampNeg v1)) - 1) hx hb hr (fun t ht hW => ⟨⟨((upd (sM_many σ) (Int32.toNatClampNeg v1) ((sM_many σ (Int32.toNatClampNeg v1)) + 1)) (Int32.toNatClampNeg v1)) - 1, uM_many (uM_ends (uM_isDone (uM_thrown σ 1) 0) (upd (sM_ends σ) (Int32.toNatClampNeg ((8 * v1) + (sM_many σ (Int32.toNatClampNeg v1)))) v2)) (upd (sM_many σ) (Int32.toNatClampNeg v1) ((sM_many σ (Int32.toNatClampNeg v1)) + 1)), rfl, Option.some.inj h, by rw [ht]; exact hP, hD⟩, hS.F ht⟩) hS.2.2 d_Model_way_89
    · have h := b_f h c2
      refine lv_iconst (v := 0) hx hb d_Model_way_47 (by decide) ?_
      exact W.iret (v := 0) hx hb hr (fun t ht hW => ⟨⟨0, uM_thrown σ 1, rfl, Option.some.inj h, by rw [ht]; exact hP, hD⟩, hS.F ht⟩) hS.2.2 d_Model_way_48
  · have h := b_f h c1
    refine lv_aload_n hx hb d_Model_way_9 rfl (lv_at hl 0 rfl) ?_
    refine lv_iload_n hx hb d_Model_way_10 rfl (lv_at hl 2 rfl) ?_
    refine ro_call (v := .int (f_Model_isBlock σ v2)) (va_runV (C := "BlockRulerModel") (As := [.int v2]) (rest := [.ref (a 0)]) ⟨hx, hb, hml, hown, hg⟩ (c_Model_isBlock l dC dI a cs σ v2 _ rfl) (cwV 1 hg (gdV wd214 wd213 wd212 wd215 wd216) rfl rfl rfl (by decide +kernel) ⟨Nat.le_of_ble_eq_true rfl, Nat.le_of_ble_eq_true rfl⟩) ⟨wb_blind, va_recv hK hP (ci := 5) (q0 := 0) rfl rfl, fun U hU hW => ⟨rfl, wb_pre hU hW hP hK hN⟩⟩ rfl rfl hl.1 rfl (lv_room (Nat.le_of_ble_eq_true rfl)) d_Model_way_11 ⟨Nat.zero_le _, Nat.zero_le _⟩) ?_
    refine lv_if_ne (tgt := 21) hx hb d_Model_way_14 (by decide) (fun c5 => ?_) (fun c5 => ?_)
    · have h := b_f h c5
      refine lv_aload_n hx hb d_Model_way_21 rfl (lv_at hl 0 rfl) ?_
      refine va_get (D := (dC, dI)) (ci := 5) (v := .ref (a 1)) (C := "BlockRulerModel") (T := F_Model) (N := 16) hx hb hg i_Model hown hK hP 0 rfl rfl 2 (by decide) (hg _ wd217) (fun _ h9 => h9) rfl d_Model_way_22 ?_
      refine lv_iload_n hx hb d_Model_way_25 rfl (lv_at hl 1 rfl) ?_
      obtain ⟨hi6, h⟩ := gd h
      refine va_iald (f := sM_many σ) (n := 64) hx hb hK hP 1 0 rfl rfl hi6 d_Model_way_26 ?_
      refine lv_bipush (v := 8) hx hb d_Model_way_27 (by decide) ?_
      refine lv_icmp_ne (tgt := 36) hx hb d_Model_way_29 (by decide) (fun c7 => ?_) (fun c7 => ?_)
      · have h := b_f h c7
        refine lv_iconst (v := 0) hx hb d_Model_way_36 (by decide) ?_
        refine va_put (D := (dC, dI)) (ci := 5) (v := .int 0) (ty := .int) (C := "BlockRulerModel") (T := F_Model) (N := 16) hx hb hg i_Model t_Model t_Model_ok n_Model hown hK hP hD hS 0 rfl rfl 0 (by decide) (hg _ wd210) (fun _ h9 => h9) rfl (by decide +kernel) rfl rfl (Nat.le_of_ble_eq_true rfl) d_Model_way_37 (fun H locs hP hD hS => ?_)
        have hP := va_Pe (setM_thrown a cs σ 0) hP
        have hD := va_De (setM_thrown a cs σ 0) hD
        refine lv_aload_n hx hb d_Model_way_40 rfl (lv_at hl 0 rfl) ?_
        refine va_get (D := (dC, dI)) (ci := 5) (v := .int 0) (C := "BlockRulerModel") (T := F_Model) (N := 16) hx hb hg i_Model hown hK hP 0 rfl rfl 0 (by decide) (hg _ wd210) (fun _ h9 => h9) (rfM_thrown a cs (uM_thrown σ 0) (gM_thrown_thrown _ _)) d_Model_way_41 ?_
        refine lv_if_le (tgt := 49) hx hb d_Model_way_44 (by decide) (fun c8 => ?_) (fun c8 => ?_)
        · have h := b_t h c8
          refine lv_aload_n hx hb d_Model_way_49 rfl (lv_at hl 0 rfl) ?_
          refine lv_iconst (v := 0) hx hb d_Model_way_50 (by decide) ?_
          refine va_put (D := (dC, dI)) (ci := 5) (v := .int 0) (ty := .boolean) (C := "BlockRulerModel") (T := F_Model) (N := 16) hx hb hg i_Model t_Model t_Model_ok n_Model hown hK hP hD hS 0 rfl rfl 4 (by decide) (hg _ wd218) (fun _ h9 => h9) rfl (by decide +kernel) rfl rfl (Nat.le_of_ble_eq_true rfl) d_Model_way_51 (fun H locs hP hD hS => ?_)
          have hP := va_Pe (setM_isDone a cs (uM_thrown σ 0) 0) hP
          have hD := va_De (setM_isDone a cs (uM_thrown σ 0) 0) hD
          refine lv_aload_n hx hb d_Model_way_54 rfl (lv_at hl 0 rfl) ?_
          refine va_get (D := (dC, dI)) (ci := 5) (v := .ref (a 2)) (C := "BlockRulerModel") (T := F_Model) (N := 16) hx hb hg i_Model hown hK hP 0 rfl rfl 3 (by decide) (hg _ wd219) (fun _ h9 => h9) rfl d_Model_way_55 ?_
          refine lv_bipush (v := 8) hx hb d_Model_way_58 (by decide) ?_
          refine lv_iload_n hx hb d_Model_way_60 rfl (lv_at hl 1 rfl) ?_
          refine lv_imul hx hb d_Model_way_61 ?_
          refine lv_aload_n hx hb d_Model_way_62 rfl (lv_at hl 0 rfl) ?_
          refine va_get (D := (dC, dI)) (ci := 5) (v := .ref (a 1)) (C := "BlockRulerModel") (T := F_Model) (N := 16) hx hb hg i_Model hown hK hP 0 rfl rfl 2 (by decide) (hg _ wd217) (fun _ h9 => h9) rfl d_Model_way_63 ?_
          refine lv_iload_n hx hb d_Model_way_66 rfl (lv_at hl 1 rfl) ?_
          refine va_iald (f := sM_many σ) (n := 64) hx hb hK hP 1 0 (rdM_many a cs (uM_isDone (uM_thrown σ 0) 0) ((gM_many_isDone _ _).trans (gM_many_thrown _ _))) rfl hi6 d_Model_way_67 ?_
          refine lv_iadd hx hb d_Model_way_68 ?_
          refine lv_iload_n hx hb d_Model_way_69 rfl (lv_at hl 2 rfl) ?_
          obtain ⟨hi9, h⟩ := gd h
          refine va_iast (f := sM_ends σ) (n := 512) hx hb hK hP hD hS 2 1 (rdM_ends a cs (uM_isDone (uM_thrown σ 0) 0) ((gM_ends_isDone _ _).trans (gM_ends_thrown _ _))) rfl hi9 d_Model_way_70 (fun H locs hP hD hS => ?_)
          have hP := va_Pe (setM_ends a cs (uM_isDone (uM_thrown σ 0) 0) (upd (sM_ends σ) (Int32.toNatClampNeg ((8 * v1) + (sM_many σ (Int32.toNatClampNeg v1)))) v2)) hP
          have hD := va_De (setM_ends a cs (uM_isDone (uM_thrown σ 0) 0) (upd (sM_ends σ) (Int32.toNatClampNeg ((8 * v1) + (sM_many σ (Int32.toNatClampNeg v1)))) v2)) hD
          refine lv_aload_n hx hb d_Model_way_71 rfl (lv_at hl 0 rfl) ?_
          refine va_get (D := (dC, dI)) (ci := 5) (v := .ref (a 1)) (C := "BlockRulerModel") (T := F_Model) (N := 16) hx hb hg i_Model hown hK hP 0 rfl rfl 2 (by decide) (hg _ wd217) (fun _ h9 => h9) rfl d_Model_way_72 ?_
          refine lv_iload_n hx hb d_Model_way_75 rfl (lv_at hl 1 rfl) ?_
          refine lv_dup2_11 hx hb d_Model_way_76 rfl rfl ?_
          refine va_iald (f := sM_many σ) (n := 64) hx hb hK hP 1 0 (rdM_many a cs (uM_ends (uM_isDone (uM_thrown σ 0) 0) (upd (sM_ends σ) (Int32.toNatClampNeg ((8 * v1) + (sM_many σ (Int32.toNatClampNeg v1)))) v2)) ((gM_many_ends _ _).trans ((gM_many_isDone _ _).trans (gM_many_thrown _ _)))) rfl hi6 d_Model_way_77 ?_
          refine lv_iconst (v := 1) hx hb d_Model_way_78 (by decide) ?_
          refine lv_iadd hx hb d_Model_way_79 ?_
          refine va_iast (f := sM_many σ) (n := 64) hx hb hK hP hD hS 1 0 (rdM_many a cs (uM_ends (uM_isDone (uM_thrown σ 0) 0) (upd (sM_ends σ) (Int32.toNatClampNeg ((8 * v1) + (sM_many σ (Int32.toNatClampNeg v1)))) v2)) ((gM_many_ends _ _).trans ((gM_many_isDone _ _).trans (gM_many_thrown _ _)))) rfl hi6 d_Model_way_80 (fun H locs hP hD hS => ?_)
          have hP := va_Pe (setM_many a cs (uM_ends (uM_isDone (uM_thrown σ 0) 0) (upd (sM_ends σ) (Int32.toNatClampNeg ((8 * v1) + (sM_many σ (Int32.toNatClampNeg v1)))) v2)) (upd (sM_many σ) (Int32.toNatClampNeg v1) ((sM_many σ (Int32.toNatClampNeg v1)) + 1))) hP
          have hD := va_De (setM_many a cs (uM_ends (uM_isDone (uM_thrown σ 0) 0) (upd (sM_ends σ) (Int32.toNatClampNeg ((8 * v1) + (sM_many σ (Int32.toNatClampNeg v1)))) v2)) (upd (sM_many σ) (Int32.toNatClampNeg v1) ((sM_many σ (Int32.toNatClampNeg v1)) + 1))) hD
          refine lv_aload_n hx hb d_Model_way_81 rfl (lv_at hl 0 rfl) ?_
          refine va_get (D := (dC, dI)) (ci := 5) (v := .ref (a 1)) (C := "BlockRulerModel") (T := F_Model) (N := 16) hx hb hg i_Model hown hK hP 0 rfl rfl 2 (by decide) (hg _ wd217) (fun _ h9 => h9) rfl d_Model_way_82 ?_
          refine lv_iload_n hx hb d_Model_way_85 rfl (lv_at hl 1 rfl) ?_
          refine va_iald (f := upd (sM_many σ) (Int32.toNatClampNeg v1) ((sM_many σ (Int32.toNatClampNeg v1)) + 1)) (n := 64) hx hb hK hP 1 0 (rdM_many a cs (uM_many (uM_ends (uM_isDone (uM_thrown σ 0) 0) (upd (sM_ends σ) (Int32.toNatClampNeg ((8 * v1) + (sM_many σ (Int32.toNatClampNeg v1)))) v2)) (upd (sM_many σ) (Int32.toNatClampNeg v1) ((sM_many σ (Int32.toNatClampNeg v1)) + 1))) (gM_many_many _ _)) rfl hi6 d_Model_way_86 ?_
          refine lv_iconst (v := 1) hx hb d_Model_way_87 (by decide) ?_
          refine lv_isub hx hb d_Model_way_88 ?_
          exact W.iret (v := ((upd (sM_many σ) (Int32.toNatClampNeg v1) ((sM_many σ (Int32.toNatClampNeg v1)) + 1)) (Int32.toNatClampNeg v1)) - 1) hx hb hr (fun t ht hW => ⟨⟨((upd (sM_many σ) (Int32.toNatClampNeg v1) ((sM_many σ (Int32.toNatClampNeg v1)) + 1)) (Int32.toNatClampNeg v1)) - 1, uM_many (uM_ends (uM_isDone (uM_thrown σ 0) 0) (upd (sM_ends σ) (Int32.toNatClampNeg ((8 * v1) + (sM_many σ (Int32.toNatClampNeg v1)))) v2)) (upd (sM_many σ) (Int32.toNatClampNeg v1) ((sM_many σ (Int32.toNatClampNeg v1)) + 1)), rfl, Option.some.inj h, by rw [ht]; exact hP, hD⟩, hS.F ht⟩) hS.2.2 d_Model_way_89
        · have h := b_f h c8
          refine lv_iconst (v := 0) hx hb d_Model_way_47 (by decide) ?_
          exact W.iret (v := 0) hx hb hr (fun t ht hW => ⟨⟨0, uM_thrown σ 0, rfl, Option.some.inj h, by rw [ht]; exact hP, hD⟩, hS.F ht⟩) hS.2.2 d_Model_way_48
      · have h := b_t h c7
        refine lv_iconst (v := 2) hx hb d_Model_way_32 (by decide) ?_
        refine lv_goto (tgt := 37) hx hb d_Model_way_33 (by decide) ?_
        refine va_put (D := (dC, dI)) (ci := 5) (v := .int 2) (ty := .int) (C := "BlockRulerModel") (T := F_Model) (N := 16) hx hb hg i_Model t_Model t_Model_ok n_Model hown hK hP hD hS 0 rfl rfl 0 (by decide) (hg _ wd210) (fun _ h9 => h9) rfl (by decide +kernel) rfl rfl (Nat.le_of_ble_eq_true rfl) d_Model_way_37 (fun H locs hP hD hS => ?_)
        have hP := va_Pe (setM_thrown a cs σ 2) hP
        have hD := va_De (setM_thrown a cs σ 2) hD
        refine lv_aload_n hx hb d_Model_way_40 rfl (lv_at hl 0 rfl) ?_
        refine va_get (D := (dC, dI)) (ci := 5) (v := .int 2) (C := "BlockRulerModel") (T := F_Model) (N := 16) hx hb hg i_Model hown hK hP 0 rfl rfl 0 (by decide) (hg _ wd210) (fun _ h9 => h9) (rfM_thrown a cs (uM_thrown σ 2) (gM_thrown_thrown _ _)) d_Model_way_41 ?_
        refine lv_if_le (tgt := 49) hx hb d_Model_way_44 (by decide) (fun c10 => ?_) (fun c10 => ?_)
        · have h := b_t h c10
          refine lv_aload_n hx hb d_Model_way_49 rfl (lv_at hl 0 rfl) ?_
          refine lv_iconst (v := 0) hx hb d_Model_way_50 (by decide) ?_
          refine va_put (D := (dC, dI)) (ci := 5) (v := .int 0) (ty := .boolean) (C := "BlockRulerModel") (T := F_Model) (N := 16) hx hb hg i_Model t_Model t_Model_ok n_Model hown hK hP hD hS 0 rfl rfl 4 (by decide) (hg _ wd218) (fun _ h9 => h9) rfl (by decide +kernel) rfl rfl (Nat.le_of_ble_eq_true rfl) d_Model_way_51 (fun H locs hP hD hS => ?_)
          have hP := va_Pe (setM_isDone a cs (uM_thrown σ 2) 0) hP
          have hD := va_De (setM_isDone a cs (uM_thrown σ 2) 0) hD
          refine lv_aload_n hx hb d_Model_way_54 rfl (lv_at hl 0 rfl) ?_
          refine va_get (D := (dC, dI)) (ci := 5) (v := .ref (a 2)) (C := "BlockRulerModel") (T := F_Model) (N := 16) hx hb hg i_Model hown hK hP 0 rfl rfl 3 (by decide) (hg _ wd219) (fun _ h9 => h9) rfl d_Model_way_55 ?_
          refine lv_bipush (v := 8) hx hb d_Model_way_58 (by decide) ?_
          refine lv_iload_n hx hb d_Model_way_60 rfl (lv_at hl 1 rfl) ?_
          refine lv_imul hx hb d_Model_way_61 ?_
          refine lv_aload_n hx hb d_Model_way_62 rfl (lv_at hl 0 rfl) ?_
          refine va_get (D := (dC, dI)) (ci := 5) (v := .ref (a 1)) (C := "BlockRulerModel") (T := F_Model) (N := 16) hx hb hg i_Model hown hK hP 0 rfl rfl 2 (by decide) (hg _ wd217) (fun _ h9 => h9) rfl d_Model_way_63 ?_
          refine lv_iload_n hx hb d_Model_way_66 rfl (lv_at hl 1 rfl) ?_
          refine va_iald (f := sM_many σ) (n := 64) hx hb hK hP 1 0 (rdM_many a cs (uM_isDone (uM_thrown σ 2) 0) ((gM_many_isDone _ _).trans (gM_many_thrown _ _))) rfl hi6 d_Model_way_67 ?_
          refine lv_iadd hx hb d_Model_way_68 ?_
          refine lv_iload_n hx hb d_Model_way_69 rfl (lv_at hl 2 rfl) ?_
          obtain ⟨hi11, h⟩ := gd h
          refine va_iast (f := sM_ends σ) (n := 512) hx hb hK hP hD hS 2 1 (rdM_ends a cs (uM_isDone (uM_thrown σ 2) 0) ((gM_ends_isDone _ _).trans (gM_ends_thrown _ _))) rfl hi11 d_Model_way_70 (fun H locs hP hD hS => ?_)
          have hP := va_Pe (setM_ends a cs (uM_isDone (uM_thrown σ 2) 0) (upd (sM_ends σ) (Int32.toNatClampNeg ((8 * v1) + (sM_many σ (Int32.toNatClampNeg v1)))) v2)) hP
          have hD := va_De (setM_ends a cs (uM_isDone (uM_thrown σ 2) 0) (upd (sM_ends σ) (Int32.toNatClampNeg ((8 * v1) + (sM_many σ (Int32.toNatClampNeg v1)))) v2)) hD
          refine lv_aload_n hx hb d_Model_way_71 rfl (lv_at hl 0 rfl) ?_
          refine va_get (D := (dC, dI)) (ci := 5) (v := .ref (a 1)) (C := "BlockRulerModel") (T := F_Model) (N := 16) hx hb hg i_Model hown hK hP 0 rfl rfl 2 (by decide) (hg _ wd217) (fun _ h9 => h9) rfl d_Model_way_72 ?_
          refine lv_iload_n hx hb d_Model_way_75 rfl (lv_at hl 1 rfl) ?_
          refine lv_dup2_11 hx hb d_Model_way_76 rfl rfl ?_
          refine va_iald (f := sM_many σ) (n := 64) hx hb hK hP 1 0 (rdM_many a cs (uM_ends (uM_isDone (uM_thrown σ 2) 0) (upd (sM_ends σ) (Int32.toNatClampNeg ((8 * v1) + (sM_many σ (Int32.toNatClampNeg v1)))) v2)) ((gM_many_ends _ _).trans ((gM_many_isDone _ _).trans (gM_many_thrown _ _)))) rfl hi6 d_Model_way_77 ?_
          refine lv_iconst (v := 1) hx hb d_Model_way_78 (by decide) ?_
          refine lv_iadd hx hb d_Model_way_79 ?_
          refine va_iast (f := sM_many σ) (n := 64) hx hb hK hP hD hS 1 0 (rdM_many a cs (uM_ends (uM_isDone (uM_thrown σ 2) 0) (upd (sM_ends σ) (Int32.toNatClampNeg ((8 * v1) + (sM_many σ (Int32.toNatClampNeg v1)))) v2)) ((gM_many_ends _ _).trans ((gM_many_isDone _ _).trans (gM_many_thrown _ _)))) rfl hi6 d_Model_way_80 (fun H locs hP hD hS => ?_)
          have hP := va_Pe (setM_many a cs (uM_ends (uM_isDone (uM_thrown σ 2) 0) (upd (sM_ends σ) (Int32.toNatClampNeg ((8 * v1) + (sM_many σ (Int32.toNatClampNeg v1)))) v2)) (upd (sM_many σ) (Int32.toNatClampNeg v1) ((sM_many σ (Int32.toNatClampNeg v1)) + 1))) hP
          have hD := va_De (setM_many a cs (uM_ends (uM_isDone (uM_thrown σ 2) 0) (upd (sM_ends σ) (Int32.toNatClampNeg ((8 * v1) + (sM_many σ (Int32.toNatClampNeg v1)))) v2)) (upd (sM_many σ) (Int32.toNatClampNeg v1) ((sM_many σ (Int32.toNatClampNeg v1)) + 1))) hD
          refine lv_aload_n hx hb d_Model_way_81 rfl (lv_at hl 0 rfl) ?_
          refine va_get (D := (dC, dI)) (ci := 5) (v := .ref (a 1)) (C := "BlockRulerModel") (T := F_Model) (N := 16) hx hb hg i_Model hown hK hP 0 rfl rfl 2 (by decide) (hg _ wd217) (fun _ h9 => h9) rfl d_Model_way_82 ?_
          refine lv_iload_n hx hb d_Model_way_85 rfl (lv_at hl 1 rfl) ?_
          refine va_iald (f := upd (sM_many σ) (Int32.toNatClampNeg v1) ((sM_many σ (Int32.toNatClampNeg v1)) + 1)) (n := 64) hx hb hK hP 1 0 (rdM_many a cs (uM_many (uM_ends (uM_isDone (uM_thrown σ 2) 0) (upd (sM_ends σ) (Int32.toNatClampNeg ((8 * v1) + (sM_many σ (Int32.toNatClampNeg v1)))) v2)) (upd (sM_many σ) (Int32.toNatClampNeg v1) ((sM_many σ (Int32.toNatClampNeg v1)) + 1))) (gM_many_many _ _)) rfl hi6 d_Model_way_86 ?_
          refine lv_iconst (v := 1) hx hb d_Model_way_87 (by decide) ?_
          refine lv_isub hx hb d_Model_way_88 ?_
          exact W.iret (v := ((upd (sM_many σ) (Int32.toNatClampNeg v1) ((sM_many σ (Int32.toNatClampNeg v1)) + 1)) (Int32.toNatClampNeg v1)) - 1) hx hb hr (fun t ht hW => ⟨⟨((upd (sM_many σ) (Int32.toNatClampNeg v1) ((sM_many σ (Int32.toNatClampNeg v1)) + 1)) (Int32.toNatClampNeg v1)) - 1, uM_many (uM_ends (uM_isDone (uM_thrown σ 2) 0) (upd (sM_ends σ) (Int32.toNatClampNeg ((8 * v1) + (sM_many σ (Int32.toNatClampNeg v1)))) v2)) (upd (sM_many σ) (Int32.toNatClampNeg v1) ((sM_many σ (Int32.toNatClampNeg v1)) + 1)), rfl, Option.some.inj h, by rw [ht]; exact hP, hD⟩, hS.F ht⟩) hS.2.2 d_Model_way_89
        · have h := b_f h c10
          refine lv_iconst (v := 0) hx hb d_Model_way_47 (by decide) ?_
          exact W.iret (v := 0) hx hb hr (fun t ht hW => ⟨⟨0, uM_thrown σ 2, rfl, Option.some.inj h, by rw [ht]; exact hP, hD⟩, hS.F ht⟩) hS.2.2 d_Model_way_48
    · have h := b_t h c5
      refine lv_iconst (v := 1) hx hb d_Model_way_17 (by decide) ?_
      refine lv_goto (tgt := 37) hx hb d_Model_way_18 (by decide) ?_
      refine va_put (D := (dC, dI)) (ci := 5) (v := .int 1) (ty := .int) (C := "BlockRulerModel") (T := F_Model) (N := 16) hx hb hg i_Model t_Model t_Model_ok n_Model hown hK hP hD hS 0 rfl rfl 0 (by decide) (hg _ wd210) (fun _ h9 => h9) rfl (by decide +kernel) rfl rfl (Nat.le_of_ble_eq_true rfl) d_Model_way_37 (fun H locs hP hD hS => ?_)
      have hP := va_Pe (setM_thrown a cs σ 1) hP
      have hD := va_De (setM_thrown a cs σ 1) hD
      refine lv_aload_n hx hb d_Model_way_40 rfl (lv_at hl 0 rfl) ?_
      refine va_get (D := (dC, dI)) (ci := 5) (v := .int 1) (C := "BlockRulerModel") (T := F_Model) (N := 16) hx hb hg i_Model hown hK hP 0 rfl rfl 0 (by decide) (hg _ wd210) (fun _ h9 => h9) (rfM_thrown a cs (uM_thrown σ 1) (gM_thrown_thrown _ _)) d_Model_way_41 ?_
      refine lv_if_le (tgt := 49) hx hb d_Model_way_44 (by decide) (fun c12 => ?_) (fun c12 => ?_)
      · have h := b_t h c12
        refine lv_aload_n hx hb d_Model_way_49 rfl (lv_at hl 0 rfl) ?_
        refine lv_iconst (v := 0) hx hb d_Model_way_50 (by decide) ?_
        refine va_put (D := (dC, dI)) (ci := 5) (v := .int 0) (ty := .boolean) (C := "BlockRulerModel") (T := F_Model) (N := 16) hx hb hg i_Model t_Model t_Model_ok n_Model hown hK hP hD hS 0 rfl rfl 4 (by decide) (hg _ wd218) (fun _ h9 => h9) rfl (by decide +kernel) rfl rfl (Nat.le_of_ble_eq_true rfl) d_Model_way_51 (fun H locs hP hD hS => ?_)
        have hP := va_Pe (setM_isDone a cs (uM_thrown σ 1) 0) hP
        have hD := va_De (setM_isDone a cs (uM_thrown σ 1) 0) hD
        refine lv_aload_n hx hb d_Model_way_54 rfl (lv_at hl 0 rfl) ?_
        refine va_get (D := (dC, dI)) (ci := 5) (v := .ref (a 2)) (C := "BlockRulerModel") (T := F_Model) (N := 16) hx hb hg i_Model hown hK hP 0 rfl rfl 3 (by decide) (hg _ wd219) (fun _ h9 => h9) rfl d_Model_way_55 ?_
        refine lv_bipush (v := 8) hx hb d_Model_way_58 (by decide) ?_
        refine lv_iload_n hx hb d_Model_way_60 rfl (lv_at hl 1 rfl) ?_
        refine lv_imul hx hb d_Model_way_61 ?_
        refine lv_aload_n hx hb d_Model_way_62 rfl (lv_at hl 0 rfl) ?_
        refine va_get (D := (dC, dI)) (ci := 5) (v := .ref (a 1)) (C := "BlockRulerModel") (T := F_Model) (N := 16) hx hb hg i_Model hown hK hP 0 rfl rfl 2 (by decide) (hg _ wd217) (fun _ h9 => h9) rfl d_Model_way_63 ?_
        refine lv_iload_n hx hb d_Model_way_66 rfl (lv_at hl 1 rfl) ?_
        obtain ⟨hi13, h⟩ := gd h
        refine va_iald (f := sM_many σ) (n := 64) hx hb hK hP 1 0 (rdM_many a cs (uM_isDone (uM_thrown σ 1) 0) ((gM_many_isDone _ _).trans (gM_many_thrown _ _))) rfl hi13 d_Model_way_67 ?_
        refine lv_iadd hx hb d_Model_way_68 ?_
        refine lv_iload_n hx hb d_Model_way_69 rfl (lv_at hl 2 rfl) ?_
        obtain ⟨hi14, h⟩ := gd h
        refine va_iast (f := sM_ends σ) (n := 512) hx hb hK hP hD hS 2 1 (rdM_ends a cs (uM_isDone (uM_thrown σ 1) 0) ((gM_ends_isDone _ _).trans (gM_ends_thrown _ _))) rfl hi14 d_Model_way_70 (fun H locs hP hD hS => ?_)
        have hP := va_Pe (setM_ends a cs (uM_isDone (uM_thrown σ 1) 0) (upd (sM_ends σ) (Int32.toNatClampNeg ((8 * v1) + (sM_many σ (Int32.toNatClampNeg v1)))) v2)) hP
        have hD := va_De (setM_ends a cs (uM_isDone (uM_thrown σ 1) 0) (upd (sM_ends σ) (Int32.toNatClampNeg ((8 * v1) + (sM_many σ (Int32.toNatClampNeg v1)))) v2)) hD
        refine lv_aload_n hx hb d_Model_way_71 rfl (lv_at hl 0 rfl) ?_
        refine va_get (D := (dC, dI)) (ci := 5) (v := .ref (a 1)) (C := "BlockRulerModel") (T := F_Model) (N := 16) hx hb hg i_Model hown hK hP 0 rfl rfl 2 (by decide) (hg _ wd217) (fun _ h9 => h9) rfl d_Model_way_72 ?_
        refine lv_iload_n hx hb d_Model_way_75 rfl (lv_at hl 1 rfl) ?_
        refine lv_dup2_11 hx hb d_Model_way_76 rfl rfl ?_
        refine va_iald (f := sM_many σ) (n := 64) hx hb hK hP 1 0 (rdM_many a cs (uM_ends (uM_isDone (uM_thrown σ 1) 0) (upd (sM_ends σ) (Int32.toNatClampNeg ((8 * v1) + (sM_many σ (Int32.toNatClampNeg v1)))) v2)) ((gM_many_ends _ _).trans ((gM_many_isDone _ _).trans (gM_many_thrown _ _)))) rfl hi13 d_Model_way_77 ?_
        refine lv_iconst (v := 1) hx hb d_Model_way_78 (by decide) ?_
        refine lv_iadd hx hb d_Model_way_79 ?_
        refine va_iast (f := sM_many σ) (n := 64) hx hb hK hP hD hS 1 0 (rdM_many a cs (uM_ends (uM_isDone (uM_thrown σ 1) 0) (upd (sM_ends σ) (Int32.toNatClampNeg ((8 * v1) + (sM_many σ (Int32.toNatClampNeg v1)))) v2)) ((gM_many_ends _ _).trans ((gM_many_isDone _ _).trans (gM_many_thrown _ _)))) rfl hi13 d_Model_way_80 (fun H locs hP hD hS => ?_)
        have hP := va_Pe (setM_many a cs (uM_ends (uM_isDone (uM_thrown σ 1) 0) (upd (sM_ends σ) (Int32.toNatClampNeg ((8 * v1) + (sM_many σ (Int32.toNatClampNeg v1)))) v2)) (upd (sM_many σ) (Int32.toNatClampNeg v1) ((sM_many σ (Int32.toNatClampNeg v1)) + 1))) hP
        have hD := va_De (setM_many a cs (uM_ends (uM_isDone (uM_thrown σ 1) 0) (upd (sM_ends σ) (Int32.toNatClampNeg ((8 * v1) + (sM_many σ (Int32.toNatClampNeg v1)))) v2)) (upd (sM_many σ) (Int32.toNatClampNeg v1) ((sM_many σ (Int32.toNatClampNeg v1)) + 1))) hD
        refine lv_aload_n hx hb d_Model_way_81 rfl (lv_at hl 0 rfl) ?_
        refine va_get (D := (dC, dI)) (ci := 5) (v := .ref (a 1)) (C := "BlockRulerModel") (T := F_Model) (N := 16) hx hb hg i_Model hown hK hP 0 rfl rfl 2 (by decide) (hg _ wd217) (fun _ h9 => h9) rfl d_Model_way_82 ?_
        refine lv_iload_n hx hb d_Model_way_85 rfl (lv_at hl 1 rfl) ?_
        refine va_iald (f := upd (sM_many σ) (Int32.toNatClampNeg v1) ((sM_many σ (Int32.toNatClampNeg v1)) + 1)) (n := 64) hx hb hK hP 1 0 (rdM_many a cs (uM_many (uM_ends (uM_isDone (uM_thrown σ 1) 0) (upd (sM_ends σ) (Int32.toNatClampNeg ((8 * v1) + (sM_many σ (Int32.toNatClampNeg v1)))) v2)) (upd (sM_many σ) (Int32.toNatClampNeg v1) ((sM_many σ (Int32.toNatClampNeg v1)) + 1))) (gM_many_many _ _)) rfl hi13 d_Model_way_86 ?_
        refine lv_iconst (v := 1) hx hb d_Model_way_87 (by decide) ?_
        refine lv_isub hx hb d_Model_way_88 ?_
        exact W.iret (v := ((upd (sM_many σ) (Int32.toNatClampNeg v1) ((sM_many σ (Int32.toNatClampNeg v1)) + 1)) (Int32.toNatClampNeg v1)) - 1) hx hb hr (fun t ht hW => ⟨⟨((upd (sM_many σ) (Int32.toNatClampNeg v1) ((sM_many σ (Int32.toNatClampNeg v1)) + 1)) (Int32.toNatClampNeg v1)) - 1, uM_many (uM_ends (uM_isDone (uM_thrown σ 1) 0) (upd (sM_ends σ) (Int32.toNatClampNeg ((8 * v1) + (sM_many σ (Int32.toNatClampNeg v1)))) v2)) (upd (sM_many σ) (Int32.toNatClampNeg v1) ((sM_many σ (Int32.toNatClampNeg v1)) + 1)), rfl, Option.some.inj h, by rw [ht]; exact hP, hD⟩, hS.F ht⟩) hS.2.2 d_Model_way_89
      · have h := b_f h c12
        refine lv_iconst (v := 0) hx hb d_Model_way_47 (by decide) ?_
        exact W.iret (v := 0) hx hb hr (fun t ht hW => ⟨⟨0, uM_thrown σ 1, rfl, Option.some.inj h, by rw [ht]; exact hP, hD⟩, hS.F ht⟩) hS.2.2 d_Model_way_48
set_option maxHeartbeats 4000000 in
set_option maxRecDepth 100000 in
theorem lpW_Model_cut_57 {p : Program} {l : Launch} {e : Env} {s : State} {m : MethodId} {args : Array Value} {below : List Frame} {meth : Method} {c : Code} {Q : State → Prop} {dC : Nat → ClassId} {dI : Nat → Nat → Nat} {a : Nat → Nat} {cs : Nat → ClassId} {A : Nat → Prop} (C0 : Cx "BlockRulerModel" b_Model_cut 5 p s m args meth c) (hK : va_K (dC, dI) classes (tyM cs) s) (hN : NW s) (hA : ∀ q : Nat, s.heap.size ≤ q → A q) : ∀ (n : Nat) (σ : SM) (v1 : Int32) (v3 : Int32) (v4 : Int32) (y : Int32 × SM), lp_Model_cut_57 n σ v1 v3 v4 = some y → ∀ (H : Heap) (locs : List Loc) (ls : Array Slot), va_P (dC, dI) classes (wsM a cs σ) H → va_D A (wsM a cs σ) → va_S A s.heap H locs → lv_has ls 5 [(0, .ref (a 0)), (1, .int v1), (3, .int v3), (4, .int v4)] → (∀ (H : Heap) (locs : List Loc) (ls : Array Slot), va_P (dC, dI) classes (wsM a cs y.2) H → va_D A (wsM a cs y.2) → va_S A s.heap H locs → lv_has ls 5 [(0, .ref (a 0)), (1, .int v1), (3, .int v3), (4, .int y.1)] → W p l e (headSpec w_Model_cut rm_Model_cut).room s m args below meth c H locs 0 0 Q (F0 m 100 ls [])) → W p l e (headSpec w_Model_cut rm_Model_cut).room s m args below meth c H locs 0 0 Q (F0 m 57 ls []) := by
  have C1 := C0
  obtain ⟨hx, hb, hml, hown, hg, hlocks⟩ := C1
  intro n
  induction n with
  | zero => intro σ v1 v3 v4 y h; exact absurd (show (none : Option (Int32 × SM)) = some y from h) (fun q => by cases q)
  | succ n ih =>
    intro σ v1 v3 v4 y h H locs ls hP hD hS hl k0
    rw [lp_Model_cut_57_s] at h
    refine lv_iload hx hb d_Model_cut_57 (lv_at hl 3 rfl) ?_
    refine lv_aload_n hx hb d_Model_cut_59 rfl (lv_at hl 0 rfl) ?_
    refine va_get (D := (dC, dI)) (ci := 5) (v := .ref (a 1)) (C := "BlockRulerModel") (T := F_Model) (N := 16) hx hb hg i_Model hown hK hP 0 rfl rfl 2 (by decide) (hg _ wd217) (fun _ h9 => h9) rfl d_Model_cut_60 ?_
    refine lv_iload_n hx hb d_Model_cut_63 rfl (lv_at hl 1 rfl) ?_
    obtain ⟨hi7, h⟩ := gd h
    refine va_iald (f := sM_many σ) (n := 64) hx hb hK hP 1 0 rfl rfl hi7 d_Model_cut_64 ?_
    refine lv_icmp_ge (tgt := 100) hx hb d_Model_cut_65 (by decide) (fun c8 => ?_) (fun c8 => ?_)
    · have h := b_t h c8
      obtain rfl := Option.some.inj h
      exact k0 _ _ ls hP hD hS (lv_sub hl [0, 1, 2, 3] rfl)
    · have h := b_f h c8
      refine lv_aload_n hx hb d_Model_cut_68 rfl (lv_at hl 0 rfl) ?_
      refine va_get (D := (dC, dI)) (ci := 5) (v := .ref (a 2)) (C := "BlockRulerModel") (T := F_Model) (N := 16) hx hb hg i_Model hown hK hP 0 rfl rfl 3 (by decide) (hg _ wd219) (fun _ h9 => h9) rfl d_Model_cut_69 ?_
      refine lv_bipush (v := 8) hx hb d_Model_cut_72 (by decide) ?_
      refine lv_iload_n hx hb d_Model_cut_74 rfl (lv_at hl 1 rfl) ?_
      refine lv_imul hx hb d_Model_cut_75 ?_
      refine lv_iload hx hb d_Model_cut_76 (lv_at hl 3 rfl) ?_
      refine lv_iadd hx hb d_Model_cut_78 ?_
      refine lv_aload_n hx hb d_Model_cut_79 rfl (lv_at hl 0 rfl) ?_
      refine va_get (D := (dC, dI)) (ci := 5) (v := .ref (a 2)) (C := "BlockRulerModel") (T := F_Model) (N := 16) hx hb hg i_Model hown hK hP 0 rfl rfl 3 (by decide) (hg _ wd219) (fun _ h9 => h9) rfl d_Model_cut_80 ?_
      refine lv_bipush (v := 8) hx hb d_Model_cut_83 (by decide) ?_
      refine lv_iload_n hx hb d_Model_cut_85 rfl (lv_at hl 1 rfl) ?_
      refine lv_imul hx hb d_Model_cut_86 ?_
      refine lv_iload hx hb d_Model_cut_87 (lv_at hl 3 rfl) ?_
      refine lv_iadd hx hb d_Model_cut_89 ?_
      refine lv_iconst (v := 1) hx hb d_Model_cut_90 (by decide) ?_
      refine lv_iadd hx hb d_Model_cut_91 ?_
      obtain ⟨hi9, h⟩ := gd h
      refine va_iald (f := sM_ends σ) (n := 512) hx hb hK hP 2 1 rfl rfl hi9 d_Model_cut_92 ?_
      obtain ⟨hi10, h⟩ := gd h
      refine va_iast (f := sM_ends σ) (n := 512) hx hb hK hP hD hS 2 1 rfl rfl hi10 d_Model_cut_93 (fun H locs hP hD hS => ?_)
      have hP := va_Pe (setM_ends a cs σ (upd (sM_ends σ) (Int32.toNatClampNeg ((8 * v1) + v4)) (sM_ends σ (Int32.toNatClampNeg (((8 * v1) + v4) + 1))))) hP
      have hD := va_De (setM_ends a cs σ (upd (sM_ends σ) (Int32.toNatClampNeg ((8 * v1) + v4)) (sM_ends σ (Int32.toNatClampNeg (((8 * v1) + v4) + 1))))) hD
      refine lv_iinc (v := v4 + 1) (lv' := [(4, .int (v4 + 1)), (0, .ref (a 0)), (1, .int v1), (3, .int v3)]) hx hb d_Model_cut_94 hl (k := 3) rfl rfl (by decide) rfl (fun ls hl => ?_)
      refine lv_goto (tgt := 57) hx hb d_Model_cut_97 (by decide) ?_
      exact ih (uM_ends σ (upd (sM_ends σ) (Int32.toNatClampNeg ((8 * v1) + v4)) (sM_ends σ (Int32.toNatClampNeg (((8 * v1) + v4) + 1))))) v1 v3 (v4 + 1) y h _ _ ls hP hD hS (lv_sub hl [1, 2, 3, 0] rfl) k0
set_option maxHeartbeats 4000000 in
set_option maxRecDepth 100000 in
theorem c_Model_cut (l : Launch) (dC : Nat → ClassId) (dI : Nat → Nat → Nat) (a : Nat → Nat) (cs : Nat → ClassId) (sz : Nat) (σ : SM) (v1 : Int32) (v2 : Int32) (r : Int32 × SM) (h : f_Model_cut σ v1 v2 = some r) : Met l y_Model_cut w_Model_cut rm_Model_cut (va_Pc [.ref (a 0), .int v1, .int v2] (fun U => U.heap.size = sz ∧ WDM dC dI a cs σ U)) (va_Qi (fun (x : Int32) (u : SM) => (x, u) = r) (atM dC dI a cs (va_A (wsM a cs σ) sz)) (va_A (wsM a cs σ) sz)) 0 0 (va_A (wsM a cs σ) sz) := by
  refine Met.ofW (cc := b_Model_cut) (maxL := 5) (ret := (some .int)) (by decide) rfl ?_
  intro p e s m args below meth c s₁ B hml hv
  obtain ⟨rfl, hsz, hP, hK, hN, hD0⟩ := hv
  have hx := B.exec
  have hb := B.bytes
  have hr := B.returns
  have hg : ∀ w ∈ G_, w.before _ s = true := fun w hw => atoms_spec (ws := w_Model_cut) B.pre w (List.mem_cons_of_mem _ hw)
  have hown : s.vm.findClass "BlockRulerModel" = some m.cls := findClass_of_methodNamed B.named
  have hlocks := B.notSynchronized
  have C0 : Cx "BlockRulerModel" b_Model_cut 5 p s m _ meth c := ⟨hx, hb, hml, hown, hg, hlocks⟩
  subst hsz
  have hD := hD0.self (sz := s.heap.size)
  generalize hAe : va_A (wsM a cs σ) s.heap.size = A at hD ⊢
  have hA : ∀ q : Nat, s.heap.size ≤ q → A q := fun q h => by rw [← hAe]; exact Or.inr h
  have hS : va_S A s.heap s.heap [] := va_S.rf
  have hl := lv_entry ([.ref (a 0), .int v1, .int v2]) (n := 5) (Nat.le_of_ble_eq_true rfl)
  rw [lg_entry_eq]
  generalize (lg_sl ([.ref (a 0), .int v1, .int v2]) ++ List.replicate (5 - (lg_sl ([.ref (a 0), .int v1, .int v2])).length) Slot.unset).toArray = ls at hl ⊢
  have hl : lv_has ls 5 [(0, .ref (a 0)), (1, .int v1), (2, .int v2)] := hl
  unfold f_Model_cut at h
  refine lv_aload_n hx hb d_Model_cut_0 rfl (lv_at hl 0 rfl) ?_
  refine lv_aload_n hx hb d_Model_cut_1 rfl (lv_at hl 0 rfl) ?_
  refine lv_iload_n hx hb d_Model_cut_2 rfl (lv_at hl 1 rfl) ?_
  refine lv_iload_n hx hb d_Model_cut_3 rfl (lv_at hl 2 rfl) ?_
  obtain ⟨r1, hr1, h⟩ := bd h
  refine ro_call (v := .int r1) (va_runV (C := "BlockRulerModel") (As := [.int v1, .int v2]) (rest := [.ref (a 0)]) ⟨hx, hb, hml, hown, hg⟩ (c_Model_isWay l dC dI a cs σ v1 v2 _ hr1) (cwV 2 hg (gdV wd222 wd221 wd220 wd215 wd223) rfl rfl rfl (by decide +kernel) ⟨Nat.le_of_ble_eq_true rfl, Nat.le_of_ble_eq_true rfl⟩) ⟨wb_blind, va_recv hK hP (ci := 5) (q0 := 0) rfl rfl, fun U hU hW => ⟨rfl, wb_pre hU hW hP hK hN⟩⟩ rfl rfl hl.1 rfl (lv_room (Nat.le_of_ble_eq_true rfl)) d_Model_cut_4 ⟨Nat.zero_le _, Nat.zero_le _⟩) ?_
  refine lv_if_eq (tgt := 14) hx hb d_Model_cut_7 (by decide) (fun c2 => ?_) (fun c2 => ?_)
  · have h := b_t h c2
    refine lv_iconst (v := 1) hx hb d_Model_cut_14 (by decide) ?_
    refine va_put (D := (dC, dI)) (ci := 5) (v := .int 1) (ty := .int) (C := "BlockRulerModel") (T := F_Model) (N := 16) hx hb hg i_Model t_Model t_Model_ok n_Model hown hK hP hD hS 0 rfl rfl 0 (by decide) (hg _ wd210) (fun _ h9 => h9) rfl (by decide +kernel) rfl rfl (Nat.le_of_ble_eq_true rfl) d_Model_cut_15 (fun H locs hP hD hS => ?_)
    have hP := va_Pe (setM_thrown a cs σ 1) hP
    have hD := va_De (setM_thrown a cs σ 1) hD
    refine lv_aload_n hx hb d_Model_cut_18 rfl (lv_at hl 0 rfl) ?_
    refine va_get (D := (dC, dI)) (ci := 5) (v := .int 1) (C := "BlockRulerModel") (T := F_Model) (N := 16) hx hb hg i_Model hown hK hP 0 rfl rfl 0 (by decide) (hg _ wd210) (fun _ h9 => h9) (rfM_thrown a cs (uM_thrown σ 1) (gM_thrown_thrown _ _)) d_Model_cut_19 ?_
    refine lv_if_le (tgt := 27) hx hb d_Model_cut_22 (by decide) (fun c3 => ?_) (fun c3 => ?_)
    · have h := b_t h c3
      refine lv_aload_n hx hb d_Model_cut_27 rfl (lv_at hl 0 rfl) ?_
      refine lv_iconst (v := 0) hx hb d_Model_cut_28 (by decide) ?_
      refine va_put (D := (dC, dI)) (ci := 5) (v := .int 0) (ty := .boolean) (C := "BlockRulerModel") (T := F_Model) (N := 16) hx hb hg i_Model t_Model t_Model_ok n_Model hown hK hP hD hS 0 rfl rfl 4 (by decide) (hg _ wd218) (fun _ h9 => h9) rfl (by decide +kernel) rfl rfl (Nat.le_of_ble_eq_true rfl) d_Model_cut_29 (fun H locs hP hD hS => ?_)
      have hP := va_Pe (setM_isDone a cs (uM_thrown σ 1) 0) hP
      have hD := va_De (setM_isDone a cs (uM_thrown σ 1) 0) hD
      refine lv_aload_n hx hb d_Model_cut_32 rfl (lv_at hl 0 rfl) ?_
      refine va_get (D := (dC, dI)) (ci := 5) (v := .ref (a 2)) (C := "BlockRulerModel") (T := F_Model) (N := 16) hx hb hg i_Model hown hK hP 0 rfl rfl 3 (by decide) (hg _ wd219) (fun _ h9 => h9) rfl d_Model_cut_33 ?_
      refine lv_bipush (v := 8) hx hb d_Model_cut_36 (by decide) ?_
      refine lv_iload_n hx hb d_Model_cut_38 rfl (lv_at hl 1 rfl) ?_
      refine lv_imul hx hb d_Model_cut_39 ?_
      refine lv_iload_n hx hb d_Model_cut_40 rfl (lv_at hl 2 rfl) ?_
      refine lv_iadd hx hb d_Model_cut_41 ?_
      obtain ⟨hi4, h⟩ := gd h
      refine va_iald (f := sM_ends σ) (n := 512) hx hb hK hP 2 1 (rdM_ends a cs (uM_isDone (uM_thrown σ 1) 0) ((gM_ends_isDone _ _).trans (gM_ends_thrown _ _))) rfl hi4 d_Model_cut_42 ?_
      refine lv_topi (fun x5 ex5 => ?_)
      have h := lt_ h x5 ex5
      refine lv_istore_n (lv' := [(3, .int x5), (0, .ref (a 0)), (1, .int v1), (2, .int v2)]) hx hb d_Model_cut_43 rfl hl (by decide) rfl (fun ls hl => ?_)
      refine lv_aload_n hx hb d_Model_cut_44 rfl (lv_at hl 1 rfl) ?_
      refine va_get (D := (dC, dI)) (ci := 5) (v := .ref (a 1)) (C := "BlockRulerModel") (T := F_Model) (N := 16) hx hb hg i_Model hown hK hP 0 rfl rfl 2 (by decide) (hg _ wd217) (fun _ h9 => h9) rfl d_Model_cut_45 ?_
      refine lv_iload_n hx hb d_Model_cut_48 rfl (lv_at hl 2 rfl) ?_
      refine lv_dup2_11 hx hb d_Model_cut_49 rfl rfl ?_
      obtain ⟨hi6, h⟩ := gd h
      refine va_iald (f := sM_many σ) (n := 64) hx hb hK hP 1 0 (rdM_many a cs (uM_isDone (uM_thrown σ 1) 0) ((gM_many_isDone _ _).trans (gM_many_thrown _ _))) rfl hi6 d_Model_cut_50 ?_
      refine lv_iconst (v := 1) hx hb d_Model_cut_51 (by decide) ?_
      refine lv_isub hx hb d_Model_cut_52 ?_
      refine va_iast (f := sM_many σ) (n := 64) hx hb hK hP hD hS 1 0 (rdM_many a cs (uM_isDone (uM_thrown σ 1) 0) ((gM_many_isDone _ _).trans (gM_many_thrown _ _))) rfl hi6 d_Model_cut_53 (fun H locs hP hD hS => ?_)
      have hP := va_Pe (setM_many a cs (uM_isDone (uM_thrown σ 1) 0) (upd (sM_many σ) (Int32.toNatClampNeg v1) ((sM_many σ (Int32.toNatClampNeg v1)) - 1))) hP
      have hD := va_De (setM_many a cs (uM_isDone (uM_thrown σ 1) 0) (upd (sM_many σ) (Int32.toNatClampNeg v1) ((sM_many σ (Int32.toNatClampNeg v1)) - 1))) hD
      refine lv_iload_n hx hb d_Model_cut_54 rfl (lv_at hl 3 rfl) ?_
      refine lv_istore (lv' := [(4, .int v2), (3, .int x5), (0, .ref (a 0)), (1, .int v1), (2, .int v2)]) hx hb d_Model_cut_55 hl (by decide) rfl (fun ls hl => ?_)
      obtain ⟨y11, hy11, h⟩ := bd h
      refine lpW_Model_cut_57 C0 hK hN hA 100 (uM_many (uM_isDone (uM_thrown σ 1) 0) (upd (sM_many σ) (Int32.toNatClampNeg v1) ((sM_many σ (Int32.toNatClampNeg v1)) - 1))) v1 x5 v2 y11 hy11 _ _ ls hP hD hS (lv_sub hl [2, 3, 1, 0] rfl) (fun H locs ls hP hD hS hl => ?_)
      refine lv_iload_n hx hb d_Model_cut_100 rfl (lv_at hl 2 rfl) ?_
      exact W.iret (v := x5) hx hb hr (fun t ht hW => ⟨⟨x5, y11.2, rfl, Option.some.inj h, by rw [ht]; exact hP, hD⟩, hS.F ht⟩) hS.2.2 d_Model_cut_101
    · have h := b_f h c3
      refine lv_iconst (v := 0) hx hb d_Model_cut_25 (by decide) ?_
      exact W.iret (v := 0) hx hb hr (fun t ht hW => ⟨⟨0, uM_thrown σ 1, rfl, Option.some.inj h, by rw [ht]; exact hP, hD⟩, hS.F ht⟩) hS.2.2 d_Model_cut_26
  · have h := b_f h c2
    refine lv_iconst (v := 0) hx hb d_Model_cut_10 (by decide) ?_
    refine lv_goto (tgt := 15) hx hb d_Model_cut_11 (by decide) ?_
    refine va_put (D := (dC, dI)) (ci := 5) (v := .int 0) (ty := .int) (C := "BlockRulerModel") (T := F_Model) (N := 16) hx hb hg i_Model t_Model t_Model_ok n_Model hown hK hP hD hS 0 rfl rfl 0 (by decide) (hg _ wd210) (fun _ h9 => h9) rfl (by decide +kernel) rfl rfl (Nat.le_of_ble_eq_true rfl) d_Model_cut_15 (fun H locs hP hD hS => ?_)
    have hP := va_Pe (setM_thrown a cs σ 0) hP
    have hD := va_De (setM_thrown a cs σ 0) hD
    refine lv_aload_n hx hb d_Model_cut_18 rfl (lv_at hl 0 rfl) ?_
    refine va_get (D := (dC, dI)) (ci := 5) (v := .int 0) (C := "BlockRulerModel") (T := F_Model) (N := 16) hx hb hg i_Model hown hK hP 0 rfl rfl 0 (by decide) (hg _ wd210) (fun _ h9 => h9) (rfM_thrown a cs (uM_thrown σ 0) (gM_thrown_thrown _ _)) d_Model_cut_19 ?_
    refine lv_if_le (tgt := 27) hx hb d_Model_cut_22 (by decide) (fun c12 => ?_) (fun c12 => ?_)
    · have h := b_t h c12
      refine lv_aload_n hx hb d_Model_cut_27 rfl (lv_at hl 0 rfl) ?_
      refine lv_iconst (v := 0) hx hb d_Model_cut_28 (by decide) ?_
      refine va_put (D := (dC, dI)) (ci := 5) (v := .int 0) (ty := .boolean) (C := "BlockRulerModel") (T := F_Model) (N := 16) hx hb hg i_Model t_Model t_Model_ok n_Model hown hK hP hD hS 0 rfl rfl 4 (by decide) (hg _ wd218) (fun _ h9 => h9) rfl (by decide +kernel) rfl rfl (Nat.le_of_ble_eq_true rfl) d_Model_cut_29 (fun H locs hP hD hS => ?_)
      have hP := va_Pe (setM_isDone a cs (uM_thrown σ 0) 0) hP
      have hD := va_De (setM_isDone a cs (uM_thrown σ 0) 0) hD
      refine lv_aload_n hx hb d_Model_cut_32 rfl (lv_at hl 0 rfl) ?_
      refine va_get (D := (dC, dI)) (ci := 5) (v := .ref (a 2)) (C := "BlockRulerModel") (T := F_Model) (N := 16) hx hb hg i_Model hown hK hP 0 rfl rfl 3 (by decide) (hg _ wd219) (fun _ h9 => h9) rfl d_Model_cut_33 ?_
      refine lv_bipush (v := 8) hx hb d_Model_cut_36 (by decide) ?_
      refine lv_iload_n hx hb d_Model_cut_38 rfl (lv_at hl 1 rfl) ?_
      refine lv_imul hx hb d_Model_cut_39 ?_
      refine lv_iload_n hx hb d_Model_cut_40 rfl (lv_at hl 2 rfl) ?_
      refine lv_iadd hx hb d_Model_cut_41 ?_
      obtain ⟨hi13, h⟩ := gd h
      refine va_iald (f := sM_ends σ) (n := 512) hx hb hK hP 2 1 (rdM_ends a cs (uM_isDone (uM_thrown σ 0) 0) ((gM_ends_isDone _ _).trans (gM_ends_thrown _ _))) rfl hi13 d_Model_cut_42 ?_
      refine lv_topi (fun x14 ex14 => ?_)
      have h := lt_ h x14 ex14
      refine lv_istore_n (lv' := [(3, .int x14), (0, .ref (a 0)), (1, .int v1), (2, .int v2)]) hx hb d_Model_cut_43 rfl hl (by decide) rfl (fun ls hl => ?_)
      refine lv_aload_n hx hb d_Model_cut_44 rfl (lv_at hl 1 rfl) ?_
      refine va_get (D := (dC, dI)) (ci := 5) (v := .ref (a 1)) (C := "BlockRulerModel") (T := F_Model) (N := 16) hx hb hg i_Model hown hK hP 0 rfl rfl 2 (by decide) (hg _ wd217) (fun _ h9 => h9) rfl d_Model_cut_45 ?_
      refine lv_iload_n hx hb d_Model_cut_48 rfl (lv_at hl 2 rfl) ?_
      refine lv_dup2_11 hx hb d_Model_cut_49 rfl rfl ?_
      obtain ⟨hi15, h⟩ := gd h
      refine va_iald (f := sM_many σ) (n := 64) hx hb hK hP 1 0 (rdM_many a cs (uM_isDone (uM_thrown σ 0) 0) ((gM_many_isDone _ _).trans (gM_many_thrown _ _))) rfl hi15 d_Model_cut_50 ?_
      refine lv_iconst (v := 1) hx hb d_Model_cut_51 (by decide) ?_
      refine lv_isub hx hb d_Model_cut_52 ?_
      refine va_iast (f := sM_many σ) (n := 64) hx hb hK hP hD hS 1 0 (rdM_many a cs (uM_isDone (uM_thrown σ 0) 0) ((gM_many_isDone _ _).trans (gM_many_thrown _ _))) rfl hi15 d_Model_cut_53 (fun H locs hP hD hS => ?_)
      have hP := va_Pe (setM_many a cs (uM_isDone (uM_thrown σ 0) 0) (upd (sM_many σ) (Int32.toNatClampNeg v1) ((sM_many σ (Int32.toNatClampNeg v1)) - 1))) hP
      have hD := va_De (setM_many a cs (uM_isDone (uM_thrown σ 0) 0) (upd (sM_many σ) (Int32.toNatClampNeg v1) ((sM_many σ (Int32.toNatClampNeg v1)) - 1))) hD
      refine lv_iload_n hx hb d_Model_cut_54 rfl (lv_at hl 3 rfl) ?_
      refine lv_istore (lv' := [(4, .int v2), (3, .int x14), (0, .ref (a 0)), (1, .int v1), (2, .int v2)]) hx hb d_Model_cut_55 hl (by decide) rfl (fun ls hl => ?_)
      obtain ⟨y16, hy16, h⟩ := bd h
      refine lpW_Model_cut_57 C0 hK hN hA 100 (uM_many (uM_isDone (uM_thrown σ 0) 0) (upd (sM_many σ) (Int32.toNatClampNeg v1) ((sM_many σ (Int32.toNatClampNeg v1)) - 1))) v1 x14 v2 y16 hy16 _ _ ls hP hD hS (lv_sub hl [2, 3, 1, 0] rfl) (fun H locs ls hP hD hS hl => ?_)
      refine lv_iload_n hx hb d_Model_cut_100 rfl (lv_at hl 2 rfl) ?_
      exact W.iret (v := x14) hx hb hr (fun t ht hW => ⟨⟨x14, y16.2, rfl, Option.some.inj h, by rw [ht]; exact hP, hD⟩, hS.F ht⟩) hS.2.2 d_Model_cut_101
    · have h := b_f h c12
      refine lv_iconst (v := 0) hx hb d_Model_cut_25 (by decide) ?_
      exact W.iret (v := 0) hx hb hr (fun t ht hW => ⟨⟨0, uM_thrown σ 0, rfl, Option.some.inj h, by rw [ht]; exact hP, hD⟩, hS.F ht⟩) hS.2.2 d_Model_cut_26
set_option maxHeartbeats 4000000 in
set_option maxRecDepth 100000 in
theorem c_Model_turn (l : Launch) (dC : Nat → ClassId) (dI : Nat → Nat → Nat) (a : Nat → Nat) (cs : Nat → ClassId) (sz : Nat) (σ : SM) (v1 : Int32) (v2 : Int32) (v3 : Int32) (r : Int32 × SM) (h : f_Model_turn σ v1 v2 v3 = some r) : Met l y_Model_turn w_Model_turn rm_Model_turn (va_Pc [.ref (a 0), .int v1, .int v2, .int v3] (fun U => U.heap.size = sz ∧ WDM dC dI a cs σ U)) (va_Qi (fun (x : Int32) (u : SM) => (x, u) = r) (atM dC dI a cs (va_A (wsM a cs σ) sz)) (va_A (wsM a cs σ) sz)) 0 0 (va_A (wsM a cs σ) sz) := by
  refine Met.ofW (cc := b_Model_turn) (maxL := 5) (ret := (some .int)) (by decide) rfl ?_
  intro p e s m args below meth c s₁ B hml hv
  obtain ⟨rfl, hsz, hP, hK, hN, hD0⟩ := hv
  have hx := B.exec
  have hb := B.bytes
  have hr := B.returns
  have hg : ∀ w ∈ G_, w.before _ s = true := fun w hw => atoms_spec (ws := w_Model_turn) B.pre w (List.mem_cons_of_mem _ hw)
  have hown : s.vm.findClass "BlockRulerModel" = some m.cls := findClass_of_methodNamed B.named
  have hlocks := B.notSynchronized
  have C0 : Cx "BlockRulerModel" b_Model_turn 5 p s m _ meth c := ⟨hx, hb, hml, hown, hg, hlocks⟩
  subst hsz
  have hD := hD0.self (sz := s.heap.size)
  generalize hAe : va_A (wsM a cs σ) s.heap.size = A at hD ⊢
  have hA : ∀ q : Nat, s.heap.size ≤ q → A q := fun q h => by rw [← hAe]; exact Or.inr h
  have hS : va_S A s.heap s.heap [] := va_S.rf
  have hl := lv_entry ([.ref (a 0), .int v1, .int v2, .int v3]) (n := 5) (Nat.le_of_ble_eq_true rfl)
  rw [lg_entry_eq]
  generalize (lg_sl ([.ref (a 0), .int v1, .int v2, .int v3]) ++ List.replicate (5 - (lg_sl ([.ref (a 0), .int v1, .int v2, .int v3])).length) Slot.unset).toArray = ls at hl ⊢
  have hl : lv_has ls 5 [(0, .ref (a 0)), (1, .int v1), (2, .int v2), (3, .int v3)] := hl
  unfold f_Model_turn at h
  refine lv_aload_n hx hb d_Model_turn_0 rfl (lv_at hl 0 rfl) ?_
  refine lv_aload_n hx hb d_Model_turn_1 rfl (lv_at hl 0 rfl) ?_
  refine lv_iload_n hx hb d_Model_turn_2 rfl (lv_at hl 1 rfl) ?_
  refine lv_iload_n hx hb d_Model_turn_3 rfl (lv_at hl 2 rfl) ?_
  obtain ⟨r1, hr1, h⟩ := bd h
  refine ro_call (v := .int r1) (va_runV (C := "BlockRulerModel") (As := [.int v1, .int v2]) (rest := [.ref (a 0)]) ⟨hx, hb, hml, hown, hg⟩ (c_Model_isWay l dC dI a cs σ v1 v2 _ hr1) (cwV 2 hg (gdV wd222 wd221 wd220 wd215 wd223) rfl rfl rfl (by decide +kernel) ⟨Nat.le_of_ble_eq_true rfl, Nat.le_of_ble_eq_true rfl⟩) ⟨wb_blind, va_recv hK hP (ci := 5) (q0 := 0) rfl rfl, fun U hU hW => ⟨rfl, wb_pre hU hW hP hK hN⟩⟩ rfl rfl hl.1 rfl (lv_room (Nat.le_of_ble_eq_true rfl)) d_Model_turn_4 ⟨Nat.zero_le _, Nat.zero_le _⟩) ?_
  refine lv_if_ne (tgt := 14) hx hb d_Model_turn_7 (by decide) (fun c2 => ?_) (fun c2 => ?_)
  · have h := b_f h c2
    refine lv_aload_n hx hb d_Model_turn_14 rfl (lv_at hl 0 rfl) ?_
    refine lv_iload_n hx hb d_Model_turn_15 rfl (lv_at hl 3 rfl) ?_
    refine ro_call (v := .int (f_Model_isBlock σ v3)) (va_runV (C := "BlockRulerModel") (As := [.int v3]) (rest := [.ref (a 0)]) ⟨hx, hb, hml, hown, hg⟩ (c_Model_isBlock l dC dI a cs σ v3 _ rfl) (cwV 1 hg (gdV wd214 wd213 wd212 wd215 wd216) rfl rfl rfl (by decide +kernel) ⟨Nat.le_of_ble_eq_true rfl, Nat.le_of_ble_eq_true rfl⟩) ⟨wb_blind, va_recv hK hP (ci := 5) (q0 := 0) rfl rfl, fun U hU hW => ⟨rfl, wb_pre hU hW hP hK hN⟩⟩ rfl rfl hl.1 rfl (lv_room (Nat.le_of_ble_eq_true rfl)) d_Model_turn_16 ⟨Nat.zero_le _, Nat.zero_le _⟩) ?_
    refine lv_if_ne (tgt := 26) hx hb d_Model_turn_19 (by decide) (fun c3 => ?_) (fun c3 => ?_)
    · have h := b_f h c3
      refine lv_iconst (v := 0) hx hb d_Model_turn_26 (by decide) ?_
      refine va_put (D := (dC, dI)) (ci := 5) (v := .int 0) (ty := .int) (C := "BlockRulerModel") (T := F_Model) (N := 16) hx hb hg i_Model t_Model t_Model_ok n_Model hown hK hP hD hS 0 rfl rfl 0 (by decide) (hg _ wd210) (fun _ h9 => h9) rfl (by decide +kernel) rfl rfl (Nat.le_of_ble_eq_true rfl) d_Model_turn_27 (fun H locs hP hD hS => ?_)
      have hP := va_Pe (setM_thrown a cs σ 0) hP
      have hD := va_De (setM_thrown a cs σ 0) hD
      refine lv_aload_n hx hb d_Model_turn_30 rfl (lv_at hl 0 rfl) ?_
      refine va_get (D := (dC, dI)) (ci := 5) (v := .int 0) (C := "BlockRulerModel") (T := F_Model) (N := 16) hx hb hg i_Model hown hK hP 0 rfl rfl 0 (by decide) (hg _ wd210) (fun _ h9 => h9) (rfM_thrown a cs (uM_thrown σ 0) (gM_thrown_thrown _ _)) d_Model_turn_31 ?_
      refine lv_if_le (tgt := 39) hx hb d_Model_turn_34 (by decide) (fun c4 => ?_) (fun c4 => ?_)
      · have h := b_t h c4
        refine lv_aload_n hx hb d_Model_turn_39 rfl (lv_at hl 0 rfl) ?_
        refine lv_iconst (v := 0) hx hb d_Model_turn_40 (by decide) ?_
        refine va_put (D := (dC, dI)) (ci := 5) (v := .int 0) (ty := .boolean) (C := "BlockRulerModel") (T := F_Model) (N := 16) hx hb hg i_Model t_Model t_Model_ok n_Model hown hK hP hD hS 0 rfl rfl 4 (by decide) (hg _ wd218) (fun _ h9 => h9) rfl (by decide +kernel) rfl rfl (Nat.le_of_ble_eq_true rfl) d_Model_turn_41 (fun H locs hP hD hS => ?_)
        have hP := va_Pe (setM_isDone a cs (uM_thrown σ 0) 0) hP
        have hD := va_De (setM_isDone a cs (uM_thrown σ 0) 0) hD
        refine lv_aload_n hx hb d_Model_turn_44 rfl (lv_at hl 0 rfl) ?_
        refine va_get (D := (dC, dI)) (ci := 5) (v := .ref (a 2)) (C := "BlockRulerModel") (T := F_Model) (N := 16) hx hb hg i_Model hown hK hP 0 rfl rfl 3 (by decide) (hg _ wd219) (fun _ h9 => h9) rfl d_Model_turn_45 ?_
        refine lv_bipush (v := 8) hx hb d_Model_turn_48 (by decide) ?_
        refine lv_iload_n hx hb d_Model_turn_50 rfl (lv_at hl 1 rfl) ?_
        refine lv_imul hx hb d_Model_turn_51 ?_
        refine lv_iload_n hx hb d_Model_turn_52 rfl (lv_at hl 2 rfl) ?_
        refine lv_iadd hx hb d_Model_turn_53 ?_
        obtain ⟨hi5, h⟩ := gd h
        refine va_iald (f := sM_ends σ) (n := 512) hx hb hK hP 2 1 (rdM_ends a cs (uM_isDone (uM_thrown σ 0) 0) ((gM_ends_isDone _ _).trans (gM_ends_thrown _ _))) rfl hi5 d_Model_turn_54 ?_
        refine lv_topi (fun x6 ex6 => ?_)
        have h := lt_ h x6 ex6
        refine lv_istore (lv' := [(4, .int x6), (0, .ref (a 0)), (1, .int v1), (2, .int v2), (3, .int v3)]) hx hb d_Model_turn_55 hl (by decide) rfl (fun ls hl => ?_)
        refine lv_aload_n hx hb d_Model_turn_57 rfl (lv_at hl 1 rfl) ?_
        refine va_get (D := (dC, dI)) (ci := 5) (v := .ref (a 2)) (C := "BlockRulerModel") (T := F_Model) (N := 16) hx hb hg i_Model hown hK hP 0 rfl rfl 3 (by decide) (hg _ wd219) (fun _ h9 => h9) rfl d_Model_turn_58 ?_
        refine lv_bipush (v := 8) hx hb d_Model_turn_61 (by decide) ?_
        refine lv_iload_n hx hb d_Model_turn_63 rfl (lv_at hl 2 rfl) ?_
        refine lv_imul hx hb d_Model_turn_64 ?_
        refine lv_iload_n hx hb d_Model_turn_65 rfl (lv_at hl 3 rfl) ?_
        refine lv_iadd hx hb d_Model_turn_66 ?_
        refine lv_iload_n hx hb d_Model_turn_67 rfl (lv_at hl 4 rfl) ?_
        refine va_iast (f := sM_ends σ) (n := 512) hx hb hK hP hD hS 2 1 (rdM_ends a cs (uM_isDone (uM_thrown σ 0) 0) ((gM_ends_isDone _ _).trans (gM_ends_thrown _ _))) rfl hi5 d_Model_turn_68 (fun H locs hP hD hS => ?_)
        have hP := va_Pe (setM_ends a cs (uM_isDone (uM_thrown σ 0) 0) (upd (sM_ends σ) (Int32.toNatClampNeg ((8 * v1) + v2)) v3)) hP
        have hD := va_De (setM_ends a cs (uM_isDone (uM_thrown σ 0) 0) (upd (sM_ends σ) (Int32.toNatClampNeg ((8 * v1) + v2)) v3)) hD
        refine lv_iload hx hb d_Model_turn_69 (lv_at hl 0 rfl) ?_
        exact W.iret (v := x6) hx hb hr (fun t ht hW => ⟨⟨x6, uM_ends (uM_isDone (uM_thrown σ 0) 0) (upd (sM_ends σ) (Int32.toNatClampNeg ((8 * v1) + v2)) v3), rfl, Option.some.inj h, by rw [ht]; exact hP, hD⟩, hS.F ht⟩) hS.2.2 d_Model_turn_71
      · have h := b_f h c4
        refine lv_iconst (v := 0) hx hb d_Model_turn_37 (by decide) ?_
        exact W.iret (v := 0) hx hb hr (fun t ht hW => ⟨⟨0, uM_thrown σ 0, rfl, Option.some.inj h, by rw [ht]; exact hP, hD⟩, hS.F ht⟩) hS.2.2 d_Model_turn_38
    · have h := b_t h c3
      refine lv_iconst (v := 2) hx hb d_Model_turn_22 (by decide) ?_
      refine lv_goto (tgt := 27) hx hb d_Model_turn_23 (by decide) ?_
      refine va_put (D := (dC, dI)) (ci := 5) (v := .int 2) (ty := .int) (C := "BlockRulerModel") (T := F_Model) (N := 16) hx hb hg i_Model t_Model t_Model_ok n_Model hown hK hP hD hS 0 rfl rfl 0 (by decide) (hg _ wd210) (fun _ h9 => h9) rfl (by decide +kernel) rfl rfl (Nat.le_of_ble_eq_true rfl) d_Model_turn_27 (fun H locs hP hD hS => ?_)
      have hP := va_Pe (setM_thrown a cs σ 2) hP
      have hD := va_De (setM_thrown a cs σ 2) hD
      refine lv_aload_n hx hb d_Model_turn_30 rfl (lv_at hl 0 rfl) ?_
      refine va_get (D := (dC, dI)) (ci := 5) (v := .int 2) (C := "BlockRulerModel") (T := F_Model) (N := 16) hx hb hg i_Model hown hK hP 0 rfl rfl 0 (by decide) (hg _ wd210) (fun _ h9 => h9) (rfM_thrown a cs (uM_thrown σ 2) (gM_thrown_thrown _ _)) d_Model_turn_31 ?_
      refine lv_if_le (tgt := 39) hx hb d_Model_turn_34 (by decide) (fun c7 => ?_) (fun c7 => ?_)
      · have h := b_t h c7
        refine lv_aload_n hx hb d_Model_turn_39 rfl (lv_at hl 0 rfl) ?_
        refine lv_iconst (v := 0) hx hb d_Model_turn_40 (by decide) ?_
        refine va_put (D := (dC, dI)) (ci := 5) (v := .int 0) (ty := .boolean) (C := "BlockRulerModel") (T := F_Model) (N := 16) hx hb hg i_Model t_Model t_Model_ok n_Model hown hK hP hD hS 0 rfl rfl 4 (by decide) (hg _ wd218) (fun _ h9 => h9) rfl (by decide +kernel) rfl rfl (Nat.le_of_ble_eq_true rfl) d_Model_turn_41 (fun H locs hP hD hS => ?_)
        have hP := va_Pe (setM_isDone a cs (uM_thrown σ 2) 0) hP
        have hD := va_De (setM_isDone a cs (uM_thrown σ 2) 0) hD
        refine lv_aload_n hx hb d_Model_turn_44 rfl (lv_at hl 0 rfl) ?_
        refine va_get (D := (dC, dI)) (ci := 5) (v := .ref (a 2)) (C := "BlockRulerModel") (T := F_Model) (N := 16) hx hb hg i_Model hown hK hP 0 rfl rfl 3 (by decide) (hg _ wd219) (fun _ h9 => h9) rfl d_Model_turn_45 ?_
        refine lv_bipush (v := 8) hx hb d_Model_turn_48 (by decide) ?_
        refine lv_iload_n hx hb d_Model_turn_50 rfl (lv_at hl 1 rfl) ?_
        refine lv_imul hx hb d_Model_turn_51 ?_
        refine lv_iload_n hx hb d_Model_turn_52 rfl (lv_at hl 2 rfl) ?_
        refine lv_iadd hx hb d_Model_turn_53 ?_
        obtain ⟨hi8, h⟩ := gd h
        refine va_iald (f := sM_ends σ) (n := 512) hx hb hK hP 2 1 (rdM_ends a cs (uM_isDone (uM_thrown σ 2) 0) ((gM_ends_isDone _ _).trans (gM_ends_thrown _ _))) rfl hi8 d_Model_turn_54 ?_
        refine lv_topi (fun x9 ex9 => ?_)
        have h := lt_ h x9 ex9
        refine lv_istore (lv' := [(4, .int x9), (0, .ref (a 0)), (1, .int v1), (2, .int v2), (3, .int v3)]) hx hb d_Model_turn_55 hl (by decide) rfl (fun ls hl => ?_)
        refine lv_aload_n hx hb d_Model_turn_57 rfl (lv_at hl 1 rfl) ?_
        refine va_get (D := (dC, dI)) (ci := 5) (v := .ref (a 2)) (C := "BlockRulerModel") (T := F_Model) (N := 16) hx hb hg i_Model hown hK hP 0 rfl rfl 3 (by decide) (hg _ wd219) (fun _ h9 => h9) rfl d_Model_turn_58 ?_
        refine lv_bipush (v := 8) hx hb d_Model_turn_61 (by decide) ?_
        refine lv_iload_n hx hb d_Model_turn_63 rfl (lv_at hl 2 rfl) ?_
        refine lv_imul hx hb d_Model_turn_64 ?_
        refine lv_iload_n hx hb d_Model_turn_65 rfl (lv_at hl 3 rfl) ?_
        refine lv_iadd hx hb d_Model_turn_66 ?_
        refine lv_iload_n hx hb d_Model_turn_67 rfl (lv_at hl 4 rfl) ?_
        refine va_iast (f := sM_ends σ) (n := 512) hx hb hK hP hD hS 2 1 (rdM_ends a cs (uM_isDone (uM_thrown σ 2) 0) ((gM_ends_isDone _ _).trans (gM_ends_thrown _ _))) rfl hi8 d_Model_turn_68 (fun H locs hP hD hS => ?_)
        have hP := va_Pe (setM_ends a cs (uM_isDone (uM_thrown σ 2) 0) (upd (sM_ends σ) (Int32.toNatClampNeg ((8 * v1) + v2)) v3)) hP
        have hD := va_De (setM_ends a cs (uM_isDone (uM_thrown σ 2) 0) (upd (sM_ends σ) (Int32.toNatClampNeg ((8 * v1) + v2)) v3)) hD
        refine lv_iload hx hb d_Model_turn_69 (lv_at hl 0 rfl) ?_
        exact W.iret (v := x9) hx hb hr (fun t ht hW => ⟨⟨x9, uM_ends (uM_isDone (uM_thrown σ 2) 0) (upd (sM_ends σ) (Int32.toNatClampNeg ((8 * v1) + v2)) v3), rfl, Option.some.inj h, by rw [ht]; exact hP, hD⟩, hS.F ht⟩) hS.2.2 d_Model_turn_71
      · have h := b_f h c7
        refine lv_iconst (v := 0) hx hb d_Model_turn_37 (by decide) ?_
        exact W.iret (v := 0) hx hb hr (fun t ht hW => ⟨⟨0, uM_thrown σ 2, rfl, Option.some.inj h, by rw [ht]; exact hP, hD⟩, hS.F ht⟩) hS.2.2 d_Model_turn_38
  · have h := b_t h c2
    refine lv_iconst (v := 1) hx hb d_Model_turn_10 (by decide) ?_
    refine lv_goto (tgt := 27) hx hb d_Model_turn_11 (by decide) ?_
    refine va_put (D := (dC, dI)) (ci := 5) (v := .int 1) (ty := .int) (C := "BlockRulerModel") (T := F_Model) (N := 16) hx hb hg i_Model t_Model t_Model_ok n_Model hown hK hP hD hS 0 rfl rfl 0 (by decide) (hg _ wd210) (fun _ h9 => h9) rfl (by decide +kernel) rfl rfl (Nat.le_of_ble_eq_true rfl) d_Model_turn_27 (fun H locs hP hD hS => ?_)
    have hP := va_Pe (setM_thrown a cs σ 1) hP
    have hD := va_De (setM_thrown a cs σ 1) hD
    refine lv_aload_n hx hb d_Model_turn_30 rfl (lv_at hl 0 rfl) ?_
    refine va_get (D := (dC, dI)) (ci := 5) (v := .int 1) (C := "BlockRulerModel") (T := F_Model) (N := 16) hx hb hg i_Model hown hK hP 0 rfl rfl 0 (by decide) (hg _ wd210) (fun _ h9 => h9) (rfM_thrown a cs (uM_thrown σ 1) (gM_thrown_thrown _ _)) d_Model_turn_31 ?_
    refine lv_if_le (tgt := 39) hx hb d_Model_turn_34 (by decide) (fun c10 => ?_) (fun c10 => ?_)
    · have h := b_t h c10
      refine lv_aload_n hx hb d_Model_turn_39 rfl (lv_at hl 0 rfl) ?_
      refine lv_iconst (v := 0) hx hb d_Model_turn_40 (by decide) ?_
      refine va_put (D := (dC, dI)) (ci := 5) (v := .int 0) (ty := .boolean) (C := "BlockRulerModel") (T := F_Model) (N := 16) hx hb hg i_Model t_Model t_Model_ok n_Model hown hK hP hD hS 0 rfl rfl 4 (by decide) (hg _ wd218) (fun _ h9 => h9) rfl (by decide +kernel) rfl rfl (Nat.le_of_ble_eq_true rfl) d_Model_turn_41 (fun H locs hP hD hS => ?_)
      have hP := va_Pe (setM_isDone a cs (uM_thrown σ 1) 0) hP
      have hD := va_De (setM_isDone a cs (uM_thrown σ 1) 0) hD
      refine lv_aload_n hx hb d_Model_turn_44 rfl (lv_at hl 0 rfl) ?_
      refine va_get (D := (dC, dI)) (ci := 5) (v := .ref (a 2)) (C := "BlockRulerModel") (T := F_Model) (N := 16) hx hb hg i_Model hown hK hP 0 rfl rfl 3 (by decide) (hg _ wd219) (fun _ h9 => h9) rfl d_Model_turn_45 ?_
      refine lv_bipush (v := 8) hx hb d_Model_turn_48 (by decide) ?_
      refine lv_iload_n hx hb d_Model_turn_50 rfl (lv_at hl 1 rfl) ?_
      refine lv_imul hx hb d_Model_turn_51 ?_
      refine lv_iload_n hx hb d_Model_turn_52 rfl (lv_at hl 2 rfl) ?_
      refine lv_iadd hx hb d_Model_turn_53 ?_
      obtain ⟨hi11, h⟩ := gd h
      refine va_iald (f := sM_ends σ) (n := 512) hx hb hK hP 2 1 (rdM_ends a cs (uM_isDone (uM_thrown σ 1) 0) ((gM_ends_isDone _ _).trans (gM_ends_thrown _ _))) rfl hi11 d_Model_turn_54 ?_
      refine lv_topi (fun x12 ex12 => ?_)
      have h := lt_ h x12 ex12
      refine lv_istore (lv' := [(4, .int x12), (0, .ref (a 0)), (1, .int v1), (2, .int v2), (3, .int v3)]) hx hb d_Model_turn_55 hl (by decide) rfl (fun ls hl => ?_)
      refine lv_aload_n hx hb d_Model_turn_57 rfl (lv_at hl 1 rfl) ?_
      refine va_get (D := (dC, dI)) (ci := 5) (v := .ref (a 2)) (C := "BlockRulerModel") (T := F_Model) (N := 16) hx hb hg i_Model hown hK hP 0 rfl rfl 3 (by decide) (hg _ wd219) (fun _ h9 => h9) rfl d_Model_turn_58 ?_
      refine lv_bipush (v := 8) hx hb d_Model_turn_61 (by decide) ?_
      refine lv_iload_n hx hb d_Model_turn_63 rfl (lv_at hl 2 rfl) ?_
      refine lv_imul hx hb d_Model_turn_64 ?_
      refine lv_iload_n hx hb d_Model_turn_65 rfl (lv_at hl 3 rfl) ?_
      refine lv_iadd hx hb d_Model_turn_66 ?_
      refine lv_iload_n hx hb d_Model_turn_67 rfl (lv_at hl 4 rfl) ?_
      refine va_iast (f := sM_ends σ) (n := 512) hx hb hK hP hD hS 2 1 (rdM_ends a cs (uM_isDone (uM_thrown σ 1) 0) ((gM_ends_isDone _ _).trans (gM_ends_thrown _ _))) rfl hi11 d_Model_turn_68 (fun H locs hP hD hS => ?_)
      have hP := va_Pe (setM_ends a cs (uM_isDone (uM_thrown σ 1) 0) (upd (sM_ends σ) (Int32.toNatClampNeg ((8 * v1) + v2)) v3)) hP
      have hD := va_De (setM_ends a cs (uM_isDone (uM_thrown σ 1) 0) (upd (sM_ends σ) (Int32.toNatClampNeg ((8 * v1) + v2)) v3)) hD
      refine lv_iload hx hb d_Model_turn_69 (lv_at hl 0 rfl) ?_
      exact W.iret (v := x12) hx hb hr (fun t ht hW => ⟨⟨x12, uM_ends (uM_isDone (uM_thrown σ 1) 0) (upd (sM_ends σ) (Int32.toNatClampNeg ((8 * v1) + v2)) v3), rfl, Option.some.inj h, by rw [ht]; exact hP, hD⟩, hS.F ht⟩) hS.2.2 d_Model_turn_71
    · have h := b_f h c10
      refine lv_iconst (v := 0) hx hb d_Model_turn_37 (by decide) ?_
      exact W.iret (v := 0) hx hb hr (fun t ht hW => ⟨⟨0, uM_thrown σ 1, rfl, Option.some.inj h, by rw [ht]; exact hP, hD⟩, hS.F ht⟩) hS.2.2 d_Model_turn_38
