-- written by wip/gen (blockruler.py)
set_option maxHeartbeats 4000000 in
set_option maxRecDepth 100000 in
theorem c_Model_end (l : Launch) (dC : Nat → ClassId) (dI : Nat → Nat → Nat) (a : Nat → Nat) (cs : Nat → ClassId) (sz : Nat) (σ : SM) (v1 : Int32) (v2 : Int32) (r : Int32 × SM) (h : f_Model_end σ v1 v2 = some r) : Met l y_Model_end w_Model_end rm_Model_end (va_Pc [.ref (a 0), .int v1, .int v2] (fun U => U.heap.size = sz ∧ WDM dC dI a cs σ U)) (va_Qi (fun (x : Int32) (u : SM) => (x, u) = r) (atM dC dI a cs (va_A (wsM a cs σ) sz)) (va_A (wsM a cs σ) sz)) 0 0 (va_A (wsM a cs σ) sz) := by
  refine Met.ofW (cc := b_Model_end) (maxL := 3) (ret := (some .int)) (by decide) rfl ?_
  intro p e s m args below meth c s₁ B hml hv
  obtain ⟨rfl, hsz, hP, hK, hN, hD0⟩ := hv
  have hx := B.exec
  have hb := B.bytes
  have hr := B.returns
  have hg : ∀ w ∈ G_, w.before _ s = true := fun w hw => atoms_spec (ws := w_Model_end) B.pre w (List.mem_cons_of_mem _ hw)
  have hown : s.vm.findClass "BlockRulerModel" = some m.cls := findClass_of_methodNamed B.named
  have hlocks := B.notSynchronized
  have C0 : Cx "BlockRulerModel" b_Model_end 3 p s m _ meth c := ⟨hx, hb, hml, hown, hg, hlocks⟩
  subst hsz
  have hD := hD0.self (sz := s.heap.size)
  generalize hAe : va_A (wsM a cs σ) s.heap.size = A at hD ⊢
  have hA : ∀ q : Nat, s.heap.size ≤ q → A q := fun q h => by rw [← hAe]; exact Or.inr h
  have hS : va_S A s.heap s.heap [] := va_S.rf
  have hl := lv_entry ([.ref (a 0), .int v1, .int v2]) (n := 3) (Nat.le_of_ble_eq_true rfl)
  rw [lg_entry_eq]
  generalize (lg_sl ([.ref (a 0), .int v1, .int v2]) ++ List.replicate (3 - (lg_sl ([.ref (a 0), .int v1, .int v2])).length) Slot.unset).toArray = ls at hl ⊢
  have hl : lv_has ls 3 [(0, .ref (a 0)), (1, .int v1), (2, .int v2)] := hl
  unfold f_Model_end at h
  refine lv_aload_n hx hb d_Model_end_0 rfl (lv_at hl 0 rfl) ?_
  refine lv_iconst (v := 0) hx hb d_Model_end_1 (by decide) ?_
  refine va_put (D := (dC, dI)) (ci := 5) (v := .int 0) (ty := .int) (C := "BlockRulerModel") (T := F_Model) (N := 16) hx hb hg i_Model t_Model t_Model_ok n_Model hown hK hP hD hS 0 rfl rfl 0 (by decide) (hg _ wd210) (fun _ h9 => h9) rfl (by decide +kernel) rfl rfl (Nat.le_of_ble_eq_true rfl) d_Model_end_2 (fun H locs hP hD hS => ?_)
  have hP := va_Pe (setM_thrown a cs σ 0) hP
  have hD := va_De (setM_thrown a cs σ 0) hD
  refine lv_aload_n hx hb d_Model_end_5 rfl (lv_at hl 0 rfl) ?_
  refine lv_iload_n hx hb d_Model_end_6 rfl (lv_at hl 1 rfl) ?_
  refine lv_iload_n hx hb d_Model_end_7 rfl (lv_at hl 2 rfl) ?_
  obtain ⟨r1, hr1, h⟩ := bd h
  refine ro_call (v := .int r1) (va_runV (C := "BlockRulerModel") (As := [.int v1, .int v2]) (rest := []) ⟨hx, hb, hml, hown, hg⟩ (c_Model_isWay l dC dI a cs (uM_thrown σ 0) v1 v2 _ hr1) (cwV 2 hg (gdV wd222 wd221 wd220 wd215 wd223) rfl rfl rfl (by decide +kernel) ⟨Nat.le_of_ble_eq_true rfl, Nat.le_of_ble_eq_true rfl⟩) ⟨wb_blind, va_recv hK hP (ci := 5) (q0 := 0) rfl rfl, fun U hU hW => ⟨rfl, wb_pre hU hW hP hK hN⟩⟩ rfl rfl hl.1 rfl (lv_room (Nat.le_of_ble_eq_true rfl)) d_Model_end_8 ⟨Nat.zero_le _, Nat.zero_le _⟩) ?_
  refine lv_if_eq (tgt := 28) hx hb d_Model_end_11 (by decide) (fun c2 => ?_) (fun c2 => ?_)
  · have h := b_t h c2
    refine lv_iconst (v := -1) hx hb d_Model_end_28 (by decide) ?_
    exact W.iret (v := -1) hx hb hr (fun t ht hW => ⟨⟨-1, uM_thrown σ 0, rfl, Option.some.inj h, by rw [ht]; exact hP, hD⟩, hS.F ht⟩) hS.2.2 d_Model_end_29
  · have h := b_f h c2
    refine lv_aload_n hx hb d_Model_end_14 rfl (lv_at hl 0 rfl) ?_
    refine va_get (D := (dC, dI)) (ci := 5) (v := .ref (a 2)) (C := "BlockRulerModel") (T := F_Model) (N := 16) hx hb hg i_Model hown hK hP 0 rfl rfl 3 (by decide) (hg _ wd219) (fun _ h9 => h9) rfl d_Model_end_15 ?_
    refine lv_bipush (v := 8) hx hb d_Model_end_18 (by decide) ?_
    refine lv_iload_n hx hb d_Model_end_20 rfl (lv_at hl 1 rfl) ?_
    refine lv_imul hx hb d_Model_end_21 ?_
    refine lv_iload_n hx hb d_Model_end_22 rfl (lv_at hl 2 rfl) ?_
    refine lv_iadd hx hb d_Model_end_23 ?_
    obtain ⟨hi3, h⟩ := gd h
    refine va_iald (f := sM_ends σ) (n := 512) hx hb hK hP 2 1 (rdM_ends a cs (uM_thrown σ 0) (gM_ends_thrown _ _)) rfl hi3 d_Model_end_24 ?_
    refine lv_goto (tgt := 29) hx hb d_Model_end_25 (by decide) ?_
    exact W.iret (v := sM_ends σ (Int32.toNatClampNeg ((8 * v1) + v2))) hx hb hr (fun t ht hW => ⟨⟨sM_ends σ (Int32.toNatClampNeg ((8 * v1) + v2)), uM_thrown σ 0, rfl, Option.some.inj h, by rw [ht]; exact hP, hD⟩, hS.F ht⟩) hS.2.2 d_Model_end_29
set_option maxHeartbeats 4000000 in
set_option maxRecDepth 100000 in
theorem c_Model_order (l : Launch) (dC : Nat → ClassId) (dI : Nat → Nat → Nat) (a : Nat → Nat) (cs : Nat → ClassId) (sz : Nat) (σ : SM) (v1 : Int32) (r : Int32 × SM) (h : f_Model_order σ v1 = some r) : Met l y_Model_order w_Model_order rm_Model_order (va_Pc [.ref (a 0), .int v1] (fun U => U.heap.size = sz ∧ WDM dC dI a cs σ U)) (va_Qi (fun (x : Int32) (u : SM) => (x, u) = r) (atM dC dI a cs (va_A (wsM a cs σ) sz)) (va_A (wsM a cs σ) sz)) 0 0 (va_A (wsM a cs σ) sz) := by
  refine Met.ofW (cc := b_Model_order) (maxL := 2) (ret := (some .int)) (by decide) rfl ?_
  intro p e s m args below meth c s₁ B hml hv
  obtain ⟨rfl, hsz, hP, hK, hN, hD0⟩ := hv
  have hx := B.exec
  have hb := B.bytes
  have hr := B.returns
  have hg : ∀ w ∈ G_, w.before _ s = true := fun w hw => atoms_spec (ws := w_Model_order) B.pre w (List.mem_cons_of_mem _ hw)
  have hown : s.vm.findClass "BlockRulerModel" = some m.cls := findClass_of_methodNamed B.named
  have hlocks := B.notSynchronized
  have C0 : Cx "BlockRulerModel" b_Model_order 2 p s m _ meth c := ⟨hx, hb, hml, hown, hg, hlocks⟩
  subst hsz
  have hD := hD0.self (sz := s.heap.size)
  generalize hAe : va_A (wsM a cs σ) s.heap.size = A at hD ⊢
  have hA : ∀ q : Nat, s.heap.size ≤ q → A q := fun q h => by rw [← hAe]; exact Or.inr h
  have hS : va_S A s.heap s.heap [] := va_S.rf
  have hl := lv_entry ([.ref (a 0), .int v1]) (n := 2) (Nat.le_of_ble_eq_true rfl)
  rw [lg_entry_eq]
  generalize (lg_sl ([.ref (a 0), .int v1]) ++ List.replicate (2 - (lg_sl ([.ref (a 0), .int v1])).length) Slot.unset).toArray = ls at hl ⊢
  have hl : lv_has ls 2 [(0, .ref (a 0)), (1, .int v1)] := hl
  unfold f_Model_order at h
  refine lv_aload_n hx hb d_Model_order_0 rfl (lv_at hl 0 rfl) ?_
  refine lv_iconst (v := 0) hx hb d_Model_order_1 (by decide) ?_
  refine va_put (D := (dC, dI)) (ci := 5) (v := .int 0) (ty := .int) (C := "BlockRulerModel") (T := F_Model) (N := 16) hx hb hg i_Model t_Model t_Model_ok n_Model hown hK hP hD hS 0 rfl rfl 0 (by decide) (hg _ wd210) (fun _ h9 => h9) rfl (by decide +kernel) rfl rfl (Nat.le_of_ble_eq_true rfl) d_Model_order_2 (fun H locs hP hD hS => ?_)
  have hP := va_Pe (setM_thrown a cs σ 0) hP
  have hD := va_De (setM_thrown a cs σ 0) hD
  refine lv_aload_n hx hb d_Model_order_5 rfl (lv_at hl 0 rfl) ?_
  obtain ⟨r1, hr1, h⟩ := bd h
  have hFc := va_free (wc := wsM a cs (uM_thrown σ 0)) hD hS hA [0, 1, 2, 3, 4, 5, 6, 7, 8, 9, 10, 11, 12] (allM a cs (uM_thrown σ 0))
  refine va_callv (va_runV (C := "BlockRulerModel") (As := []) (rest := []) ⟨hx, hb, hml, hown, hg⟩ (c_Model_reckon l dC dI a cs _ (uM_thrown σ 0) _ hr1) (cwV 0 hg (gdV wd253 wd252 wd251 wd215 wd254) rfl rfl rfl (by decide +kernel) ⟨Nat.le_of_ble_eq_true rfl, Nat.le_of_ble_eq_true rfl⟩) ⟨wbz_blind, va_recv hK hP (ci := 5) (q0 := 0) rfl rfl, fun U hU hW => ⟨rfl, by rw [hU], wb_preD hU hW hP hK hN hD⟩⟩ rfl rfl hl.1 rfl (lv_room (Nat.le_of_ble_eq_true rfl)) d_Model_order_6 ⟨Nat.zero_le _, Nat.zero_le _⟩) hS (fun q _ h => hFc q h) hFc (fun u t H locs ht hvm hw hB hz1 hk1 hS => ?_)
  obtain rfl : r1 = u := hw.symm
  have hP : va_P (dC, dI) classes (wsM a cs r1) H := by have q := hB.1; rw [ht] at q; exact q
  have hD : va_D A (wsM a cs r1) := hB.2.weaken (fun _ _ _ h => hFc _ h)
  refine lv_aload_n hx hb d_Model_order_9 rfl (lv_at hl 0 rfl) ?_
  refine lv_iload_n hx hb d_Model_order_10 rfl (lv_at hl 1 rfl) ?_
  refine ro_call (v := .int (f_Model_isBlock r1 v1)) (va_runV (C := "BlockRulerModel") (As := [.int v1]) (rest := []) ⟨hx, hb, hml, hown, hg⟩ (c_Model_isBlock l dC dI a cs r1 v1 _ rfl) (cwV 1 hg (gdV wd214 wd213 wd212 wd215 wd216) rfl rfl rfl (by decide +kernel) ⟨Nat.le_of_ble_eq_true rfl, Nat.le_of_ble_eq_true rfl⟩) ⟨wb_blind, va_recv hK hP (ci := 5) (q0 := 0) rfl rfl, fun U hU hW => ⟨rfl, wb_pre hU hW hP hK hN⟩⟩ rfl rfl hl.1 rfl (lv_room (Nat.le_of_ble_eq_true rfl)) d_Model_order_11 ⟨Nat.zero_le _, Nat.zero_le _⟩) ?_
  refine lv_if_eq (tgt := 26) hx hb d_Model_order_14 (by decide) (fun c2 => ?_) (fun c2 => ?_)
  · have h := b_t h c2
    refine lv_iconst (v := -1) hx hb d_Model_order_26 (by decide) ?_
    exact W.iret (v := -1) hx hb hr (fun t ht hW => ⟨⟨-1, r1, rfl, Option.some.inj h, by rw [ht]; exact hP, hD⟩, hS.F ht⟩) hS.2.2 d_Model_order_27
  · have h := b_f h c2
    refine lv_aload_n hx hb d_Model_order_17 rfl (lv_at hl 0 rfl) ?_
    refine va_get (D := (dC, dI)) (ci := 5) (v := .ref (a 3)) (C := "BlockRulerModel") (T := F_Model) (N := 16) hx hb hg i_Model hown hK hP 0 rfl rfl 6 (by decide) (hg _ wd224) (fun _ h9 => h9) rfl d_Model_order_18 ?_
    refine lv_iload_n hx hb d_Model_order_21 rfl (lv_at hl 1 rfl) ?_
    obtain ⟨hi3, h⟩ := gd h
    refine va_iald (f := sM_order r1) (n := 64) hx hb hK hP 3 2 rfl rfl hi3 d_Model_order_22 ?_
    refine lv_goto (tgt := 27) hx hb d_Model_order_23 (by decide) ?_
    exact W.iret (v := sM_order r1 (Int32.toNatClampNeg v1)) hx hb hr (fun t ht hW => ⟨⟨sM_order r1 (Int32.toNatClampNeg v1), r1, rfl, Option.some.inj h, by rw [ht]; exact hP, hD⟩, hS.F ht⟩) hS.2.2 d_Model_order_27
set_option maxHeartbeats 4000000 in
set_option maxRecDepth 100000 in
theorem c_Model_at (l : Launch) (dC : Nat → ClassId) (dI : Nat → Nat → Nat) (a : Nat → Nat) (cs : Nat → ClassId) (sz : Nat) (σ : SM) (v1 : Int32) (r : Int32 × SM) (h : f_Model_at σ v1 = some r) : Met l y_Model_at w_Model_at rm_Model_at (va_Pc [.ref (a 0), .int v1] (fun U => U.heap.size = sz ∧ WDM dC dI a cs σ U)) (va_Qi (fun (x : Int32) (u : SM) => (x, u) = r) (atM dC dI a cs (va_A (wsM a cs σ) sz)) (va_A (wsM a cs σ) sz)) 0 0 (va_A (wsM a cs σ) sz) := by
  refine Met.ofW (cc := b_Model_at) (maxL := 2) (ret := (some .int)) (by decide) rfl ?_
  intro p e s m args below meth c s₁ B hml hv
  obtain ⟨rfl, hsz, hP, hK, hN, hD0⟩ := hv
  have hx := B.exec
  have hb := B.bytes
  have hr := B.returns
  have hg : ∀ w ∈ G_, w.before _ s = true := fun w hw => atoms_spec (ws := w_Model_at) B.pre w (List.mem_cons_of_mem _ hw)
  have hown : s.vm.findClass "BlockRulerModel" = some m.cls := findClass_of_methodNamed B.named
  have hlocks := B.notSynchronized
  have C0 : Cx "BlockRulerModel" b_Model_at 2 p s m _ meth c := ⟨hx, hb, hml, hown, hg, hlocks⟩
  subst hsz
  have hD := hD0.self (sz := s.heap.size)
  generalize hAe : va_A (wsM a cs σ) s.heap.size = A at hD ⊢
  have hA : ∀ q : Nat, s.heap.size ≤ q → A q := fun q h => by rw [← hAe]; exact Or.inr h
  have hS : va_S A s.heap s.heap [] := va_S.rf
  have hl := lv_entry ([.ref (a 0), .int v1]) (n := 2) (Nat.le_of_ble_eq_true rfl)
  rw [lg_entry_eq]
  generalize (lg_sl ([.ref (a 0), .int v1]) ++ List.replicate (2 - (lg_sl ([.ref (a 0), .int v1])).length) Slot.unset).toArray = ls at hl ⊢
  have hl : lv_has ls 2 [(0, .ref (a 0)), (1, .int v1)] := hl
  unfold f_Model_at at h
  refine lv_aload_n hx hb d_Model_at_0 rfl (lv_at hl 0 rfl) ?_
  refine lv_iconst (v := 0) hx hb d_Model_at_1 (by decide) ?_
  refine va_put (D := (dC, dI)) (ci := 5) (v := .int 0) (ty := .int) (C := "BlockRulerModel") (T := F_Model) (N := 16) hx hb hg i_Model t_Model t_Model_ok n_Model hown hK hP hD hS 0 rfl rfl 0 (by decide) (hg _ wd210) (fun _ h9 => h9) rfl (by decide +kernel) rfl rfl (Nat.le_of_ble_eq_true rfl) d_Model_at_2 (fun H locs hP hD hS => ?_)
  have hP := va_Pe (setM_thrown a cs σ 0) hP
  have hD := va_De (setM_thrown a cs σ 0) hD
  refine lv_aload_n hx hb d_Model_at_5 rfl (lv_at hl 0 rfl) ?_
  obtain ⟨r1, hr1, h⟩ := bd h
  have hFc := va_free (wc := wsM a cs (uM_thrown σ 0)) hD hS hA [0, 1, 2, 3, 4, 5, 6, 7, 8, 9, 10, 11, 12] (allM a cs (uM_thrown σ 0))
  refine va_callv (va_runV (C := "BlockRulerModel") (As := []) (rest := []) ⟨hx, hb, hml, hown, hg⟩ (c_Model_reckon l dC dI a cs _ (uM_thrown σ 0) _ hr1) (cwV 0 hg (gdV wd253 wd252 wd251 wd215 wd254) rfl rfl rfl (by decide +kernel) ⟨Nat.le_of_ble_eq_true rfl, Nat.le_of_ble_eq_true rfl⟩) ⟨wbz_blind, va_recv hK hP (ci := 5) (q0 := 0) rfl rfl, fun U hU hW => ⟨rfl, by rw [hU], wb_preD hU hW hP hK hN hD⟩⟩ rfl rfl hl.1 rfl (lv_room (Nat.le_of_ble_eq_true rfl)) d_Model_at_6 ⟨Nat.zero_le _, Nat.zero_le _⟩) hS (fun q _ h => hFc q h) hFc (fun u t H locs ht hvm hw hB hz1 hk1 hS => ?_)
  obtain rfl : r1 = u := hw.symm
  have hP : va_P (dC, dI) classes (wsM a cs r1) H := by have q := hB.1; rw [ht] at q; exact q
  have hD : va_D A (wsM a cs r1) := hB.2.weaken (fun _ _ _ h => hFc _ h)
  refine lv_iload_n hx hb d_Model_at_9 rfl (lv_at hl 1 rfl) ?_
  refine lv_if_lt (tgt := 30) hx hb d_Model_at_10 (by decide) (fun c2 => ?_) (fun c2 => ?_)
  · have h := b_t h c2
    refine lv_iconst (v := -1) hx hb d_Model_at_30 (by decide) ?_
    exact W.iret (v := -1) hx hb hr (fun t ht hW => ⟨⟨-1, r1, rfl, Option.some.inj h, by rw [ht]; exact hP, hD⟩, hS.F ht⟩) hS.2.2 d_Model_at_31
  · have h := b_f h c2
    refine lv_iload_n hx hb d_Model_at_13 rfl (lv_at hl 1 rfl) ?_
    refine lv_aload_n hx hb d_Model_at_14 rfl (lv_at hl 0 rfl) ?_
    refine va_get (D := (dC, dI)) (ci := 5) (v := .int (sM_reached r1)) (C := "BlockRulerModel") (T := F_Model) (N := 16) hx hb hg i_Model hown hK hP 0 rfl rfl 5 (by decide) (hg _ wd230) (fun _ h9 => h9) rfl d_Model_at_15 ?_
    refine lv_icmp_ge (tgt := 30) hx hb d_Model_at_18 (by decide) (fun c3 => ?_) (fun c3 => ?_)
    · have h := b_t h c3
      refine lv_iconst (v := -1) hx hb d_Model_at_30 (by decide) ?_
      exact W.iret (v := -1) hx hb hr (fun t ht hW => ⟨⟨-1, r1, rfl, Option.some.inj h, by rw [ht]; exact hP, hD⟩, hS.F ht⟩) hS.2.2 d_Model_at_31
    · have h := b_f h c3
      refine lv_aload_n hx hb d_Model_at_21 rfl (lv_at hl 0 rfl) ?_
      refine va_get (D := (dC, dI)) (ci := 5) (v := .ref (a 4)) (C := "BlockRulerModel") (T := F_Model) (N := 16) hx hb hg i_Model hown hK hP 0 rfl rfl 7 (by decide) (hg _ wd229) (fun _ h9 => h9) rfl d_Model_at_22 ?_
      refine lv_iload_n hx hb d_Model_at_25 rfl (lv_at hl 1 rfl) ?_
      obtain ⟨hi4, h⟩ := gd h
      refine va_iald (f := sM_at r1) (n := 64) hx hb hK hP 4 3 rfl rfl hi4 d_Model_at_26 ?_
      refine lv_goto (tgt := 31) hx hb d_Model_at_27 (by decide) ?_
      exact W.iret (v := sM_at r1 (Int32.toNatClampNeg v1)) hx hb hr (fun t ht hW => ⟨⟨sM_at r1 (Int32.toNatClampNeg v1), r1, rfl, Option.some.inj h, by rw [ht]; exact hP, hD⟩, hS.F ht⟩) hS.2.2 d_Model_at_31
set_option maxHeartbeats 4000000 in
set_option maxRecDepth 100000 in
theorem c_Model_parent (l : Launch) (dC : Nat → ClassId) (dI : Nat → Nat → Nat) (a : Nat → Nat) (cs : Nat → ClassId) (sz : Nat) (σ : SM) (v1 : Int32) (r : Int32 × SM) (h : f_Model_parent σ v1 = some r) : Met l y_Model_parent w_Model_parent rm_Model_parent (va_Pc [.ref (a 0), .int v1] (fun U => U.heap.size = sz ∧ WDM dC dI a cs σ U)) (va_Qi (fun (x : Int32) (u : SM) => (x, u) = r) (atM dC dI a cs (va_A (wsM a cs σ) sz)) (va_A (wsM a cs σ) sz)) 0 0 (va_A (wsM a cs σ) sz) := by
  refine Met.ofW (cc := b_Model_parent) (maxL := 2) (ret := (some .int)) (by decide) rfl ?_
  intro p e s m args below meth c s₁ B hml hv
  obtain ⟨rfl, hsz, hP, hK, hN, hD0⟩ := hv
  have hx := B.exec
  have hb := B.bytes
  have hr := B.returns
  have hg : ∀ w ∈ G_, w.before _ s = true := fun w hw => atoms_spec (ws := w_Model_parent) B.pre w (List.mem_cons_of_mem _ hw)
  have hown : s.vm.findClass "BlockRulerModel" = some m.cls := findClass_of_methodNamed B.named
  have hlocks := B.notSynchronized
  have C0 : Cx "BlockRulerModel" b_Model_parent 2 p s m _ meth c := ⟨hx, hb, hml, hown, hg, hlocks⟩
  subst hsz
  have hD := hD0.self (sz := s.heap.size)
  generalize hAe : va_A (wsM a cs σ) s.heap.size = A at hD ⊢
  have hA : ∀ q : Nat, s.heap.size ≤ q → A q := fun q h => by rw [← hAe]; exact Or.inr h
  have hS : va_S A s.heap s.heap [] := va_S.rf
  have hl := lv_entry ([.ref (a 0), .int v1]) (n := 2) (Nat.le_of_ble_eq_true rfl)
  rw [lg_entry_eq]
  generalize (lg_sl ([.ref (a 0), .int v1]) ++ List.replicate (2 - (lg_sl ([.ref (a 0), .int v1])).length) Slot.unset).toArray = ls at hl ⊢
  have hl : lv_has ls 2 [(0, .ref (a 0)), (1, .int v1)] := hl
  unfold f_Model_parent at h
  refine lv_aload_n hx hb d_Model_parent_0 rfl (lv_at hl 0 rfl) ?_
  refine lv_iconst (v := 0) hx hb d_Model_parent_1 (by decide) ?_
  refine va_put (D := (dC, dI)) (ci := 5) (v := .int 0) (ty := .int) (C := "BlockRulerModel") (T := F_Model) (N := 16) hx hb hg i_Model t_Model t_Model_ok n_Model hown hK hP hD hS 0 rfl rfl 0 (by decide) (hg _ wd210) (fun _ h9 => h9) rfl (by decide +kernel) rfl rfl (Nat.le_of_ble_eq_true rfl) d_Model_parent_2 (fun H locs hP hD hS => ?_)
  have hP := va_Pe (setM_thrown a cs σ 0) hP
  have hD := va_De (setM_thrown a cs σ 0) hD
  refine lv_aload_n hx hb d_Model_parent_5 rfl (lv_at hl 0 rfl) ?_
  obtain ⟨r1, hr1, h⟩ := bd h
  have hFc := va_free (wc := wsM a cs (uM_thrown σ 0)) hD hS hA [0, 1, 2, 3, 4, 5, 6, 7, 8, 9, 10, 11, 12] (allM a cs (uM_thrown σ 0))
  refine va_callv (va_runV (C := "BlockRulerModel") (As := []) (rest := []) ⟨hx, hb, hml, hown, hg⟩ (c_Model_reckon l dC dI a cs _ (uM_thrown σ 0) _ hr1) (cwV 0 hg (gdV wd253 wd252 wd251 wd215 wd254) rfl rfl rfl (by decide +kernel) ⟨Nat.le_of_ble_eq_true rfl, Nat.le_of_ble_eq_true rfl⟩) ⟨wbz_blind, va_recv hK hP (ci := 5) (q0 := 0) rfl rfl, fun U hU hW => ⟨rfl, by rw [hU], wb_preD hU hW hP hK hN hD⟩⟩ rfl rfl hl.1 rfl (lv_room (Nat.le_of_ble_eq_true rfl)) d_Model_parent_6 ⟨Nat.zero_le _, Nat.zero_le _⟩) hS (fun q _ h => hFc q h) hFc (fun u t H locs ht hvm hw hB hz1 hk1 hS => ?_)
  obtain rfl : r1 = u := hw.symm
  have hP : va_P (dC, dI) classes (wsM a cs r1) H := by have q := hB.1; rw [ht] at q; exact q
  have hD : va_D A (wsM a cs r1) := hB.2.weaken (fun _ _ _ h => hFc _ h)
  refine lv_aload_n hx hb d_Model_parent_9 rfl (lv_at hl 0 rfl) ?_
  refine lv_iload_n hx hb d_Model_parent_10 rfl (lv_at hl 1 rfl) ?_
  refine ro_call (v := .int (f_Model_isBlock r1 v1)) (va_runV (C := "BlockRulerModel") (As := [.int v1]) (rest := []) ⟨hx, hb, hml, hown, hg⟩ (c_Model_isBlock l dC dI a cs r1 v1 _ rfl) (cwV 1 hg (gdV wd214 wd213 wd212 wd215 wd216) rfl rfl rfl (by decide +kernel) ⟨Nat.le_of_ble_eq_true rfl, Nat.le_of_ble_eq_true rfl⟩) ⟨wb_blind, va_recv hK hP (ci := 5) (q0 := 0) rfl rfl, fun U hU hW => ⟨rfl, wb_pre hU hW hP hK hN⟩⟩ rfl rfl hl.1 rfl (lv_room (Nat.le_of_ble_eq_true rfl)) d_Model_parent_11 ⟨Nat.zero_le _, Nat.zero_le _⟩) ?_
  refine lv_if_eq (tgt := 26) hx hb d_Model_parent_14 (by decide) (fun c2 => ?_) (fun c2 => ?_)
  · have h := b_t h c2
    refine lv_iconst (v := -1) hx hb d_Model_parent_26 (by decide) ?_
    exact W.iret (v := -1) hx hb hr (fun t ht hW => ⟨⟨-1, r1, rfl, Option.some.inj h, by rw [ht]; exact hP, hD⟩, hS.F ht⟩) hS.2.2 d_Model_parent_27
  · have h := b_f h c2
    refine lv_aload_n hx hb d_Model_parent_17 rfl (lv_at hl 0 rfl) ?_
    refine va_get (D := (dC, dI)) (ci := 5) (v := .ref (a 6)) (C := "BlockRulerModel") (T := F_Model) (N := 16) hx hb hg i_Model hown hK hP 0 rfl rfl 9 (by decide) (hg _ wd246) (fun _ h9 => h9) rfl d_Model_parent_18 ?_
    refine lv_iload_n hx hb d_Model_parent_21 rfl (lv_at hl 1 rfl) ?_
    obtain ⟨hi3, h⟩ := gd h
    refine va_iald (f := sM_parent r1) (n := 64) hx hb hK hP 6 5 rfl rfl hi3 d_Model_parent_22 ?_
    refine lv_goto (tgt := 27) hx hb d_Model_parent_23 (by decide) ?_
    exact W.iret (v := sM_parent r1 (Int32.toNatClampNeg v1)) hx hb hr (fun t ht hW => ⟨⟨sM_parent r1 (Int32.toNatClampNeg v1), r1, rfl, Option.some.inj h, by rw [ht]; exact hP, hD⟩, hS.F ht⟩) hS.2.2 d_Model_parent_27
set_option maxHeartbeats 4000000 in
set_option maxRecDepth 100000 in
theorem c_Model_rules (l : Launch) (dC : Nat → ClassId) (dI : Nat → Nat → Nat) (a : Nat → Nat) (cs : Nat → ClassId) (sz : Nat) (σ : SM) (v1 : Int32) (v2 : Int32) (r : Int32 × SM) (h : f_Model_rules σ v1 v2 = some r) : Met l y_Model_rules w_Model_rules rm_Model_rules (va_Pc [.ref (a 0), .int v1, .int v2] (fun U => U.heap.size = sz ∧ WDM dC dI a cs σ U)) (va_Qi (fun (x : Int32) (u : SM) => (x, u) = r) (atM dC dI a cs (va_A (wsM a cs σ) sz)) (va_A (wsM a cs σ) sz)) 0 0 (va_A (wsM a cs σ) sz) := by
  refine Met.ofW (cc := b_Model_rules) (maxL := 3) (ret := (some .boolean)) (by decide) rfl ?_
  intro p e s m args below meth c s₁ B hml hv
  obtain ⟨rfl, hsz, hP, hK, hN, hD0⟩ := hv
  have hx := B.exec
  have hb := B.bytes
  have hr := B.returns
  have hg : ∀ w ∈ G_, w.before _ s = true := fun w hw => atoms_spec (ws := w_Model_rules) B.pre w (List.mem_cons_of_mem _ hw)
  have hown : s.vm.findClass "BlockRulerModel" = some m.cls := findClass_of_methodNamed B.named
  have hlocks := B.notSynchronized
  have C0 : Cx "BlockRulerModel" b_Model_rules 3 p s m _ meth c := ⟨hx, hb, hml, hown, hg, hlocks⟩
  subst hsz
  have hD := hD0.self (sz := s.heap.size)
  generalize hAe : va_A (wsM a cs σ) s.heap.size = A at hD ⊢
  have hA : ∀ q : Nat, s.heap.size ≤ q → A q := fun q h => by rw [← hAe]; exact Or.inr h
  have hS : va_S A s.heap s.heap [] := va_S.rf
  have hl := lv_entry ([.ref (a 0), .int v1, .int v2]) (n := 3) (Nat.le_of_ble_eq_true rfl)
  rw [lg_entry_eq]
  generalize (lg_sl ([.ref (a 0), .int v1, .int v2]) ++ List.replicate (3 - (lg_sl ([.ref (a 0), .int v1, .int v2])).length) Slot.unset).toArray = ls at hl ⊢
  have hl : lv_has ls 3 [(0, .ref (a 0)), (1, .int v1), (2, .int v2)] := hl
  unfold f_Model_rules at h
  refine lv_aload_n hx hb d_Model_rules_0 rfl (lv_at hl 0 rfl) ?_
  refine lv_iconst (v := 0) hx hb d_Model_rules_1 (by decide) ?_
  refine va_put (D := (dC, dI)) (ci := 5) (v := .int 0) (ty := .int) (C := "BlockRulerModel") (T := F_Model) (N := 16) hx hb hg i_Model t_Model t_Model_ok n_Model hown hK hP hD hS 0 rfl rfl 0 (by decide) (hg _ wd210) (fun _ h9 => h9) rfl (by decide +kernel) rfl rfl (Nat.le_of_ble_eq_true rfl) d_Model_rules_2 (fun H locs hP hD hS => ?_)
  have hP := va_Pe (setM_thrown a cs σ 0) hP
  have hD := va_De (setM_thrown a cs σ 0) hD
  refine lv_aload_n hx hb d_Model_rules_5 rfl (lv_at hl 0 rfl) ?_
  obtain ⟨r1, hr1, h⟩ := bd h
  have hFc := va_free (wc := wsM a cs (uM_thrown σ 0)) hD hS hA [0, 1, 2, 3, 4, 5, 6, 7, 8, 9, 10, 11, 12] (allM a cs (uM_thrown σ 0))
  refine va_callv (va_runV (C := "BlockRulerModel") (As := []) (rest := []) ⟨hx, hb, hml, hown, hg⟩ (c_Model_reckon l dC dI a cs _ (uM_thrown σ 0) _ hr1) (cwV 0 hg (gdV wd253 wd252 wd251 wd215 wd254) rfl rfl rfl (by decide +kernel) ⟨Nat.le_of_ble_eq_true rfl, Nat.le_of_ble_eq_true rfl⟩) ⟨wbz_blind, va_recv hK hP (ci := 5) (q0 := 0) rfl rfl, fun U hU hW => ⟨rfl, by rw [hU], wb_preD hU hW hP hK hN hD⟩⟩ rfl rfl hl.1 rfl (lv_room (Nat.le_of_ble_eq_true rfl)) d_Model_rules_6 ⟨Nat.zero_le _, Nat.zero_le _⟩) hS (fun q _ h => hFc q h) hFc (fun u t H locs ht hvm hw hB hz1 hk1 hS => ?_)
  obtain rfl : r1 = u := hw.symm
  have hP : va_P (dC, dI) classes (wsM a cs r1) H := by have q := hB.1; rw [ht] at q; exact q
  have hD : va_D A (wsM a cs r1) := hB.2.weaken (fun _ _ _ h => hFc _ h)
  refine lv_aload_n hx hb d_Model_rules_9 rfl (lv_at hl 0 rfl) ?_
  refine lv_iload_n hx hb d_Model_rules_10 rfl (lv_at hl 1 rfl) ?_
  refine ro_call (v := .int (f_Model_isBlock r1 v1)) (va_runV (C := "BlockRulerModel") (As := [.int v1]) (rest := []) ⟨hx, hb, hml, hown, hg⟩ (c_Model_isBlock l dC dI a cs r1 v1 _ rfl) (cwV 1 hg (gdV wd214 wd213 wd212 wd215 wd216) rfl rfl rfl (by decide +kernel) ⟨Nat.le_of_ble_eq_true rfl, Nat.le_of_ble_eq_true rfl⟩) ⟨wb_blind, va_recv hK hP (ci := 5) (q0 := 0) rfl rfl, fun U hU hW => ⟨rfl, wb_pre hU hW hP hK hN⟩⟩ rfl rfl hl.1 rfl (lv_room (Nat.le_of_ble_eq_true rfl)) d_Model_rules_11 ⟨Nat.zero_le _, Nat.zero_le _⟩) ?_
  refine lv_if_eq (tgt := 43) hx hb d_Model_rules_14 (by decide) (fun c2 => ?_) (fun c2 => ?_)
  · have h := b_t h c2
    refine lv_iconst (v := 0) hx hb d_Model_rules_43 (by decide) ?_
    exact W.zret (ty := .boolean) (v := 0) hx hb hr rfl (fun t ht hW => ⟨⟨0, r1, rfl, Option.some.inj h, by rw [ht]; exact hP, hD⟩, hS.F ht⟩) hS.2.2 d_Model_rules_44
  · have h := b_f h c2
    refine lv_aload_n hx hb d_Model_rules_17 rfl (lv_at hl 0 rfl) ?_
    refine lv_iload_n hx hb d_Model_rules_18 rfl (lv_at hl 2 rfl) ?_
    refine ro_call (v := .int (f_Model_isBlock r1 v2)) (va_runV (C := "BlockRulerModel") (As := [.int v2]) (rest := []) ⟨hx, hb, hml, hown, hg⟩ (c_Model_isBlock l dC dI a cs r1 v2 _ rfl) (cwV 1 hg (gdV wd214 wd213 wd212 wd215 wd216) rfl rfl rfl (by decide +kernel) ⟨Nat.le_of_ble_eq_true rfl, Nat.le_of_ble_eq_true rfl⟩) ⟨wb_blind, va_recv hK hP (ci := 5) (q0 := 0) rfl rfl, fun U hU hW => ⟨rfl, wb_pre hU hW hP hK hN⟩⟩ rfl rfl hl.1 rfl (lv_room (Nat.le_of_ble_eq_true rfl)) d_Model_rules_19 ⟨Nat.zero_le _, Nat.zero_le _⟩) ?_
    refine lv_if_eq (tgt := 43) hx hb d_Model_rules_22 (by decide) (fun c3 => ?_) (fun c3 => ?_)
    · have h := b_t h c3
      refine lv_iconst (v := 0) hx hb d_Model_rules_43 (by decide) ?_
      exact W.zret (ty := .boolean) (v := 0) hx hb hr rfl (fun t ht hW => ⟨⟨0, r1, rfl, Option.some.inj h, by rw [ht]; exact hP, hD⟩, hS.F ht⟩) hS.2.2 d_Model_rules_44
    · have h := b_f h c3
      refine lv_aload_n hx hb d_Model_rules_25 rfl (lv_at hl 0 rfl) ?_
      refine va_get (D := (dC, dI)) (ci := 5) (v := .ref (a 5)) (C := "BlockRulerModel") (T := F_Model) (N := 16) hx hb hg i_Model hown hK hP 0 rfl rfl 8 (by decide) (hg _ wd225) (fun _ h9 => h9) rfl d_Model_rules_26 ?_
      refine lv_bipush (v := 64) hx hb d_Model_rules_29 (by decide) ?_
      refine lv_iload_n hx hb d_Model_rules_31 rfl (lv_at hl 1 rfl) ?_
      refine lv_imul hx hb d_Model_rules_32 ?_
      refine lv_iload_n hx hb d_Model_rules_33 rfl (lv_at hl 2 rfl) ?_
      refine lv_iadd hx hb d_Model_rules_34 ?_
      obtain ⟨hi4, h⟩ := gd h
      refine va_zald (f := sM_rules r1) (n := 4096) hx hb hK hP 5 4 rfl rfl hi4 d_Model_rules_35 ?_
      refine lv_if_eq (tgt := 43) hx hb d_Model_rules_36 (by decide) (fun c5 => ?_) (fun c5 => ?_)
      · have h := b_t h c5
        refine lv_iconst (v := 0) hx hb d_Model_rules_43 (by decide) ?_
        exact W.zret (ty := .boolean) (v := 0) hx hb hr rfl (fun t ht hW => ⟨⟨0, r1, rfl, Option.some.inj h, by rw [ht]; exact hP, hD⟩, hS.F ht⟩) hS.2.2 d_Model_rules_44
      · have h := b_f h c5
        refine lv_iconst (v := 1) hx hb d_Model_rules_39 (by decide) ?_
        refine lv_goto (tgt := 44) hx hb d_Model_rules_40 (by decide) ?_
        exact W.zret (ty := .boolean) (v := 1) hx hb hr rfl (fun t ht hW => ⟨⟨1, r1, rfl, Option.some.inj h, by rw [ht]; exact hP, hD⟩, hS.F ht⟩) hS.2.2 d_Model_rules_44
set_option maxHeartbeats 4000000 in
set_option maxRecDepth 100000 in
theorem c_Model_isReached (l : Launch) (dC : Nat → ClassId) (dI : Nat → Nat → Nat) (a : Nat → Nat) (cs : Nat → ClassId) (σ : SM) (v1 : Int32) (r : Int32) (h : f_Model_isReached σ v1 = some r) : Met l y_Model_isReached w_Model_isReached rm_Model_isReached (va_Pc [.ref (a 0), .int v1] (WBM dC dI a cs σ)) (QcV (.int r)) 0 0 (fun _ => False) := by
  refine Met.ofW (cc := b_Model_isReached) (maxL := 2) (ret := (some .boolean)) (by decide) rfl ?_
  intro p e s m args below meth c s₁ B hml hv
  obtain ⟨rfl, hP, hK, hN⟩ := hv
  have hx := B.exec
  have hb := B.bytes
  have hr := B.returns
  have hg : ∀ w ∈ G_, w.before _ s = true := fun w hw => atoms_spec (ws := w_Model_isReached) B.pre w (List.mem_cons_of_mem _ hw)
  have hown : s.vm.findClass "BlockRulerModel" = some m.cls := findClass_of_methodNamed B.named
  have hlocks := B.notSynchronized
  have C0 : Cx "BlockRulerModel" b_Model_isReached 2 p s m _ meth c := ⟨hx, hb, hml, hown, hg, hlocks⟩
  have hl := lv_entry ([.ref (a 0), .int v1]) (n := 2) (Nat.le_of_ble_eq_true rfl)
  rw [lg_entry_eq]
  generalize (lg_sl ([.ref (a 0), .int v1]) ++ List.replicate (2 - (lg_sl ([.ref (a 0), .int v1])).length) Slot.unset).toArray = ls at hl ⊢
  have hl : lv_has ls 2 [(0, .ref (a 0)), (1, .int v1)] := hl
  unfold f_Model_isReached at h
  refine lv_aload_n hx hb d_Model_isReached_0 rfl (lv_at hl 0 rfl) ?_
  refine lv_iload_n hx hb d_Model_isReached_1 rfl (lv_at hl 1 rfl) ?_
  refine ro_call (v := .int (f_Model_isBlock σ v1)) (va_runV (C := "BlockRulerModel") (As := [.int v1]) (rest := []) ⟨hx, hb, hml, hown, hg⟩ (c_Model_isBlock l dC dI a cs σ v1 _ rfl) (cwV 1 hg (gdV wd214 wd213 wd212 wd215 wd216) rfl rfl rfl (by decide +kernel) ⟨Nat.le_of_ble_eq_true rfl, Nat.le_of_ble_eq_true rfl⟩) ⟨wb_blind, va_recv hK hP (ci := 5) (q0 := 0) rfl rfl, fun U hU hW => ⟨rfl, wb_pre hU hW hP hK hN⟩⟩ rfl rfl hl.1 rfl (lv_room (Nat.le_of_ble_eq_true rfl)) d_Model_isReached_2 ⟨Nat.zero_le _, Nat.zero_le _⟩) ?_
  refine lv_if_eq (tgt := 21) hx hb d_Model_isReached_5 (by decide) (fun c1 => ?_) (fun c1 => ?_)
  · have h := b_t h c1
    refine lv_iconst (v := 0) hx hb d_Model_isReached_21 (by decide) ?_
    exact W.zret (v := 0) (ty := .boolean) hx hb hr rfl (fun t ht _ => ⟨by rw [Option.some.inj h], ht⟩) (fun q hq => by cases hq) d_Model_isReached_22
  · have h := b_f h c1
    refine lv_aload_n hx hb d_Model_isReached_8 rfl (lv_at hl 0 rfl) ?_
    refine va_get (D := (dC, dI)) (ci := 5) (v := .ref (a 3)) (C := "BlockRulerModel") (T := F_Model) (N := 16) hx hb hg i_Model hown hK hP 0 rfl rfl 6 (by decide) (hg _ wd224) (fun _ h9 => h9) rfl d_Model_isReached_9 ?_
    refine lv_iload_n hx hb d_Model_isReached_12 rfl (lv_at hl 1 rfl) ?_
    obtain ⟨hi2, h⟩ := gd h
    refine va_iald (f := sM_order σ) (n := 64) hx hb hK hP 3 2 rfl rfl hi2 d_Model_isReached_13 ?_
    refine lv_if_lt (tgt := 21) hx hb d_Model_isReached_14 (by decide) (fun c3 => ?_) (fun c3 => ?_)
    · have h := b_t h c3
      refine lv_iconst (v := 0) hx hb d_Model_isReached_21 (by decide) ?_
      exact W.zret (v := 0) (ty := .boolean) hx hb hr rfl (fun t ht _ => ⟨by rw [Option.some.inj h], ht⟩) (fun q hq => by cases hq) d_Model_isReached_22
    · have h := b_f h c3
      refine lv_iconst (v := 1) hx hb d_Model_isReached_17 (by decide) ?_
      refine lv_goto (tgt := 22) hx hb d_Model_isReached_18 (by decide) ?_
      exact W.zret (v := 1) (ty := .boolean) hx hb hr rfl (fun t ht _ => ⟨by rw [Option.some.inj h], ht⟩) (fun q hq => by cases hq) d_Model_isReached_22
set_option maxHeartbeats 4000000 in
set_option maxRecDepth 100000 in
theorem lpW_Model_common_34 {p : Program} {l : Launch} {e : Env} {s : State} {m : MethodId} {args : Array Value} {below : List Frame} {meth : Method} {c : Code} {Q : State → Prop} {dC : Nat → ClassId} {dI : Nat → Nat → Nat} {a : Nat → Nat} {cs : Nat → ClassId} {H : Heap} {locs : List Loc} (C0 : Cx "BlockRulerModel" b_Model_common 6 p s m args meth c) (hK : va_K (dC, dI) classes (tyM cs) s) (hN : NW s) : ∀ (n : Nat) (σ : SM) (v1 : Int32) (v2 : Int32) (v3 : Int32) (v4 : Int32) (y : Int32 × Int32), lp_Model_common_34 n σ v1 v2 v3 v4 = some y → va_P (dC, dI) classes (wsM a cs σ) H → ∀ (ls : Array Slot), lv_has ls 6 [(0, .ref (a 0)), (1, .int v1), (2, .int v2), (3, .int v3), (4, .int v4)] → (∀ (ls : Array Slot), lv_has ls 6 [(0, .ref (a 0)), (1, .int v1), (2, .int v2), (3, .int y.1), (4, .int y.2)] → W p l e (headSpec w_Model_common rm_Model_common).room s m args below meth c H locs 0 0 Q (F0 m 102 ls [])) → W p l e (headSpec w_Model_common rm_Model_common).room s m args below meth c H locs 0 0 Q (F0 m 34 ls []) := by
  have C1 := C0
  obtain ⟨hx, hb, hml, hown, hg, hlocks⟩ := C1
  intro n
  induction n with
  | zero => intro σ v1 v2 v3 v4 y h; exact absurd (show (none : Option (Int32 × Int32)) = some y from h) (fun q => by cases q)
  | succ n ih =>
    intro σ v1 v2 v3 v4 y h hP ls hl k0
    rw [lp_Model_common_34_s] at h
    refine lv_iload hx hb d_Model_common_34 (lv_at hl 4 rfl) ?_
    refine lv_aload_n hx hb d_Model_common_36 rfl (lv_at hl 0 rfl) ?_
    refine va_get (D := (dC, dI)) (ci := 5) (v := .int (sM_reached σ)) (C := "BlockRulerModel") (T := F_Model) (N := 16) hx hb hg i_Model hown hK hP 0 rfl rfl 5 (by decide) (hg _ wd230) (fun _ h9 => h9) rfl d_Model_common_37 ?_
    refine lv_icmp_ge (tgt := 102) hx hb d_Model_common_40 (by decide) (fun c4 => ?_) (fun c4 => ?_)
    · have h := b_t h c4
      obtain rfl := Option.some.inj h
      exact k0 ls (lv_sub hl [0, 1, 2, 3, 4] rfl)
    · have h := b_f h c4
      refine lv_aload_n hx hb d_Model_common_43 rfl (lv_at hl 0 rfl) ?_
      refine va_get (D := (dC, dI)) (ci := 5) (v := .int (sM_thrown σ)) (C := "BlockRulerModel") (T := F_Model) (N := 16) hx hb hg i_Model hown hK hP 0 rfl rfl 0 (by decide) (hg _ wd210) (fun _ h9 => h9) rfl d_Model_common_44 ?_
      refine lv_if_ne (tgt := 102) hx hb d_Model_common_47 (by decide) (fun c5 => ?_) (fun c5 => ?_)
      · have h := b_f h c5
        obtain rfl := Option.some.inj h
        exact k0 ls (lv_sub hl [0, 1, 2, 3, 4] rfl)
      · have h := b_t h c5
        refine lv_aload_n hx hb d_Model_common_50 rfl (lv_at hl 0 rfl) ?_
        refine va_get (D := (dC, dI)) (ci := 5) (v := .ref (a 4)) (C := "BlockRulerModel") (T := F_Model) (N := 16) hx hb hg i_Model hown hK hP 0 rfl rfl 7 (by decide) (hg _ wd229) (fun _ h9 => h9) rfl d_Model_common_51 ?_
        refine lv_iload hx hb d_Model_common_54 (lv_at hl 4 rfl) ?_
        obtain ⟨hi6, h⟩ := gd h
        refine va_iald (f := sM_at σ) (n := 64) hx hb hK hP 4 3 rfl rfl hi6 d_Model_common_56 ?_
        refine lv_topi (fun x7 ex7 => ?_)
        have h := lt_ h x7 ex7
        refine lv_istore (lv' := [(5, .int x7), (0, .ref (a 0)), (1, .int v1), (2, .int v2), (3, .int v3), (4, .int v4)]) hx hb d_Model_common_57 hl (by decide) rfl (fun ls hl => ?_)
        refine lv_aload_n hx hb d_Model_common_59 rfl (lv_at hl 1 rfl) ?_
        refine va_get (D := (dC, dI)) (ci := 5) (v := .ref (a 5)) (C := "BlockRulerModel") (T := F_Model) (N := 16) hx hb hg i_Model hown hK hP 0 rfl rfl 8 (by decide) (hg _ wd225) (fun _ h9 => h9) rfl d_Model_common_60 ?_
        refine lv_bipush (v := 64) hx hb d_Model_common_63 (by decide) ?_
        refine lv_iload hx hb d_Model_common_65 (lv_at hl 0 rfl) ?_
        refine lv_imul hx hb d_Model_common_67 ?_
        refine lv_iload_n hx hb d_Model_common_68 rfl (lv_at hl 2 rfl) ?_
        refine lv_iadd hx hb d_Model_common_69 ?_
        obtain ⟨hi8, h⟩ := gd h
        refine va_zald (f := sM_rules σ) (n := 4096) hx hb hK hP 5 4 rfl rfl hi8 d_Model_common_70 ?_
        refine lv_if_eq (tgt := 94) hx hb d_Model_common_71 (by decide) (fun c9 => ?_) (fun c9 => ?_)
        · have h := b_t h c9
          refine lv_iload_n hx hb d_Model_common_94 rfl (lv_at hl 4 rfl) ?_
          refine lv_istore_n (lv' := [(3, .int v3), (5, .int x7), (0, .ref (a 0)), (1, .int v1), (2, .int v2), (4, .int v4)]) hx hb d_Model_common_95 rfl hl (by decide) rfl (fun ls hl => ?_)
          refine lv_iinc (v := v4 + 1) (lv' := [(4, .int (v4 + 1)), (3, .int v3), (5, .int x7), (0, .ref (a 0)), (1, .int v1), (2, .int v2)]) hx hb d_Model_common_96 hl (k := 5) rfl rfl (by decide) rfl (fun ls hl => ?_)
          refine lv_goto (tgt := 34) hx hb d_Model_common_99 (by decide) ?_
          exact ih σ v1 v2 v3 (v4 + 1) y h hP ls (lv_sub hl [3, 4, 5, 1, 0] rfl) k0
        · have h := b_f h c9
          refine lv_aload_n hx hb d_Model_common_74 rfl (lv_at hl 1 rfl) ?_
          refine va_get (D := (dC, dI)) (ci := 5) (v := .ref (a 5)) (C := "BlockRulerModel") (T := F_Model) (N := 16) hx hb hg i_Model hown hK hP 0 rfl rfl 8 (by decide) (hg _ wd225) (fun _ h9 => h9) rfl d_Model_common_75 ?_
          refine lv_bipush (v := 64) hx hb d_Model_common_78 (by decide) ?_
          refine lv_iload hx hb d_Model_common_80 (lv_at hl 0 rfl) ?_
          refine lv_imul hx hb d_Model_common_82 ?_
          refine lv_iload_n hx hb d_Model_common_83 rfl (lv_at hl 3 rfl) ?_
          refine lv_iadd hx hb d_Model_common_84 ?_
          obtain ⟨hi10, h⟩ := gd h
          refine va_zald (f := sM_rules σ) (n := 4096) hx hb hK hP 5 4 rfl rfl hi10 d_Model_common_85 ?_
          refine lv_if_eq (tgt := 94) hx hb d_Model_common_86 (by decide) (fun c11 => ?_) (fun c11 => ?_)
          · have h := b_t h c11
            refine lv_iload_n hx hb d_Model_common_94 rfl (lv_at hl 4 rfl) ?_
            refine lv_istore_n (lv' := [(3, .int v3), (5, .int x7), (0, .ref (a 0)), (1, .int v1), (2, .int v2), (4, .int v4)]) hx hb d_Model_common_95 rfl hl (by decide) rfl (fun ls hl => ?_)
            refine lv_iinc (v := v4 + 1) (lv' := [(4, .int (v4 + 1)), (3, .int v3), (5, .int x7), (0, .ref (a 0)), (1, .int v1), (2, .int v2)]) hx hb d_Model_common_96 hl (k := 5) rfl rfl (by decide) rfl (fun ls hl => ?_)
            refine lv_goto (tgt := 34) hx hb d_Model_common_99 (by decide) ?_
            exact ih σ v1 v2 v3 (v4 + 1) y h hP ls (lv_sub hl [3, 4, 5, 1, 0] rfl) k0
          · have h := b_f h c11
            refine lv_iload hx hb d_Model_common_89 (lv_at hl 0 rfl) ?_
            refine lv_goto (tgt := 95) hx hb d_Model_common_91 (by decide) ?_
            refine lv_istore_n (lv' := [(3, .int x7), (5, .int x7), (0, .ref (a 0)), (1, .int v1), (2, .int v2), (4, .int v4)]) hx hb d_Model_common_95 rfl hl (by decide) rfl (fun ls hl => ?_)
            refine lv_iinc (v := v4 + 1) (lv' := [(4, .int (v4 + 1)), (3, .int x7), (5, .int x7), (0, .ref (a 0)), (1, .int v1), (2, .int v2)]) hx hb d_Model_common_96 hl (k := 5) rfl rfl (by decide) rfl (fun ls hl => ?_)
            refine lv_goto (tgt := 34) hx hb d_Model_common_99 (by decide) ?_
            exact ih σ v1 v2 x7 (v4 + 1) y h hP ls (lv_sub hl [3, 4, 5, 1, 0] rfl) k0
set_option maxHeartbeats 4000000 in
set_option maxRecDepth 100000 in
theorem c_Model_common (l : Launch) (dC : Nat → ClassId) (dI : Nat → Nat → Nat) (a : Nat → Nat) (cs : Nat → ClassId) (sz : Nat) (σ : SM) (v1 : Int32) (v2 : Int32) (r : Int32 × SM) (h : f_Model_common σ v1 v2 = some r) : Met l y_Model_common w_Model_common rm_Model_common (va_Pc [.ref (a 0), .int v1, .int v2] (fun U => U.heap.size = sz ∧ WDM dC dI a cs σ U)) (va_Qi (fun (x : Int32) (u : SM) => (x, u) = r) (atM dC dI a cs (va_A (wsM a cs σ) sz)) (va_A (wsM a cs σ) sz)) 0 0 (va_A (wsM a cs σ) sz) := by
  refine Met.ofW (cc := b_Model_common) (maxL := 6) (ret := (some .int)) (by decide) rfl ?_
  intro p e s m args below meth c s₁ B hml hv
  obtain ⟨rfl, hsz, hP, hK, hN, hD0⟩ := hv
  have hx := B.exec
  have hb := B.bytes
  have hr := B.returns
  have hg : ∀ w ∈ G_, w.before _ s = true := fun w hw => atoms_spec (ws := w_Model_common) B.pre w (List.mem_cons_of_mem _ hw)
  have hown : s.vm.findClass "BlockRulerModel" = some m.cls := findClass_of_methodNamed B.named
  have hlocks := B.notSynchronized
  have C0 : Cx "BlockRulerModel" b_Model_common 6 p s m _ meth c := ⟨hx, hb, hml, hown, hg, hlocks⟩
  subst hsz
  have hD := hD0.self (sz := s.heap.size)
  generalize hAe : va_A (wsM a cs σ) s.heap.size = A at hD ⊢
  have hA : ∀ q : Nat, s.heap.size ≤ q → A q := fun q h => by rw [← hAe]; exact Or.inr h
  have hS : va_S A s.heap s.heap [] := va_S.rf
  have hl := lv_entry ([.ref (a 0), .int v1, .int v2]) (n := 6) (Nat.le_of_ble_eq_true rfl)
  rw [lg_entry_eq]
  generalize (lg_sl ([.ref (a 0), .int v1, .int v2]) ++ List.replicate (6 - (lg_sl ([.ref (a 0), .int v1, .int v2])).length) Slot.unset).toArray = ls at hl ⊢
  have hl : lv_has ls 6 [(0, .ref (a 0)), (1, .int v1), (2, .int v2)] := hl
  unfold f_Model_common at h
  refine lv_aload_n hx hb d_Model_common_0 rfl (lv_at hl 0 rfl) ?_
  obtain ⟨r1, hr1, h⟩ := bd h
  have hFc := va_free (wc := wsM a cs σ) hD hS hA [0, 1, 2, 3, 4, 5, 6, 7, 8, 9, 10, 11, 12] (allM a cs σ)
  refine va_callv (va_runV (C := "BlockRulerModel") (As := []) (rest := []) ⟨hx, hb, hml, hown, hg⟩ (c_Model_reckon l dC dI a cs _ σ _ hr1) (cwV 0 hg (gdV wd253 wd252 wd251 wd215 wd254) rfl rfl rfl (by decide +kernel) ⟨Nat.le_of_ble_eq_true rfl, Nat.le_of_ble_eq_true rfl⟩) ⟨wbz_blind, va_recv hK hP (ci := 5) (q0 := 0) rfl rfl, fun U hU hW => ⟨rfl, by rw [hU], wb_preD hU hW hP hK hN hD⟩⟩ rfl rfl hl.1 rfl (lv_room (Nat.le_of_ble_eq_true rfl)) d_Model_common_1 ⟨Nat.zero_le _, Nat.zero_le _⟩) hS (fun q _ h => hFc q h) hFc (fun u t H locs ht hvm hw hB hz1 hk1 hS => ?_)
  obtain rfl : r1 = u := hw.symm
  have hP : va_P (dC, dI) classes (wsM a cs r1) H := by have q := hB.1; rw [ht] at q; exact q
  have hD : va_D A (wsM a cs r1) := hB.2.weaken (fun _ _ _ h => hFc _ h)
  refine lv_aload_n hx hb d_Model_common_4 rfl (lv_at hl 0 rfl) ?_
  refine lv_aload_n hx hb d_Model_common_5 rfl (lv_at hl 0 rfl) ?_
  refine lv_iload_n hx hb d_Model_common_6 rfl (lv_at hl 1 rfl) ?_
  obtain ⟨r2, hr2, h⟩ := bd h
  refine ro_call (v := .int r2) (va_runV (C := "BlockRulerModel") (As := [.int v1]) (rest := [.ref (a 0)]) ⟨hx, hb, hml, hown, hg⟩ (c_Model_isReached l dC dI a cs r1 v1 _ hr2) (cwV 1 hg (gdV wd257 wd256 wd255 wd215 wd258) rfl rfl rfl (by decide +kernel) ⟨Nat.le_of_ble_eq_true rfl, Nat.le_of_ble_eq_true rfl⟩) ⟨wb_blind, va_recv hK hP (ci := 5) (q0 := 0) rfl rfl, fun U hU hW => ⟨rfl, wb_pre hU hW hP hK hN⟩⟩ rfl rfl hl.1 rfl (lv_room (Nat.le_of_ble_eq_true rfl)) d_Model_common_7 ⟨Nat.zero_le _, Nat.zero_le _⟩) ?_
  refine lv_if_eq (tgt := 25) hx hb d_Model_common_10 (by decide) (fun c3 => ?_) (fun c3 => ?_)
  · have h := b_t h c3
    refine lv_iconst (v := 1) hx hb d_Model_common_25 (by decide) ?_
    refine va_put (D := (dC, dI)) (ci := 5) (v := .int 1) (ty := .int) (C := "BlockRulerModel") (T := F_Model) (N := 16) hx hb hg i_Model t_Model t_Model_ok n_Model hown hK hP hD hS 0 rfl rfl 0 (by decide) (hg _ wd210) (fun _ h9 => h9) rfl (by decide +kernel) rfl rfl (Nat.le_of_ble_eq_true rfl) d_Model_common_26 (fun H locs hP hD hS => ?_)
    have hP := va_Pe (setM_thrown a cs r1 1) hP
    have hD := va_De (setM_thrown a cs r1 1) hD
    refine lv_iconst (v := 0) hx hb d_Model_common_29 (by decide) ?_
    refine lv_istore_n (lv' := [(3, .int 0), (0, .ref (a 0)), (1, .int v1), (2, .int v2)]) hx hb d_Model_common_30 rfl hl (by decide) rfl (fun ls hl => ?_)
    refine lv_iconst (v := 0) hx hb d_Model_common_31 (by decide) ?_
    refine lv_istore (lv' := [(4, .int 0), (3, .int 0), (0, .ref (a 0)), (1, .int v1), (2, .int v2)]) hx hb d_Model_common_32 hl (by decide) rfl (fun ls hl => ?_)
    obtain ⟨y12, hy12, h⟩ := bd h
    refine lpW_Model_common_34 C0 hK hN 100 (uM_thrown r1 1) v1 v2 0 0 y12 hy12 hP ls (lv_sub hl [2, 3, 4, 1, 0] rfl) (fun ls hl => ?_)
    refine lv_iload_n hx hb d_Model_common_102 rfl (lv_at hl 3 rfl) ?_
    exact W.iret (v := y12.1) hx hb hr (fun t ht hW => ⟨⟨y12.1, uM_thrown r1 1, rfl, Option.some.inj h, by rw [ht]; exact hP, hD⟩, hS.F ht⟩) hS.2.2 d_Model_common_103
  · have h := b_f h c3
    refine lv_aload_n hx hb d_Model_common_13 rfl (lv_at hl 0 rfl) ?_
    refine lv_iload_n hx hb d_Model_common_14 rfl (lv_at hl 2 rfl) ?_
    obtain ⟨r13, hr13, h⟩ := bd h
    refine ro_call (v := .int r13) (va_runV (C := "BlockRulerModel") (As := [.int v2]) (rest := [.ref (a 0)]) ⟨hx, hb, hml, hown, hg⟩ (c_Model_isReached l dC dI a cs r1 v2 _ hr13) (cwV 1 hg (gdV wd257 wd256 wd255 wd215 wd258) rfl rfl rfl (by decide +kernel) ⟨Nat.le_of_ble_eq_true rfl, Nat.le_of_ble_eq_true rfl⟩) ⟨wb_blind, va_recv hK hP (ci := 5) (q0 := 0) rfl rfl, fun U hU hW => ⟨rfl, wb_pre hU hW hP hK hN⟩⟩ rfl rfl hl.1 rfl (lv_room (Nat.le_of_ble_eq_true rfl)) d_Model_common_15 ⟨Nat.zero_le _, Nat.zero_le _⟩) ?_
    refine lv_if_eq (tgt := 25) hx hb d_Model_common_18 (by decide) (fun c14 => ?_) (fun c14 => ?_)
    · have h := b_t h c14
      refine lv_iconst (v := 1) hx hb d_Model_common_25 (by decide) ?_
      refine va_put (D := (dC, dI)) (ci := 5) (v := .int 1) (ty := .int) (C := "BlockRulerModel") (T := F_Model) (N := 16) hx hb hg i_Model t_Model t_Model_ok n_Model hown hK hP hD hS 0 rfl rfl 0 (by decide) (hg _ wd210) (fun _ h9 => h9) rfl (by decide +kernel) rfl rfl (Nat.le_of_ble_eq_true rfl) d_Model_common_26 (fun H locs hP hD hS => ?_)
      have hP := va_Pe (setM_thrown a cs r1 1) hP
      have hD := va_De (setM_thrown a cs r1 1) hD
      refine lv_iconst (v := 0) hx hb d_Model_common_29 (by decide) ?_
      refine lv_istore_n (lv' := [(3, .int 0), (0, .ref (a 0)), (1, .int v1), (2, .int v2)]) hx hb d_Model_common_30 rfl hl (by decide) rfl (fun ls hl => ?_)
      refine lv_iconst (v := 0) hx hb d_Model_common_31 (by decide) ?_
      refine lv_istore (lv' := [(4, .int 0), (3, .int 0), (0, .ref (a 0)), (1, .int v1), (2, .int v2)]) hx hb d_Model_common_32 hl (by decide) rfl (fun ls hl => ?_)
      obtain ⟨y15, hy15, h⟩ := bd h
      refine lpW_Model_common_34 C0 hK hN 100 (uM_thrown r1 1) v1 v2 0 0 y15 hy15 hP ls (lv_sub hl [2, 3, 4, 1, 0] rfl) (fun ls hl => ?_)
      refine lv_iload_n hx hb d_Model_common_102 rfl (lv_at hl 3 rfl) ?_
      exact W.iret (v := y15.1) hx hb hr (fun t ht hW => ⟨⟨y15.1, uM_thrown r1 1, rfl, Option.some.inj h, by rw [ht]; exact hP, hD⟩, hS.F ht⟩) hS.2.2 d_Model_common_103
    · have h := b_f h c14
      refine lv_iconst (v := 0) hx hb d_Model_common_21 (by decide) ?_
      refine lv_goto (tgt := 26) hx hb d_Model_common_22 (by decide) ?_
      refine va_put (D := (dC, dI)) (ci := 5) (v := .int 0) (ty := .int) (C := "BlockRulerModel") (T := F_Model) (N := 16) hx hb hg i_Model t_Model t_Model_ok n_Model hown hK hP hD hS 0 rfl rfl 0 (by decide) (hg _ wd210) (fun _ h9 => h9) rfl (by decide +kernel) rfl rfl (Nat.le_of_ble_eq_true rfl) d_Model_common_26 (fun H locs hP hD hS => ?_)
      have hP := va_Pe (setM_thrown a cs r1 0) hP
      have hD := va_De (setM_thrown a cs r1 0) hD
      refine lv_iconst (v := 0) hx hb d_Model_common_29 (by decide) ?_
      refine lv_istore_n (lv' := [(3, .int 0), (0, .ref (a 0)), (1, .int v1), (2, .int v2)]) hx hb d_Model_common_30 rfl hl (by decide) rfl (fun ls hl => ?_)
      refine lv_iconst (v := 0) hx hb d_Model_common_31 (by decide) ?_
      refine lv_istore (lv' := [(4, .int 0), (3, .int 0), (0, .ref (a 0)), (1, .int v1), (2, .int v2)]) hx hb d_Model_common_32 hl (by decide) rfl (fun ls hl => ?_)
      obtain ⟨y16, hy16, h⟩ := bd h
      refine lpW_Model_common_34 C0 hK hN 100 (uM_thrown r1 0) v1 v2 0 0 y16 hy16 hP ls (lv_sub hl [2, 3, 4, 1, 0] rfl) (fun ls hl => ?_)
      refine lv_iload_n hx hb d_Model_common_102 rfl (lv_at hl 3 rfl) ?_
      exact W.iret (v := y16.1) hx hb hr (fun t ht hW => ⟨⟨y16.1, uM_thrown r1 0, rfl, Option.some.inj h, by rw [ht]; exact hP, hD⟩, hS.F ht⟩) hS.2.2 d_Model_common_103
set_option maxHeartbeats 4000000 in
set_option maxRecDepth 100000 in
theorem c_Model_sort (l : Launch) (dC : Nat → ClassId) (dI : Nat → Nat → Nat) (a : Nat → Nat) (cs : Nat → ClassId) (sz : Nat) (σ : SM) (v1 : Int32) (v2 : Int32) (r : Int32 × SM) (h : f_Model_sort σ v1 v2 = some r) : Met l y_Model_sort w_Model_sort rm_Model_sort (va_Pc [.ref (a 0), .int v1, .int v2] (fun U => U.heap.size = sz ∧ WDM dC dI a cs σ U)) (va_Qi (fun (x : Int32) (u : SM) => (x, u) = r) (atM dC dI a cs (va_A (wsM a cs σ) sz)) (va_A (wsM a cs σ) sz)) 0 0 (va_A (wsM a cs σ) sz) := by
  refine Met.ofW (cc := b_Model_sort) (maxL := 3) (ret := (some .int)) (by decide) rfl ?_
  intro p e s m args below meth c s₁ B hml hv
  obtain ⟨rfl, hsz, hP, hK, hN, hD0⟩ := hv
  have hx := B.exec
  have hb := B.bytes
  have hr := B.returns
  have hg : ∀ w ∈ G_, w.before _ s = true := fun w hw => atoms_spec (ws := w_Model_sort) B.pre w (List.mem_cons_of_mem _ hw)
  have hown : s.vm.findClass "BlockRulerModel" = some m.cls := findClass_of_methodNamed B.named
  have hlocks := B.notSynchronized
  have C0 : Cx "BlockRulerModel" b_Model_sort 3 p s m _ meth c := ⟨hx, hb, hml, hown, hg, hlocks⟩
  subst hsz
  have hD := hD0.self (sz := s.heap.size)
  generalize hAe : va_A (wsM a cs σ) s.heap.size = A at hD ⊢
  have hA : ∀ q : Nat, s.heap.size ≤ q → A q := fun q h => by rw [← hAe]; exact Or.inr h
  have hS : va_S A s.heap s.heap [] := va_S.rf
  have hl := lv_entry ([.ref (a 0), .int v1, .int v2]) (n := 3) (Nat.le_of_ble_eq_true rfl)
  rw [lg_entry_eq]
  generalize (lg_sl ([.ref (a 0), .int v1, .int v2]) ++ List.replicate (3 - (lg_sl ([.ref (a 0), .int v1, .int v2])).length) Slot.unset).toArray = ls at hl ⊢
  have hl : lv_has ls 3 [(0, .ref (a 0)), (1, .int v1), (2, .int v2)] := hl
  unfold f_Model_sort at h
  refine lv_aload_n hx hb d_Model_sort_0 rfl (lv_at hl 0 rfl) ?_
  refine lv_iconst (v := 0) hx hb d_Model_sort_1 (by decide) ?_
  refine va_put (D := (dC, dI)) (ci := 5) (v := .int 0) (ty := .int) (C := "BlockRulerModel") (T := F_Model) (N := 16) hx hb hg i_Model t_Model t_Model_ok n_Model hown hK hP hD hS 0 rfl rfl 0 (by decide) (hg _ wd210) (fun _ h9 => h9) rfl (by decide +kernel) rfl rfl (Nat.le_of_ble_eq_true rfl) d_Model_sort_2 (fun H locs hP hD hS => ?_)
  have hP := va_Pe (setM_thrown a cs σ 0) hP
  have hD := va_De (setM_thrown a cs σ 0) hD
  refine lv_aload_n hx hb d_Model_sort_5 rfl (lv_at hl 0 rfl) ?_
  obtain ⟨r1, hr1, h⟩ := bd h
  have hFc := va_free (wc := wsM a cs (uM_thrown σ 0)) hD hS hA [0, 1, 2, 3, 4, 5, 6, 7, 8, 9, 10, 11, 12] (allM a cs (uM_thrown σ 0))
  refine va_callv (va_runV (C := "BlockRulerModel") (As := []) (rest := []) ⟨hx, hb, hml, hown, hg⟩ (c_Model_reckon l dC dI a cs _ (uM_thrown σ 0) _ hr1) (cwV 0 hg (gdV wd253 wd252 wd251 wd215 wd254) rfl rfl rfl (by decide +kernel) ⟨Nat.le_of_ble_eq_true rfl, Nat.le_of_ble_eq_true rfl⟩) ⟨wbz_blind, va_recv hK hP (ci := 5) (q0 := 0) rfl rfl, fun U hU hW => ⟨rfl, by rw [hU], wb_preD hU hW hP hK hN hD⟩⟩ rfl rfl hl.1 rfl (lv_room (Nat.le_of_ble_eq_true rfl)) d_Model_sort_6 ⟨Nat.zero_le _, Nat.zero_le _⟩) hS (fun q _ h => hFc q h) hFc (fun u t H locs ht hvm hw hB hz1 hk1 hS => ?_)
  obtain rfl : r1 = u := hw.symm
  have hP : va_P (dC, dI) classes (wsM a cs r1) H := by have q := hB.1; rw [ht] at q; exact q
  have hD : va_D A (wsM a cs r1) := hB.2.weaken (fun _ _ _ h => hFc _ h)
  refine lv_aload_n hx hb d_Model_sort_9 rfl (lv_at hl 0 rfl) ?_
  refine lv_iload_n hx hb d_Model_sort_10 rfl (lv_at hl 1 rfl) ?_
  refine lv_iload_n hx hb d_Model_sort_11 rfl (lv_at hl 2 rfl) ?_
  obtain ⟨r2, hr2, h⟩ := bd h
  refine ro_call (v := .int r2) (va_runV (C := "BlockRulerModel") (As := [.int v1, .int v2]) (rest := []) ⟨hx, hb, hml, hown, hg⟩ (c_Model_isWay l dC dI a cs r1 v1 v2 _ hr2) (cwV 2 hg (gdV wd222 wd221 wd220 wd215 wd223) rfl rfl rfl (by decide +kernel) ⟨Nat.le_of_ble_eq_true rfl, Nat.le_of_ble_eq_true rfl⟩) ⟨wb_blind, va_recv hK hP (ci := 5) (q0 := 0) rfl rfl, fun U hU hW => ⟨rfl, wb_pre hU hW hP hK hN⟩⟩ rfl rfl hl.1 rfl (lv_room (Nat.le_of_ble_eq_true rfl)) d_Model_sort_12 ⟨Nat.zero_le _, Nat.zero_le _⟩) ?_
  refine lv_if_eq (tgt := 27) hx hb d_Model_sort_15 (by decide) (fun c3 => ?_) (fun c3 => ?_)
  · have h := b_t h c3
    refine lv_iconst (v := -1) hx hb d_Model_sort_27 (by decide) ?_
    exact W.iret (v := -1) hx hb hr (fun t ht hW => ⟨⟨-1, r1, rfl, Option.some.inj h, by rw [ht]; exact hP, hD⟩, hS.F ht⟩) hS.2.2 d_Model_sort_28
  · have h := b_f h c3
    refine lv_aload_n hx hb d_Model_sort_18 rfl (lv_at hl 0 rfl) ?_
    refine lv_iload_n hx hb d_Model_sort_19 rfl (lv_at hl 1 rfl) ?_
    refine lv_iload_n hx hb d_Model_sort_20 rfl (lv_at hl 2 rfl) ?_
    obtain ⟨r4, hr4, h⟩ := bd h
    refine ro_call (v := .int r4) (va_runV (C := "BlockRulerModel") (As := [.int v1, .int v2]) (rest := []) ⟨hx, hb, hml, hown, hg⟩ (c_Model_sortOf l dC dI a cs r1 v1 v2 _ hr4) (cwV 2 hg (gdV wd234 wd233 wd232 wd215 wd235) rfl rfl rfl (by decide +kernel) ⟨Nat.le_of_ble_eq_true rfl, Nat.le_of_ble_eq_true rfl⟩) ⟨wb_blind, va_recv hK hP (ci := 5) (q0 := 0) rfl rfl, fun U hU hW => ⟨rfl, wb_pre hU hW hP hK hN⟩⟩ rfl rfl hl.1 rfl (lv_room (Nat.le_of_ble_eq_true rfl)) d_Model_sort_21 ⟨Nat.zero_le _, Nat.zero_le _⟩) ?_
    refine lv_goto (tgt := 28) hx hb d_Model_sort_24 (by decide) ?_
    exact W.iret (v := r4) hx hb hr (fun t ht hW => ⟨⟨r4, r1, rfl, Option.some.inj h, by rw [ht]; exact hP, hD⟩, hS.F ht⟩) hS.2.2 d_Model_sort_28
set_option maxHeartbeats 4000000 in
set_option maxRecDepth 100000 in
theorem c_Model_inLoop (l : Launch) (dC : Nat → ClassId) (dI : Nat → Nat → Nat) (a : Nat → Nat) (cs : Nat → ClassId) (sz : Nat) (σ : SM) (v1 : Int32) (v2 : Int32) (r : Int32 × SM) (h : f_Model_inLoop σ v1 v2 = some r) : Met l y_Model_inLoop w_Model_inLoop rm_Model_inLoop (va_Pc [.ref (a 0), .int v1, .int v2] (fun U => U.heap.size = sz ∧ WDM dC dI a cs σ U)) (va_Qi (fun (x : Int32) (u : SM) => (x, u) = r) (atM dC dI a cs (va_A (wsM a cs σ) sz)) (va_A (wsM a cs σ) sz)) 0 0 (va_A (wsM a cs σ) sz) := by
  refine Met.ofW (cc := b_Model_inLoop) (maxL := 3) (ret := (some .boolean)) (by decide) rfl ?_
  intro p e s m args below meth c s₁ B hml hv
  obtain ⟨rfl, hsz, hP, hK, hN, hD0⟩ := hv
  have hx := B.exec
  have hb := B.bytes
  have hr := B.returns
  have hg : ∀ w ∈ G_, w.before _ s = true := fun w hw => atoms_spec (ws := w_Model_inLoop) B.pre w (List.mem_cons_of_mem _ hw)
  have hown : s.vm.findClass "BlockRulerModel" = some m.cls := findClass_of_methodNamed B.named
  have hlocks := B.notSynchronized
  have C0 : Cx "BlockRulerModel" b_Model_inLoop 3 p s m _ meth c := ⟨hx, hb, hml, hown, hg, hlocks⟩
  subst hsz
  have hD := hD0.self (sz := s.heap.size)
  generalize hAe : va_A (wsM a cs σ) s.heap.size = A at hD ⊢
  have hA : ∀ q : Nat, s.heap.size ≤ q → A q := fun q h => by rw [← hAe]; exact Or.inr h
  have hS : va_S A s.heap s.heap [] := va_S.rf
  have hl := lv_entry ([.ref (a 0), .int v1, .int v2]) (n := 3) (Nat.le_of_ble_eq_true rfl)
  rw [lg_entry_eq]
  generalize (lg_sl ([.ref (a 0), .int v1, .int v2]) ++ List.replicate (3 - (lg_sl ([.ref (a 0), .int v1, .int v2])).length) Slot.unset).toArray = ls at hl ⊢
  have hl : lv_has ls 3 [(0, .ref (a 0)), (1, .int v1), (2, .int v2)] := hl
  unfold f_Model_inLoop at h
  refine lv_aload_n hx hb d_Model_inLoop_0 rfl (lv_at hl 0 rfl) ?_
  refine lv_iconst (v := 0) hx hb d_Model_inLoop_1 (by decide) ?_
  refine va_put (D := (dC, dI)) (ci := 5) (v := .int 0) (ty := .int) (C := "BlockRulerModel") (T := F_Model) (N := 16) hx hb hg i_Model t_Model t_Model_ok n_Model hown hK hP hD hS 0 rfl rfl 0 (by decide) (hg _ wd210) (fun _ h9 => h9) rfl (by decide +kernel) rfl rfl (Nat.le_of_ble_eq_true rfl) d_Model_inLoop_2 (fun H locs hP hD hS => ?_)
  have hP := va_Pe (setM_thrown a cs σ 0) hP
  have hD := va_De (setM_thrown a cs σ 0) hD
  refine lv_aload_n hx hb d_Model_inLoop_5 rfl (lv_at hl 0 rfl) ?_
  obtain ⟨r1, hr1, h⟩ := bd h
  have hFc := va_free (wc := wsM a cs (uM_thrown σ 0)) hD hS hA [0, 1, 2, 3, 4, 5, 6, 7, 8, 9, 10, 11, 12] (allM a cs (uM_thrown σ 0))
  refine va_callv (va_runV (C := "BlockRulerModel") (As := []) (rest := []) ⟨hx, hb, hml, hown, hg⟩ (c_Model_reckon l dC dI a cs _ (uM_thrown σ 0) _ hr1) (cwV 0 hg (gdV wd253 wd252 wd251 wd215 wd254) rfl rfl rfl (by decide +kernel) ⟨Nat.le_of_ble_eq_true rfl, Nat.le_of_ble_eq_true rfl⟩) ⟨wbz_blind, va_recv hK hP (ci := 5) (q0 := 0) rfl rfl, fun U hU hW => ⟨rfl, by rw [hU], wb_preD hU hW hP hK hN hD⟩⟩ rfl rfl hl.1 rfl (lv_room (Nat.le_of_ble_eq_true rfl)) d_Model_inLoop_6 ⟨Nat.zero_le _, Nat.zero_le _⟩) hS (fun q _ h => hFc q h) hFc (fun u t H locs ht hvm hw hB hz1 hk1 hS => ?_)
  obtain rfl : r1 = u := hw.symm
  have hP : va_P (dC, dI) classes (wsM a cs r1) H := by have q := hB.1; rw [ht] at q; exact q
  have hD : va_D A (wsM a cs r1) := hB.2.weaken (fun _ _ _ h => hFc _ h)
  refine lv_aload_n hx hb d_Model_inLoop_9 rfl (lv_at hl 0 rfl) ?_
  refine lv_iload_n hx hb d_Model_inLoop_10 rfl (lv_at hl 1 rfl) ?_
  refine ro_call (v := .int (f_Model_isBlock r1 v1)) (va_runV (C := "BlockRulerModel") (As := [.int v1]) (rest := []) ⟨hx, hb, hml, hown, hg⟩ (c_Model_isBlock l dC dI a cs r1 v1 _ rfl) (cwV 1 hg (gdV wd214 wd213 wd212 wd215 wd216) rfl rfl rfl (by decide +kernel) ⟨Nat.le_of_ble_eq_true rfl, Nat.le_of_ble_eq_true rfl⟩) ⟨wb_blind, va_recv hK hP (ci := 5) (q0 := 0) rfl rfl, fun U hU hW => ⟨rfl, wb_pre hU hW hP hK hN⟩⟩ rfl rfl hl.1 rfl (lv_room (Nat.le_of_ble_eq_true rfl)) d_Model_inLoop_11 ⟨Nat.zero_le _, Nat.zero_le _⟩) ?_
  refine lv_if_eq (tgt := 52) hx hb d_Model_inLoop_14 (by decide) (fun c2 => ?_) (fun c2 => ?_)
  · have h := b_t h c2
    refine lv_iconst (v := 0) hx hb d_Model_inLoop_52 (by decide) ?_
    exact W.zret (ty := .boolean) (v := 0) hx hb hr rfl (fun t ht hW => ⟨⟨0, r1, rfl, Option.some.inj h, by rw [ht]; exact hP, hD⟩, hS.F ht⟩) hS.2.2 d_Model_inLoop_53
  · have h := b_f h c2
    refine lv_aload_n hx hb d_Model_inLoop_17 rfl (lv_at hl 0 rfl) ?_
    refine lv_iload_n hx hb d_Model_inLoop_18 rfl (lv_at hl 2 rfl) ?_
    refine ro_call (v := .int (f_Model_isBlock r1 v2)) (va_runV (C := "BlockRulerModel") (As := [.int v2]) (rest := []) ⟨hx, hb, hml, hown, hg⟩ (c_Model_isBlock l dC dI a cs r1 v2 _ rfl) (cwV 1 hg (gdV wd214 wd213 wd212 wd215 wd216) rfl rfl rfl (by decide +kernel) ⟨Nat.le_of_ble_eq_true rfl, Nat.le_of_ble_eq_true rfl⟩) ⟨wb_blind, va_recv hK hP (ci := 5) (q0 := 0) rfl rfl, fun U hU hW => ⟨rfl, wb_pre hU hW hP hK hN⟩⟩ rfl rfl hl.1 rfl (lv_room (Nat.le_of_ble_eq_true rfl)) d_Model_inLoop_19 ⟨Nat.zero_le _, Nat.zero_le _⟩) ?_
    refine lv_if_eq (tgt := 52) hx hb d_Model_inLoop_22 (by decide) (fun c3 => ?_) (fun c3 => ?_)
    · have h := b_t h c3
      refine lv_iconst (v := 0) hx hb d_Model_inLoop_52 (by decide) ?_
      exact W.zret (ty := .boolean) (v := 0) hx hb hr rfl (fun t ht hW => ⟨⟨0, r1, rfl, Option.some.inj h, by rw [ht]; exact hP, hD⟩, hS.F ht⟩) hS.2.2 d_Model_inLoop_53
    · have h := b_f h c3
      refine lv_aload_n hx hb d_Model_inLoop_25 rfl (lv_at hl 0 rfl) ?_
      refine va_get (D := (dC, dI)) (ci := 5) (v := .ref (a 7)) (C := "BlockRulerModel") (T := F_Model) (N := 16) hx hb hg i_Model hown hK hP 0 rfl rfl 10 (by decide) (hg _ wd237) (fun _ h9 => h9) rfl d_Model_inLoop_26 ?_
      refine lv_iload_n hx hb d_Model_inLoop_29 rfl (lv_at hl 1 rfl) ?_
      obtain ⟨hi4, h⟩ := gd h
      refine va_zald (f := sM_isHead r1) (n := 64) hx hb hK hP 7 6 rfl rfl hi4 d_Model_inLoop_30 ?_
      refine lv_if_eq (tgt := 52) hx hb d_Model_inLoop_31 (by decide) (fun c5 => ?_) (fun c5 => ?_)
      · have h := b_t h c5
        refine lv_iconst (v := 0) hx hb d_Model_inLoop_52 (by decide) ?_
        exact W.zret (ty := .boolean) (v := 0) hx hb hr rfl (fun t ht hW => ⟨⟨0, r1, rfl, Option.some.inj h, by rw [ht]; exact hP, hD⟩, hS.F ht⟩) hS.2.2 d_Model_inLoop_53
      · have h := b_f h c5
        refine lv_aload_n hx hb d_Model_inLoop_34 rfl (lv_at hl 0 rfl) ?_
        refine va_get (D := (dC, dI)) (ci := 5) (v := .ref (a 8)) (C := "BlockRulerModel") (T := F_Model) (N := 16) hx hb hg i_Model hown hK hP 0 rfl rfl 11 (by decide) (hg _ wd236) (fun _ h9 => h9) rfl d_Model_inLoop_35 ?_
        refine lv_bipush (v := 64) hx hb d_Model_inLoop_38 (by decide) ?_
        refine lv_iload_n hx hb d_Model_inLoop_40 rfl (lv_at hl 1 rfl) ?_
        refine lv_imul hx hb d_Model_inLoop_41 ?_
        refine lv_iload_n hx hb d_Model_inLoop_42 rfl (lv_at hl 2 rfl) ?_
        refine lv_iadd hx hb d_Model_inLoop_43 ?_
        obtain ⟨hi6, h⟩ := gd h
        refine va_zald (f := sM_loop r1) (n := 4096) hx hb hK hP 8 7 rfl rfl hi6 d_Model_inLoop_44 ?_
        refine lv_if_eq (tgt := 52) hx hb d_Model_inLoop_45 (by decide) (fun c7 => ?_) (fun c7 => ?_)
        · have h := b_t h c7
          refine lv_iconst (v := 0) hx hb d_Model_inLoop_52 (by decide) ?_
          exact W.zret (ty := .boolean) (v := 0) hx hb hr rfl (fun t ht hW => ⟨⟨0, r1, rfl, Option.some.inj h, by rw [ht]; exact hP, hD⟩, hS.F ht⟩) hS.2.2 d_Model_inLoop_53
        · have h := b_f h c7
          refine lv_iconst (v := 1) hx hb d_Model_inLoop_48 (by decide) ?_
          refine lv_goto (tgt := 53) hx hb d_Model_inLoop_49 (by decide) ?_
          exact W.zret (ty := .boolean) (v := 1) hx hb hr rfl (fun t ht hW => ⟨⟨1, r1, rfl, Option.some.inj h, by rw [ht]; exact hP, hD⟩, hS.F ht⟩) hS.2.2 d_Model_inLoop_53
