-- written by wip/gen (blockruler.py)
set_option maxHeartbeats 4000000 in
set_option maxRecDepth 100000 in
theorem c_BlockRuler_refresh (l : Launch) (dC : Nat → ClassId) (dI : Nat → Nat → Nat) (a : Nat → Nat) (cs : Nat → ClassId) (sz : Nat) (σ : SB) (r : SB) (h : f_BlockRuler_refresh σ = some r) : Met l y_BlockRuler_refresh w_BlockRuler_refresh rm_BlockRuler_refresh (va_Pc [.ref (a 0)] (fun U => U.heap.size = sz ∧ WDB dC dI a cs σ U)) (va_Qv (fun u : SB => u = r) (atB dC dI a cs (va_A (wsB a cs σ) sz)) (va_A (wsB a cs σ) sz)) 0 0 (va_A (wsB a cs σ) sz) := by
  refine Met.ofW (cc := b_BlockRuler_refresh) (maxL := 1) (ret := none) (by decide) rfl ?_
  intro p e s m args below meth c s₁ B hml hv
  obtain ⟨rfl, hsz, hP, hK, hN, hD0⟩ := hv
  have hx := B.exec
  have hb := B.bytes
  have hr := B.returns
  have hg : ∀ w ∈ G_, w.before _ s = true := fun w hw => atoms_spec (ws := w_BlockRuler_refresh) B.pre w (List.mem_cons_of_mem _ hw)
  have hown : s.vm.findClass "BlockRuler" = some m.cls := findClass_of_methodNamed B.named
  have hlocks := B.notSynchronized
  have C0 : Cx "BlockRuler" b_BlockRuler_refresh 1 p s m _ meth c := ⟨hx, hb, hml, hown, hg, hlocks⟩
  subst hsz
  have hD := hD0.self (sz := s.heap.size)
  generalize hAe : va_A (wsB a cs σ) s.heap.size = A at hD ⊢
  have hA : ∀ q : Nat, s.heap.size ≤ q → A q := fun q h => by rw [← hAe]; exact Or.inr h
  have hS : va_S A s.heap s.heap [] := va_S.rf
  have hl := lv_entry ([.ref (a 0)]) (n := 1) (Nat.le_of_ble_eq_true rfl)
  rw [lg_entry_eq]
  generalize (lg_sl ([.ref (a 0)]) ++ List.replicate (1 - (lg_sl ([.ref (a 0)])).length) Slot.unset).toArray = ls at hl ⊢
  have hl : lv_has ls 1 [(0, .ref (a 0))] := hl
  unfold f_BlockRuler_refresh at h
  refine lv_aload_n hx hb d_BlockRuler_refresh_0 rfl (lv_at hl 0 rfl) ?_
  refine va_get (D := (dC, dI)) (ci := 0) (v := .int (sB_stale σ)) (C := "BlockRuler") (T := F_BlockRuler) (N := 5) hx hb hg i_BlockRuler hown hK hP 0 rfl rfl 4 (by decide) (hg _ wd125) (fun _ h9 => h9) rfl d_BlockRuler_refresh_1 ?_
  refine lv_if_eq (tgt := 33) hx hb d_BlockRuler_refresh_4 (by decide) (fun c1 => ?_) (fun c1 => ?_)
  · have h := b_t h c1
    exact W.vret hx hb hr (fun t ht hW => ⟨⟨σ, rfl, Option.some.inj h, by rw [ht]; exact hP, hD⟩, hS.F ht⟩) hS.2.2 d_BlockRuler_refresh_33
  · have h := b_f h c1
    refine lv_aload_n hx hb d_BlockRuler_refresh_7 rfl (lv_at hl 0 rfl) ?_
    refine va_get (D := (dC, dI)) (ci := 0) (v := .ref (a 2)) (C := "BlockRuler") (T := F_BlockRuler) (N := 5) hx hb hg i_BlockRuler hown hK hP 0 rfl rfl 1 (by decide) (hg _ wd126) (fun _ h9 => h9) rfl d_BlockRuler_refresh_8 ?_
    obtain ⟨r2, hr2, h⟩ := bd h
    have hFc := va_free (wc := wsB a cs σ) hD hS hA [0, 1, 2, 3, 4, 5, 6, 7, 8, 9, 10, 11, 12, 13, 14] (allB a cs σ)
    refine va_callv (va_runV (C := "BlockRuler$Walk") (As := []) (rest := []) ⟨hx, hb, hml, hown, hg⟩ (c_Walk_make l dC dI a cs _ σ _ hr2) (cwV 0 hg (gdV wd129 wd128 wd127 wd45 wd130) rfl rfl rfl (by decide +kernel) ⟨Nat.le_of_ble_eq_true rfl, Nat.le_of_ble_eq_true rfl⟩) ⟨wbz_blind, va_recv hK hP (ci := 2) (q0 := 2) rfl rfl, fun U hU hW => ⟨rfl, by rw [hU], wb_preD hU hW hP hK hN hD⟩⟩ rfl rfl hl.1 rfl (lv_room (Nat.le_of_ble_eq_true rfl)) d_BlockRuler_refresh_11 ⟨Nat.zero_le _, Nat.zero_le _⟩) hS (fun q _ h => hFc q h) hFc (fun u t H locs ht hvm hw hB hz1 hk1 hS => ?_)
    obtain rfl : r2 = u := hw.symm
    have hP : va_P (dC, dI) classes (wsB a cs r2) H := by have q := hB.1; rw [ht] at q; exact q
    have hD : va_D A (wsB a cs r2) := hB.2.weaken (fun _ _ _ h => hFc _ h)
    refine lv_aload_n hx hb d_BlockRuler_refresh_14 rfl (lv_at hl 0 rfl) ?_
    refine va_get (D := (dC, dI)) (ci := 0) (v := .ref (a 3)) (C := "BlockRuler") (T := F_BlockRuler) (N := 5) hx hb hg i_BlockRuler hown hK hP 0 rfl rfl 2 (by decide) (hg _ wd131) (fun _ h9 => h9) rfl d_BlockRuler_refresh_15 ?_
    obtain ⟨r3, hr3, h⟩ := bd h
    have hFc := va_free (wc := wsB a cs r2) hD hS hA [0, 1, 2, 3, 4, 5, 6, 7, 8, 9, 10, 11, 12, 13, 14] (allB a cs r2)
    refine va_callv (va_runV (C := "BlockRuler$Rulers") (As := []) (rest := []) ⟨hx, hb, hml, hown, hg⟩ (c_Rulers_make l dC dI a cs _ r2 _ hr3) (cwV 0 hg (gdV wd134 wd133 wd132 wd63 wd135) rfl rfl rfl (by decide +kernel) ⟨Nat.le_of_ble_eq_true rfl, Nat.le_of_ble_eq_true rfl⟩) ⟨wbz_blind, va_recv hK hP (ci := 3) (q0 := 3) rfl rfl, fun U hU hW => ⟨rfl, by rw [hU], wb_preD hU hW hP hK hN hD⟩⟩ rfl rfl hl.1 rfl (lv_room (Nat.le_of_ble_eq_true rfl)) d_BlockRuler_refresh_18 ⟨Nat.zero_le _, Nat.zero_le _⟩) hS (fun q _ h => hFc q h) hFc (fun u t H locs ht hvm hw hB hz1 hk1 hS => ?_)
    obtain rfl : r3 = u := hw.symm
    have hP : va_P (dC, dI) classes (wsB a cs r3) H := by have q := hB.1; rw [ht] at q; exact q
    have hD : va_D A (wsB a cs r3) := hB.2.weaken (fun _ _ _ h => hFc _ h)
    refine lv_aload_n hx hb d_BlockRuler_refresh_21 rfl (lv_at hl 0 rfl) ?_
    refine va_get (D := (dC, dI)) (ci := 0) (v := .ref (a 4)) (C := "BlockRuler") (T := F_BlockRuler) (N := 5) hx hb hg i_BlockRuler hown hK hP 0 rfl rfl 3 (by decide) (hg _ wd136) (fun _ h9 => h9) rfl d_BlockRuler_refresh_22 ?_
    obtain ⟨r4, hr4, h⟩ := bd h
    have hFc := va_free (wc := wsB a cs r3) hD hS hA [0, 1, 2, 3, 4, 5, 6, 7, 8, 9, 10, 11, 12, 13, 14] (allB a cs r3)
    refine va_callv (va_runV (C := "BlockRuler$Loops") (As := []) (rest := []) ⟨hx, hb, hml, hown, hg⟩ (c_Loops_make l dC dI a cs _ r3 _ hr4) (cwV 0 hg (gdV wd139 wd138 wd137 wd94 wd140) rfl rfl rfl (by decide +kernel) ⟨Nat.le_of_ble_eq_true rfl, Nat.le_of_ble_eq_true rfl⟩) ⟨wbz_blind, va_recv hK hP (ci := 4) (q0 := 4) rfl rfl, fun U hU hW => ⟨rfl, by rw [hU], wb_preD hU hW hP hK hN hD⟩⟩ rfl rfl hl.1 rfl (lv_room (Nat.le_of_ble_eq_true rfl)) d_BlockRuler_refresh_25 ⟨Nat.zero_le _, Nat.zero_le _⟩) hS (fun q _ h => hFc q h) hFc (fun u t H locs ht hvm hw hB hz1 hk1 hS => ?_)
    obtain rfl : r4 = u := hw.symm
    have hP : va_P (dC, dI) classes (wsB a cs r4) H := by have q := hB.1; rw [ht] at q; exact q
    have hD : va_D A (wsB a cs r4) := hB.2.weaken (fun _ _ _ h => hFc _ h)
    refine lv_aload_n hx hb d_BlockRuler_refresh_28 rfl (lv_at hl 0 rfl) ?_
    refine lv_iconst (v := 0) hx hb d_BlockRuler_refresh_29 (by decide) ?_
    refine va_put (D := (dC, dI)) (ci := 0) (v := .int 0) (ty := .boolean) (C := "BlockRuler") (T := F_BlockRuler) (N := 5) hx hb hg i_BlockRuler t_BlockRuler t_BlockRuler_ok n_BlockRuler hown hK hP hD hS 0 rfl rfl 4 (by decide) (hg _ wd125) (fun _ h9 => h9) rfl (by decide +kernel) rfl rfl (Nat.le_of_ble_eq_true rfl) d_BlockRuler_refresh_30 (fun H locs hP hD hS => ?_)
    have hP := va_Pe (setB_stale a cs r4 0) hP
    have hD := va_De (setB_stale a cs r4 0) hD
    exact W.vret hx hb hr (fun t ht hW => ⟨⟨uB_stale r4 0, rfl, Option.some.inj h, by rw [ht]; exact hP, hD⟩, hS.F ht⟩) hS.2.2 d_BlockRuler_refresh_33
set_option maxHeartbeats 4000000 in
set_option maxRecDepth 100000 in
theorem c_BlockRuler_isReached (l : Launch) (dC : Nat → ClassId) (dI : Nat → Nat → Nat) (a : Nat → Nat) (cs : Nat → ClassId) (σ : SB) (v1 : Int32) (r : Int32) (h : f_BlockRuler_isReached σ v1 = some r) : Met l y_BlockRuler_isReached w_BlockRuler_isReached rm_BlockRuler_isReached (va_Pc [.ref (a 0), .int v1] (WBB dC dI a cs σ)) (QcV (.int r)) 0 0 (fun _ => False) := by
  refine Met.ofW (cc := b_BlockRuler_isReached) (maxL := 2) (ret := (some .boolean)) (by decide) rfl ?_
  intro p e s m args below meth c s₁ B hml hv
  obtain ⟨rfl, hP, hK, hN⟩ := hv
  have hx := B.exec
  have hb := B.bytes
  have hr := B.returns
  have hg : ∀ w ∈ G_, w.before _ s = true := fun w hw => atoms_spec (ws := w_BlockRuler_isReached) B.pre w (List.mem_cons_of_mem _ hw)
  have hown : s.vm.findClass "BlockRuler" = some m.cls := findClass_of_methodNamed B.named
  have hlocks := B.notSynchronized
  have C0 : Cx "BlockRuler" b_BlockRuler_isReached 2 p s m _ meth c := ⟨hx, hb, hml, hown, hg, hlocks⟩
  have hl := lv_entry ([.ref (a 0), .int v1]) (n := 2) (Nat.le_of_ble_eq_true rfl)
  rw [lg_entry_eq]
  generalize (lg_sl ([.ref (a 0), .int v1]) ++ List.replicate (2 - (lg_sl ([.ref (a 0), .int v1])).length) Slot.unset).toArray = ls at hl ⊢
  have hl : lv_has ls 2 [(0, .ref (a 0)), (1, .int v1)] := hl
  unfold f_BlockRuler_isReached at h
  refine lv_aload_n hx hb d_BlockRuler_isReached_0 rfl (lv_at hl 0 rfl) ?_
  refine va_get (D := (dC, dI)) (ci := 0) (v := .ref (a 1)) (C := "BlockRuler") (T := F_BlockRuler) (N := 5) hx hb hg i_BlockRuler hown hK hP 0 rfl rfl 0 (by decide) (hg _ wd141) (fun _ h9 => h9) rfl d_BlockRuler_isReached_1 ?_
  refine lv_iload_n hx hb d_BlockRuler_isReached_4 rfl (lv_at hl 1 rfl) ?_
  refine ro_call (v := .int (f_Web_hasBlock σ v1)) (va_runV (C := "BlockRuler$Web") (As := [.int v1]) (rest := []) ⟨hx, hb, hml, hown, hg⟩ (c_Web_hasBlock l dC dI a cs σ v1 _ rfl) (cwV 1 hg (gdV wd142 wd5 wd4 wd7 wd8) rfl rfl rfl (by decide +kernel) ⟨Nat.le_of_ble_eq_true rfl, Nat.le_of_ble_eq_true rfl⟩) ⟨wb_blind, va_recv hK hP (ci := 1) (q0 := 1) rfl rfl, fun U hU hW => ⟨rfl, wb_pre hU hW hP hK hN⟩⟩ rfl rfl hl.1 rfl (lv_room (Nat.le_of_ble_eq_true rfl)) d_BlockRuler_isReached_5 ⟨Nat.zero_le _, Nat.zero_le _⟩) ?_
  refine lv_if_eq (tgt := 28) hx hb d_BlockRuler_isReached_8 (by decide) (fun c1 => ?_) (fun c1 => ?_)
  · have h := b_t h c1
    refine lv_iconst (v := 0) hx hb d_BlockRuler_isReached_28 (by decide) ?_
    exact W.zret (v := 0) (ty := .boolean) hx hb hr rfl (fun t ht _ => ⟨by rw [Option.some.inj h], ht⟩) (fun q hq => by cases hq) d_BlockRuler_isReached_29
  · have h := b_f h c1
    refine lv_aload_n hx hb d_BlockRuler_isReached_11 rfl (lv_at hl 0 rfl) ?_
    refine va_get (D := (dC, dI)) (ci := 0) (v := .ref (a 2)) (C := "BlockRuler") (T := F_BlockRuler) (N := 5) hx hb hg i_BlockRuler hown hK hP 0 rfl rfl 1 (by decide) (hg _ wd126) (fun _ h9 => h9) rfl d_BlockRuler_isReached_12 ?_
    refine va_get (D := (dC, dI)) (ci := 2) (v := .ref (a 7)) (C := "BlockRuler$Walk") (T := F_Walk) (N := 9) hx hb hg i_Walk hown hK hP 2 rfl rfl 1 (by decide) (hg _ wd143) (fun _ h9 => h9) rfl d_BlockRuler_isReached_15 ?_
    refine lv_iload_n hx hb d_BlockRuler_isReached_18 rfl (lv_at hl 1 rfl) ?_
    obtain ⟨hi2, h⟩ := gd h
    refine va_iald (f := sB_orders σ) (n := 64) hx hb hK hP 7 2 rfl rfl hi2 d_BlockRuler_isReached_19 ?_
    refine lv_iconst (v := -1) hx hb d_BlockRuler_isReached_20 (by decide) ?_
    refine lv_icmp_eq (tgt := 28) hx hb d_BlockRuler_isReached_21 (by decide) (fun c3 => ?_) (fun c3 => ?_)
    · have h := b_t h c3
      refine lv_iconst (v := 0) hx hb d_BlockRuler_isReached_28 (by decide) ?_
      exact W.zret (v := 0) (ty := .boolean) hx hb hr rfl (fun t ht _ => ⟨by rw [Option.some.inj h], ht⟩) (fun q hq => by cases hq) d_BlockRuler_isReached_29
    · have h := b_f h c3
      refine lv_iconst (v := 1) hx hb d_BlockRuler_isReached_24 (by decide) ?_
      refine lv_goto (tgt := 29) hx hb d_BlockRuler_isReached_25 (by decide) ?_
      exact W.zret (v := 1) (ty := .boolean) hx hb hr rfl (fun t ht _ => ⟨by rw [Option.some.inj h], ht⟩) (fun q hq => by cases hq) d_BlockRuler_isReached_29
set_option maxHeartbeats 4000000 in
set_option maxRecDepth 100000 in
theorem c_BlockRuler_block (l : Launch) (dC : Nat → ClassId) (dI : Nat → Nat → Nat) (a : Nat → Nat) (cs : Nat → ClassId) (sz : Nat) (σ : SB) (r : Int32 × SB) (h : f_BlockRuler_block σ = some (Sum.inr r.1, r.2)) : Met l y_BlockRuler_block w_BlockRuler_block rm_BlockRuler_block (va_Pc [.ref (a 0)] (fun U => U.heap.size = sz ∧ WDB dC dI a cs σ U)) (va_Qi (fun (x : Int32) (u : SB) => (x, u) = r) (atB dC dI a cs (va_A (wsB a cs σ) sz)) (va_A (wsB a cs σ) sz)) 0 0 (va_A (wsB a cs σ) sz) := by
  refine Met.ofW (cc := b_BlockRuler_block) (maxL := 1) (ret := (some .int)) (by decide) rfl ?_
  intro p e s m args below meth c s₁ B hml hv
  obtain ⟨rfl, hsz, hP, hK, hN, hD0⟩ := hv
  have hx := B.exec
  have hb := B.bytes
  have hr := B.returns
  have hg : ∀ w ∈ G_, w.before _ s = true := fun w hw => atoms_spec (ws := w_BlockRuler_block) B.pre w (List.mem_cons_of_mem _ hw)
  have hown : s.vm.findClass "BlockRuler" = some m.cls := findClass_of_methodNamed B.named
  have hlocks := B.notSynchronized
  have C0 : Cx "BlockRuler" b_BlockRuler_block 1 p s m _ meth c := ⟨hx, hb, hml, hown, hg, hlocks⟩
  subst hsz
  have hD := hD0.self (sz := s.heap.size)
  generalize hAe : va_A (wsB a cs σ) s.heap.size = A at hD ⊢
  have hA : ∀ q : Nat, s.heap.size ≤ q → A q := fun q h => by rw [← hAe]; exact Or.inr h
  have hS : va_S A s.heap s.heap [] := va_S.rf
  have hl := lv_entry ([.ref (a 0)]) (n := 1) (Nat.le_of_ble_eq_true rfl)
  rw [lg_entry_eq]
  generalize (lg_sl ([.ref (a 0)]) ++ List.replicate (1 - (lg_sl ([.ref (a 0)])).length) Slot.unset).toArray = ls at hl ⊢
  have hl : lv_has ls 1 [(0, .ref (a 0))] := hl
  unfold f_BlockRuler_block at h
  refine lv_aload_n hx hb d_BlockRuler_block_0 rfl (lv_at hl 0 rfl) ?_
  refine va_get (D := (dC, dI)) (ci := 0) (v := .ref (a 1)) (C := "BlockRuler") (T := F_BlockRuler) (N := 5) hx hb hg i_BlockRuler hown hK hP 0 rfl rfl 0 (by decide) (hg _ wd141) (fun _ h9 => h9) rfl d_BlockRuler_block_1 ?_
  refine va_get (D := (dC, dI)) (ci := 1) (v := .int (sB_blocks σ)) (C := "BlockRuler$Web") (T := F_Web) (N := 4) hx hb hg i_Web hown hK hP 1 rfl rfl 2 (by decide) (hg _ wd144) (fun _ h9 => h9) rfl d_BlockRuler_block_4 ?_
  refine lv_bipush (v := 64) hx hb d_BlockRuler_block_7 (by decide) ?_
  refine lv_icmp_lt (tgt := 22) hx hb d_BlockRuler_block_9 (by decide) (fun c1 => ?_) (fun c1 => ?_)
  · have h := b_t h c1
    refine lv_aload_n hx hb d_BlockRuler_block_22 rfl (lv_at hl 0 rfl) ?_
    refine lv_iconst (v := 1) hx hb d_BlockRuler_block_23 (by decide) ?_
    refine va_put (D := (dC, dI)) (ci := 0) (v := .int 1) (ty := .boolean) (C := "BlockRuler") (T := F_BlockRuler) (N := 5) hx hb hg i_BlockRuler t_BlockRuler t_BlockRuler_ok n_BlockRuler hown hK hP hD hS 0 rfl rfl 4 (by decide) (hg _ wd125) (fun _ h9 => h9) rfl (by decide +kernel) rfl rfl (Nat.le_of_ble_eq_true rfl) d_BlockRuler_block_24 (fun H locs hP hD hS => ?_)
    have hP := va_Pe (setB_stale a cs σ 1) hP
    have hD := va_De (setB_stale a cs σ 1) hD
    refine lv_aload_n hx hb d_BlockRuler_block_27 rfl (lv_at hl 0 rfl) ?_
    refine va_get (D := (dC, dI)) (ci := 0) (v := .ref (a 1)) (C := "BlockRuler") (T := F_BlockRuler) (N := 5) hx hb hg i_BlockRuler hown hK hP 0 rfl rfl 0 (by decide) (hg _ wd141) (fun _ h9 => h9) rfl d_BlockRuler_block_28 ?_
    have hFc := va_free (wc := wsB a cs (uB_stale σ 1)) hD hS hA [0, 1, 2, 3, 4, 5, 6, 7, 8, 9, 10, 11, 12, 13, 14] (allB a cs (uB_stale σ 1))
    refine va_calli (va_runV (C := "BlockRuler$Web") (As := []) (rest := []) ⟨hx, hb, hml, hown, hg⟩ (c_Web_addBlock l dC dI a cs _ (uB_stale σ 1) _ rfl) (cwV 0 hg (gdV wd147 wd146 wd145 wd7 wd148) rfl rfl rfl (by decide +kernel) ⟨Nat.le_of_ble_eq_true rfl, Nat.le_of_ble_eq_true rfl⟩) ⟨wbz_blind, va_recv hK hP (ci := 1) (q0 := 1) rfl rfl, fun U hU hW => ⟨rfl, by rw [hU], wb_preD hU hW hP hK hN hD⟩⟩ rfl rfl hl.1 rfl (lv_room (Nat.le_of_ble_eq_true rfl)) d_BlockRuler_block_31 ⟨Nat.zero_le _, Nat.zero_le _⟩) hS (fun q _ h => hFc q h) hFc (fun rv u t H locs ht hvm hw hB hz1 hk1 hS => ?_)
    obtain rfl : (f_Web_addBlock (uB_stale σ 1)).1 = rv := (congrArg Prod.fst hw).symm
    obtain rfl : (f_Web_addBlock (uB_stale σ 1)).2 = u := (congrArg Prod.snd hw).symm
    have hP : va_P (dC, dI) classes (wsB a cs ((f_Web_addBlock (uB_stale σ 1)).2)) H := by have q := hB.1; rw [ht] at q; exact q
    have hD : va_D A (wsB a cs ((f_Web_addBlock (uB_stale σ 1)).2)) := hB.2.weaken (fun _ _ _ h => hFc _ h)
    exact W.iret (v := (f_Web_addBlock (uB_stale σ 1)).1) hx hb hr (fun t ht hW => ⟨⟨(f_Web_addBlock (uB_stale σ 1)).1, (f_Web_addBlock (uB_stale σ 1)).2, rfl, th_r h, by rw [ht]; exact hP, hD⟩, hS.F ht⟩) hS.2.2 d_BlockRuler_block_34
  · have h := b_f h c1
    cases h
set_option maxHeartbeats 4000000 in
set_option maxRecDepth 100000 in
theorem c_BlockRuler_way (l : Launch) (dC : Nat → ClassId) (dI : Nat → Nat → Nat) (a : Nat → Nat) (cs : Nat → ClassId) (sz : Nat) (σ : SB) (v1 : Int32) (v2 : Int32) (r : Int32 × SB) (h : f_BlockRuler_way σ v1 v2 = some (Sum.inr r.1, r.2)) : Met l y_BlockRuler_way w_BlockRuler_way rm_BlockRuler_way (va_Pc [.ref (a 0), .int v1, .int v2] (fun U => U.heap.size = sz ∧ WDB dC dI a cs σ U)) (va_Qi (fun (x : Int32) (u : SB) => (x, u) = r) (atB dC dI a cs (va_A (wsB a cs σ) sz)) (va_A (wsB a cs σ) sz)) 0 0 (va_A (wsB a cs σ) sz) := by
  refine Met.ofW (cc := b_BlockRuler_way) (maxL := 3) (ret := (some .int)) (by decide) rfl ?_
  intro p e s m args below meth c s₁ B hml hv
  obtain ⟨rfl, hsz, hP, hK, hN, hD0⟩ := hv
  have hx := B.exec
  have hb := B.bytes
  have hr := B.returns
  have hg : ∀ w ∈ G_, w.before _ s = true := fun w hw => atoms_spec (ws := w_BlockRuler_way) B.pre w (List.mem_cons_of_mem _ hw)
  have hown : s.vm.findClass "BlockRuler" = some m.cls := findClass_of_methodNamed B.named
  have hlocks := B.notSynchronized
  have C0 : Cx "BlockRuler" b_BlockRuler_way 3 p s m _ meth c := ⟨hx, hb, hml, hown, hg, hlocks⟩
  subst hsz
  have hD := hD0.self (sz := s.heap.size)
  generalize hAe : va_A (wsB a cs σ) s.heap.size = A at hD ⊢
  have hA : ∀ q : Nat, s.heap.size ≤ q → A q := fun q h => by rw [← hAe]; exact Or.inr h
  have hS : va_S A s.heap s.heap [] := va_S.rf
  have hl := lv_entry ([.ref (a 0), .int v1, .int v2]) (n := 3) (Nat.le_of_ble_eq_true rfl)
  rw [lg_entry_eq]
  generalize (lg_sl ([.ref (a 0), .int v1, .int v2]) ++ List.replicate (3 - (lg_sl ([.ref (a 0), .int v1, .int v2])).length) Slot.unset).toArray = ls at hl ⊢
  have hl : lv_has ls 3 [(0, .ref (a 0)), (1, .int v1), (2, .int v2)] := hl
  unfold f_BlockRuler_way at h
  refine lv_aload_n hx hb d_BlockRuler_way_0 rfl (lv_at hl 0 rfl) ?_
  refine va_get (D := (dC, dI)) (ci := 0) (v := .ref (a 1)) (C := "BlockRuler") (T := F_BlockRuler) (N := 5) hx hb hg i_BlockRuler hown hK hP 0 rfl rfl 0 (by decide) (hg _ wd141) (fun _ h9 => h9) rfl d_BlockRuler_way_1 ?_
  refine lv_iload_n hx hb d_BlockRuler_way_4 rfl (lv_at hl 1 rfl) ?_
  refine ro_call (v := .int (f_Web_hasBlock σ v1)) (va_runV (C := "BlockRuler$Web") (As := [.int v1]) (rest := []) ⟨hx, hb, hml, hown, hg⟩ (c_Web_hasBlock l dC dI a cs σ v1 _ rfl) (cwV 1 hg (gdV wd142 wd5 wd4 wd7 wd8) rfl rfl rfl (by decide +kernel) ⟨Nat.le_of_ble_eq_true rfl, Nat.le_of_ble_eq_true rfl⟩) ⟨wb_blind, va_recv hK hP (ci := 1) (q0 := 1) rfl rfl, fun U hU hW => ⟨rfl, wb_pre hU hW hP hK hN⟩⟩ rfl rfl hl.1 rfl (lv_room (Nat.le_of_ble_eq_true rfl)) d_BlockRuler_way_5 ⟨Nat.zero_le _, Nat.zero_le _⟩) ?_
  refine lv_if_eq (tgt := 22) hx hb d_BlockRuler_way_8 (by decide) (fun c1 => ?_) (fun c1 => ?_)
  · have h := b_t h c1
    cases h
  · have h := b_f h c1
    refine lv_aload_n hx hb d_BlockRuler_way_11 rfl (lv_at hl 0 rfl) ?_
    refine va_get (D := (dC, dI)) (ci := 0) (v := .ref (a 1)) (C := "BlockRuler") (T := F_BlockRuler) (N := 5) hx hb hg i_BlockRuler hown hK hP 0 rfl rfl 0 (by decide) (hg _ wd141) (fun _ h9 => h9) rfl d_BlockRuler_way_12 ?_
    refine lv_iload_n hx hb d_BlockRuler_way_15 rfl (lv_at hl 2 rfl) ?_
    refine ro_call (v := .int (f_Web_hasBlock σ v2)) (va_runV (C := "BlockRuler$Web") (As := [.int v2]) (rest := []) ⟨hx, hb, hml, hown, hg⟩ (c_Web_hasBlock l dC dI a cs σ v2 _ rfl) (cwV 1 hg (gdV wd142 wd5 wd4 wd7 wd8) rfl rfl rfl (by decide +kernel) ⟨Nat.le_of_ble_eq_true rfl, Nat.le_of_ble_eq_true rfl⟩) ⟨wb_blind, va_recv hK hP (ci := 1) (q0 := 1) rfl rfl, fun U hU hW => ⟨rfl, wb_pre hU hW hP hK hN⟩⟩ rfl rfl hl.1 rfl (lv_room (Nat.le_of_ble_eq_true rfl)) d_BlockRuler_way_16 ⟨Nat.zero_le _, Nat.zero_le _⟩) ?_
    refine lv_if_ne (tgt := 32) hx hb d_BlockRuler_way_19 (by decide) (fun c2 => ?_) (fun c2 => ?_)
    · have h := b_f h c2
      refine lv_aload_n hx hb d_BlockRuler_way_32 rfl (lv_at hl 0 rfl) ?_
      refine va_get (D := (dC, dI)) (ci := 0) (v := .ref (a 1)) (C := "BlockRuler") (T := F_BlockRuler) (N := 5) hx hb hg i_BlockRuler hown hK hP 0 rfl rfl 0 (by decide) (hg _ wd141) (fun _ h9 => h9) rfl d_BlockRuler_way_33 ?_
      refine va_get (D := (dC, dI)) (ci := 1) (v := .ref (a 5)) (C := "BlockRuler$Web") (T := F_Web) (N := 4) hx hb hg i_Web hown hK hP 1 rfl rfl 0 (by decide) (hg _ wd149) (fun _ h9 => h9) rfl d_BlockRuler_way_36 ?_
      refine lv_iload_n hx hb d_BlockRuler_way_39 rfl (lv_at hl 1 rfl) ?_
      obtain ⟨hi3, h⟩ := gd h
      refine va_iald (f := sB_deg σ) (n := 64) hx hb hK hP 5 0 rfl rfl hi3 d_BlockRuler_way_40 ?_
      refine lv_bipush (v := 8) hx hb d_BlockRuler_way_41 (by decide) ?_
      refine lv_icmp_lt (tgt := 56) hx hb d_BlockRuler_way_43 (by decide) (fun c4 => ?_) (fun c4 => ?_)
      · have h := b_t h c4
        refine lv_aload_n hx hb d_BlockRuler_way_56 rfl (lv_at hl 0 rfl) ?_
        refine lv_iconst (v := 1) hx hb d_BlockRuler_way_57 (by decide) ?_
        refine va_put (D := (dC, dI)) (ci := 0) (v := .int 1) (ty := .boolean) (C := "BlockRuler") (T := F_BlockRuler) (N := 5) hx hb hg i_BlockRuler t_BlockRuler t_BlockRuler_ok n_BlockRuler hown hK hP hD hS 0 rfl rfl 4 (by decide) (hg _ wd125) (fun _ h9 => h9) rfl (by decide +kernel) rfl rfl (Nat.le_of_ble_eq_true rfl) d_BlockRuler_way_58 (fun H locs hP hD hS => ?_)
        have hP := va_Pe (setB_stale a cs σ 1) hP
        have hD := va_De (setB_stale a cs σ 1) hD
        refine lv_aload_n hx hb d_BlockRuler_way_61 rfl (lv_at hl 0 rfl) ?_
        refine va_get (D := (dC, dI)) (ci := 0) (v := .ref (a 1)) (C := "BlockRuler") (T := F_BlockRuler) (N := 5) hx hb hg i_BlockRuler hown hK hP 0 rfl rfl 0 (by decide) (hg _ wd141) (fun _ h9 => h9) rfl d_BlockRuler_way_62 ?_
        refine lv_iload_n hx hb d_BlockRuler_way_65 rfl (lv_at hl 1 rfl) ?_
        refine lv_iload_n hx hb d_BlockRuler_way_66 rfl (lv_at hl 2 rfl) ?_
        obtain ⟨r5, hr5, h⟩ := bd h
        have hFc := va_free (wc := wsB a cs (uB_stale σ 1)) hD hS hA [0, 1, 2, 3, 4, 5, 6, 7, 8, 9, 10, 11, 12, 13, 14] (allB a cs (uB_stale σ 1))
        refine va_calli (va_runV (C := "BlockRuler$Web") (As := [.int v1, .int v2]) (rest := []) ⟨hx, hb, hml, hown, hg⟩ (c_Web_addWay l dC dI a cs _ (uB_stale σ 1) v1 v2 _ hr5) (cwV 2 hg (gdV wd152 wd151 wd150 wd7 wd153) rfl rfl rfl (by decide +kernel) ⟨Nat.le_of_ble_eq_true rfl, Nat.le_of_ble_eq_true rfl⟩) ⟨wbz_blind, va_recv hK hP (ci := 1) (q0 := 1) rfl rfl, fun U hU hW => ⟨rfl, by rw [hU], wb_preD hU hW hP hK hN hD⟩⟩ rfl rfl hl.1 rfl (lv_room (Nat.le_of_ble_eq_true rfl)) d_BlockRuler_way_67 ⟨Nat.zero_le _, Nat.zero_le _⟩) hS (fun q _ h => hFc q h) hFc (fun rv u t H locs ht hvm hw hB hz1 hk1 hS => ?_)
        obtain rfl : r5.1 = rv := (congrArg Prod.fst hw).symm
        obtain rfl : r5.2 = u := (congrArg Prod.snd hw).symm
        have hP : va_P (dC, dI) classes (wsB a cs r5.2) H := by have q := hB.1; rw [ht] at q; exact q
        have hD : va_D A (wsB a cs r5.2) := hB.2.weaken (fun _ _ _ h => hFc _ h)
        exact W.iret (v := r5.1) hx hb hr (fun t ht hW => ⟨⟨r5.1, r5.2, rfl, th_r h, by rw [ht]; exact hP, hD⟩, hS.F ht⟩) hS.2.2 d_BlockRuler_way_70
      · have h := b_f h c4
        cases h
    · have h := b_t h c2
      cases h
set_option maxHeartbeats 4000000 in
set_option maxRecDepth 100000 in
theorem c_BlockRuler_cut (l : Launch) (dC : Nat → ClassId) (dI : Nat → Nat → Nat) (a : Nat → Nat) (cs : Nat → ClassId) (sz : Nat) (σ : SB) (v1 : Int32) (v2 : Int32) (r : Int32 × SB) (h : f_BlockRuler_cut σ v1 v2 = some (Sum.inr r.1, r.2)) : Met l y_BlockRuler_cut w_BlockRuler_cut rm_BlockRuler_cut (va_Pc [.ref (a 0), .int v1, .int v2] (fun U => U.heap.size = sz ∧ WDB dC dI a cs σ U)) (va_Qi (fun (x : Int32) (u : SB) => (x, u) = r) (atB dC dI a cs (va_A (wsB a cs σ) sz)) (va_A (wsB a cs σ) sz)) 0 0 (va_A (wsB a cs σ) sz) := by
  refine Met.ofW (cc := b_BlockRuler_cut) (maxL := 3) (ret := (some .int)) (by decide) rfl ?_
  intro p e s m args below meth c s₁ B hml hv
  obtain ⟨rfl, hsz, hP, hK, hN, hD0⟩ := hv
  have hx := B.exec
  have hb := B.bytes
  have hr := B.returns
  have hg : ∀ w ∈ G_, w.before _ s = true := fun w hw => atoms_spec (ws := w_BlockRuler_cut) B.pre w (List.mem_cons_of_mem _ hw)
  have hown : s.vm.findClass "BlockRuler" = some m.cls := findClass_of_methodNamed B.named
  have hlocks := B.notSynchronized
  have C0 : Cx "BlockRuler" b_BlockRuler_cut 3 p s m _ meth c := ⟨hx, hb, hml, hown, hg, hlocks⟩
  subst hsz
  have hD := hD0.self (sz := s.heap.size)
  generalize hAe : va_A (wsB a cs σ) s.heap.size = A at hD ⊢
  have hA : ∀ q : Nat, s.heap.size ≤ q → A q := fun q h => by rw [← hAe]; exact Or.inr h
  have hS : va_S A s.heap s.heap [] := va_S.rf
  have hl := lv_entry ([.ref (a 0), .int v1, .int v2]) (n := 3) (Nat.le_of_ble_eq_true rfl)
  rw [lg_entry_eq]
  generalize (lg_sl ([.ref (a 0), .int v1, .int v2]) ++ List.replicate (3 - (lg_sl ([.ref (a 0), .int v1, .int v2])).length) Slot.unset).toArray = ls at hl ⊢
  have hl : lv_has ls 3 [(0, .ref (a 0)), (1, .int v1), (2, .int v2)] := hl
  unfold f_BlockRuler_cut at h
  refine lv_aload_n hx hb d_BlockRuler_cut_0 rfl (lv_at hl 0 rfl) ?_
  refine va_get (D := (dC, dI)) (ci := 0) (v := .ref (a 1)) (C := "BlockRuler") (T := F_BlockRuler) (N := 5) hx hb hg i_BlockRuler hown hK hP 0 rfl rfl 0 (by decide) (hg _ wd141) (fun _ h9 => h9) rfl d_BlockRuler_cut_1 ?_
  refine lv_iload_n hx hb d_BlockRuler_cut_4 rfl (lv_at hl 1 rfl) ?_
  refine lv_iload_n hx hb d_BlockRuler_cut_5 rfl (lv_at hl 2 rfl) ?_
  obtain ⟨r1, hr1, h⟩ := bd h
  refine ro_call (v := .int r1) (va_runV (C := "BlockRuler$Web") (As := [.int v1, .int v2]) (rest := []) ⟨hx, hb, hml, hown, hg⟩ (c_Web_hasWay l dC dI a cs σ v1 v2 _ hr1) (cwV 2 hg (gdV wd156 wd155 wd154 wd7 wd157) rfl rfl rfl (by decide +kernel) ⟨Nat.le_of_ble_eq_true rfl, Nat.le_of_ble_eq_true rfl⟩) ⟨wb_blind, va_recv hK hP (ci := 1) (q0 := 1) rfl rfl, fun U hU hW => ⟨rfl, wb_pre hU hW hP hK hN⟩⟩ rfl rfl hl.1 rfl (lv_room (Nat.le_of_ble_eq_true rfl)) d_BlockRuler_cut_6 ⟨Nat.zero_le _, Nat.zero_le _⟩) ?_
  refine lv_if_ne (tgt := 22) hx hb d_BlockRuler_cut_9 (by decide) (fun c2 => ?_) (fun c2 => ?_)
  · have h := b_f h c2
    refine lv_aload_n hx hb d_BlockRuler_cut_22 rfl (lv_at hl 0 rfl) ?_
    refine lv_iconst (v := 1) hx hb d_BlockRuler_cut_23 (by decide) ?_
    refine va_put (D := (dC, dI)) (ci := 0) (v := .int 1) (ty := .boolean) (C := "BlockRuler") (T := F_BlockRuler) (N := 5) hx hb hg i_BlockRuler t_BlockRuler t_BlockRuler_ok n_BlockRuler hown hK hP hD hS 0 rfl rfl 4 (by decide) (hg _ wd125) (fun _ h9 => h9) rfl (by decide +kernel) rfl rfl (Nat.le_of_ble_eq_true rfl) d_BlockRuler_cut_24 (fun H locs hP hD hS => ?_)
    have hP := va_Pe (setB_stale a cs σ 1) hP
    have hD := va_De (setB_stale a cs σ 1) hD
    refine lv_aload_n hx hb d_BlockRuler_cut_27 rfl (lv_at hl 0 rfl) ?_
    refine va_get (D := (dC, dI)) (ci := 0) (v := .ref (a 1)) (C := "BlockRuler") (T := F_BlockRuler) (N := 5) hx hb hg i_BlockRuler hown hK hP 0 rfl rfl 0 (by decide) (hg _ wd141) (fun _ h9 => h9) rfl d_BlockRuler_cut_28 ?_
    refine lv_iload_n hx hb d_BlockRuler_cut_31 rfl (lv_at hl 1 rfl) ?_
    refine lv_iload_n hx hb d_BlockRuler_cut_32 rfl (lv_at hl 2 rfl) ?_
    obtain ⟨r3, hr3, h⟩ := bd h
    have hFc := va_free (wc := wsB a cs (uB_stale σ 1)) hD hS hA [0, 1, 2, 3, 4, 5, 6, 7, 8, 9, 10, 11, 12, 13, 14] (allB a cs (uB_stale σ 1))
    refine va_calli (va_runV (C := "BlockRuler$Web") (As := [.int v1, .int v2]) (rest := []) ⟨hx, hb, hml, hown, hg⟩ (c_Web_removeWay l dC dI a cs _ (uB_stale σ 1) v1 v2 _ hr3) (cwV 2 hg (gdV wd160 wd159 wd158 wd7 wd161) rfl rfl rfl (by decide +kernel) ⟨Nat.le_of_ble_eq_true rfl, Nat.le_of_ble_eq_true rfl⟩) ⟨wbz_blind, va_recv hK hP (ci := 1) (q0 := 1) rfl rfl, fun U hU hW => ⟨rfl, by rw [hU], wb_preD hU hW hP hK hN hD⟩⟩ rfl rfl hl.1 rfl (lv_room (Nat.le_of_ble_eq_true rfl)) d_BlockRuler_cut_33 ⟨Nat.zero_le _, Nat.zero_le _⟩) hS (fun q _ h => hFc q h) hFc (fun rv u t H locs ht hvm hw hB hz1 hk1 hS => ?_)
    obtain rfl : r3.1 = rv := (congrArg Prod.fst hw).symm
    obtain rfl : r3.2 = u := (congrArg Prod.snd hw).symm
    have hP : va_P (dC, dI) classes (wsB a cs r3.2) H := by have q := hB.1; rw [ht] at q; exact q
    have hD : va_D A (wsB a cs r3.2) := hB.2.weaken (fun _ _ _ h => hFc _ h)
    exact W.iret (v := r3.1) hx hb hr (fun t ht hW => ⟨⟨r3.1, r3.2, rfl, th_r h, by rw [ht]; exact hP, hD⟩, hS.F ht⟩) hS.2.2 d_BlockRuler_cut_36
  · have h := b_t h c2
    cases h
set_option maxHeartbeats 4000000 in
set_option maxRecDepth 100000 in
theorem c_BlockRuler_turn (l : Launch) (dC : Nat → ClassId) (dI : Nat → Nat → Nat) (a : Nat → Nat) (cs : Nat → ClassId) (sz : Nat) (σ : SB) (v1 : Int32) (v2 : Int32) (v3 : Int32) (r : Int32 × SB) (h : f_BlockRuler_turn σ v1 v2 v3 = some (Sum.inr r.1, r.2)) : Met l y_BlockRuler_turn w_BlockRuler_turn rm_BlockRuler_turn (va_Pc [.ref (a 0), .int v1, .int v2, .int v3] (fun U => U.heap.size = sz ∧ WDB dC dI a cs σ U)) (va_Qi (fun (x : Int32) (u : SB) => (x, u) = r) (atB dC dI a cs (va_A (wsB a cs σ) sz)) (va_A (wsB a cs σ) sz)) 0 0 (va_A (wsB a cs σ) sz) := by
  refine Met.ofW (cc := b_BlockRuler_turn) (maxL := 4) (ret := (some .int)) (by decide) rfl ?_
  intro p e s m args below meth c s₁ B hml hv
  obtain ⟨rfl, hsz, hP, hK, hN, hD0⟩ := hv
  have hx := B.exec
  have hb := B.bytes
  have hr := B.returns
  have hg : ∀ w ∈ G_, w.before _ s = true := fun w hw => atoms_spec (ws := w_BlockRuler_turn) B.pre w (List.mem_cons_of_mem _ hw)
  have hown : s.vm.findClass "BlockRuler" = some m.cls := findClass_of_methodNamed B.named
  have hlocks := B.notSynchronized
  have C0 : Cx "BlockRuler" b_BlockRuler_turn 4 p s m _ meth c := ⟨hx, hb, hml, hown, hg, hlocks⟩
  subst hsz
  have hD := hD0.self (sz := s.heap.size)
  generalize hAe : va_A (wsB a cs σ) s.heap.size = A at hD ⊢
  have hA : ∀ q : Nat, s.heap.size ≤ q → A q := fun q h => by rw [← hAe]; exact Or.inr h
  have hS : va_S A s.heap s.heap [] := va_S.rf
  have hl := lv_entry ([.ref (a 0), .int v1, .int v2, .int v3]) (n := 4) (Nat.le_of_ble_eq_true rfl)
  rw [lg_entry_eq]
  generalize (lg_sl ([.ref (a 0), .int v1, .int v2, .int v3]) ++ List.replicate (4 - (lg_sl ([.ref (a 0), .int v1, .int v2, .int v3])).length) Slot.unset).toArray = ls at hl ⊢
  have hl : lv_has ls 4 [(0, .ref (a 0)), (1, .int v1), (2, .int v2), (3, .int v3)] := hl
  unfold f_BlockRuler_turn at h
  refine lv_aload_n hx hb d_BlockRuler_turn_0 rfl (lv_at hl 0 rfl) ?_
  refine va_get (D := (dC, dI)) (ci := 0) (v := .ref (a 1)) (C := "BlockRuler") (T := F_BlockRuler) (N := 5) hx hb hg i_BlockRuler hown hK hP 0 rfl rfl 0 (by decide) (hg _ wd141) (fun _ h9 => h9) rfl d_BlockRuler_turn_1 ?_
  refine lv_iload_n hx hb d_BlockRuler_turn_4 rfl (lv_at hl 1 rfl) ?_
  refine lv_iload_n hx hb d_BlockRuler_turn_5 rfl (lv_at hl 2 rfl) ?_
  obtain ⟨r1, hr1, h⟩ := bd h
  refine ro_call (v := .int r1) (va_runV (C := "BlockRuler$Web") (As := [.int v1, .int v2]) (rest := []) ⟨hx, hb, hml, hown, hg⟩ (c_Web_hasWay l dC dI a cs σ v1 v2 _ hr1) (cwV 2 hg (gdV wd156 wd155 wd154 wd7 wd157) rfl rfl rfl (by decide +kernel) ⟨Nat.le_of_ble_eq_true rfl, Nat.le_of_ble_eq_true rfl⟩) ⟨wb_blind, va_recv hK hP (ci := 1) (q0 := 1) rfl rfl, fun U hU hW => ⟨rfl, wb_pre hU hW hP hK hN⟩⟩ rfl rfl hl.1 rfl (lv_room (Nat.le_of_ble_eq_true rfl)) d_BlockRuler_turn_6 ⟨Nat.zero_le _, Nat.zero_le _⟩) ?_
  refine lv_if_ne (tgt := 22) hx hb d_BlockRuler_turn_9 (by decide) (fun c2 => ?_) (fun c2 => ?_)
  · have h := b_f h c2
    refine lv_aload_n hx hb d_BlockRuler_turn_22 rfl (lv_at hl 0 rfl) ?_
    refine va_get (D := (dC, dI)) (ci := 0) (v := .ref (a 1)) (C := "BlockRuler") (T := F_BlockRuler) (N := 5) hx hb hg i_BlockRuler hown hK hP 0 rfl rfl 0 (by decide) (hg _ wd141) (fun _ h9 => h9) rfl d_BlockRuler_turn_23 ?_
    refine lv_iload_n hx hb d_BlockRuler_turn_26 rfl (lv_at hl 3 rfl) ?_
    refine ro_call (v := .int (f_Web_hasBlock σ v3)) (va_runV (C := "BlockRuler$Web") (As := [.int v3]) (rest := []) ⟨hx, hb, hml, hown, hg⟩ (c_Web_hasBlock l dC dI a cs σ v3 _ rfl) (cwV 1 hg (gdV wd142 wd5 wd4 wd7 wd8) rfl rfl rfl (by decide +kernel) ⟨Nat.le_of_ble_eq_true rfl, Nat.le_of_ble_eq_true rfl⟩) ⟨wb_blind, va_recv hK hP (ci := 1) (q0 := 1) rfl rfl, fun U hU hW => ⟨rfl, wb_pre hU hW hP hK hN⟩⟩ rfl rfl hl.1 rfl (lv_room (Nat.le_of_ble_eq_true rfl)) d_BlockRuler_turn_27 ⟨Nat.zero_le _, Nat.zero_le _⟩) ?_
    refine lv_if_ne (tgt := 43) hx hb d_BlockRuler_turn_30 (by decide) (fun c3 => ?_) (fun c3 => ?_)
    · have h := b_f h c3
      refine lv_aload_n hx hb d_BlockRuler_turn_43 rfl (lv_at hl 0 rfl) ?_
      refine lv_iconst (v := 1) hx hb d_BlockRuler_turn_44 (by decide) ?_
      refine va_put (D := (dC, dI)) (ci := 0) (v := .int 1) (ty := .boolean) (C := "BlockRuler") (T := F_BlockRuler) (N := 5) hx hb hg i_BlockRuler t_BlockRuler t_BlockRuler_ok n_BlockRuler hown hK hP hD hS 0 rfl rfl 4 (by decide) (hg _ wd125) (fun _ h9 => h9) rfl (by decide +kernel) rfl rfl (Nat.le_of_ble_eq_true rfl) d_BlockRuler_turn_45 (fun H locs hP hD hS => ?_)
      have hP := va_Pe (setB_stale a cs σ 1) hP
      have hD := va_De (setB_stale a cs σ 1) hD
      refine lv_aload_n hx hb d_BlockRuler_turn_48 rfl (lv_at hl 0 rfl) ?_
      refine va_get (D := (dC, dI)) (ci := 0) (v := .ref (a 1)) (C := "BlockRuler") (T := F_BlockRuler) (N := 5) hx hb hg i_BlockRuler hown hK hP 0 rfl rfl 0 (by decide) (hg _ wd141) (fun _ h9 => h9) rfl d_BlockRuler_turn_49 ?_
      refine lv_iload_n hx hb d_BlockRuler_turn_52 rfl (lv_at hl 1 rfl) ?_
      refine lv_iload_n hx hb d_BlockRuler_turn_53 rfl (lv_at hl 2 rfl) ?_
      refine lv_iload_n hx hb d_BlockRuler_turn_54 rfl (lv_at hl 3 rfl) ?_
      obtain ⟨r4, hr4, h⟩ := bd h
      have hFc := va_free (wc := wsB a cs (uB_stale σ 1)) hD hS hA [0, 1, 2, 3, 4, 5, 6, 7, 8, 9, 10, 11, 12, 13, 14] (allB a cs (uB_stale σ 1))
      refine va_calli (va_runV (C := "BlockRuler$Web") (As := [.int v1, .int v2, .int v3]) (rest := []) ⟨hx, hb, hml, hown, hg⟩ (c_Web_moveWay l dC dI a cs _ (uB_stale σ 1) v1 v2 v3 _ hr4) (cwV 3 hg (gdV wd164 wd163 wd162 wd7 wd165) rfl rfl rfl (by decide +kernel) ⟨Nat.le_of_ble_eq_true rfl, Nat.le_of_ble_eq_true rfl⟩) ⟨wbz_blind, va_recv hK hP (ci := 1) (q0 := 1) rfl rfl, fun U hU hW => ⟨rfl, by rw [hU], wb_preD hU hW hP hK hN hD⟩⟩ rfl rfl hl.1 rfl (lv_room (Nat.le_of_ble_eq_true rfl)) d_BlockRuler_turn_55 ⟨Nat.zero_le _, Nat.zero_le _⟩) hS (fun q _ h => hFc q h) hFc (fun rv u t H locs ht hvm hw hB hz1 hk1 hS => ?_)
      obtain rfl : r4.1 = rv := (congrArg Prod.fst hw).symm
      obtain rfl : r4.2 = u := (congrArg Prod.snd hw).symm
      have hP : va_P (dC, dI) classes (wsB a cs r4.2) H := by have q := hB.1; rw [ht] at q; exact q
      have hD : va_D A (wsB a cs r4.2) := hB.2.weaken (fun _ _ _ h => hFc _ h)
      exact W.iret (v := r4.1) hx hb hr (fun t ht hW => ⟨⟨r4.1, r4.2, rfl, th_r h, by rw [ht]; exact hP, hD⟩, hS.F ht⟩) hS.2.2 d_BlockRuler_turn_58
    · have h := b_t h c3
      cases h
  · have h := b_t h c2
    cases h
set_option maxHeartbeats 4000000 in
set_option maxRecDepth 100000 in
theorem c_BlockRuler_common (l : Launch) (dC : Nat → ClassId) (dI : Nat → Nat → Nat) (a : Nat → Nat) (cs : Nat → ClassId) (sz : Nat) (σ : SB) (v1 : Int32) (v2 : Int32) (r : Int32 × SB) (h : f_BlockRuler_common σ v1 v2 = some (Sum.inr r.1, r.2)) : Met l y_BlockRuler_common w_BlockRuler_common rm_BlockRuler_common (va_Pc [.ref (a 0), .int v1, .int v2] (fun U => U.heap.size = sz ∧ WDB dC dI a cs σ U)) (va_Qi (fun (x : Int32) (u : SB) => (x, u) = r) (atB dC dI a cs (va_A (wsB a cs σ) sz)) (va_A (wsB a cs σ) sz)) 0 0 (va_A (wsB a cs σ) sz) := by
  refine Met.ofW (cc := b_BlockRuler_common) (maxL := 3) (ret := (some .int)) (by decide) rfl ?_
  intro p e s m args below meth c s₁ B hml hv
  obtain ⟨rfl, hsz, hP, hK, hN, hD0⟩ := hv
  have hx := B.exec
  have hb := B.bytes
  have hr := B.returns
  have hg : ∀ w ∈ G_, w.before _ s = true := fun w hw => atoms_spec (ws := w_BlockRuler_common) B.pre w (List.mem_cons_of_mem _ hw)
  have hown : s.vm.findClass "BlockRuler" = some m.cls := findClass_of_methodNamed B.named
  have hlocks := B.notSynchronized
  have C0 : Cx "BlockRuler" b_BlockRuler_common 3 p s m _ meth c := ⟨hx, hb, hml, hown, hg, hlocks⟩
  subst hsz
  have hD := hD0.self (sz := s.heap.size)
  generalize hAe : va_A (wsB a cs σ) s.heap.size = A at hD ⊢
  have hA : ∀ q : Nat, s.heap.size ≤ q → A q := fun q h => by rw [← hAe]; exact Or.inr h
  have hS : va_S A s.heap s.heap [] := va_S.rf
  have hl := lv_entry ([.ref (a 0), .int v1, .int v2]) (n := 3) (Nat.le_of_ble_eq_true rfl)
  rw [lg_entry_eq]
  generalize (lg_sl ([.ref (a 0), .int v1, .int v2]) ++ List.replicate (3 - (lg_sl ([.ref (a 0), .int v1, .int v2])).length) Slot.unset).toArray = ls at hl ⊢
  have hl : lv_has ls 3 [(0, .ref (a 0)), (1, .int v1), (2, .int v2)] := hl
  unfold f_BlockRuler_common at h
  refine lv_aload_n hx hb d_BlockRuler_common_0 rfl (lv_at hl 0 rfl) ?_
  obtain ⟨r1, hr1, h⟩ := bd h
  have hFc := va_free (wc := wsB a cs σ) hD hS hA [0, 1, 2, 3, 4, 5, 6, 7, 8, 9, 10, 11, 12, 13, 14] (allB a cs σ)
  refine va_callv (va_runV (C := "BlockRuler") (As := []) (rest := []) ⟨hx, hb, hml, hown, hg⟩ (c_BlockRuler_refresh l dC dI a cs _ σ _ hr1) (cwV 0 hg (gdV wd168 wd167 wd166 wd22 wd169) rfl rfl rfl (by decide +kernel) ⟨Nat.le_of_ble_eq_true rfl, Nat.le_of_ble_eq_true rfl⟩) ⟨wbz_blind, va_recv hK hP (ci := 0) (q0 := 0) rfl rfl, fun U hU hW => ⟨rfl, by rw [hU], wb_preD hU hW hP hK hN hD⟩⟩ rfl rfl hl.1 rfl (lv_room (Nat.le_of_ble_eq_true rfl)) d_BlockRuler_common_1 ⟨Nat.zero_le _, Nat.zero_le _⟩) hS (fun q _ h => hFc q h) hFc (fun u t H locs ht hvm hw hB hz1 hk1 hS => ?_)
  obtain rfl : r1 = u := hw.symm
  have hP : va_P (dC, dI) classes (wsB a cs r1) H := by have q := hB.1; rw [ht] at q; exact q
  have hD : va_D A (wsB a cs r1) := hB.2.weaken (fun _ _ _ h => hFc _ h)
  refine lv_aload_n hx hb d_BlockRuler_common_4 rfl (lv_at hl 0 rfl) ?_
  refine lv_iload_n hx hb d_BlockRuler_common_5 rfl (lv_at hl 1 rfl) ?_
  obtain ⟨r2, hr2, h⟩ := bd h
  refine ro_call (v := .int r2) (va_runV (C := "BlockRuler") (As := [.int v1]) (rest := []) ⟨hx, hb, hml, hown, hg⟩ (c_BlockRuler_isReached l dC dI a cs r1 v1 _ hr2) (cwV 1 hg (gdV wd172 wd171 wd170 wd22 wd173) rfl rfl rfl (by decide +kernel) ⟨Nat.le_of_ble_eq_true rfl, Nat.le_of_ble_eq_true rfl⟩) ⟨wb_blind, va_recv hK hP (ci := 0) (q0 := 0) rfl rfl, fun U hU hW => ⟨rfl, wb_pre hU hW hP hK hN⟩⟩ rfl rfl hl.1 rfl (lv_room (Nat.le_of_ble_eq_true rfl)) d_BlockRuler_common_6 ⟨Nat.zero_le _, Nat.zero_le _⟩) ?_
  refine lv_if_eq (tgt := 20) hx hb d_BlockRuler_common_9 (by decide) (fun c3 => ?_) (fun c3 => ?_)
  · have h := b_t h c3
    cases h
  · have h := b_f h c3
    refine lv_aload_n hx hb d_BlockRuler_common_12 rfl (lv_at hl 0 rfl) ?_
    refine lv_iload_n hx hb d_BlockRuler_common_13 rfl (lv_at hl 2 rfl) ?_
    obtain ⟨r4, hr4, h⟩ := bd h
    refine ro_call (v := .int r4) (va_runV (C := "BlockRuler") (As := [.int v2]) (rest := []) ⟨hx, hb, hml, hown, hg⟩ (c_BlockRuler_isReached l dC dI a cs r1 v2 _ hr4) (cwV 1 hg (gdV wd172 wd171 wd170 wd22 wd173) rfl rfl rfl (by decide +kernel) ⟨Nat.le_of_ble_eq_true rfl, Nat.le_of_ble_eq_true rfl⟩) ⟨wb_blind, va_recv hK hP (ci := 0) (q0 := 0) rfl rfl, fun U hU hW => ⟨rfl, wb_pre hU hW hP hK hN⟩⟩ rfl rfl hl.1 rfl (lv_room (Nat.le_of_ble_eq_true rfl)) d_BlockRuler_common_14 ⟨Nat.zero_le _, Nat.zero_le _⟩) ?_
    refine lv_if_ne (tgt := 30) hx hb d_BlockRuler_common_17 (by decide) (fun c5 => ?_) (fun c5 => ?_)
    · have h := b_f h c5
      refine lv_aload_n hx hb d_BlockRuler_common_30 rfl (lv_at hl 0 rfl) ?_
      refine va_get (D := (dC, dI)) (ci := 0) (v := .ref (a 2)) (C := "BlockRuler") (T := F_BlockRuler) (N := 5) hx hb hg i_BlockRuler hown hK hP 0 rfl rfl 1 (by decide) (hg _ wd126) (fun _ h9 => h9) rfl d_BlockRuler_common_31 ?_
      refine lv_aload_n hx hb d_BlockRuler_common_34 rfl (lv_at hl 0 rfl) ?_
      refine va_get (D := (dC, dI)) (ci := 0) (v := .ref (a 3)) (C := "BlockRuler") (T := F_BlockRuler) (N := 5) hx hb hg i_BlockRuler hown hK hP 0 rfl rfl 2 (by decide) (hg _ wd131) (fun _ h9 => h9) rfl d_BlockRuler_common_35 ?_
      refine va_get (D := (dC, dI)) (ci := 3) (v := .ref (a 13)) (C := "BlockRuler$Rulers") (T := F_Rulers) (N := 2) hx hb hg i_Rulers hown hK hP 3 rfl rfl 1 (by decide) (hg _ wd174) (fun _ h9 => h9) rfl d_BlockRuler_common_38 ?_
      refine lv_iload_n hx hb d_BlockRuler_common_41 rfl (lv_at hl 1 rfl) ?_
      obtain ⟨hi6, h⟩ := gd h
      refine va_lald (f := sB_rof r1) (n := 64) hx hb hK hP 13 8 rfl rfl hi6 d_BlockRuler_common_42 ?_
      refine lv_aload_n hx hb d_BlockRuler_common_43 rfl (lv_at hl 0 rfl) ?_
      refine va_get (D := (dC, dI)) (ci := 0) (v := .ref (a 3)) (C := "BlockRuler") (T := F_BlockRuler) (N := 5) hx hb hg i_BlockRuler hown hK hP 0 rfl rfl 2 (by decide) (hg _ wd131) (fun _ h9 => h9) rfl d_BlockRuler_common_44 ?_
      refine va_get (D := (dC, dI)) (ci := 3) (v := .ref (a 13)) (C := "BlockRuler$Rulers") (T := F_Rulers) (N := 2) hx hb hg i_Rulers hown hK hP 3 rfl rfl 1 (by decide) (hg _ wd174) (fun _ h9 => h9) rfl d_BlockRuler_common_47 ?_
      refine lv_iload_n hx hb d_BlockRuler_common_50 rfl (lv_at hl 2 rfl) ?_
      obtain ⟨hi7, h⟩ := gd h
      refine va_lald (f := sB_rof r1) (n := 64) hx hb hK hP 13 8 rfl rfl hi7 d_BlockRuler_common_51 ?_
      refine lv_land hx hb d_BlockRuler_common_52 ?_
      obtain ⟨r8, hr8, h⟩ := bd h
      refine ro_call (v := .int r8) (va_runV (C := "BlockRuler$Walk") (As := [.long ((sB_rof r1 (Int32.toNatClampNeg v1)) &&& (sB_rof r1 (Int32.toNatClampNeg v2)))]) (rest := []) ⟨hx, hb, hml, hown, hg⟩ (c_Walk_lastOf l dC dI a cs r1 ((sB_rof r1 (Int32.toNatClampNeg v1)) &&& (sB_rof r1 (Int32.toNatClampNeg v2))) _ hr8) (cwV 1 hg (gdV wd177 wd176 wd175 wd45 wd178) rfl rfl rfl (by decide +kernel) ⟨Nat.le_of_ble_eq_true rfl, Nat.le_of_ble_eq_true rfl⟩) ⟨wb_blind, va_recv hK hP (ci := 2) (q0 := 2) rfl rfl, fun U hU hW => ⟨rfl, wb_pre hU hW hP hK hN⟩⟩ rfl rfl hl.1 rfl (lv_room (Nat.le_of_ble_eq_true rfl)) d_BlockRuler_common_53 ⟨Nat.zero_le _, Nat.zero_le _⟩) ?_
      exact W.iret (v := r8) hx hb hr (fun t ht hW => ⟨⟨r8, r1, rfl, th_r h, by rw [ht]; exact hP, hD⟩, hS.F ht⟩) hS.2.2 d_BlockRuler_common_56
    · have h := b_t h c5
      cases h
set_option maxHeartbeats 4000000 in
set_option maxRecDepth 100000 in
theorem c_BlockRuler_end (l : Launch) (dC : Nat → ClassId) (dI : Nat → Nat → Nat) (a : Nat → Nat) (cs : Nat → ClassId) (σ : SB) (v1 : Int32) (v2 : Int32) (r : Int32) (h : f_BlockRuler_end σ v1 v2 = some r) : Met l y_BlockRuler_end w_BlockRuler_end rm_BlockRuler_end (va_Pc [.ref (a 0), .int v1, .int v2] (WBB dC dI a cs σ)) (QcV (.int r)) 0 0 (fun _ => False) := by
  refine Met.ofW (cc := b_BlockRuler_end) (maxL := 3) (ret := (some .int)) (by decide) rfl ?_
  intro p e s m args below meth c s₁ B hml hv
  obtain ⟨rfl, hP, hK, hN⟩ := hv
  have hx := B.exec
  have hb := B.bytes
  have hr := B.returns
  have hg : ∀ w ∈ G_, w.before _ s = true := fun w hw => atoms_spec (ws := w_BlockRuler_end) B.pre w (List.mem_cons_of_mem _ hw)
  have hown : s.vm.findClass "BlockRuler" = some m.cls := findClass_of_methodNamed B.named
  have hlocks := B.notSynchronized
  have C0 : Cx "BlockRuler" b_BlockRuler_end 3 p s m _ meth c := ⟨hx, hb, hml, hown, hg, hlocks⟩
  have hl := lv_entry ([.ref (a 0), .int v1, .int v2]) (n := 3) (Nat.le_of_ble_eq_true rfl)
  rw [lg_entry_eq]
  generalize (lg_sl ([.ref (a 0), .int v1, .int v2]) ++ List.replicate (3 - (lg_sl ([.ref (a 0), .int v1, .int v2])).length) Slot.unset).toArray = ls at hl ⊢
  have hl : lv_has ls 3 [(0, .ref (a 0)), (1, .int v1), (2, .int v2)] := hl
  unfold f_BlockRuler_end at h
  refine lv_aload_n hx hb d_BlockRuler_end_0 rfl (lv_at hl 0 rfl) ?_
  refine va_get (D := (dC, dI)) (ci := 0) (v := .ref (a 1)) (C := "BlockRuler") (T := F_BlockRuler) (N := 5) hx hb hg i_BlockRuler hown hK hP 0 rfl rfl 0 (by decide) (hg _ wd141) (fun _ h9 => h9) rfl d_BlockRuler_end_1 ?_
  refine lv_iload_n hx hb d_BlockRuler_end_4 rfl (lv_at hl 1 rfl) ?_
  refine lv_iload_n hx hb d_BlockRuler_end_5 rfl (lv_at hl 2 rfl) ?_
  obtain ⟨r1, hr1, h⟩ := bd h
  refine ro_call (v := .int r1) (va_runV (C := "BlockRuler$Web") (As := [.int v1, .int v2]) (rest := []) ⟨hx, hb, hml, hown, hg⟩ (c_Web_hasWay l dC dI a cs σ v1 v2 _ hr1) (cwV 2 hg (gdV wd156 wd155 wd154 wd7 wd157) rfl rfl rfl (by decide +kernel) ⟨Nat.le_of_ble_eq_true rfl, Nat.le_of_ble_eq_true rfl⟩) ⟨wb_blind, va_recv hK hP (ci := 1) (q0 := 1) rfl rfl, fun U hU hW => ⟨rfl, wb_pre hU hW hP hK hN⟩⟩ rfl rfl hl.1 rfl (lv_room (Nat.le_of_ble_eq_true rfl)) d_BlockRuler_end_6 ⟨Nat.zero_le _, Nat.zero_le _⟩) ?_
  refine lv_if_eq (tgt := 24) hx hb d_BlockRuler_end_9 (by decide) (fun c2 => ?_) (fun c2 => ?_)
  · have h := b_t h c2
    refine lv_iconst (v := -1) hx hb d_BlockRuler_end_24 (by decide) ?_
    exact W.iret (v := -1) hx hb hr (fun t ht _ => ⟨by rw [Option.some.inj h], ht⟩) (fun q hq => by cases hq) d_BlockRuler_end_25
  · have h := b_f h c2
    refine lv_aload_n hx hb d_BlockRuler_end_12 rfl (lv_at hl 0 rfl) ?_
    refine va_get (D := (dC, dI)) (ci := 0) (v := .ref (a 1)) (C := "BlockRuler") (T := F_BlockRuler) (N := 5) hx hb hg i_BlockRuler hown hK hP 0 rfl rfl 0 (by decide) (hg _ wd141) (fun _ h9 => h9) rfl d_BlockRuler_end_13 ?_
    refine lv_iload_n hx hb d_BlockRuler_end_16 rfl (lv_at hl 1 rfl) ?_
    refine lv_iload_n hx hb d_BlockRuler_end_17 rfl (lv_at hl 2 rfl) ?_
    obtain ⟨r3, hr3, h⟩ := bd h
    refine ro_call (v := .int r3) (va_runV (C := "BlockRuler$Web") (As := [.int v1, .int v2]) (rest := []) ⟨hx, hb, hml, hown, hg⟩ (c_Web_endOf l dC dI a cs σ v1 v2 _ hr3) (cwV 2 hg (gdV wd179 wd13 wd12 wd7 wd15) rfl rfl rfl (by decide +kernel) ⟨Nat.le_of_ble_eq_true rfl, Nat.le_of_ble_eq_true rfl⟩) ⟨wb_blind, va_recv hK hP (ci := 1) (q0 := 1) rfl rfl, fun U hU hW => ⟨rfl, wb_pre hU hW hP hK hN⟩⟩ rfl rfl hl.1 rfl (lv_room (Nat.le_of_ble_eq_true rfl)) d_BlockRuler_end_18 ⟨Nat.zero_le _, Nat.zero_le _⟩) ?_
    refine lv_goto (tgt := 25) hx hb d_BlockRuler_end_21 (by decide) ?_
    exact W.iret (v := r3) hx hb hr (fun t ht _ => ⟨by rw [Option.some.inj h], ht⟩) (fun q hq => by cases hq) d_BlockRuler_end_25
set_option maxHeartbeats 4000000 in
set_option maxRecDepth 100000 in
theorem c_BlockRuler_order (l : Launch) (dC : Nat → ClassId) (dI : Nat → Nat → Nat) (a : Nat → Nat) (cs : Nat → ClassId) (sz : Nat) (σ : SB) (v1 : Int32) (r : Int32 × SB) (h : f_BlockRuler_order σ v1 = some r) : Met l y_BlockRuler_order w_BlockRuler_order rm_BlockRuler_order (va_Pc [.ref (a 0), .int v1] (fun U => U.heap.size = sz ∧ WDB dC dI a cs σ U)) (va_Qi (fun (x : Int32) (u : SB) => (x, u) = r) (atB dC dI a cs (va_A (wsB a cs σ) sz)) (va_A (wsB a cs σ) sz)) 0 0 (va_A (wsB a cs σ) sz) := by
  refine Met.ofW (cc := b_BlockRuler_order) (maxL := 2) (ret := (some .int)) (by decide) rfl ?_
  intro p e s m args below meth c s₁ B hml hv
  obtain ⟨rfl, hsz, hP, hK, hN, hD0⟩ := hv
  have hx := B.exec
  have hb := B.bytes
  have hr := B.returns
  have hg : ∀ w ∈ G_, w.before _ s = true := fun w hw => atoms_spec (ws := w_BlockRuler_order) B.pre w (List.mem_cons_of_mem _ hw)
  have hown : s.vm.findClass "BlockRuler" = some m.cls := findClass_of_methodNamed B.named
  have hlocks := B.notSynchronized
  have C0 : Cx "BlockRuler" b_BlockRuler_order 2 p s m _ meth c := ⟨hx, hb, hml, hown, hg, hlocks⟩
  subst hsz
  have hD := hD0.self (sz := s.heap.size)
  generalize hAe : va_A (wsB a cs σ) s.heap.size = A at hD ⊢
  have hA : ∀ q : Nat, s.heap.size ≤ q → A q := fun q h => by rw [← hAe]; exact Or.inr h
  have hS : va_S A s.heap s.heap [] := va_S.rf
  have hl := lv_entry ([.ref (a 0), .int v1]) (n := 2) (Nat.le_of_ble_eq_true rfl)
  rw [lg_entry_eq]
  generalize (lg_sl ([.ref (a 0), .int v1]) ++ List.replicate (2 - (lg_sl ([.ref (a 0), .int v1])).length) Slot.unset).toArray = ls at hl ⊢
  have hl : lv_has ls 2 [(0, .ref (a 0)), (1, .int v1)] := hl
  unfold f_BlockRuler_order at h
  refine lv_aload_n hx hb d_BlockRuler_order_0 rfl (lv_at hl 0 rfl) ?_
  obtain ⟨r1, hr1, h⟩ := bd h
  have hFc := va_free (wc := wsB a cs σ) hD hS hA [0, 1, 2, 3, 4, 5, 6, 7, 8, 9, 10, 11, 12, 13, 14] (allB a cs σ)
  refine va_callv (va_runV (C := "BlockRuler") (As := []) (rest := []) ⟨hx, hb, hml, hown, hg⟩ (c_BlockRuler_refresh l dC dI a cs _ σ _ hr1) (cwV 0 hg (gdV wd168 wd167 wd166 wd22 wd169) rfl rfl rfl (by decide +kernel) ⟨Nat.le_of_ble_eq_true rfl, Nat.le_of_ble_eq_true rfl⟩) ⟨wbz_blind, va_recv hK hP (ci := 0) (q0 := 0) rfl rfl, fun U hU hW => ⟨rfl, by rw [hU], wb_preD hU hW hP hK hN hD⟩⟩ rfl rfl hl.1 rfl (lv_room (Nat.le_of_ble_eq_true rfl)) d_BlockRuler_order_1 ⟨Nat.zero_le _, Nat.zero_le _⟩) hS (fun q _ h => hFc q h) hFc (fun u t H locs ht hvm hw hB hz1 hk1 hS => ?_)
  obtain rfl : r1 = u := hw.symm
  have hP : va_P (dC, dI) classes (wsB a cs r1) H := by have q := hB.1; rw [ht] at q; exact q
  have hD : va_D A (wsB a cs r1) := hB.2.weaken (fun _ _ _ h => hFc _ h)
  refine lv_aload_n hx hb d_BlockRuler_order_4 rfl (lv_at hl 0 rfl) ?_
  refine va_get (D := (dC, dI)) (ci := 0) (v := .ref (a 1)) (C := "BlockRuler") (T := F_BlockRuler) (N := 5) hx hb hg i_BlockRuler hown hK hP 0 rfl rfl 0 (by decide) (hg _ wd141) (fun _ h9 => h9) rfl d_BlockRuler_order_5 ?_
  refine lv_iload_n hx hb d_BlockRuler_order_8 rfl (lv_at hl 1 rfl) ?_
  refine ro_call (v := .int (f_Web_hasBlock r1 v1)) (va_runV (C := "BlockRuler$Web") (As := [.int v1]) (rest := []) ⟨hx, hb, hml, hown, hg⟩ (c_Web_hasBlock l dC dI a cs r1 v1 _ rfl) (cwV 1 hg (gdV wd142 wd5 wd4 wd7 wd8) rfl rfl rfl (by decide +kernel) ⟨Nat.le_of_ble_eq_true rfl, Nat.le_of_ble_eq_true rfl⟩) ⟨wb_blind, va_recv hK hP (ci := 1) (q0 := 1) rfl rfl, fun U hU hW => ⟨rfl, wb_pre hU hW hP hK hN⟩⟩ rfl rfl hl.1 rfl (lv_room (Nat.le_of_ble_eq_true rfl)) d_BlockRuler_order_9 ⟨Nat.zero_le _, Nat.zero_le _⟩) ?_
  refine lv_if_eq (tgt := 27) hx hb d_BlockRuler_order_12 (by decide) (fun c2 => ?_) (fun c2 => ?_)
  · have h := b_t h c2
    refine lv_iconst (v := -1) hx hb d_BlockRuler_order_27 (by decide) ?_
    exact W.iret (v := -1) hx hb hr (fun t ht hW => ⟨⟨-1, r1, rfl, Option.some.inj h, by rw [ht]; exact hP, hD⟩, hS.F ht⟩) hS.2.2 d_BlockRuler_order_28
  · have h := b_f h c2
    refine lv_aload_n hx hb d_BlockRuler_order_15 rfl (lv_at hl 0 rfl) ?_
    refine va_get (D := (dC, dI)) (ci := 0) (v := .ref (a 2)) (C := "BlockRuler") (T := F_BlockRuler) (N := 5) hx hb hg i_BlockRuler hown hK hP 0 rfl rfl 1 (by decide) (hg _ wd126) (fun _ h9 => h9) rfl d_BlockRuler_order_16 ?_
    refine va_get (D := (dC, dI)) (ci := 2) (v := .ref (a 7)) (C := "BlockRuler$Walk") (T := F_Walk) (N := 9) hx hb hg i_Walk hown hK hP 2 rfl rfl 1 (by decide) (hg _ wd143) (fun _ h9 => h9) rfl d_BlockRuler_order_19 ?_
    refine lv_iload_n hx hb d_BlockRuler_order_22 rfl (lv_at hl 1 rfl) ?_
    obtain ⟨hi3, h⟩ := gd h
    refine va_iald (f := sB_orders r1) (n := 64) hx hb hK hP 7 2 rfl rfl hi3 d_BlockRuler_order_23 ?_
    refine lv_goto (tgt := 28) hx hb d_BlockRuler_order_24 (by decide) ?_
    exact W.iret (v := sB_orders r1 (Int32.toNatClampNeg v1)) hx hb hr (fun t ht hW => ⟨⟨sB_orders r1 (Int32.toNatClampNeg v1), r1, rfl, Option.some.inj h, by rw [ht]; exact hP, hD⟩, hS.F ht⟩) hS.2.2 d_BlockRuler_order_28
set_option maxHeartbeats 4000000 in
set_option maxRecDepth 100000 in
theorem c_BlockRuler_at (l : Launch) (dC : Nat → ClassId) (dI : Nat → Nat → Nat) (a : Nat → Nat) (cs : Nat → ClassId) (sz : Nat) (σ : SB) (v1 : Int32) (r : Int32 × SB) (h : f_BlockRuler_at σ v1 = some r) : Met l y_BlockRuler_at w_BlockRuler_at rm_BlockRuler_at (va_Pc [.ref (a 0), .int v1] (fun U => U.heap.size = sz ∧ WDB dC dI a cs σ U)) (va_Qi (fun (x : Int32) (u : SB) => (x, u) = r) (atB dC dI a cs (va_A (wsB a cs σ) sz)) (va_A (wsB a cs σ) sz)) 0 0 (va_A (wsB a cs σ) sz) := by
  refine Met.ofW (cc := b_BlockRuler_at) (maxL := 2) (ret := (some .int)) (by decide) rfl ?_
  intro p e s m args below meth c s₁ B hml hv
  obtain ⟨rfl, hsz, hP, hK, hN, hD0⟩ := hv
  have hx := B.exec
  have hb := B.bytes
  have hr := B.returns
  have hg : ∀ w ∈ G_, w.before _ s = true := fun w hw => atoms_spec (ws := w_BlockRuler_at) B.pre w (List.mem_cons_of_mem _ hw)
  have hown : s.vm.findClass "BlockRuler" = some m.cls := findClass_of_methodNamed B.named
  have hlocks := B.notSynchronized
  have C0 : Cx "BlockRuler" b_BlockRuler_at 2 p s m _ meth c := ⟨hx, hb, hml, hown, hg, hlocks⟩
  subst hsz
  have hD := hD0.self (sz := s.heap.size)
  generalize hAe : va_A (wsB a cs σ) s.heap.size = A at hD ⊢
  have hA : ∀ q : Nat, s.heap.size ≤ q → A q := fun q h => by rw [← hAe]; exact Or.inr h
  have hS : va_S A s.heap s.heap [] := va_S.rf
  have hl := lv_entry ([.ref (a 0), .int v1]) (n := 2) (Nat.le_of_ble_eq_true rfl)
  rw [lg_entry_eq]
  generalize (lg_sl ([.ref (a 0), .int v1]) ++ List.replicate (2 - (lg_sl ([.ref (a 0), .int v1])).length) Slot.unset).toArray = ls at hl ⊢
  have hl : lv_has ls 2 [(0, .ref (a 0)), (1, .int v1)] := hl
  unfold f_BlockRuler_at at h
  refine lv_aload_n hx hb d_BlockRuler_at_0 rfl (lv_at hl 0 rfl) ?_
  obtain ⟨r1, hr1, h⟩ := bd h
  have hFc := va_free (wc := wsB a cs σ) hD hS hA [0, 1, 2, 3, 4, 5, 6, 7, 8, 9, 10, 11, 12, 13, 14] (allB a cs σ)
  refine va_callv (va_runV (C := "BlockRuler") (As := []) (rest := []) ⟨hx, hb, hml, hown, hg⟩ (c_BlockRuler_refresh l dC dI a cs _ σ _ hr1) (cwV 0 hg (gdV wd168 wd167 wd166 wd22 wd169) rfl rfl rfl (by decide +kernel) ⟨Nat.le_of_ble_eq_true rfl, Nat.le_of_ble_eq_true rfl⟩) ⟨wbz_blind, va_recv hK hP (ci := 0) (q0 := 0) rfl rfl, fun U hU hW => ⟨rfl, by rw [hU], wb_preD hU hW hP hK hN hD⟩⟩ rfl rfl hl.1 rfl (lv_room (Nat.le_of_ble_eq_true rfl)) d_BlockRuler_at_1 ⟨Nat.zero_le _, Nat.zero_le _⟩) hS (fun q _ h => hFc q h) hFc (fun u t H locs ht hvm hw hB hz1 hk1 hS => ?_)
  obtain rfl : r1 = u := hw.symm
  have hP : va_P (dC, dI) classes (wsB a cs r1) H := by have q := hB.1; rw [ht] at q; exact q
  have hD : va_D A (wsB a cs r1) := hB.2.weaken (fun _ _ _ h => hFc _ h)
  refine lv_iload_n hx hb d_BlockRuler_at_4 rfl (lv_at hl 1 rfl) ?_
  refine lv_if_lt (tgt := 30) hx hb d_BlockRuler_at_5 (by decide) (fun c2 => ?_) (fun c2 => ?_)
  · have h := b_t h c2
    refine lv_iconst (v := -1) hx hb d_BlockRuler_at_30 (by decide) ?_
    exact W.iret (v := -1) hx hb hr (fun t ht hW => ⟨⟨-1, r1, rfl, Option.some.inj h, by rw [ht]; exact hP, hD⟩, hS.F ht⟩) hS.2.2 d_BlockRuler_at_31
  · have h := b_f h c2
    refine lv_iload_n hx hb d_BlockRuler_at_8 rfl (lv_at hl 1 rfl) ?_
    refine lv_aload_n hx hb d_BlockRuler_at_9 rfl (lv_at hl 0 rfl) ?_
    refine va_get (D := (dC, dI)) (ci := 0) (v := .ref (a 2)) (C := "BlockRuler") (T := F_BlockRuler) (N := 5) hx hb hg i_BlockRuler hown hK hP 0 rfl rfl 1 (by decide) (hg _ wd126) (fun _ h9 => h9) rfl d_BlockRuler_at_10 ?_
    refine va_get (D := (dC, dI)) (ci := 2) (v := .int (sB_reached r1)) (C := "BlockRuler$Walk") (T := F_Walk) (N := 9) hx hb hg i_Walk hown hK hP 2 rfl rfl 7 (by decide) (hg _ wd180) (fun _ h9 => h9) rfl d_BlockRuler_at_13 ?_
    refine lv_icmp_ge (tgt := 30) hx hb d_BlockRuler_at_16 (by decide) (fun c3 => ?_) (fun c3 => ?_)
    · have h := b_t h c3
      refine lv_iconst (v := -1) hx hb d_BlockRuler_at_30 (by decide) ?_
      exact W.iret (v := -1) hx hb hr (fun t ht hW => ⟨⟨-1, r1, rfl, Option.some.inj h, by rw [ht]; exact hP, hD⟩, hS.F ht⟩) hS.2.2 d_BlockRuler_at_31
    · have h := b_f h c3
      refine lv_aload_n hx hb d_BlockRuler_at_19 rfl (lv_at hl 0 rfl) ?_
      refine va_get (D := (dC, dI)) (ci := 0) (v := .ref (a 2)) (C := "BlockRuler") (T := F_BlockRuler) (N := 5) hx hb hg i_BlockRuler hown hK hP 0 rfl rfl 1 (by decide) (hg _ wd126) (fun _ h9 => h9) rfl d_BlockRuler_at_20 ?_
      refine lv_iload_n hx hb d_BlockRuler_at_23 rfl (lv_at hl 1 rfl) ?_
      obtain ⟨r4, hr4, h⟩ := bd h
      refine ro_call (v := .int r4) (va_runV (C := "BlockRuler$Walk") (As := [.int v1]) (rest := []) ⟨hx, hb, hml, hown, hg⟩ (c_Walk_blockAt l dC dI a cs r1 v1 _ hr4) (cwV 1 hg (gdV wd181 wd52 wd51 wd45 wd54) rfl rfl rfl (by decide +kernel) ⟨Nat.le_of_ble_eq_true rfl, Nat.le_of_ble_eq_true rfl⟩) ⟨wb_blind, va_recv hK hP (ci := 2) (q0 := 2) rfl rfl, fun U hU hW => ⟨rfl, wb_pre hU hW hP hK hN⟩⟩ rfl rfl hl.1 rfl (lv_room (Nat.le_of_ble_eq_true rfl)) d_BlockRuler_at_24 ⟨Nat.zero_le _, Nat.zero_le _⟩) ?_
      refine lv_goto (tgt := 31) hx hb d_BlockRuler_at_27 (by decide) ?_
      exact W.iret (v := r4) hx hb hr (fun t ht hW => ⟨⟨r4, r1, rfl, Option.some.inj h, by rw [ht]; exact hP, hD⟩, hS.F ht⟩) hS.2.2 d_BlockRuler_at_31
set_option maxHeartbeats 4000000 in
set_option maxRecDepth 100000 in
theorem c_BlockRuler_parent (l : Launch) (dC : Nat → ClassId) (dI : Nat → Nat → Nat) (a : Nat → Nat) (cs : Nat → ClassId) (sz : Nat) (σ : SB) (v1 : Int32) (r : Int32 × SB) (h : f_BlockRuler_parent σ v1 = some r) : Met l y_BlockRuler_parent w_BlockRuler_parent rm_BlockRuler_parent (va_Pc [.ref (a 0), .int v1] (fun U => U.heap.size = sz ∧ WDB dC dI a cs σ U)) (va_Qi (fun (x : Int32) (u : SB) => (x, u) = r) (atB dC dI a cs (va_A (wsB a cs σ) sz)) (va_A (wsB a cs σ) sz)) 0 0 (va_A (wsB a cs σ) sz) := by
  refine Met.ofW (cc := b_BlockRuler_parent) (maxL := 2) (ret := (some .int)) (by decide) rfl ?_
  intro p e s m args below meth c s₁ B hml hv
  obtain ⟨rfl, hsz, hP, hK, hN, hD0⟩ := hv
  have hx := B.exec
  have hb := B.bytes
  have hr := B.returns
  have hg : ∀ w ∈ G_, w.before _ s = true := fun w hw => atoms_spec (ws := w_BlockRuler_parent) B.pre w (List.mem_cons_of_mem _ hw)
  have hown : s.vm.findClass "BlockRuler" = some m.cls := findClass_of_methodNamed B.named
  have hlocks := B.notSynchronized
  have C0 : Cx "BlockRuler" b_BlockRuler_parent 2 p s m _ meth c := ⟨hx, hb, hml, hown, hg, hlocks⟩
  subst hsz
  have hD := hD0.self (sz := s.heap.size)
  generalize hAe : va_A (wsB a cs σ) s.heap.size = A at hD ⊢
  have hA : ∀ q : Nat, s.heap.size ≤ q → A q := fun q h => by rw [← hAe]; exact Or.inr h
  have hS : va_S A s.heap s.heap [] := va_S.rf
  have hl := lv_entry ([.ref (a 0), .int v1]) (n := 2) (Nat.le_of_ble_eq_true rfl)
  rw [lg_entry_eq]
  generalize (lg_sl ([.ref (a 0), .int v1]) ++ List.replicate (2 - (lg_sl ([.ref (a 0), .int v1])).length) Slot.unset).toArray = ls at hl ⊢
  have hl : lv_has ls 2 [(0, .ref (a 0)), (1, .int v1)] := hl
  unfold f_BlockRuler_parent at h
  refine lv_aload_n hx hb d_BlockRuler_parent_0 rfl (lv_at hl 0 rfl) ?_
  obtain ⟨r1, hr1, h⟩ := bd h
  have hFc := va_free (wc := wsB a cs σ) hD hS hA [0, 1, 2, 3, 4, 5, 6, 7, 8, 9, 10, 11, 12, 13, 14] (allB a cs σ)
  refine va_callv (va_runV (C := "BlockRuler") (As := []) (rest := []) ⟨hx, hb, hml, hown, hg⟩ (c_BlockRuler_refresh l dC dI a cs _ σ _ hr1) (cwV 0 hg (gdV wd168 wd167 wd166 wd22 wd169) rfl rfl rfl (by decide +kernel) ⟨Nat.le_of_ble_eq_true rfl, Nat.le_of_ble_eq_true rfl⟩) ⟨wbz_blind, va_recv hK hP (ci := 0) (q0 := 0) rfl rfl, fun U hU hW => ⟨rfl, by rw [hU], wb_preD hU hW hP hK hN hD⟩⟩ rfl rfl hl.1 rfl (lv_room (Nat.le_of_ble_eq_true rfl)) d_BlockRuler_parent_1 ⟨Nat.zero_le _, Nat.zero_le _⟩) hS (fun q _ h => hFc q h) hFc (fun u t H locs ht hvm hw hB hz1 hk1 hS => ?_)
  obtain rfl : r1 = u := hw.symm
  have hP : va_P (dC, dI) classes (wsB a cs r1) H := by have q := hB.1; rw [ht] at q; exact q
  have hD : va_D A (wsB a cs r1) := hB.2.weaken (fun _ _ _ h => hFc _ h)
  refine lv_aload_n hx hb d_BlockRuler_parent_4 rfl (lv_at hl 0 rfl) ?_
  refine va_get (D := (dC, dI)) (ci := 0) (v := .ref (a 1)) (C := "BlockRuler") (T := F_BlockRuler) (N := 5) hx hb hg i_BlockRuler hown hK hP 0 rfl rfl 0 (by decide) (hg _ wd141) (fun _ h9 => h9) rfl d_BlockRuler_parent_5 ?_
  refine lv_iload_n hx hb d_BlockRuler_parent_8 rfl (lv_at hl 1 rfl) ?_
  refine ro_call (v := .int (f_Web_hasBlock r1 v1)) (va_runV (C := "BlockRuler$Web") (As := [.int v1]) (rest := []) ⟨hx, hb, hml, hown, hg⟩ (c_Web_hasBlock l dC dI a cs r1 v1 _ rfl) (cwV 1 hg (gdV wd142 wd5 wd4 wd7 wd8) rfl rfl rfl (by decide +kernel) ⟨Nat.le_of_ble_eq_true rfl, Nat.le_of_ble_eq_true rfl⟩) ⟨wb_blind, va_recv hK hP (ci := 1) (q0 := 1) rfl rfl, fun U hU hW => ⟨rfl, wb_pre hU hW hP hK hN⟩⟩ rfl rfl hl.1 rfl (lv_room (Nat.le_of_ble_eq_true rfl)) d_BlockRuler_parent_9 ⟨Nat.zero_le _, Nat.zero_le _⟩) ?_
  refine lv_if_eq (tgt := 43) hx hb d_BlockRuler_parent_12 (by decide) (fun c2 => ?_) (fun c2 => ?_)
  · have h := b_t h c2
    refine lv_iconst (v := -1) hx hb d_BlockRuler_parent_43 (by decide) ?_
    exact W.iret (v := -1) hx hb hr (fun t ht hW => ⟨⟨-1, r1, rfl, Option.some.inj h, by rw [ht]; exact hP, hD⟩, hS.F ht⟩) hS.2.2 d_BlockRuler_parent_44
  · have h := b_f h c2
    refine lv_aload_n hx hb d_BlockRuler_parent_15 rfl (lv_at hl 0 rfl) ?_
    refine va_get (D := (dC, dI)) (ci := 0) (v := .ref (a 2)) (C := "BlockRuler") (T := F_BlockRuler) (N := 5) hx hb hg i_BlockRuler hown hK hP 0 rfl rfl 1 (by decide) (hg _ wd126) (fun _ h9 => h9) rfl d_BlockRuler_parent_16 ?_
    refine lv_aload_n hx hb d_BlockRuler_parent_19 rfl (lv_at hl 0 rfl) ?_
    refine va_get (D := (dC, dI)) (ci := 0) (v := .ref (a 3)) (C := "BlockRuler") (T := F_BlockRuler) (N := 5) hx hb hg i_BlockRuler hown hK hP 0 rfl rfl 2 (by decide) (hg _ wd131) (fun _ h9 => h9) rfl d_BlockRuler_parent_20 ?_
    refine va_get (D := (dC, dI)) (ci := 3) (v := .ref (a 13)) (C := "BlockRuler$Rulers") (T := F_Rulers) (N := 2) hx hb hg i_Rulers hown hK hP 3 rfl rfl 1 (by decide) (hg _ wd174) (fun _ h9 => h9) rfl d_BlockRuler_parent_23 ?_
    refine lv_iload_n hx hb d_BlockRuler_parent_26 rfl (lv_at hl 1 rfl) ?_
    obtain ⟨hi3, h⟩ := gd h
    refine va_lald (f := sB_rof r1) (n := 64) hx hb hK hP 13 8 rfl rfl hi3 d_BlockRuler_parent_27 ?_
    refine lv_iload_n hx hb d_BlockRuler_parent_28 rfl (lv_at hl 1 rfl) ?_
    refine ro_call (v := .long (f_BlockRuler_only v1)) (va_runS (As := [.int v1]) (rest := [.long (sB_rof r1 (Int32.toNatClampNeg v1)), .ref (a 2)]) ⟨hx, hb, hml, hown, hg⟩ (c_BlockRuler_only l v1 _ rfl) (cwS 1 hg (gdS wd182 wd36 wd22 wd35) rfl rfl rfl (by decide +kernel) ⟨Nat.le_of_ble_eq_true rfl, Nat.le_of_ble_eq_true rfl⟩) ⟨va_blind0, fun U hU hW => ⟨rfl, trivial⟩⟩ rfl rfl hl.1 rfl (lv_room (Nat.le_of_ble_eq_true rfl)) d_BlockRuler_parent_29 ⟨Nat.zero_le _, Nat.zero_le _⟩) ?_
    refine lv_ldc2 (v := -1) hx hb hown (hg _ wd183) d_BlockRuler_parent_32 ?_
    refine lv_lxor hx hb d_BlockRuler_parent_35 ?_
    refine lv_land hx hb d_BlockRuler_parent_36 ?_
    obtain ⟨r4, hr4, h⟩ := bd h
    refine ro_call (v := .int r4) (va_runV (C := "BlockRuler$Walk") (As := [.long ((sB_rof r1 (Int32.toNatClampNeg v1)) &&& ((f_BlockRuler_only v1) ^^^ (-1)))]) (rest := []) ⟨hx, hb, hml, hown, hg⟩ (c_Walk_lastOf l dC dI a cs r1 ((sB_rof r1 (Int32.toNatClampNeg v1)) &&& ((f_BlockRuler_only v1) ^^^ (-1))) _ hr4) (cwV 1 hg (gdV wd177 wd176 wd175 wd45 wd178) rfl rfl rfl (by decide +kernel) ⟨Nat.le_of_ble_eq_true rfl, Nat.le_of_ble_eq_true rfl⟩) ⟨wb_blind, va_recv hK hP (ci := 2) (q0 := 2) rfl rfl, fun U hU hW => ⟨rfl, wb_pre hU hW hP hK hN⟩⟩ rfl rfl hl.1 rfl (lv_room (Nat.le_of_ble_eq_true rfl)) d_BlockRuler_parent_37 ⟨Nat.zero_le _, Nat.zero_le _⟩) ?_
    refine lv_goto (tgt := 44) hx hb d_BlockRuler_parent_40 (by decide) ?_
    exact W.iret (v := r4) hx hb hr (fun t ht hW => ⟨⟨r4, r1, rfl, Option.some.inj h, by rw [ht]; exact hP, hD⟩, hS.F ht⟩) hS.2.2 d_BlockRuler_parent_44
set_option maxHeartbeats 4000000 in
set_option maxRecDepth 100000 in
theorem c_BlockRuler_rules (l : Launch) (dC : Nat → ClassId) (dI : Nat → Nat → Nat) (a : Nat → Nat) (cs : Nat → ClassId) (sz : Nat) (σ : SB) (v1 : Int32) (v2 : Int32) (r : Int32 × SB) (h : f_BlockRuler_rules σ v1 v2 = some r) : Met l y_BlockRuler_rules w_BlockRuler_rules rm_BlockRuler_rules (va_Pc [.ref (a 0), .int v1, .int v2] (fun U => U.heap.size = sz ∧ WDB dC dI a cs σ U)) (va_Qi (fun (x : Int32) (u : SB) => (x, u) = r) (atB dC dI a cs (va_A (wsB a cs σ) sz)) (va_A (wsB a cs σ) sz)) 0 0 (va_A (wsB a cs σ) sz) := by
  refine Met.ofW (cc := b_BlockRuler_rules) (maxL := 3) (ret := (some .boolean)) (by decide) rfl ?_
  intro p e s m args below meth c s₁ B hml hv
  obtain ⟨rfl, hsz, hP, hK, hN, hD0⟩ := hv
  have hx := B.exec
  have hb := B.bytes
  have hr := B.returns
  have hg : ∀ w ∈ G_, w.before _ s = true := fun w hw => atoms_spec (ws := w_BlockRuler_rules) B.pre w (List.mem_cons_of_mem _ hw)
  have hown : s.vm.findClass "BlockRuler" = some m.cls := findClass_of_methodNamed B.named
  have hlocks := B.notSynchronized
  have C0 : Cx "BlockRuler" b_BlockRuler_rules 3 p s m _ meth c := ⟨hx, hb, hml, hown, hg, hlocks⟩
  subst hsz
  have hD := hD0.self (sz := s.heap.size)
  generalize hAe : va_A (wsB a cs σ) s.heap.size = A at hD ⊢
  have hA : ∀ q : Nat, s.heap.size ≤ q → A q := fun q h => by rw [← hAe]; exact Or.inr h
  have hS : va_S A s.heap s.heap [] := va_S.rf
  have hl := lv_entry ([.ref (a 0), .int v1, .int v2]) (n := 3) (Nat.le_of_ble_eq_true rfl)
  rw [lg_entry_eq]
  generalize (lg_sl ([.ref (a 0), .int v1, .int v2]) ++ List.replicate (3 - (lg_sl ([.ref (a 0), .int v1, .int v2])).length) Slot.unset).toArray = ls at hl ⊢
  have hl : lv_has ls 3 [(0, .ref (a 0)), (1, .int v1), (2, .int v2)] := hl
  unfold f_BlockRuler_rules at h
  refine lv_aload_n hx hb d_BlockRuler_rules_0 rfl (lv_at hl 0 rfl) ?_
  obtain ⟨r1, hr1, h⟩ := bd h
  have hFc := va_free (wc := wsB a cs σ) hD hS hA [0, 1, 2, 3, 4, 5, 6, 7, 8, 9, 10, 11, 12, 13, 14] (allB a cs σ)
  refine va_callv (va_runV (C := "BlockRuler") (As := []) (rest := []) ⟨hx, hb, hml, hown, hg⟩ (c_BlockRuler_refresh l dC dI a cs _ σ _ hr1) (cwV 0 hg (gdV wd168 wd167 wd166 wd22 wd169) rfl rfl rfl (by decide +kernel) ⟨Nat.le_of_ble_eq_true rfl, Nat.le_of_ble_eq_true rfl⟩) ⟨wbz_blind, va_recv hK hP (ci := 0) (q0 := 0) rfl rfl, fun U hU hW => ⟨rfl, by rw [hU], wb_preD hU hW hP hK hN hD⟩⟩ rfl rfl hl.1 rfl (lv_room (Nat.le_of_ble_eq_true rfl)) d_BlockRuler_rules_1 ⟨Nat.zero_le _, Nat.zero_le _⟩) hS (fun q _ h => hFc q h) hFc (fun u t H locs ht hvm hw hB hz1 hk1 hS => ?_)
  obtain rfl : r1 = u := hw.symm
  have hP : va_P (dC, dI) classes (wsB a cs r1) H := by have q := hB.1; rw [ht] at q; exact q
  have hD : va_D A (wsB a cs r1) := hB.2.weaken (fun _ _ _ h => hFc _ h)
  refine lv_aload_n hx hb d_BlockRuler_rules_4 rfl (lv_at hl 0 rfl) ?_
  refine va_get (D := (dC, dI)) (ci := 0) (v := .ref (a 1)) (C := "BlockRuler") (T := F_BlockRuler) (N := 5) hx hb hg i_BlockRuler hown hK hP 0 rfl rfl 0 (by decide) (hg _ wd141) (fun _ h9 => h9) rfl d_BlockRuler_rules_5 ?_
  refine lv_iload_n hx hb d_BlockRuler_rules_8 rfl (lv_at hl 1 rfl) ?_
  refine ro_call (v := .int (f_Web_hasBlock r1 v1)) (va_runV (C := "BlockRuler$Web") (As := [.int v1]) (rest := []) ⟨hx, hb, hml, hown, hg⟩ (c_Web_hasBlock l dC dI a cs r1 v1 _ rfl) (cwV 1 hg (gdV wd142 wd5 wd4 wd7 wd8) rfl rfl rfl (by decide +kernel) ⟨Nat.le_of_ble_eq_true rfl, Nat.le_of_ble_eq_true rfl⟩) ⟨wb_blind, va_recv hK hP (ci := 1) (q0 := 1) rfl rfl, fun U hU hW => ⟨rfl, wb_pre hU hW hP hK hN⟩⟩ rfl rfl hl.1 rfl (lv_room (Nat.le_of_ble_eq_true rfl)) d_BlockRuler_rules_9 ⟨Nat.zero_le _, Nat.zero_le _⟩) ?_
  refine lv_if_eq (tgt := 42) hx hb d_BlockRuler_rules_12 (by decide) (fun c2 => ?_) (fun c2 => ?_)
  · have h := b_t h c2
    refine lv_iconst (v := 0) hx hb d_BlockRuler_rules_42 (by decide) ?_
    exact W.zret (ty := .boolean) (v := 0) hx hb hr rfl (fun t ht hW => ⟨⟨0, r1, rfl, Option.some.inj h, by rw [ht]; exact hP, hD⟩, hS.F ht⟩) hS.2.2 d_BlockRuler_rules_43
  · have h := b_f h c2
    refine lv_aload_n hx hb d_BlockRuler_rules_15 rfl (lv_at hl 0 rfl) ?_
    refine va_get (D := (dC, dI)) (ci := 0) (v := .ref (a 1)) (C := "BlockRuler") (T := F_BlockRuler) (N := 5) hx hb hg i_BlockRuler hown hK hP 0 rfl rfl 0 (by decide) (hg _ wd141) (fun _ h9 => h9) rfl d_BlockRuler_rules_16 ?_
    refine lv_iload_n hx hb d_BlockRuler_rules_19 rfl (lv_at hl 2 rfl) ?_
    refine ro_call (v := .int (f_Web_hasBlock r1 v2)) (va_runV (C := "BlockRuler$Web") (As := [.int v2]) (rest := []) ⟨hx, hb, hml, hown, hg⟩ (c_Web_hasBlock l dC dI a cs r1 v2 _ rfl) (cwV 1 hg (gdV wd142 wd5 wd4 wd7 wd8) rfl rfl rfl (by decide +kernel) ⟨Nat.le_of_ble_eq_true rfl, Nat.le_of_ble_eq_true rfl⟩) ⟨wb_blind, va_recv hK hP (ci := 1) (q0 := 1) rfl rfl, fun U hU hW => ⟨rfl, wb_pre hU hW hP hK hN⟩⟩ rfl rfl hl.1 rfl (lv_room (Nat.le_of_ble_eq_true rfl)) d_BlockRuler_rules_20 ⟨Nat.zero_le _, Nat.zero_le _⟩) ?_
    refine lv_if_eq (tgt := 42) hx hb d_BlockRuler_rules_23 (by decide) (fun c3 => ?_) (fun c3 => ?_)
    · have h := b_t h c3
      refine lv_iconst (v := 0) hx hb d_BlockRuler_rules_42 (by decide) ?_
      exact W.zret (ty := .boolean) (v := 0) hx hb hr rfl (fun t ht hW => ⟨⟨0, r1, rfl, Option.some.inj h, by rw [ht]; exact hP, hD⟩, hS.F ht⟩) hS.2.2 d_BlockRuler_rules_43
    · have h := b_f h c3
      refine lv_aload_n hx hb d_BlockRuler_rules_26 rfl (lv_at hl 0 rfl) ?_
      refine va_get (D := (dC, dI)) (ci := 0) (v := .ref (a 3)) (C := "BlockRuler") (T := F_BlockRuler) (N := 5) hx hb hg i_BlockRuler hown hK hP 0 rfl rfl 2 (by decide) (hg _ wd131) (fun _ h9 => h9) rfl d_BlockRuler_rules_27 ?_
      refine lv_iload_n hx hb d_BlockRuler_rules_30 rfl (lv_at hl 1 rfl) ?_
      refine lv_iload_n hx hb d_BlockRuler_rules_31 rfl (lv_at hl 2 rfl) ?_
      obtain ⟨r4, hr4, h⟩ := bd h
      refine ro_call (v := .int r4) (va_runV (C := "BlockRuler$Rulers") (As := [.int v1, .int v2]) (rest := []) ⟨hx, hb, hml, hown, hg⟩ (c_Rulers_isRuled l dC dI a cs r1 v1 v2 _ hr4) (cwV 2 hg (gdV wd184 wd61 wd60 wd63 wd64) rfl rfl rfl (by decide +kernel) ⟨Nat.le_of_ble_eq_true rfl, Nat.le_of_ble_eq_true rfl⟩) ⟨wb_blind, va_recv hK hP (ci := 3) (q0 := 3) rfl rfl, fun U hU hW => ⟨rfl, wb_pre hU hW hP hK hN⟩⟩ rfl rfl hl.1 rfl (lv_room (Nat.le_of_ble_eq_true rfl)) d_BlockRuler_rules_32 ⟨Nat.zero_le _, Nat.zero_le _⟩) ?_
      refine lv_if_eq (tgt := 42) hx hb d_BlockRuler_rules_35 (by decide) (fun c5 => ?_) (fun c5 => ?_)
      · have h := b_t h c5
        refine lv_iconst (v := 0) hx hb d_BlockRuler_rules_42 (by decide) ?_
        exact W.zret (ty := .boolean) (v := 0) hx hb hr rfl (fun t ht hW => ⟨⟨0, r1, rfl, Option.some.inj h, by rw [ht]; exact hP, hD⟩, hS.F ht⟩) hS.2.2 d_BlockRuler_rules_43
      · have h := b_f h c5
        refine lv_iconst (v := 1) hx hb d_BlockRuler_rules_38 (by decide) ?_
        refine lv_goto (tgt := 43) hx hb d_BlockRuler_rules_39 (by decide) ?_
        exact W.zret (ty := .boolean) (v := 1) hx hb hr rfl (fun t ht hW => ⟨⟨1, r1, rfl, Option.some.inj h, by rw [ht]; exact hP, hD⟩, hS.F ht⟩) hS.2.2 d_BlockRuler_rules_43
set_option maxHeartbeats 4000000 in
set_option maxRecDepth 100000 in
theorem c_BlockRuler_sort (l : Launch) (dC : Nat → ClassId) (dI : Nat → Nat → Nat) (a : Nat → Nat) (cs : Nat → ClassId) (sz : Nat) (σ : SB) (v1 : Int32) (v2 : Int32) (r : Int32 × SB) (h : f_BlockRuler_sort σ v1 v2 = some r) : Met l y_BlockRuler_sort w_BlockRuler_sort rm_BlockRuler_sort (va_Pc [.ref (a 0), .int v1, .int v2] (fun U => U.heap.size = sz ∧ WDB dC dI a cs σ U)) (va_Qi (fun (x : Int32) (u : SB) => (x, u) = r) (atB dC dI a cs (va_A (wsB a cs σ) sz)) (va_A (wsB a cs σ) sz)) 0 0 (va_A (wsB a cs σ) sz) := by
  refine Met.ofW (cc := b_BlockRuler_sort) (maxL := 3) (ret := (some .int)) (by decide) rfl ?_
  intro p e s m args below meth c s₁ B hml hv
  obtain ⟨rfl, hsz, hP, hK, hN, hD0⟩ := hv
  have hx := B.exec
  have hb := B.bytes
  have hr := B.returns
  have hg : ∀ w ∈ G_, w.before _ s = true := fun w hw => atoms_spec (ws := w_BlockRuler_sort) B.pre w (List.mem_cons_of_mem _ hw)
  have hown : s.vm.findClass "BlockRuler" = some m.cls := findClass_of_methodNamed B.named
  have hlocks := B.notSynchronized
  have C0 : Cx "BlockRuler" b_BlockRuler_sort 3 p s m _ meth c := ⟨hx, hb, hml, hown, hg, hlocks⟩
  subst hsz
  have hD := hD0.self (sz := s.heap.size)
  generalize hAe : va_A (wsB a cs σ) s.heap.size = A at hD ⊢
  have hA : ∀ q : Nat, s.heap.size ≤ q → A q := fun q h => by rw [← hAe]; exact Or.inr h
  have hS : va_S A s.heap s.heap [] := va_S.rf
  have hl := lv_entry ([.ref (a 0), .int v1, .int v2]) (n := 3) (Nat.le_of_ble_eq_true rfl)
  rw [lg_entry_eq]
  generalize (lg_sl ([.ref (a 0), .int v1, .int v2]) ++ List.replicate (3 - (lg_sl ([.ref (a 0), .int v1, .int v2])).length) Slot.unset).toArray = ls at hl ⊢
  have hl : lv_has ls 3 [(0, .ref (a 0)), (1, .int v1), (2, .int v2)] := hl
  unfold f_BlockRuler_sort at h
  refine lv_aload_n hx hb d_BlockRuler_sort_0 rfl (lv_at hl 0 rfl) ?_
  obtain ⟨r1, hr1, h⟩ := bd h
  have hFc := va_free (wc := wsB a cs σ) hD hS hA [0, 1, 2, 3, 4, 5, 6, 7, 8, 9, 10, 11, 12, 13, 14] (allB a cs σ)
  refine va_callv (va_runV (C := "BlockRuler") (As := []) (rest := []) ⟨hx, hb, hml, hown, hg⟩ (c_BlockRuler_refresh l dC dI a cs _ σ _ hr1) (cwV 0 hg (gdV wd168 wd167 wd166 wd22 wd169) rfl rfl rfl (by decide +kernel) ⟨Nat.le_of_ble_eq_true rfl, Nat.le_of_ble_eq_true rfl⟩) ⟨wbz_blind, va_recv hK hP (ci := 0) (q0 := 0) rfl rfl, fun U hU hW => ⟨rfl, by rw [hU], wb_preD hU hW hP hK hN hD⟩⟩ rfl rfl hl.1 rfl (lv_room (Nat.le_of_ble_eq_true rfl)) d_BlockRuler_sort_1 ⟨Nat.zero_le _, Nat.zero_le _⟩) hS (fun q _ h => hFc q h) hFc (fun u t H locs ht hvm hw hB hz1 hk1 hS => ?_)
  obtain rfl : r1 = u := hw.symm
  have hP : va_P (dC, dI) classes (wsB a cs r1) H := by have q := hB.1; rw [ht] at q; exact q
  have hD : va_D A (wsB a cs r1) := hB.2.weaken (fun _ _ _ h => hFc _ h)
  refine lv_aload_n hx hb d_BlockRuler_sort_4 rfl (lv_at hl 0 rfl) ?_
  refine lv_iload_n hx hb d_BlockRuler_sort_5 rfl (lv_at hl 1 rfl) ?_
  obtain ⟨r2, hr2, h⟩ := bd h
  refine ro_call (v := .int r2) (va_runV (C := "BlockRuler") (As := [.int v1]) (rest := []) ⟨hx, hb, hml, hown, hg⟩ (c_BlockRuler_isReached l dC dI a cs r1 v1 _ hr2) (cwV 1 hg (gdV wd172 wd171 wd170 wd22 wd173) rfl rfl rfl (by decide +kernel) ⟨Nat.le_of_ble_eq_true rfl, Nat.le_of_ble_eq_true rfl⟩) ⟨wb_blind, va_recv hK hP (ci := 0) (q0 := 0) rfl rfl, fun U hU hW => ⟨rfl, wb_pre hU hW hP hK hN⟩⟩ rfl rfl hl.1 rfl (lv_room (Nat.le_of_ble_eq_true rfl)) d_BlockRuler_sort_6 ⟨Nat.zero_le _, Nat.zero_le _⟩) ?_
  refine lv_if_eq (tgt := 36) hx hb d_BlockRuler_sort_9 (by decide) (fun c3 => ?_) (fun c3 => ?_)
  · have h := b_t h c3
    refine lv_iconst (v := -1) hx hb d_BlockRuler_sort_36 (by decide) ?_
    exact W.iret (v := -1) hx hb hr (fun t ht hW => ⟨⟨-1, r1, rfl, Option.some.inj h, by rw [ht]; exact hP, hD⟩, hS.F ht⟩) hS.2.2 d_BlockRuler_sort_37
  · have h := b_f h c3
    refine lv_aload_n hx hb d_BlockRuler_sort_12 rfl (lv_at hl 0 rfl) ?_
    refine va_get (D := (dC, dI)) (ci := 0) (v := .ref (a 1)) (C := "BlockRuler") (T := F_BlockRuler) (N := 5) hx hb hg i_BlockRuler hown hK hP 0 rfl rfl 0 (by decide) (hg _ wd141) (fun _ h9 => h9) rfl d_BlockRuler_sort_13 ?_
    refine lv_iload_n hx hb d_BlockRuler_sort_16 rfl (lv_at hl 1 rfl) ?_
    refine lv_iload_n hx hb d_BlockRuler_sort_17 rfl (lv_at hl 2 rfl) ?_
    obtain ⟨r4, hr4, h⟩ := bd h
    refine ro_call (v := .int r4) (va_runV (C := "BlockRuler$Web") (As := [.int v1, .int v2]) (rest := []) ⟨hx, hb, hml, hown, hg⟩ (c_Web_hasWay l dC dI a cs r1 v1 v2 _ hr4) (cwV 2 hg (gdV wd156 wd155 wd154 wd7 wd157) rfl rfl rfl (by decide +kernel) ⟨Nat.le_of_ble_eq_true rfl, Nat.le_of_ble_eq_true rfl⟩) ⟨wb_blind, va_recv hK hP (ci := 1) (q0 := 1) rfl rfl, fun U hU hW => ⟨rfl, wb_pre hU hW hP hK hN⟩⟩ rfl rfl hl.1 rfl (lv_room (Nat.le_of_ble_eq_true rfl)) d_BlockRuler_sort_18 ⟨Nat.zero_le _, Nat.zero_le _⟩) ?_
    refine lv_if_eq (tgt := 36) hx hb d_BlockRuler_sort_21 (by decide) (fun c5 => ?_) (fun c5 => ?_)
    · have h := b_t h c5
      refine lv_iconst (v := -1) hx hb d_BlockRuler_sort_36 (by decide) ?_
      exact W.iret (v := -1) hx hb hr (fun t ht hW => ⟨⟨-1, r1, rfl, Option.some.inj h, by rw [ht]; exact hP, hD⟩, hS.F ht⟩) hS.2.2 d_BlockRuler_sort_37
    · have h := b_f h c5
      refine lv_aload_n hx hb d_BlockRuler_sort_24 rfl (lv_at hl 0 rfl) ?_
      refine va_get (D := (dC, dI)) (ci := 0) (v := .ref (a 4)) (C := "BlockRuler") (T := F_BlockRuler) (N := 5) hx hb hg i_BlockRuler hown hK hP 0 rfl rfl 3 (by decide) (hg _ wd136) (fun _ h9 => h9) rfl d_BlockRuler_sort_25 ?_
      refine lv_iload_n hx hb d_BlockRuler_sort_28 rfl (lv_at hl 1 rfl) ?_
      refine lv_iload_n hx hb d_BlockRuler_sort_29 rfl (lv_at hl 2 rfl) ?_
      obtain ⟨r6, hr6, h⟩ := bd h
      refine ro_call (v := .int r6) (va_runV (C := "BlockRuler$Loops") (As := [.int v1, .int v2]) (rest := []) ⟨hx, hb, hml, hown, hg⟩ (c_Loops_kindOf l dC dI a cs r1 v1 v2 _ hr6) (cwV 2 hg (gdV wd185 wd108 wd107 wd94 wd110) rfl rfl rfl (by decide +kernel) ⟨Nat.le_of_ble_eq_true rfl, Nat.le_of_ble_eq_true rfl⟩) ⟨wb_blind, va_recv hK hP (ci := 4) (q0 := 4) rfl rfl, fun U hU hW => ⟨rfl, wb_pre hU hW hP hK hN⟩⟩ rfl rfl hl.1 rfl (lv_room (Nat.le_of_ble_eq_true rfl)) d_BlockRuler_sort_30 ⟨Nat.zero_le _, Nat.zero_le _⟩) ?_
      refine lv_goto (tgt := 37) hx hb d_BlockRuler_sort_33 (by decide) ?_
      exact W.iret (v := r6) hx hb hr (fun t ht hW => ⟨⟨r6, r1, rfl, Option.some.inj h, by rw [ht]; exact hP, hD⟩, hS.F ht⟩) hS.2.2 d_BlockRuler_sort_37
set_option maxHeartbeats 4000000 in
set_option maxRecDepth 100000 in
theorem c_BlockRuler_inLoop (l : Launch) (dC : Nat → ClassId) (dI : Nat → Nat → Nat) (a : Nat → Nat) (cs : Nat → ClassId) (sz : Nat) (σ : SB) (v1 : Int32) (v2 : Int32) (r : Int32 × SB) (h : f_BlockRuler_inLoop σ v1 v2 = some r) : Met l y_BlockRuler_inLoop w_BlockRuler_inLoop rm_BlockRuler_inLoop (va_Pc [.ref (a 0), .int v1, .int v2] (fun U => U.heap.size = sz ∧ WDB dC dI a cs σ U)) (va_Qi (fun (x : Int32) (u : SB) => (x, u) = r) (atB dC dI a cs (va_A (wsB a cs σ) sz)) (va_A (wsB a cs σ) sz)) 0 0 (va_A (wsB a cs σ) sz) := by
  refine Met.ofW (cc := b_BlockRuler_inLoop) (maxL := 3) (ret := (some .boolean)) (by decide) rfl ?_
  intro p e s m args below meth c s₁ B hml hv
  obtain ⟨rfl, hsz, hP, hK, hN, hD0⟩ := hv
  have hx := B.exec
  have hb := B.bytes
  have hr := B.returns
  have hg : ∀ w ∈ G_, w.before _ s = true := fun w hw => atoms_spec (ws := w_BlockRuler_inLoop) B.pre w (List.mem_cons_of_mem _ hw)
  have hown : s.vm.findClass "BlockRuler" = some m.cls := findClass_of_methodNamed B.named
  have hlocks := B.notSynchronized
  have C0 : Cx "BlockRuler" b_BlockRuler_inLoop 3 p s m _ meth c := ⟨hx, hb, hml, hown, hg, hlocks⟩
  subst hsz
  have hD := hD0.self (sz := s.heap.size)
  generalize hAe : va_A (wsB a cs σ) s.heap.size = A at hD ⊢
  have hA : ∀ q : Nat, s.heap.size ≤ q → A q := fun q h => by rw [← hAe]; exact Or.inr h
  have hS : va_S A s.heap s.heap [] := va_S.rf
  have hl := lv_entry ([.ref (a 0), .int v1, .int v2]) (n := 3) (Nat.le_of_ble_eq_true rfl)
  rw [lg_entry_eq]
  generalize (lg_sl ([.ref (a 0), .int v1, .int v2]) ++ List.replicate (3 - (lg_sl ([.ref (a 0), .int v1, .int v2])).length) Slot.unset).toArray = ls at hl ⊢
  have hl : lv_has ls 3 [(0, .ref (a 0)), (1, .int v1), (2, .int v2)] := hl
  unfold f_BlockRuler_inLoop at h
  refine lv_aload_n hx hb d_BlockRuler_inLoop_0 rfl (lv_at hl 0 rfl) ?_
  obtain ⟨r1, hr1, h⟩ := bd h
  have hFc := va_free (wc := wsB a cs σ) hD hS hA [0, 1, 2, 3, 4, 5, 6, 7, 8, 9, 10, 11, 12, 13, 14] (allB a cs σ)
  refine va_callv (va_runV (C := "BlockRuler") (As := []) (rest := []) ⟨hx, hb, hml, hown, hg⟩ (c_BlockRuler_refresh l dC dI a cs _ σ _ hr1) (cwV 0 hg (gdV wd168 wd167 wd166 wd22 wd169) rfl rfl rfl (by decide +kernel) ⟨Nat.le_of_ble_eq_true rfl, Nat.le_of_ble_eq_true rfl⟩) ⟨wbz_blind, va_recv hK hP (ci := 0) (q0 := 0) rfl rfl, fun U hU hW => ⟨rfl, by rw [hU], wb_preD hU hW hP hK hN hD⟩⟩ rfl rfl hl.1 rfl (lv_room (Nat.le_of_ble_eq_true rfl)) d_BlockRuler_inLoop_1 ⟨Nat.zero_le _, Nat.zero_le _⟩) hS (fun q _ h => hFc q h) hFc (fun u t H locs ht hvm hw hB hz1 hk1 hS => ?_)
  obtain rfl : r1 = u := hw.symm
  have hP : va_P (dC, dI) classes (wsB a cs r1) H := by have q := hB.1; rw [ht] at q; exact q
  have hD : va_D A (wsB a cs r1) := hB.2.weaken (fun _ _ _ h => hFc _ h)
  refine lv_aload_n hx hb d_BlockRuler_inLoop_4 rfl (lv_at hl 0 rfl) ?_
  refine va_get (D := (dC, dI)) (ci := 0) (v := .ref (a 1)) (C := "BlockRuler") (T := F_BlockRuler) (N := 5) hx hb hg i_BlockRuler hown hK hP 0 rfl rfl 0 (by decide) (hg _ wd141) (fun _ h9 => h9) rfl d_BlockRuler_inLoop_5 ?_
  refine lv_iload_n hx hb d_BlockRuler_inLoop_8 rfl (lv_at hl 1 rfl) ?_
  refine ro_call (v := .int (f_Web_hasBlock r1 v1)) (va_runV (C := "BlockRuler$Web") (As := [.int v1]) (rest := []) ⟨hx, hb, hml, hown, hg⟩ (c_Web_hasBlock l dC dI a cs r1 v1 _ rfl) (cwV 1 hg (gdV wd142 wd5 wd4 wd7 wd8) rfl rfl rfl (by decide +kernel) ⟨Nat.le_of_ble_eq_true rfl, Nat.le_of_ble_eq_true rfl⟩) ⟨wb_blind, va_recv hK hP (ci := 1) (q0 := 1) rfl rfl, fun U hU hW => ⟨rfl, wb_pre hU hW hP hK hN⟩⟩ rfl rfl hl.1 rfl (lv_room (Nat.le_of_ble_eq_true rfl)) d_BlockRuler_inLoop_9 ⟨Nat.zero_le _, Nat.zero_le _⟩) ?_
  refine lv_if_eq (tgt := 46) hx hb d_BlockRuler_inLoop_12 (by decide) (fun c2 => ?_) (fun c2 => ?_)
  · have h := b_t h c2
    refine lv_iconst (v := 0) hx hb d_BlockRuler_inLoop_46 (by decide) ?_
    exact W.zret (ty := .boolean) (v := 0) hx hb hr rfl (fun t ht hW => ⟨⟨0, r1, rfl, Option.some.inj h, by rw [ht]; exact hP, hD⟩, hS.F ht⟩) hS.2.2 d_BlockRuler_inLoop_47
  · have h := b_f h c2
    refine lv_aload_n hx hb d_BlockRuler_inLoop_15 rfl (lv_at hl 0 rfl) ?_
    refine va_get (D := (dC, dI)) (ci := 0) (v := .ref (a 1)) (C := "BlockRuler") (T := F_BlockRuler) (N := 5) hx hb hg i_BlockRuler hown hK hP 0 rfl rfl 0 (by decide) (hg _ wd141) (fun _ h9 => h9) rfl d_BlockRuler_inLoop_16 ?_
    refine lv_iload_n hx hb d_BlockRuler_inLoop_19 rfl (lv_at hl 2 rfl) ?_
    refine ro_call (v := .int (f_Web_hasBlock r1 v2)) (va_runV (C := "BlockRuler$Web") (As := [.int v2]) (rest := []) ⟨hx, hb, hml, hown, hg⟩ (c_Web_hasBlock l dC dI a cs r1 v2 _ rfl) (cwV 1 hg (gdV wd142 wd5 wd4 wd7 wd8) rfl rfl rfl (by decide +kernel) ⟨Nat.le_of_ble_eq_true rfl, Nat.le_of_ble_eq_true rfl⟩) ⟨wb_blind, va_recv hK hP (ci := 1) (q0 := 1) rfl rfl, fun U hU hW => ⟨rfl, wb_pre hU hW hP hK hN⟩⟩ rfl rfl hl.1 rfl (lv_room (Nat.le_of_ble_eq_true rfl)) d_BlockRuler_inLoop_20 ⟨Nat.zero_le _, Nat.zero_le _⟩) ?_
    refine lv_if_eq (tgt := 46) hx hb d_BlockRuler_inLoop_23 (by decide) (fun c3 => ?_) (fun c3 => ?_)
    · have h := b_t h c3
      refine lv_iconst (v := 0) hx hb d_BlockRuler_inLoop_46 (by decide) ?_
      exact W.zret (ty := .boolean) (v := 0) hx hb hr rfl (fun t ht hW => ⟨⟨0, r1, rfl, Option.some.inj h, by rw [ht]; exact hP, hD⟩, hS.F ht⟩) hS.2.2 d_BlockRuler_inLoop_47
    · have h := b_f h c3
      refine lv_aload_n hx hb d_BlockRuler_inLoop_26 rfl (lv_at hl 0 rfl) ?_
      refine va_get (D := (dC, dI)) (ci := 0) (v := .ref (a 4)) (C := "BlockRuler") (T := F_BlockRuler) (N := 5) hx hb hg i_BlockRuler hown hK hP 0 rfl rfl 3 (by decide) (hg _ wd136) (fun _ h9 => h9) rfl d_BlockRuler_inLoop_27 ?_
      refine va_get (D := (dC, dI)) (ci := 4) (v := .ref (a 14)) (C := "BlockRuler$Loops") (T := F_Loops) (N := 7) hx hb hg i_Loops hown hK hP 4 rfl rfl 3 (by decide) (hg _ wd186) (fun _ h9 => h9) rfl d_BlockRuler_inLoop_30 ?_
      refine lv_iload_n hx hb d_BlockRuler_inLoop_33 rfl (lv_at hl 1 rfl) ?_
      obtain ⟨hi4, h⟩ := gd h
      refine va_lald (f := sB_lof r1) (n := 64) hx hb hK hP 14 9 rfl rfl hi4 d_BlockRuler_inLoop_34 ?_
      refine lv_iload_n hx hb d_BlockRuler_inLoop_35 rfl (lv_at hl 2 rfl) ?_
      refine ro_call (v := .int (f_BlockRuler_holds (sB_lof r1 (Int32.toNatClampNeg v1)) v2)) (va_runS (As := [.long (sB_lof r1 (Int32.toNatClampNeg v1)), .int v2]) (rest := []) ⟨hx, hb, hml, hown, hg⟩ (c_BlockRuler_holds l (sB_lof r1 (Int32.toNatClampNeg v1)) v2 _ rfl) (cwS 2 hg (gdS wd187 wd30 wd22 wd29) rfl rfl rfl (by decide +kernel) ⟨Nat.le_of_ble_eq_true rfl, Nat.le_of_ble_eq_true rfl⟩) ⟨va_blind0, fun U hU hW => ⟨rfl, trivial⟩⟩ rfl rfl hl.1 rfl (lv_room (Nat.le_of_ble_eq_true rfl)) d_BlockRuler_inLoop_36 ⟨Nat.zero_le _, Nat.zero_le _⟩) ?_
      refine lv_if_eq (tgt := 46) hx hb d_BlockRuler_inLoop_39 (by decide) (fun c5 => ?_) (fun c5 => ?_)
      · have h := b_t h c5
        refine lv_iconst (v := 0) hx hb d_BlockRuler_inLoop_46 (by decide) ?_
        exact W.zret (ty := .boolean) (v := 0) hx hb hr rfl (fun t ht hW => ⟨⟨0, r1, rfl, Option.some.inj h, by rw [ht]; exact hP, hD⟩, hS.F ht⟩) hS.2.2 d_BlockRuler_inLoop_47
      · have h := b_f h c5
        refine lv_iconst (v := 1) hx hb d_BlockRuler_inLoop_42 (by decide) ?_
        refine lv_goto (tgt := 47) hx hb d_BlockRuler_inLoop_43 (by decide) ?_
        exact W.zret (ty := .boolean) (v := 1) hx hb hr rfl (fun t ht hW => ⟨⟨1, r1, rfl, Option.some.inj h, by rw [ht]; exact hP, hD⟩, hS.F ht⟩) hS.2.2 d_BlockRuler_inLoop_47
set_option maxHeartbeats 4000000 in
set_option maxRecDepth 100000 in
theorem c_BlockRuler_look (l : Launch) (dC : Nat → ClassId) (dI : Nat → Nat → Nat) (a : Nat → Nat) (cs : Nat → ClassId) (sz : Nat) (σ : SB) (v1 : Int32) (v2 : Int32) (r : Int32 × SB) (h : f_BlockRuler_look σ v1 v2 = some r) : Met l y_BlockRuler_look w_BlockRuler_look rm_BlockRuler_look (va_Pc [.ref (a 0), .int v1, .int v2] (fun U => U.heap.size = sz ∧ WDB dC dI a cs σ U)) (va_Qi (fun (x : Int32) (u : SB) => (x, u) = r) (atB dC dI a cs (va_A (wsB a cs σ) sz)) (va_A (wsB a cs σ) sz)) 0 0 (va_A (wsB a cs σ) sz) := by
  refine Met.ofW (cc := b_BlockRuler_look) (maxL := 3) (ret := (some .int)) (by decide) rfl ?_
  intro p e s m args below meth c s₁ B hml hv
  obtain ⟨rfl, hsz, hP, hK, hN, hD0⟩ := hv
  have hx := B.exec
  have hb := B.bytes
  have hr := B.returns
  have hg : ∀ w ∈ G_, w.before _ s = true := fun w hw => atoms_spec (ws := w_BlockRuler_look) B.pre w (List.mem_cons_of_mem _ hw)
  have hown : s.vm.findClass "BlockRuler" = some m.cls := findClass_of_methodNamed B.named
  have hlocks := B.notSynchronized
  have C0 : Cx "BlockRuler" b_BlockRuler_look 3 p s m _ meth c := ⟨hx, hb, hml, hown, hg, hlocks⟩
  subst hsz
  have hD := hD0.self (sz := s.heap.size)
  generalize hAe : va_A (wsB a cs σ) s.heap.size = A at hD ⊢
  have hA : ∀ q : Nat, s.heap.size ≤ q → A q := fun q h => by rw [← hAe]; exact Or.inr h
  have hS : va_S A s.heap s.heap [] := va_S.rf
  have hl := lv_entry ([.ref (a 0), .int v1, .int v2]) (n := 3) (Nat.le_of_ble_eq_true rfl)
  rw [lg_entry_eq]
  generalize (lg_sl ([.ref (a 0), .int v1, .int v2]) ++ List.replicate (3 - (lg_sl ([.ref (a 0), .int v1, .int v2])).length) Slot.unset).toArray = ls at hl ⊢
  have hl : lv_has ls 3 [(0, .ref (a 0)), (1, .int v1), (2, .int v2)] := hl
  unfold f_BlockRuler_look at h
  refine lv_aload_n hx hb d_BlockRuler_look_0 rfl (lv_at hl 0 rfl) ?_
  obtain ⟨r1, hr1, h⟩ := bd h
  have hFc := va_free (wc := wsB a cs σ) hD hS hA [0, 1, 2, 3, 4, 5, 6, 7, 8, 9, 10, 11, 12, 13, 14] (allB a cs σ)
  refine va_callv (va_runV (C := "BlockRuler") (As := []) (rest := []) ⟨hx, hb, hml, hown, hg⟩ (c_BlockRuler_refresh l dC dI a cs _ σ _ hr1) (cwV 0 hg (gdV wd168 wd167 wd166 wd22 wd169) rfl rfl rfl (by decide +kernel) ⟨Nat.le_of_ble_eq_true rfl, Nat.le_of_ble_eq_true rfl⟩) ⟨wbz_blind, va_recv hK hP (ci := 0) (q0 := 0) rfl rfl, fun U hU hW => ⟨rfl, by rw [hU], wb_preD hU hW hP hK hN hD⟩⟩ rfl rfl hl.1 rfl (lv_room (Nat.le_of_ble_eq_true rfl)) d_BlockRuler_look_1 ⟨Nat.zero_le _, Nat.zero_le _⟩) hS (fun q _ h => hFc q h) hFc (fun u t H locs ht hvm hw hB hz1 hk1 hS => ?_)
  obtain rfl : r1 = u := hw.symm
  have hP : va_P (dC, dI) classes (wsB a cs r1) H := by have q := hB.1; rw [ht] at q; exact q
  have hD : va_D A (wsB a cs r1) := hB.2.weaken (fun _ _ _ h => hFc _ h)
  refine lv_aload_n hx hb d_BlockRuler_look_4 rfl (lv_at hl 0 rfl) ?_
  refine va_get (D := (dC, dI)) (ci := 0) (v := .ref (a 1)) (C := "BlockRuler") (T := F_BlockRuler) (N := 5) hx hb hg i_BlockRuler hown hK hP 0 rfl rfl 0 (by decide) (hg _ wd141) (fun _ h9 => h9) rfl d_BlockRuler_look_5 ?_
  refine lv_iload_n hx hb d_BlockRuler_look_8 rfl (lv_at hl 1 rfl) ?_
  refine ro_call (v := .int (f_Web_hasBlock r1 v1)) (va_runV (C := "BlockRuler$Web") (As := [.int v1]) (rest := []) ⟨hx, hb, hml, hown, hg⟩ (c_Web_hasBlock l dC dI a cs r1 v1 _ rfl) (cwV 1 hg (gdV wd142 wd5 wd4 wd7 wd8) rfl rfl rfl (by decide +kernel) ⟨Nat.le_of_ble_eq_true rfl, Nat.le_of_ble_eq_true rfl⟩) ⟨wb_blind, va_recv hK hP (ci := 1) (q0 := 1) rfl rfl, fun U hU hW => ⟨rfl, wb_pre hU hW hP hK hN⟩⟩ rfl rfl hl.1 rfl (lv_room (Nat.le_of_ble_eq_true rfl)) d_BlockRuler_look_9 ⟨Nat.zero_le _, Nat.zero_le _⟩) ?_
  refine lv_if_ne (tgt := 17) hx hb d_BlockRuler_look_12 (by decide) (fun c2 => ?_) (fun c2 => ?_)
  · have h := b_f h c2
    refine lv_iload_n hx hb d_BlockRuler_look_17 rfl (lv_at hl 2 rfl) ?_
    refine lv_topi (fun x3 ex3 => ?_)
    have h := lt_ h x3 ex3
    by_cases c5 : x3 = 0
    · have h := b_t h c5
      refine lv_tableIn (x := x3) (tgt := 60) hx hb d_BlockRuler_look_18 (by rw [c5]; decide) (by rw [c5]; decide) (by rw [c5]; rfl) (by decide) ?_
      refine lv_aload_n hx hb d_BlockRuler_look_60 rfl (lv_at hl 0 rfl) ?_
      refine va_get (D := (dC, dI)) (ci := 0) (v := .ref (a 1)) (C := "BlockRuler") (T := F_BlockRuler) (N := 5) hx hb hg i_BlockRuler hown hK hP 0 rfl rfl 0 (by decide) (hg _ wd141) (fun _ h9 => h9) rfl d_BlockRuler_look_61 ?_
      refine va_get (D := (dC, dI)) (ci := 1) (v := .ref (a 5)) (C := "BlockRuler$Web") (T := F_Web) (N := 4) hx hb hg i_Web hown hK hP 1 rfl rfl 0 (by decide) (hg _ wd149) (fun _ h9 => h9) rfl d_BlockRuler_look_64 ?_
      refine lv_iload_n hx hb d_BlockRuler_look_67 rfl (lv_at hl 1 rfl) ?_
      obtain ⟨hi4, h⟩ := gd h
      refine va_iald (f := sB_deg r1) (n := 64) hx hb hK hP 5 0 rfl rfl hi4 d_BlockRuler_look_68 ?_
      exact W.iret (v := sB_deg r1 (Int32.toNatClampNeg v1)) hx hb hr (fun t ht hW => ⟨⟨sB_deg r1 (Int32.toNatClampNeg v1), r1, rfl, Option.some.inj h, by rw [ht]; exact hP, hD⟩, hS.F ht⟩) hS.2.2 d_BlockRuler_look_69
    have h := b_f h c5
    by_cases c8 : x3 = 1
    · have h := b_t h c8
      refine lv_tableIn (x := x3) (tgt := 70) hx hb d_BlockRuler_look_18 (by rw [c8]; decide) (by rw [c8]; decide) (by rw [c8]; rfl) (by decide) ?_
      refine lv_aload_n hx hb d_BlockRuler_look_70 rfl (lv_at hl 0 rfl) ?_
      refine va_get (D := (dC, dI)) (ci := 0) (v := .ref (a 4)) (C := "BlockRuler") (T := F_BlockRuler) (N := 5) hx hb hg i_BlockRuler hown hK hP 0 rfl rfl 3 (by decide) (hg _ wd136) (fun _ h9 => h9) rfl d_BlockRuler_look_71 ?_
      refine va_get (D := (dC, dI)) (ci := 4) (v := .ref (a 14)) (C := "BlockRuler$Loops") (T := F_Loops) (N := 7) hx hb hg i_Loops hown hK hP 4 rfl rfl 3 (by decide) (hg _ wd186) (fun _ h9 => h9) rfl d_BlockRuler_look_74 ?_
      refine lv_iload_n hx hb d_BlockRuler_look_77 rfl (lv_at hl 1 rfl) ?_
      obtain ⟨hi6, h⟩ := gd h
      refine va_lald (f := sB_lof r1) (n := 64) hx hb hK hP 14 9 rfl rfl hi6 d_BlockRuler_look_78 ?_
      refine lv_lconst (v := 0) hx hb d_BlockRuler_look_79 (by decide) ?_
      refine W.lcmp hx hb d_BlockRuler_look_80 ?_
      refine lv_if_eq (tgt := 88) hx hb d_BlockRuler_look_81 (by decide) (fun c7 => ?_) (fun c7 => ?_)
      · have h := b_t h c7
        refine lv_iconst (v := 0) hx hb d_BlockRuler_look_88 (by decide) ?_
        exact W.iret (v := 0) hx hb hr (fun t ht hW => ⟨⟨0, r1, rfl, Option.some.inj h, by rw [ht]; exact hP, hD⟩, hS.F ht⟩) hS.2.2 d_BlockRuler_look_89
      · have h := b_f h c7
        refine lv_iconst (v := 1) hx hb d_BlockRuler_look_84 (by decide) ?_
        refine lv_goto (tgt := 89) hx hb d_BlockRuler_look_85 (by decide) ?_
        exact W.iret (v := 1) hx hb hr (fun t ht hW => ⟨⟨1, r1, rfl, Option.some.inj h, by rw [ht]; exact hP, hD⟩, hS.F ht⟩) hS.2.2 d_BlockRuler_look_89
    have h := b_f h c8
    by_cases c10 : x3 = 2
    · have h := b_t h c10
      refine lv_tableIn (x := x3) (tgt := 90) hx hb d_BlockRuler_look_18 (by rw [c10]; decide) (by rw [c10]; decide) (by rw [c10]; rfl) (by decide) ?_
      refine lv_aload_n hx hb d_BlockRuler_look_90 rfl (lv_at hl 0 rfl) ?_
      refine va_get (D := (dC, dI)) (ci := 0) (v := .ref (a 4)) (C := "BlockRuler") (T := F_BlockRuler) (N := 5) hx hb hg i_BlockRuler hown hK hP 0 rfl rfl 3 (by decide) (hg _ wd136) (fun _ h9 => h9) rfl d_BlockRuler_look_91 ?_
      refine va_get (D := (dC, dI)) (ci := 4) (v := .ref (a 14)) (C := "BlockRuler$Loops") (T := F_Loops) (N := 7) hx hb hg i_Loops hown hK hP 4 rfl rfl 3 (by decide) (hg _ wd186) (fun _ h9 => h9) rfl d_BlockRuler_look_94 ?_
      refine lv_iload_n hx hb d_BlockRuler_look_97 rfl (lv_at hl 1 rfl) ?_
      obtain ⟨hi9, h⟩ := gd h
      refine va_lald (f := sB_lof r1) (n := 64) hx hb hK hP 14 9 rfl rfl hi9 d_BlockRuler_look_98 ?_
      refine ro_call (v := .int (f_Long_bitCount (sB_lof r1 (Int32.toNatClampNeg v1)))) (va_runS (As := [.long (sB_lof r1 (Int32.toNatClampNeg v1))]) (rest := []) ⟨hx, hb, hml, hown, hg⟩ (c_Long_bitCount l (sB_lof r1 (Int32.toNatClampNeg v1)) _ rfl) (va_cwS 1 hg (gdSX wd16 wd17 wd18 wd19) rfl rfl rfl (by decide +kernel) ⟨Nat.le_of_ble_eq_true rfl, Nat.le_of_ble_eq_true rfl⟩) ⟨va_blind0, fun U hU hW => ⟨rfl, trivial⟩⟩ rfl rfl hl.1 rfl (lv_room (Nat.le_of_ble_eq_true rfl)) d_BlockRuler_look_99 ⟨Nat.zero_le _, Nat.zero_le _⟩) ?_
      exact W.iret (v := f_Long_bitCount (sB_lof r1 (Int32.toNatClampNeg v1))) hx hb hr (fun t ht hW => ⟨⟨f_Long_bitCount (sB_lof r1 (Int32.toNatClampNeg v1)), r1, rfl, Option.some.inj h, by rw [ht]; exact hP, hD⟩, hS.F ht⟩) hS.2.2 d_BlockRuler_look_102
    have h := b_f h c10
    by_cases c12 : x3 = 3
    · have h := b_t h c12
      refine lv_tableIn (x := x3) (tgt := 103) hx hb d_BlockRuler_look_18 (by rw [c12]; decide) (by rw [c12]; decide) (by rw [c12]; rfl) (by decide) ?_
      refine lv_aload_n hx hb d_BlockRuler_look_103 rfl (lv_at hl 0 rfl) ?_
      refine va_get (D := (dC, dI)) (ci := 0) (v := .ref (a 4)) (C := "BlockRuler") (T := F_BlockRuler) (N := 5) hx hb hg i_BlockRuler hown hK hP 0 rfl rfl 3 (by decide) (hg _ wd136) (fun _ h9 => h9) rfl d_BlockRuler_look_104 ?_
      refine lv_iload_n hx hb d_BlockRuler_look_107 rfl (lv_at hl 1 rfl) ?_
      obtain ⟨r11, hr11, h⟩ := bd h
      refine ro_call (v := .int r11) (va_runV (C := "BlockRuler$Loops") (As := [.int v1]) (rest := []) ⟨hx, hb, hml, hown, hg⟩ (c_Loops_depthOf l dC dI a cs r1 v1 _ hr11) (cwV 1 hg (gdV wd188 wd92 wd91 wd94 wd95) rfl rfl rfl (by decide +kernel) ⟨Nat.le_of_ble_eq_true rfl, Nat.le_of_ble_eq_true rfl⟩) ⟨wb_blind, va_recv hK hP (ci := 4) (q0 := 4) rfl rfl, fun U hU hW => ⟨rfl, wb_pre hU hW hP hK hN⟩⟩ rfl rfl hl.1 rfl (lv_room (Nat.le_of_ble_eq_true rfl)) d_BlockRuler_look_108 ⟨Nat.zero_le _, Nat.zero_le _⟩) ?_
      exact W.iret (v := r11) hx hb hr (fun t ht hW => ⟨⟨r11, r1, rfl, Option.some.inj h, by rw [ht]; exact hP, hD⟩, hS.F ht⟩) hS.2.2 d_BlockRuler_look_111
    have h := b_f h c12
    by_cases c14 : x3 = 4
    · have h := b_t h c14
      refine lv_tableIn (x := x3) (tgt := 112) hx hb d_BlockRuler_look_18 (by rw [c14]; decide) (by rw [c14]; decide) (by rw [c14]; rfl) (by decide) ?_
      refine lv_aload_n hx hb d_BlockRuler_look_112 rfl (lv_at hl 0 rfl) ?_
      refine va_get (D := (dC, dI)) (ci := 0) (v := .ref (a 4)) (C := "BlockRuler") (T := F_BlockRuler) (N := 5) hx hb hg i_BlockRuler hown hK hP 0 rfl rfl 3 (by decide) (hg _ wd136) (fun _ h9 => h9) rfl d_BlockRuler_look_113 ?_
      refine lv_iload_n hx hb d_BlockRuler_look_116 rfl (lv_at hl 1 rfl) ?_
      obtain ⟨r13, hr13, h⟩ := bd h
      refine ro_call (v := .int r13) (va_runV (C := "BlockRuler$Loops") (As := [.int v1]) (rest := []) ⟨hx, hb, hml, hown, hg⟩ (c_Loops_innermostOf l dC dI a cs r1 v1 _ hr13) (cwV 1 hg (gdV wd191 wd190 wd189 wd94 wd192) rfl rfl rfl (by decide +kernel) ⟨Nat.le_of_ble_eq_true rfl, Nat.le_of_ble_eq_true rfl⟩) ⟨wb_blind, va_recv hK hP (ci := 4) (q0 := 4) rfl rfl, fun U hU hW => ⟨rfl, wb_pre hU hW hP hK hN⟩⟩ rfl rfl hl.1 rfl (lv_room (Nat.le_of_ble_eq_true rfl)) d_BlockRuler_look_117 ⟨Nat.zero_le _, Nat.zero_le _⟩) ?_
      exact W.iret (v := r13) hx hb hr (fun t ht hW => ⟨⟨r13, r1, rfl, Option.some.inj h, by rw [ht]; exact hP, hD⟩, hS.F ht⟩) hS.2.2 d_BlockRuler_look_120
    have h := b_f h c14
    by_cases c16 : x3 = 5
    · have h := b_t h c16
      refine lv_tableIn (x := x3) (tgt := 121) hx hb d_BlockRuler_look_18 (by rw [c16]; decide) (by rw [c16]; decide) (by rw [c16]; rfl) (by decide) ?_
      refine lv_aload_n hx hb d_BlockRuler_look_121 rfl (lv_at hl 0 rfl) ?_
      refine va_get (D := (dC, dI)) (ci := 0) (v := .ref (a 3)) (C := "BlockRuler") (T := F_BlockRuler) (N := 5) hx hb hg i_BlockRuler hown hK hP 0 rfl rfl 2 (by decide) (hg _ wd131) (fun _ h9 => h9) rfl d_BlockRuler_look_122 ?_
      refine lv_iload_n hx hb d_BlockRuler_look_125 rfl (lv_at hl 1 rfl) ?_
      obtain ⟨r15, hr15, h⟩ := bd h
      refine ro_call (v := .long r15) (va_runV (C := "BlockRuler$Rulers") (As := [.int v1]) (rest := []) ⟨hx, hb, hml, hown, hg⟩ (c_Rulers_realmOf l dC dI a cs r1 v1 _ hr15) (cwV 1 hg (gdV wd193 wd66 wd65 wd63 wd68) rfl rfl rfl (by decide +kernel) ⟨Nat.le_of_ble_eq_true rfl, Nat.le_of_ble_eq_true rfl⟩) ⟨wb_blind, va_recv hK hP (ci := 3) (q0 := 3) rfl rfl, fun U hU hW => ⟨rfl, wb_pre hU hW hP hK hN⟩⟩ rfl rfl hl.1 rfl (lv_room (Nat.le_of_ble_eq_true rfl)) d_BlockRuler_look_126 ⟨Nat.zero_le _, Nat.zero_le _⟩) ?_
      refine ro_call (v := .int (f_Long_bitCount r15)) (va_runS (As := [.long r15]) (rest := []) ⟨hx, hb, hml, hown, hg⟩ (c_Long_bitCount l r15 _ rfl) (va_cwS 1 hg (gdSX wd16 wd17 wd18 wd19) rfl rfl rfl (by decide +kernel) ⟨Nat.le_of_ble_eq_true rfl, Nat.le_of_ble_eq_true rfl⟩) ⟨va_blind0, fun U hU hW => ⟨rfl, trivial⟩⟩ rfl rfl hl.1 rfl (lv_room (Nat.le_of_ble_eq_true rfl)) d_BlockRuler_look_129 ⟨Nat.zero_le _, Nat.zero_le _⟩) ?_
      exact W.iret (v := f_Long_bitCount r15) hx hb hr (fun t ht hW => ⟨⟨f_Long_bitCount r15, r1, rfl, Option.some.inj h, by rw [ht]; exact hP, hD⟩, hS.F ht⟩) hS.2.2 d_BlockRuler_look_132
    have h := b_f h c16
    by_cases c18 : x3 = 6
    · have h := b_t h c18
      refine lv_tableIn (x := x3) (tgt := 133) hx hb d_BlockRuler_look_18 (by rw [c18]; decide) (by rw [c18]; decide) (by rw [c18]; rfl) (by decide) ?_
      refine lv_aload_n hx hb d_BlockRuler_look_133 rfl (lv_at hl 0 rfl) ?_
      refine va_get (D := (dC, dI)) (ci := 0) (v := .ref (a 2)) (C := "BlockRuler") (T := F_BlockRuler) (N := 5) hx hb hg i_BlockRuler hown hK hP 0 rfl rfl 1 (by decide) (hg _ wd126) (fun _ h9 => h9) rfl d_BlockRuler_look_134 ?_
      refine va_get (D := (dC, dI)) (ci := 2) (v := .ref (a 12)) (C := "BlockRuler$Walk") (T := F_Walk) (N := 9) hx hb hg i_Walk hown hK hP 2 rfl rfl 6 (by decide) (hg _ wd194) (fun _ h9 => h9) rfl d_BlockRuler_look_137 ?_
      refine lv_iload_n hx hb d_BlockRuler_look_140 rfl (lv_at hl 1 rfl) ?_
      obtain ⟨hi17, h⟩ := gd h
      refine va_iald (f := sB_comings r1) (n := 64) hx hb hK hP 12 7 rfl rfl hi17 d_BlockRuler_look_141 ?_
      exact W.iret (v := sB_comings r1 (Int32.toNatClampNeg v1)) hx hb hr (fun t ht hW => ⟨⟨sB_comings r1 (Int32.toNatClampNeg v1), r1, rfl, Option.some.inj h, by rw [ht]; exact hP, hD⟩, hS.F ht⟩) hS.2.2 d_BlockRuler_look_142
    have h := b_f h c18
    refine lv_tableOut (x := x3) (tgt := 143) hx hb d_BlockRuler_look_18 (tsw7 c5 c8 c10 c12 c14 c16 c18) (by decide) ?_
    refine lv_iconst (v := -1) hx hb d_BlockRuler_look_143 (by decide) ?_
    exact W.iret (v := -1) hx hb hr (fun t ht hW => ⟨⟨-1, r1, rfl, Option.some.inj h, by rw [ht]; exact hP, hD⟩, hS.F ht⟩) hS.2.2 d_BlockRuler_look_144
  · have h := b_t h c2
    refine lv_iconst (v := -1) hx hb d_BlockRuler_look_15 (by decide) ?_
    exact W.iret (v := -1) hx hb hr (fun t ht hW => ⟨⟨-1, r1, rfl, Option.some.inj h, by rw [ht]; exact hP, hD⟩, hS.F ht⟩) hS.2.2 d_BlockRuler_look_16
set_option maxHeartbeats 4000000 in
set_option maxRecDepth 100000 in
theorem c_BlockRuler_edge (l : Launch) (dC : Nat → ClassId) (dI : Nat → Nat → Nat) (a : Nat → Nat) (cs : Nat → ClassId) (sz : Nat) (σ : SB) (v1 : Int32) (v2 : Int32) (r : Int32 × SB) (h : f_BlockRuler_edge σ v1 v2 = some r) : Met l y_BlockRuler_edge w_BlockRuler_edge rm_BlockRuler_edge (va_Pc [.ref (a 0), .int v1, .int v2] (fun U => U.heap.size = sz ∧ WDB dC dI a cs σ U)) (va_Qi (fun (x : Int32) (u : SB) => (x, u) = r) (atB dC dI a cs (va_A (wsB a cs σ) sz)) (va_A (wsB a cs σ) sz)) 0 0 (va_A (wsB a cs σ) sz) := by
  refine Met.ofW (cc := b_BlockRuler_edge) (maxL := 3) (ret := (some .int)) (by decide) rfl ?_
  intro p e s m args below meth c s₁ B hml hv
  obtain ⟨rfl, hsz, hP, hK, hN, hD0⟩ := hv
  have hx := B.exec
  have hb := B.bytes
  have hr := B.returns
  have hg : ∀ w ∈ G_, w.before _ s = true := fun w hw => atoms_spec (ws := w_BlockRuler_edge) B.pre w (List.mem_cons_of_mem _ hw)
  have hown : s.vm.findClass "BlockRuler" = some m.cls := findClass_of_methodNamed B.named
  have hlocks := B.notSynchronized
  have C0 : Cx "BlockRuler" b_BlockRuler_edge 3 p s m _ meth c := ⟨hx, hb, hml, hown, hg, hlocks⟩
  subst hsz
  have hD := hD0.self (sz := s.heap.size)
  generalize hAe : va_A (wsB a cs σ) s.heap.size = A at hD ⊢
  have hA : ∀ q : Nat, s.heap.size ≤ q → A q := fun q h => by rw [← hAe]; exact Or.inr h
  have hS : va_S A s.heap s.heap [] := va_S.rf
  have hl := lv_entry ([.ref (a 0), .int v1, .int v2]) (n := 3) (Nat.le_of_ble_eq_true rfl)
  rw [lg_entry_eq]
  generalize (lg_sl ([.ref (a 0), .int v1, .int v2]) ++ List.replicate (3 - (lg_sl ([.ref (a 0), .int v1, .int v2])).length) Slot.unset).toArray = ls at hl ⊢
  have hl : lv_has ls 3 [(0, .ref (a 0)), (1, .int v1), (2, .int v2)] := hl
  unfold f_BlockRuler_edge at h
  refine lv_aload_n hx hb d_BlockRuler_edge_0 rfl (lv_at hl 0 rfl) ?_
  obtain ⟨r1, hr1, h⟩ := bd h
  have hFc := va_free (wc := wsB a cs σ) hD hS hA [0, 1, 2, 3, 4, 5, 6, 7, 8, 9, 10, 11, 12, 13, 14] (allB a cs σ)
  refine va_callv (va_runV (C := "BlockRuler") (As := []) (rest := []) ⟨hx, hb, hml, hown, hg⟩ (c_BlockRuler_refresh l dC dI a cs _ σ _ hr1) (cwV 0 hg (gdV wd168 wd167 wd166 wd22 wd169) rfl rfl rfl (by decide +kernel) ⟨Nat.le_of_ble_eq_true rfl, Nat.le_of_ble_eq_true rfl⟩) ⟨wbz_blind, va_recv hK hP (ci := 0) (q0 := 0) rfl rfl, fun U hU hW => ⟨rfl, by rw [hU], wb_preD hU hW hP hK hN hD⟩⟩ rfl rfl hl.1 rfl (lv_room (Nat.le_of_ble_eq_true rfl)) d_BlockRuler_edge_1 ⟨Nat.zero_le _, Nat.zero_le _⟩) hS (fun q _ h => hFc q h) hFc (fun u t H locs ht hvm hw hB hz1 hk1 hS => ?_)
  obtain rfl : r1 = u := hw.symm
  have hP : va_P (dC, dI) classes (wsB a cs r1) H := by have q := hB.1; rw [ht] at q; exact q
  have hD : va_D A (wsB a cs r1) := hB.2.weaken (fun _ _ _ h => hFc _ h)
  refine lv_aload_n hx hb d_BlockRuler_edge_4 rfl (lv_at hl 0 rfl) ?_
  refine va_get (D := (dC, dI)) (ci := 0) (v := .ref (a 1)) (C := "BlockRuler") (T := F_BlockRuler) (N := 5) hx hb hg i_BlockRuler hown hK hP 0 rfl rfl 0 (by decide) (hg _ wd141) (fun _ h9 => h9) rfl d_BlockRuler_edge_5 ?_
  refine lv_iload_n hx hb d_BlockRuler_edge_8 rfl (lv_at hl 1 rfl) ?_
  refine ro_call (v := .int (f_Web_hasBlock r1 v1)) (va_runV (C := "BlockRuler$Web") (As := [.int v1]) (rest := []) ⟨hx, hb, hml, hown, hg⟩ (c_Web_hasBlock l dC dI a cs r1 v1 _ rfl) (cwV 1 hg (gdV wd142 wd5 wd4 wd7 wd8) rfl rfl rfl (by decide +kernel) ⟨Nat.le_of_ble_eq_true rfl, Nat.le_of_ble_eq_true rfl⟩) ⟨wb_blind, va_recv hK hP (ci := 1) (q0 := 1) rfl rfl, fun U hU hW => ⟨rfl, wb_pre hU hW hP hK hN⟩⟩ rfl rfl hl.1 rfl (lv_room (Nat.le_of_ble_eq_true rfl)) d_BlockRuler_edge_9 ⟨Nat.zero_le _, Nat.zero_le _⟩) ?_
  refine lv_if_eq (tgt := 30) hx hb d_BlockRuler_edge_12 (by decide) (fun c2 => ?_) (fun c2 => ?_)
  · have h := b_t h c2
    refine lv_iconst (v := -1) hx hb d_BlockRuler_edge_30 (by decide) ?_
    exact W.iret (v := -1) hx hb hr (fun t ht hW => ⟨⟨-1, r1, rfl, Option.some.inj h, by rw [ht]; exact hP, hD⟩, hS.F ht⟩) hS.2.2 d_BlockRuler_edge_31
  · have h := b_f h c2
    refine lv_aload_n hx hb d_BlockRuler_edge_15 rfl (lv_at hl 0 rfl) ?_
    refine va_get (D := (dC, dI)) (ci := 0) (v := .ref (a 3)) (C := "BlockRuler") (T := F_BlockRuler) (N := 5) hx hb hg i_BlockRuler hown hK hP 0 rfl rfl 2 (by decide) (hg _ wd131) (fun _ h9 => h9) rfl d_BlockRuler_edge_16 ?_
    refine lv_iload_n hx hb d_BlockRuler_edge_19 rfl (lv_at hl 1 rfl) ?_
    obtain ⟨r3, hr3, h⟩ := bd h
    refine ro_call (v := .long r3) (va_runV (C := "BlockRuler$Rulers") (As := [.int v1]) (rest := []) ⟨hx, hb, hml, hown, hg⟩ (c_Rulers_edgeOf l dC dI a cs r1 v1 _ hr3) (cwV 1 hg (gdV wd197 wd196 wd195 wd63 wd198) rfl rfl rfl (by decide +kernel) ⟨Nat.le_of_ble_eq_true rfl, Nat.le_of_ble_eq_true rfl⟩) ⟨wb_blind, va_recv hK hP (ci := 3) (q0 := 3) rfl rfl, fun U hU hW => ⟨rfl, wb_pre hU hW hP hK hN⟩⟩ rfl rfl hl.1 rfl (lv_room (Nat.le_of_ble_eq_true rfl)) d_BlockRuler_edge_20 ⟨Nat.zero_le _, Nat.zero_le _⟩) ?_
    refine lv_iload_n hx hb d_BlockRuler_edge_23 rfl (lv_at hl 2 rfl) ?_
    obtain ⟨r4, hr4, h⟩ := bd h
    refine ro_call (v := .int r4) (va_runS (As := [.long r3, .int v2]) (rest := []) ⟨hx, hb, hml, hown, hg⟩ (c_BlockRuler_nth l r3 v2 _ hr4) (cwS 2 hg (gdS wd199 wd200 wd22 wd201) rfl rfl rfl (by decide +kernel) ⟨Nat.le_of_ble_eq_true rfl, Nat.le_of_ble_eq_true rfl⟩) ⟨va_blind0, fun U hU hW => ⟨rfl, trivial⟩⟩ rfl rfl hl.1 rfl (lv_room (Nat.le_of_ble_eq_true rfl)) d_BlockRuler_edge_24 ⟨Nat.zero_le _, Nat.zero_le _⟩) ?_
    refine lv_goto (tgt := 31) hx hb d_BlockRuler_edge_27 (by decide) ?_
    exact W.iret (v := r4) hx hb hr (fun t ht hW => ⟨⟨r4, r1, rfl, Option.some.inj h, by rw [ht]; exact hP, hD⟩, hS.F ht⟩) hS.2.2 d_BlockRuler_edge_31
set_option maxHeartbeats 4000000 in
set_option maxRecDepth 100000 in
theorem c_BlockRuler_count (l : Launch) (dC : Nat → ClassId) (dI : Nat → Nat → Nat) (a : Nat → Nat) (cs : Nat → ClassId) (sz : Nat) (σ : SB) (v1 : Int32) (r : Int32 × SB) (h : f_BlockRuler_count σ v1 = some r) : Met l y_BlockRuler_count w_BlockRuler_count rm_BlockRuler_count (va_Pc [.ref (a 0), .int v1] (fun U => U.heap.size = sz ∧ WDB dC dI a cs σ U)) (va_Qi (fun (x : Int32) (u : SB) => (x, u) = r) (atB dC dI a cs (va_A (wsB a cs σ) sz)) (va_A (wsB a cs σ) sz)) 0 0 (va_A (wsB a cs σ) sz) := by
  refine Met.ofW (cc := b_BlockRuler_count) (maxL := 2) (ret := (some .int)) (by decide) rfl ?_
  intro p e s m args below meth c s₁ B hml hv
  obtain ⟨rfl, hsz, hP, hK, hN, hD0⟩ := hv
  have hx := B.exec
  have hb := B.bytes
  have hr := B.returns
  have hg : ∀ w ∈ G_, w.before _ s = true := fun w hw => atoms_spec (ws := w_BlockRuler_count) B.pre w (List.mem_cons_of_mem _ hw)
  have hown : s.vm.findClass "BlockRuler" = some m.cls := findClass_of_methodNamed B.named
  have hlocks := B.notSynchronized
  have C0 : Cx "BlockRuler" b_BlockRuler_count 2 p s m _ meth c := ⟨hx, hb, hml, hown, hg, hlocks⟩
  subst hsz
  have hD := hD0.self (sz := s.heap.size)
  generalize hAe : va_A (wsB a cs σ) s.heap.size = A at hD ⊢
  have hA : ∀ q : Nat, s.heap.size ≤ q → A q := fun q h => by rw [← hAe]; exact Or.inr h
  have hS : va_S A s.heap s.heap [] := va_S.rf
  have hl := lv_entry ([.ref (a 0), .int v1]) (n := 2) (Nat.le_of_ble_eq_true rfl)
  rw [lg_entry_eq]
  generalize (lg_sl ([.ref (a 0), .int v1]) ++ List.replicate (2 - (lg_sl ([.ref (a 0), .int v1])).length) Slot.unset).toArray = ls at hl ⊢
  have hl : lv_has ls 2 [(0, .ref (a 0)), (1, .int v1)] := hl
  unfold f_BlockRuler_count at h
  refine lv_aload_n hx hb d_BlockRuler_count_0 rfl (lv_at hl 0 rfl) ?_
  obtain ⟨r1, hr1, h⟩ := bd h
  have hFc := va_free (wc := wsB a cs σ) hD hS hA [0, 1, 2, 3, 4, 5, 6, 7, 8, 9, 10, 11, 12, 13, 14] (allB a cs σ)
  refine va_callv (va_runV (C := "BlockRuler") (As := []) (rest := []) ⟨hx, hb, hml, hown, hg⟩ (c_BlockRuler_refresh l dC dI a cs _ σ _ hr1) (cwV 0 hg (gdV wd168 wd167 wd166 wd22 wd169) rfl rfl rfl (by decide +kernel) ⟨Nat.le_of_ble_eq_true rfl, Nat.le_of_ble_eq_true rfl⟩) ⟨wbz_blind, va_recv hK hP (ci := 0) (q0 := 0) rfl rfl, fun U hU hW => ⟨rfl, by rw [hU], wb_preD hU hW hP hK hN hD⟩⟩ rfl rfl hl.1 rfl (lv_room (Nat.le_of_ble_eq_true rfl)) d_BlockRuler_count_1 ⟨Nat.zero_le _, Nat.zero_le _⟩) hS (fun q _ h => hFc q h) hFc (fun u t H locs ht hvm hw hB hz1 hk1 hS => ?_)
  obtain rfl : r1 = u := hw.symm
  have hP : va_P (dC, dI) classes (wsB a cs r1) H := by have q := hB.1; rw [ht] at q; exact q
  have hD : va_D A (wsB a cs r1) := hB.2.weaken (fun _ _ _ h => hFc _ h)
  refine lv_iload_n hx hb d_BlockRuler_count_4 rfl (lv_at hl 1 rfl) ?_
  refine lv_topi (fun x2 ex2 => ?_)
  have h := lt_ h x2 ex2
  by_cases c3 : x2 = 0
  · have h := b_t h c3
    refine lv_tableIn (x := x2) (tgt := 48) hx hb d_BlockRuler_count_5 (by rw [c3]; decide) (by rw [c3]; decide) (by rw [c3]; rfl) (by decide) ?_
    refine lv_aload_n hx hb d_BlockRuler_count_48 rfl (lv_at hl 0 rfl) ?_
    refine va_get (D := (dC, dI)) (ci := 0) (v := .ref (a 1)) (C := "BlockRuler") (T := F_BlockRuler) (N := 5) hx hb hg i_BlockRuler hown hK hP 0 rfl rfl 0 (by decide) (hg _ wd141) (fun _ h9 => h9) rfl d_BlockRuler_count_49 ?_
    refine va_get (D := (dC, dI)) (ci := 1) (v := .int (sB_blocks r1)) (C := "BlockRuler$Web") (T := F_Web) (N := 4) hx hb hg i_Web hown hK hP 1 rfl rfl 2 (by decide) (hg _ wd144) (fun _ h9 => h9) rfl d_BlockRuler_count_52 ?_
    exact W.iret (v := sB_blocks r1) hx hb hr (fun t ht hW => ⟨⟨sB_blocks r1, r1, rfl, Option.some.inj h, by rw [ht]; exact hP, hD⟩, hS.F ht⟩) hS.2.2 d_BlockRuler_count_55
  have h := b_f h c3
  by_cases c4 : x2 = 1
  · have h := b_t h c4
    refine lv_tableIn (x := x2) (tgt := 56) hx hb d_BlockRuler_count_5 (by rw [c4]; decide) (by rw [c4]; decide) (by rw [c4]; rfl) (by decide) ?_
    refine lv_aload_n hx hb d_BlockRuler_count_56 rfl (lv_at hl 0 rfl) ?_
    refine va_get (D := (dC, dI)) (ci := 0) (v := .ref (a 1)) (C := "BlockRuler") (T := F_BlockRuler) (N := 5) hx hb hg i_BlockRuler hown hK hP 0 rfl rfl 0 (by decide) (hg _ wd141) (fun _ h9 => h9) rfl d_BlockRuler_count_57 ?_
    refine va_get (D := (dC, dI)) (ci := 1) (v := .int (sB_ways r1)) (C := "BlockRuler$Web") (T := F_Web) (N := 4) hx hb hg i_Web hown hK hP 1 rfl rfl 3 (by decide) (hg _ wd202) (fun _ h9 => h9) rfl d_BlockRuler_count_60 ?_
    exact W.iret (v := sB_ways r1) hx hb hr (fun t ht hW => ⟨⟨sB_ways r1, r1, rfl, Option.some.inj h, by rw [ht]; exact hP, hD⟩, hS.F ht⟩) hS.2.2 d_BlockRuler_count_63
  have h := b_f h c4
  by_cases c5 : x2 = 2
  · have h := b_t h c5
    refine lv_tableIn (x := x2) (tgt := 64) hx hb d_BlockRuler_count_5 (by rw [c5]; decide) (by rw [c5]; decide) (by rw [c5]; rfl) (by decide) ?_
    refine lv_aload_n hx hb d_BlockRuler_count_64 rfl (lv_at hl 0 rfl) ?_
    refine va_get (D := (dC, dI)) (ci := 0) (v := .ref (a 2)) (C := "BlockRuler") (T := F_BlockRuler) (N := 5) hx hb hg i_BlockRuler hown hK hP 0 rfl rfl 1 (by decide) (hg _ wd126) (fun _ h9 => h9) rfl d_BlockRuler_count_65 ?_
    refine va_get (D := (dC, dI)) (ci := 2) (v := .int (sB_reached r1)) (C := "BlockRuler$Walk") (T := F_Walk) (N := 9) hx hb hg i_Walk hown hK hP 2 rfl rfl 7 (by decide) (hg _ wd180) (fun _ h9 => h9) rfl d_BlockRuler_count_68 ?_
    exact W.iret (v := sB_reached r1) hx hb hr (fun t ht hW => ⟨⟨sB_reached r1, r1, rfl, Option.some.inj h, by rw [ht]; exact hP, hD⟩, hS.F ht⟩) hS.2.2 d_BlockRuler_count_71
  have h := b_f h c5
  by_cases c6 : x2 = 3
  · have h := b_t h c6
    refine lv_tableIn (x := x2) (tgt := 72) hx hb d_BlockRuler_count_5 (by rw [c6]; decide) (by rw [c6]; decide) (by rw [c6]; rfl) (by decide) ?_
    refine lv_aload_n hx hb d_BlockRuler_count_72 rfl (lv_at hl 0 rfl) ?_
    refine va_get (D := (dC, dI)) (ci := 0) (v := .ref (a 4)) (C := "BlockRuler") (T := F_BlockRuler) (N := 5) hx hb hg i_BlockRuler hown hK hP 0 rfl rfl 3 (by decide) (hg _ wd136) (fun _ h9 => h9) rfl d_BlockRuler_count_73 ?_
    refine va_get (D := (dC, dI)) (ci := 4) (v := .int (sB_heads r1)) (C := "BlockRuler$Loops") (T := F_Loops) (N := 7) hx hb hg i_Loops hown hK hP 4 rfl rfl 4 (by decide) (hg _ wd203) (fun _ h9 => h9) rfl d_BlockRuler_count_76 ?_
    exact W.iret (v := sB_heads r1) hx hb hr (fun t ht hW => ⟨⟨sB_heads r1, r1, rfl, Option.some.inj h, by rw [ht]; exact hP, hD⟩, hS.F ht⟩) hS.2.2 d_BlockRuler_count_79
  have h := b_f h c6
  by_cases c7 : x2 = 4
  · have h := b_t h c7
    refine lv_tableIn (x := x2) (tgt := 80) hx hb d_BlockRuler_count_5 (by rw [c7]; decide) (by rw [c7]; decide) (by rw [c7]; rfl) (by decide) ?_
    refine lv_aload_n hx hb d_BlockRuler_count_80 rfl (lv_at hl 0 rfl) ?_
    refine va_get (D := (dC, dI)) (ci := 0) (v := .ref (a 4)) (C := "BlockRuler") (T := F_BlockRuler) (N := 5) hx hb hg i_BlockRuler hown hK hP 0 rfl rfl 3 (by decide) (hg _ wd136) (fun _ h9 => h9) rfl d_BlockRuler_count_81 ?_
    refine va_get (D := (dC, dI)) (ci := 4) (v := .int (sB_backs r1)) (C := "BlockRuler$Loops") (T := F_Loops) (N := 7) hx hb hg i_Loops hown hK hP 4 rfl rfl 5 (by decide) (hg _ wd204) (fun _ h9 => h9) rfl d_BlockRuler_count_84 ?_
    exact W.iret (v := sB_backs r1) hx hb hr (fun t ht hW => ⟨⟨sB_backs r1, r1, rfl, Option.some.inj h, by rw [ht]; exact hP, hD⟩, hS.F ht⟩) hS.2.2 d_BlockRuler_count_87
  have h := b_f h c7
  by_cases c8 : x2 = 5
  · have h := b_t h c8
    refine lv_tableIn (x := x2) (tgt := 88) hx hb d_BlockRuler_count_5 (by rw [c8]; decide) (by rw [c8]; decide) (by rw [c8]; rfl) (by decide) ?_
    refine lv_aload_n hx hb d_BlockRuler_count_88 rfl (lv_at hl 0 rfl) ?_
    refine va_get (D := (dC, dI)) (ci := 0) (v := .ref (a 4)) (C := "BlockRuler") (T := F_BlockRuler) (N := 5) hx hb hg i_BlockRuler hown hK hP 0 rfl rfl 3 (by decide) (hg _ wd136) (fun _ h9 => h9) rfl d_BlockRuler_count_89 ?_
    refine va_get (D := (dC, dI)) (ci := 4) (v := .int (sB_knots r1)) (C := "BlockRuler$Loops") (T := F_Loops) (N := 7) hx hb hg i_Loops hown hK hP 4 rfl rfl 6 (by decide) (hg _ wd205) (fun _ h9 => h9) rfl d_BlockRuler_count_92 ?_
    exact W.iret (v := sB_knots r1) hx hb hr (fun t ht hW => ⟨⟨sB_knots r1, r1, rfl, Option.some.inj h, by rw [ht]; exact hP, hD⟩, hS.F ht⟩) hS.2.2 d_BlockRuler_count_95
  have h := b_f h c8
  by_cases c10 : x2 = 6
  · have h := b_t h c10
    refine lv_tableIn (x := x2) (tgt := 96) hx hb d_BlockRuler_count_5 (by rw [c10]; decide) (by rw [c10]; decide) (by rw [c10]; rfl) (by decide) ?_
    refine lv_aload_n hx hb d_BlockRuler_count_96 rfl (lv_at hl 0 rfl) ?_
    refine va_get (D := (dC, dI)) (ci := 0) (v := .ref (a 4)) (C := "BlockRuler") (T := F_BlockRuler) (N := 5) hx hb hg i_BlockRuler hown hK hP 0 rfl rfl 3 (by decide) (hg _ wd136) (fun _ h9 => h9) rfl d_BlockRuler_count_97 ?_
    obtain ⟨r9, hr9, h⟩ := bd h
    refine ro_call (v := .int r9) (va_runV (C := "BlockRuler$Loops") (As := []) (rest := []) ⟨hx, hb, hml, hown, hg⟩ (c_Loops_greatestDepth l dC dI a cs r1 _ hr9) (cwV 0 hg (gdV wd208 wd207 wd206 wd94 wd209) rfl rfl rfl (by decide +kernel) ⟨Nat.le_of_ble_eq_true rfl, Nat.le_of_ble_eq_true rfl⟩) ⟨wb_blind, va_recv hK hP (ci := 4) (q0 := 4) rfl rfl, fun U hU hW => ⟨rfl, wb_pre hU hW hP hK hN⟩⟩ rfl rfl hl.1 rfl (lv_room (Nat.le_of_ble_eq_true rfl)) d_BlockRuler_count_100 ⟨Nat.zero_le _, Nat.zero_le _⟩) ?_
    exact W.iret (v := r9) hx hb hr (fun t ht hW => ⟨⟨r9, r1, rfl, Option.some.inj h, by rw [ht]; exact hP, hD⟩, hS.F ht⟩) hS.2.2 d_BlockRuler_count_103
  have h := b_f h c10
  refine lv_tableOut (x := x2) (tgt := 104) hx hb d_BlockRuler_count_5 (tsw7 c3 c4 c5 c6 c7 c8 c10) (by decide) ?_
  refine lv_iconst (v := -1) hx hb d_BlockRuler_count_104 (by decide) ?_
  exact W.iret (v := -1) hx hb hr (fun t ht hW => ⟨⟨-1, r1, rfl, Option.some.inj h, by rw [ht]; exact hP, hD⟩, hS.F ht⟩) hS.2.2 d_BlockRuler_count_105
