-- written by wip/gen (blockruler.py)
theorem wt271 : Cond.classLink "BlockRuler" 51 "java/lang/IllegalStateException" ∈ G_ := g_in (by decide +kernel) (by decide +kernel)
theorem wt272 : Cond.instantiable "java/lang/IllegalStateException" 6 ∈ G_ := g_in (by decide +kernel) (by decide +kernel)
theorem wt273 : Cond.initialized "java/lang/IllegalStateException" ∈ G_ := g_in (by decide +kernel) (by decide +kernel)
theorem wt274 : Cond.classLink "BlockRuler" 66 "java/lang/IllegalArgumentException" ∈ G_ := g_in (by decide +kernel) (by decide +kernel)
theorem wt275 : Cond.instantiable "java/lang/IllegalArgumentException" 6 ∈ G_ := g_in (by decide +kernel) (by decide +kernel)
theorem wt276 : Cond.initialized "java/lang/IllegalArgumentException" ∈ G_ := g_in (by decide +kernel) (by decide +kernel)
theorem wt277 : Cond.classLink "BlockRuler" 85 "java/lang/IndexOutOfBoundsException" ∈ G_ := g_in (by decide +kernel) (by decide +kernel)
theorem wt278 : Cond.instantiable "java/lang/IndexOutOfBoundsException" 6 ∈ G_ := g_in (by decide +kernel) (by decide +kernel)
theorem wt279 : Cond.initialized "java/lang/IndexOutOfBoundsException" ∈ G_ := g_in (by decide +kernel) (by decide +kernel)
def rm_BlockRuler_block_ISE : Room := { frames := 6, cells := 1, slots := 6, locals := 82 }
set_option maxHeartbeats 4000000 in
set_option maxRecDepth 100000 in
theorem cT_BlockRuler_block_ISE (l : Launch) (hfl : l.flags = flags0) (dC : Nat → ClassId) (dI : Nat → Nat → Nat) (a : Nat → Nat) (cs : Nat → ClassId) (z sz : Nat) (hz : z ≤ sz) (hza : ∀ k, k < 15 → z ≤ a k) (σ : SB) (σ' : SB) (h : f_BlockRuler_block σ = some (Sum.inl 0, σ')) : MetT l y_BlockRuler_block w_BlockRuler_block rm_BlockRuler_block_ISE (va_Pc [.ref (a 0)] (fun U => U.heap.size = sz ∧ WDB dC dI a cs σ U ∧ TW z U)) (QT cISE (dC, dI) classes (wsB a cs σ') (va_A (wsB a cs σ) sz)) 1 6 (va_A (wsB a cs σ) sz) := by
  refine MetT.ofW (cc := b_BlockRuler_block) (maxL := 1) (ret := (some .int)) (by decide) rfl ?_
  intro p e s m args below meth c s₁ B hml hv
  obtain ⟨rfl, hsz, ⟨hP, hK, hN, hD0⟩, hT⟩ := hv
  have htr := Launch.traces_off hfl B.admits
  have hnoh := B.noHandlers (atoms_spec (ws := w_BlockRuler_block) B.pre _ List.mem_cons_self)
  have hx := B.exec
  have hb := B.bytes
  have hr := B.returns
  have hg : ∀ w ∈ G_, w.before _ s = true := fun w hw => atoms_spec (ws := w_BlockRuler_block) B.pre w (List.mem_cons_of_mem _ hw)
  have hown : s.vm.findClass "BlockRuler" = some m.cls := findClass_of_methodNamed B.named
  have hlocks := B.notSynchronized
  have C0 : Cx "BlockRuler" b_BlockRuler_block 1 p s m _ meth c := ⟨hx, hb, hml, hown, hg, hlocks⟩
  subst hsz
  have hzA := va_A_z (cs := cs) (σ := σ) hz hza
  have hD := hD0.self (sz := s.heap.size)
  generalize hAe : va_A (wsB a cs σ) s.heap.size = A at hD hzA ⊢
  have hA : ∀ q : Nat, s.heap.size ≤ q → A q := fun q h => by rw [← hAe]; exact Or.inr h
  have hS : va_S A s.heap s.heap [] := va_S.rf
  have hl := lv_entry ([.ref (a 0)]) (n := 1) (Nat.le_of_ble_eq_true rfl)
  rw [lg_entry_eq]
  generalize (lg_sl ([.ref (a 0)]) ++ List.replicate (1 - (lg_sl ([.ref (a 0)])).length) Slot.unset).toArray = ls at hl ⊢
  have hl : lv_has ls 1 [(0, .ref (a 0))] := hl
  unfold f_BlockRuler_block at h
  refine lv_aload_n hx hb d_BlockRuler_block_0 rfl (lv_at hl 0 rfl) ?_
  refine va_get (D := (dC, dI)) (ci := 0) (v := .ref (a 1)) (C := "BlockRuler") (T := F_BlockRuler) (N := 5) hx hb hg i_BlockRuler hown hK hP 0 rfl rfl 0 (by decide) (hg _ wd141) (fun _ h9 => h9) rfl d_BlockRuler_block_1 ?_
  refine va_get (D := (dC, dI)) (ci := 1) (v := .int (sB_blocks σ)) (C := "BlockRuler$Web") (T := F_Web) (N := 4) hx hb hg i_Web hown hK hP 1 rfl rfl 2 (by decide) (hg _ wd144) (fun _ h9 => h9) rfl d_BlockRuler_block_4 ?_
  refine lv_bipush (v := 64) hx hb d_BlockRuler_block_7 (by decide) ?_
  refine lv_icmp_lt (tgt := 22) hx hb d_BlockRuler_block_9 (by decide) (fun c1 => ?_) (fun c1 => ?_)
  · have h := b_t h c1
    refine lv_aload_n hx hb d_BlockRuler_block_22 rfl (lv_at hl 0 rfl) ?_
    refine lv_iconst (v := 1) hx hb d_BlockRuler_block_23 (by decide) ?_
    refine va_put (D := (dC, dI)) (ci := 0) (v := .int 1) (ty := .boolean) (C := "BlockRuler") (T := F_BlockRuler) (N := 5) hx hb hg i_BlockRuler t_BlockRuler t_BlockRuler_ok n_BlockRuler hown hK hP hD hS 0 rfl rfl 4 (by decide) (hg _ wd125) (fun _ h9 => h9) rfl (by decide +kernel) rfl rfl (Nat.le_of_ble_eq_true rfl) d_BlockRuler_block_24 (fun H locs hP hD hS => ?_)
    have hP := va_Pe (setB_stale a cs σ 1) hP
    have hD := va_De (setB_stale a cs σ 1) hD
    refine lv_aload_n hx hb d_BlockRuler_block_27 rfl (lv_at hl 0 rfl) ?_
    refine va_get (D := (dC, dI)) (ci := 0) (v := .ref (a 1)) (C := "BlockRuler") (T := F_BlockRuler) (N := 5) hx hb hg i_BlockRuler hown hK hP 0 rfl rfl 0 (by decide) (hg _ wd141) (fun _ h9 => h9) rfl d_BlockRuler_block_28 ?_
    have hFc := va_free (wc := wsB a cs (uB_stale σ 1)) hD hS hA [0, 1, 2, 3, 4, 5, 6, 7, 8, 9, 10, 11, 12, 13, 14] (allB a cs (uB_stale σ 1))
    refine va_calli (va_runV (C := "BlockRuler$Web") (As := []) (rest := []) ⟨hx, hb, hml, hown, hg⟩ (c_Web_addBlock l dC dI a cs _ (uB_stale σ 1) _ rfl) (cwV 0 hg (gdV wd147 wd146 wd145 wd7 wd148) rfl rfl rfl (by decide +kernel) ⟨Nat.le_of_ble_eq_true rfl, Nat.le_of_ble_eq_true rfl⟩) ⟨wbz_blind, va_recv hK hP (ci := 1) (q0 := 1) rfl rfl, fun U hU hW => ⟨rfl, by rw [hU], wb_preD hU hW hP hK hN hD⟩⟩ rfl rfl hl.1 rfl (lv_room (Nat.le_of_ble_eq_true rfl)) d_BlockRuler_block_31 ⟨Nat.zero_le _, Nat.zero_le _⟩) hS (fun q _ h => hFc q h) hFc (fun rv u t H locs ht hvm hw hB hz1 hk1 hS => ?_)
    obtain rfl : (f_Web_addBlock (uB_stale σ 1)).1 = rv := (congrArg Prod.fst hw).symm
    obtain rfl : (f_Web_addBlock (uB_stale σ 1)).2 = u := (congrArg Prod.snd hw).symm
    have hP : va_P (dC, dI) classes (wsB a cs ((f_Web_addBlock (uB_stale σ 1)).2)) H := by have q := hB.1; rw [ht] at q; exact q
    have hD : va_D A (wsB a cs ((f_Web_addBlock (uB_stale σ 1)).2)) := hB.2.weaken (fun _ _ _ h => hFc _ h)
    cases h
  · have h := b_f h c1
    obtain rfl := th_s h
    exact W.throwNew (cls := cISE) hx hb hown hlocks hnoh hml htr (by decide) own_ISE hg hT hz hzA (fun U hU => hU.2.2.2.1) wt271 wt272 wt273 hP hD hS hl.1 d_BlockRuler_block_12 d_BlockRuler_block_15 d_BlockRuler_block_16 d_BlockRuler_block_18 d_BlockRuler_block_21 ⟨Nat.le_of_ble_eq_true rfl, Nat.le_of_ble_eq_true rfl, Nat.le_of_ble_eq_true rfl, Nat.le_of_ble_eq_true rfl⟩
def rm_BlockRuler_way_ISE : Room := { frames := 6, cells := 1, slots := 6, locals := 82 }
set_option maxHeartbeats 4000000 in
set_option maxRecDepth 100000 in
theorem cT_BlockRuler_way_ISE (l : Launch) (hfl : l.flags = flags0) (dC : Nat → ClassId) (dI : Nat → Nat → Nat) (a : Nat → Nat) (cs : Nat → ClassId) (z sz : Nat) (hz : z ≤ sz) (hza : ∀ k, k < 15 → z ≤ a k) (σ : SB) (v1 : Int32) (v2 : Int32) (σ' : SB) (h : f_BlockRuler_way σ v1 v2 = some (Sum.inl 0, σ')) : MetT l y_BlockRuler_way w_BlockRuler_way rm_BlockRuler_way_ISE (va_Pc [.ref (a 0), .int v1, .int v2] (fun U => U.heap.size = sz ∧ WDB dC dI a cs σ U ∧ TW z U)) (QT cISE (dC, dI) classes (wsB a cs σ') (va_A (wsB a cs σ) sz)) 1 6 (va_A (wsB a cs σ) sz) := by
  refine MetT.ofW (cc := b_BlockRuler_way) (maxL := 3) (ret := (some .int)) (by decide) rfl ?_
  intro p e s m args below meth c s₁ B hml hv
  obtain ⟨rfl, hsz, ⟨hP, hK, hN, hD0⟩, hT⟩ := hv
  have htr := Launch.traces_off hfl B.admits
  have hnoh := B.noHandlers (atoms_spec (ws := w_BlockRuler_way) B.pre _ List.mem_cons_self)
  have hx := B.exec
  have hb := B.bytes
  have hr := B.returns
  have hg : ∀ w ∈ G_, w.before _ s = true := fun w hw => atoms_spec (ws := w_BlockRuler_way) B.pre w (List.mem_cons_of_mem _ hw)
  have hown : s.vm.findClass "BlockRuler" = some m.cls := findClass_of_methodNamed B.named
  have hlocks := B.notSynchronized
  have C0 : Cx "BlockRuler" b_BlockRuler_way 3 p s m _ meth c := ⟨hx, hb, hml, hown, hg, hlocks⟩
  subst hsz
  have hzA := va_A_z (cs := cs) (σ := σ) hz hza
  have hD := hD0.self (sz := s.heap.size)
  generalize hAe : va_A (wsB a cs σ) s.heap.size = A at hD hzA ⊢
  have hA : ∀ q : Nat, s.heap.size ≤ q → A q := fun q h => by rw [← hAe]; exact Or.inr h
  have hS : va_S A s.heap s.heap [] := va_S.rf
  have hl := lv_entry ([.ref (a 0), .int v1, .int v2]) (n := 3) (Nat.le_of_ble_eq_true rfl)
  rw [lg_entry_eq]
  generalize (lg_sl ([.ref (a 0), .int v1, .int v2]) ++ List.replicate (3 - (lg_sl ([.ref (a 0), .int v1, .int v2])).length) Slot.unset).toArray = ls at hl ⊢
  have hl : lv_has ls 3 [(0, .ref (a 0)), (1, .int v1), (2, .int v2)] := hl
  unfold f_BlockRuler_way at h
  refine lv_aload_n hx hb d_BlockRuler_way_0 rfl (lv_at hl 0 rfl) ?_
  refine va_get (D := (dC, dI)) (ci := 0) (v := .ref (a 1)) (C := "BlockRuler") (T := F_BlockRuler) (N := 5) hx hb hg i_BlockRuler hown hK hP 0 rfl rfl 0 (by decide) (hg _ wd141) (fun _ h9 => h9) rfl d_BlockRuler_way_1 ?_
  refine lv_iload_n hx hb d_BlockRuler_way_4 rfl (lv_at hl 1 rfl) ?_
  refine ro_call (v := .int (f_Web_hasBlock σ v1)) (va_runV (C := "BlockRuler$Web") (As := [.int v1]) (rest := []) ⟨hx, hb, hml, hown, hg⟩ (c_Web_hasBlock l dC dI a cs σ v1 _ rfl) (cwV 1 hg (gdV wd142 wd5 wd4 wd7 wd8) rfl rfl rfl (by decide +kernel) ⟨Nat.le_of_ble_eq_true rfl, Nat.le_of_ble_eq_true rfl⟩) ⟨wb_blind, va_recv hK hP (ci := 1) (q0 := 1) rfl rfl, fun U hU hW => ⟨rfl, wb_pre hU hW hP hK hN⟩⟩ rfl rfl hl.1 rfl (lv_room (Nat.le_of_ble_eq_true rfl)) d_BlockRuler_way_5 ⟨Nat.zero_le _, Nat.zero_le _⟩) ?_
  refine lv_if_eq (tgt := 22) hx hb d_BlockRuler_way_8 (by decide) (fun c1 => ?_) (fun c1 => ?_)
  · have h := b_t h c1
    exact absurd (th_k h) (by decide)
  · have h := b_f h c1
    refine lv_aload_n hx hb d_BlockRuler_way_11 rfl (lv_at hl 0 rfl) ?_
    refine va_get (D := (dC, dI)) (ci := 0) (v := .ref (a 1)) (C := "BlockRuler") (T := F_BlockRuler) (N := 5) hx hb hg i_BlockRuler hown hK hP 0 rfl rfl 0 (by decide) (hg _ wd141) (fun _ h9 => h9) rfl d_BlockRuler_way_12 ?_
    refine lv_iload_n hx hb d_BlockRuler_way_15 rfl (lv_at hl 2 rfl) ?_
    refine ro_call (v := .int (f_Web_hasBlock σ v2)) (va_runV (C := "BlockRuler$Web") (As := [.int v2]) (rest := []) ⟨hx, hb, hml, hown, hg⟩ (c_Web_hasBlock l dC dI a cs σ v2 _ rfl) (cwV 1 hg (gdV wd142 wd5 wd4 wd7 wd8) rfl rfl rfl (by decide +kernel) ⟨Nat.le_of_ble_eq_true rfl, Nat.le_of_ble_eq_true rfl⟩) ⟨wb_blind, va_recv hK hP (ci := 1) (q0 := 1) rfl rfl, fun U hU hW => ⟨rfl, wb_pre hU hW hP hK hN⟩⟩ rfl rfl hl.1 rfl (lv_room (Nat.le_of_ble_eq_true rfl)) d_BlockRuler_way_16 ⟨Nat.zero_le _, Nat.zero_le _⟩) ?_
    refine lv_if_ne (tgt := 32) hx hb d_BlockRuler_way_19 (by decide) (fun c2 => ?_) (fun c2 => ?_)
    · have h := b_f h c2
      refine lv_aload_n hx hb d_BlockRuler_way_32 rfl (lv_at hl 0 rfl) ?_
      refine va_get (D := (dC, dI)) (ci := 0) (v := .ref (a 1)) (C := "BlockRuler") (T := F_BlockRuler) (N := 5) hx hb hg i_BlockRuler hown hK hP 0 rfl rfl 0 (by decide) (hg _ wd141) (fun _ h9 => h9) rfl d_BlockRuler_way_33 ?_
      refine va_get (D := (dC, dI)) (ci := 1) (v := .ref (a 5)) (C := "BlockRuler$Web") (T := F_Web) (N := 4) hx hb hg i_Web hown hK hP 1 rfl rfl 0 (by decide) (hg _ wd149) (fun _ h9 => h9) rfl d_BlockRuler_way_36 ?_
      refine lv_iload_n hx hb d_BlockRuler_way_39 rfl (lv_at hl 1 rfl) ?_
      obtain ⟨hi3, h⟩ := gd h
      refine va_iald (f := sB_deg σ) (n := 64) hx hb hK hP 5 0 rfl rfl hi3 d_BlockRuler_way_40 ?_
      refine lv_bipush (v := 8) hx hb d_BlockRuler_way_41 (by decide) ?_
      refine lv_icmp_lt (tgt := 56) hx hb d_BlockRuler_way_43 (by decide) (fun c4 => ?_) (fun c4 => ?_)
      · have h := b_t h c4
        refine lv_aload_n hx hb d_BlockRuler_way_56 rfl (lv_at hl 0 rfl) ?_
        refine lv_iconst (v := 1) hx hb d_BlockRuler_way_57 (by decide) ?_
        refine va_put (D := (dC, dI)) (ci := 0) (v := .int 1) (ty := .boolean) (C := "BlockRuler") (T := F_BlockRuler) (N := 5) hx hb hg i_BlockRuler t_BlockRuler t_BlockRuler_ok n_BlockRuler hown hK hP hD hS 0 rfl rfl 4 (by decide) (hg _ wd125) (fun _ h9 => h9) rfl (by decide +kernel) rfl rfl (Nat.le_of_ble_eq_true rfl) d_BlockRuler_way_58 (fun H locs hP hD hS => ?_)
        have hP := va_Pe (setB_stale a cs σ 1) hP
        have hD := va_De (setB_stale a cs σ 1) hD
        refine lv_aload_n hx hb d_BlockRuler_way_61 rfl (lv_at hl 0 rfl) ?_
        refine va_get (D := (dC, dI)) (ci := 0) (v := .ref (a 1)) (C := "BlockRuler") (T := F_BlockRuler) (N := 5) hx hb hg i_BlockRuler hown hK hP 0 rfl rfl 0 (by decide) (hg _ wd141) (fun _ h9 => h9) rfl d_BlockRuler_way_62 ?_
        refine lv_iload_n hx hb d_BlockRuler_way_65 rfl (lv_at hl 1 rfl) ?_
        refine lv_iload_n hx hb d_BlockRuler_way_66 rfl (lv_at hl 2 rfl) ?_
        obtain ⟨r5, hr5, h⟩ := bd h
        have hFc := va_free (wc := wsB a cs (uB_stale σ 1)) hD hS hA [0, 1, 2, 3, 4, 5, 6, 7, 8, 9, 10, 11, 12, 13, 14] (allB a cs (uB_stale σ 1))
        refine va_calli (va_runV (C := "BlockRuler$Web") (As := [.int v1, .int v2]) (rest := []) ⟨hx, hb, hml, hown, hg⟩ (c_Web_addWay l dC dI a cs _ (uB_stale σ 1) v1 v2 _ hr5) (cwV 2 hg (gdV wd152 wd151 wd150 wd7 wd153) rfl rfl rfl (by decide +kernel) ⟨Nat.le_of_ble_eq_true rfl, Nat.le_of_ble_eq_true rfl⟩) ⟨wbz_blind, va_recv hK hP (ci := 1) (q0 := 1) rfl rfl, fun U hU hW => ⟨rfl, by rw [hU], wb_preD hU hW hP hK hN hD⟩⟩ rfl rfl hl.1 rfl (lv_room (Nat.le_of_ble_eq_true rfl)) d_BlockRuler_way_67 ⟨Nat.zero_le _, Nat.zero_le _⟩) hS (fun q _ h => hFc q h) hFc (fun rv u t H locs ht hvm hw hB hz1 hk1 hS => ?_)
        obtain rfl : r5.1 = rv := (congrArg Prod.fst hw).symm
        obtain rfl : r5.2 = u := (congrArg Prod.snd hw).symm
        have hP : va_P (dC, dI) classes (wsB a cs r5.2) H := by have q := hB.1; rw [ht] at q; exact q
        have hD : va_D A (wsB a cs r5.2) := hB.2.weaken (fun _ _ _ h => hFc _ h)
        cases h
      · have h := b_f h c4
        obtain rfl := th_s h
        exact W.throwNew (cls := cISE) hx hb hown hlocks hnoh hml htr (by decide) own_ISE hg hT hz hzA (fun U hU => hU.2.2.2.2.2.1) wt271 wt272 wt273 hP hD hS hl.1 d_BlockRuler_way_46 d_BlockRuler_way_49 d_BlockRuler_way_50 d_BlockRuler_way_52 d_BlockRuler_way_55 ⟨Nat.le_of_ble_eq_true rfl, Nat.le_of_ble_eq_true rfl, Nat.le_of_ble_eq_true rfl, Nat.le_of_ble_eq_true rfl⟩
    · have h := b_t h c2
      exact absurd (th_k h) (by decide)
def rm_BlockRuler_way_IAE : Room := { frames := 6, cells := 1, slots := 6, locals := 82 }
set_option maxHeartbeats 4000000 in
set_option maxRecDepth 100000 in
theorem cT_BlockRuler_way_IAE (l : Launch) (hfl : l.flags = flags0) (dC : Nat → ClassId) (dI : Nat → Nat → Nat) (a : Nat → Nat) (cs : Nat → ClassId) (z sz : Nat) (hz : z ≤ sz) (hza : ∀ k, k < 15 → z ≤ a k) (σ : SB) (v1 : Int32) (v2 : Int32) (σ' : SB) (h : f_BlockRuler_way σ v1 v2 = some (Sum.inl 1, σ')) : MetT l y_BlockRuler_way w_BlockRuler_way rm_BlockRuler_way_IAE (va_Pc [.ref (a 0), .int v1, .int v2] (fun U => U.heap.size = sz ∧ WDB dC dI a cs σ U ∧ TW z U)) (QT cIAE (dC, dI) classes (wsB a cs σ') (va_A (wsB a cs σ) sz)) 1 6 (va_A (wsB a cs σ) sz) := by
  refine MetT.ofW (cc := b_BlockRuler_way) (maxL := 3) (ret := (some .int)) (by decide) rfl ?_
  intro p e s m args below meth c s₁ B hml hv
  obtain ⟨rfl, hsz, ⟨hP, hK, hN, hD0⟩, hT⟩ := hv
  have htr := Launch.traces_off hfl B.admits
  have hnoh := B.noHandlers (atoms_spec (ws := w_BlockRuler_way) B.pre _ List.mem_cons_self)
  have hx := B.exec
  have hb := B.bytes
  have hr := B.returns
  have hg : ∀ w ∈ G_, w.before _ s = true := fun w hw => atoms_spec (ws := w_BlockRuler_way) B.pre w (List.mem_cons_of_mem _ hw)
  have hown : s.vm.findClass "BlockRuler" = some m.cls := findClass_of_methodNamed B.named
  have hlocks := B.notSynchronized
  have C0 : Cx "BlockRuler" b_BlockRuler_way 3 p s m _ meth c := ⟨hx, hb, hml, hown, hg, hlocks⟩
  subst hsz
  have hzA := va_A_z (cs := cs) (σ := σ) hz hza
  have hD := hD0.self (sz := s.heap.size)
  generalize hAe : va_A (wsB a cs σ) s.heap.size = A at hD hzA ⊢
  have hA : ∀ q : Nat, s.heap.size ≤ q → A q := fun q h => by rw [← hAe]; exact Or.inr h
  have hS : va_S A s.heap s.heap [] := va_S.rf
  have hl := lv_entry ([.ref (a 0), .int v1, .int v2]) (n := 3) (Nat.le_of_ble_eq_true rfl)
  rw [lg_entry_eq]
  generalize (lg_sl ([.ref (a 0), .int v1, .int v2]) ++ List.replicate (3 - (lg_sl ([.ref (a 0), .int v1, .int v2])).length) Slot.unset).toArray = ls at hl ⊢
  have hl : lv_has ls 3 [(0, .ref (a 0)), (1, .int v1), (2, .int v2)] := hl
  unfold f_BlockRuler_way at h
  refine lv_aload_n hx hb d_BlockRuler_way_0 rfl (lv_at hl 0 rfl) ?_
  refine va_get (D := (dC, dI)) (ci := 0) (v := .ref (a 1)) (C := "BlockRuler") (T := F_BlockRuler) (N := 5) hx hb hg i_BlockRuler hown hK hP 0 rfl rfl 0 (by decide) (hg _ wd141) (fun _ h9 => h9) rfl d_BlockRuler_way_1 ?_
  refine lv_iload_n hx hb d_BlockRuler_way_4 rfl (lv_at hl 1 rfl) ?_
  refine ro_call (v := .int (f_Web_hasBlock σ v1)) (va_runV (C := "BlockRuler$Web") (As := [.int v1]) (rest := []) ⟨hx, hb, hml, hown, hg⟩ (c_Web_hasBlock l dC dI a cs σ v1 _ rfl) (cwV 1 hg (gdV wd142 wd5 wd4 wd7 wd8) rfl rfl rfl (by decide +kernel) ⟨Nat.le_of_ble_eq_true rfl, Nat.le_of_ble_eq_true rfl⟩) ⟨wb_blind, va_recv hK hP (ci := 1) (q0 := 1) rfl rfl, fun U hU hW => ⟨rfl, wb_pre hU hW hP hK hN⟩⟩ rfl rfl hl.1 rfl (lv_room (Nat.le_of_ble_eq_true rfl)) d_BlockRuler_way_5 ⟨Nat.zero_le _, Nat.zero_le _⟩) ?_
  refine lv_if_eq (tgt := 22) hx hb d_BlockRuler_way_8 (by decide) (fun c1 => ?_) (fun c1 => ?_)
  · have h := b_t h c1
    obtain rfl := th_s h
    exact W.throwNew (cls := cIAE) hx hb hown hlocks hnoh hml htr (by decide) own_IAE hg hT hz hzA (fun U hU => hU.2.2.2.2.1) wt274 wt275 wt276 hP hD hS hl.1 d_BlockRuler_way_22 d_BlockRuler_way_25 d_BlockRuler_way_26 d_BlockRuler_way_28 d_BlockRuler_way_31 ⟨Nat.le_of_ble_eq_true rfl, Nat.le_of_ble_eq_true rfl, Nat.le_of_ble_eq_true rfl, Nat.le_of_ble_eq_true rfl⟩
  · have h := b_f h c1
    refine lv_aload_n hx hb d_BlockRuler_way_11 rfl (lv_at hl 0 rfl) ?_
    refine va_get (D := (dC, dI)) (ci := 0) (v := .ref (a 1)) (C := "BlockRuler") (T := F_BlockRuler) (N := 5) hx hb hg i_BlockRuler hown hK hP 0 rfl rfl 0 (by decide) (hg _ wd141) (fun _ h9 => h9) rfl d_BlockRuler_way_12 ?_
    refine lv_iload_n hx hb d_BlockRuler_way_15 rfl (lv_at hl 2 rfl) ?_
    refine ro_call (v := .int (f_Web_hasBlock σ v2)) (va_runV (C := "BlockRuler$Web") (As := [.int v2]) (rest := []) ⟨hx, hb, hml, hown, hg⟩ (c_Web_hasBlock l dC dI a cs σ v2 _ rfl) (cwV 1 hg (gdV wd142 wd5 wd4 wd7 wd8) rfl rfl rfl (by decide +kernel) ⟨Nat.le_of_ble_eq_true rfl, Nat.le_of_ble_eq_true rfl⟩) ⟨wb_blind, va_recv hK hP (ci := 1) (q0 := 1) rfl rfl, fun U hU hW => ⟨rfl, wb_pre hU hW hP hK hN⟩⟩ rfl rfl hl.1 rfl (lv_room (Nat.le_of_ble_eq_true rfl)) d_BlockRuler_way_16 ⟨Nat.zero_le _, Nat.zero_le _⟩) ?_
    refine lv_if_ne (tgt := 32) hx hb d_BlockRuler_way_19 (by decide) (fun c2 => ?_) (fun c2 => ?_)
    · have h := b_f h c2
      refine lv_aload_n hx hb d_BlockRuler_way_32 rfl (lv_at hl 0 rfl) ?_
      refine va_get (D := (dC, dI)) (ci := 0) (v := .ref (a 1)) (C := "BlockRuler") (T := F_BlockRuler) (N := 5) hx hb hg i_BlockRuler hown hK hP 0 rfl rfl 0 (by decide) (hg _ wd141) (fun _ h9 => h9) rfl d_BlockRuler_way_33 ?_
      refine va_get (D := (dC, dI)) (ci := 1) (v := .ref (a 5)) (C := "BlockRuler$Web") (T := F_Web) (N := 4) hx hb hg i_Web hown hK hP 1 rfl rfl 0 (by decide) (hg _ wd149) (fun _ h9 => h9) rfl d_BlockRuler_way_36 ?_
      refine lv_iload_n hx hb d_BlockRuler_way_39 rfl (lv_at hl 1 rfl) ?_
      obtain ⟨hi3, h⟩ := gd h
      refine va_iald (f := sB_deg σ) (n := 64) hx hb hK hP 5 0 rfl rfl hi3 d_BlockRuler_way_40 ?_
      refine lv_bipush (v := 8) hx hb d_BlockRuler_way_41 (by decide) ?_
      refine lv_icmp_lt (tgt := 56) hx hb d_BlockRuler_way_43 (by decide) (fun c4 => ?_) (fun c4 => ?_)
      · have h := b_t h c4
        refine lv_aload_n hx hb d_BlockRuler_way_56 rfl (lv_at hl 0 rfl) ?_
        refine lv_iconst (v := 1) hx hb d_BlockRuler_way_57 (by decide) ?_
        refine va_put (D := (dC, dI)) (ci := 0) (v := .int 1) (ty := .boolean) (C := "BlockRuler") (T := F_BlockRuler) (N := 5) hx hb hg i_BlockRuler t_BlockRuler t_BlockRuler_ok n_BlockRuler hown hK hP hD hS 0 rfl rfl 4 (by decide) (hg _ wd125) (fun _ h9 => h9) rfl (by decide +kernel) rfl rfl (Nat.le_of_ble_eq_true rfl) d_BlockRuler_way_58 (fun H locs hP hD hS => ?_)
        have hP := va_Pe (setB_stale a cs σ 1) hP
        have hD := va_De (setB_stale a cs σ 1) hD
        refine lv_aload_n hx hb d_BlockRuler_way_61 rfl (lv_at hl 0 rfl) ?_
        refine va_get (D := (dC, dI)) (ci := 0) (v := .ref (a 1)) (C := "BlockRuler") (T := F_BlockRuler) (N := 5) hx hb hg i_BlockRuler hown hK hP 0 rfl rfl 0 (by decide) (hg _ wd141) (fun _ h9 => h9) rfl d_BlockRuler_way_62 ?_
        refine lv_iload_n hx hb d_BlockRuler_way_65 rfl (lv_at hl 1 rfl) ?_
        refine lv_iload_n hx hb d_BlockRuler_way_66 rfl (lv_at hl 2 rfl) ?_
        obtain ⟨r5, hr5, h⟩ := bd h
        have hFc := va_free (wc := wsB a cs (uB_stale σ 1)) hD hS hA [0, 1, 2, 3, 4, 5, 6, 7, 8, 9, 10, 11, 12, 13, 14] (allB a cs (uB_stale σ 1))
        refine va_calli (va_runV (C := "BlockRuler$Web") (As := [.int v1, .int v2]) (rest := []) ⟨hx, hb, hml, hown, hg⟩ (c_Web_addWay l dC dI a cs _ (uB_stale σ 1) v1 v2 _ hr5) (cwV 2 hg (gdV wd152 wd151 wd150 wd7 wd153) rfl rfl rfl (by decide +kernel) ⟨Nat.le_of_ble_eq_true rfl, Nat.le_of_ble_eq_true rfl⟩) ⟨wbz_blind, va_recv hK hP (ci := 1) (q0 := 1) rfl rfl, fun U hU hW => ⟨rfl, by rw [hU], wb_preD hU hW hP hK hN hD⟩⟩ rfl rfl hl.1 rfl (lv_room (Nat.le_of_ble_eq_true rfl)) d_BlockRuler_way_67 ⟨Nat.zero_le _, Nat.zero_le _⟩) hS (fun q _ h => hFc q h) hFc (fun rv u t H locs ht hvm hw hB hz1 hk1 hS => ?_)
        obtain rfl : r5.1 = rv := (congrArg Prod.fst hw).symm
        obtain rfl : r5.2 = u := (congrArg Prod.snd hw).symm
        have hP : va_P (dC, dI) classes (wsB a cs r5.2) H := by have q := hB.1; rw [ht] at q; exact q
        have hD : va_D A (wsB a cs r5.2) := hB.2.weaken (fun _ _ _ h => hFc _ h)
        cases h
      · have h := b_f h c4
        exact absurd (th_k h) (by decide)
    · have h := b_t h c2
      obtain rfl := th_s h
      exact W.throwNew (cls := cIAE) hx hb hown hlocks hnoh hml htr (by decide) own_IAE hg hT hz hzA (fun U hU => hU.2.2.2.2.1) wt274 wt275 wt276 hP hD hS hl.1 d_BlockRuler_way_22 d_BlockRuler_way_25 d_BlockRuler_way_26 d_BlockRuler_way_28 d_BlockRuler_way_31 ⟨Nat.le_of_ble_eq_true rfl, Nat.le_of_ble_eq_true rfl, Nat.le_of_ble_eq_true rfl, Nat.le_of_ble_eq_true rfl⟩
def rm_BlockRuler_cut_IOB : Room := { frames := 6, cells := 1, slots := 6, locals := 82 }
set_option maxHeartbeats 4000000 in
set_option maxRecDepth 100000 in
theorem cT_BlockRuler_cut_IOB (l : Launch) (hfl : l.flags = flags0) (dC : Nat → ClassId) (dI : Nat → Nat → Nat) (a : Nat → Nat) (cs : Nat → ClassId) (z sz : Nat) (hz : z ≤ sz) (hza : ∀ k, k < 15 → z ≤ a k) (σ : SB) (v1 : Int32) (v2 : Int32) (σ' : SB) (h : f_BlockRuler_cut σ v1 v2 = some (Sum.inl 2, σ')) : MetT l y_BlockRuler_cut w_BlockRuler_cut rm_BlockRuler_cut_IOB (va_Pc [.ref (a 0), .int v1, .int v2] (fun U => U.heap.size = sz ∧ WDB dC dI a cs σ U ∧ TW z U)) (QT cIOB (dC, dI) classes (wsB a cs σ') (va_A (wsB a cs σ) sz)) 1 6 (va_A (wsB a cs σ) sz) := by
  refine MetT.ofW (cc := b_BlockRuler_cut) (maxL := 3) (ret := (some .int)) (by decide) rfl ?_
  intro p e s m args below meth c s₁ B hml hv
  obtain ⟨rfl, hsz, ⟨hP, hK, hN, hD0⟩, hT⟩ := hv
  have htr := Launch.traces_off hfl B.admits
  have hnoh := B.noHandlers (atoms_spec (ws := w_BlockRuler_cut) B.pre _ List.mem_cons_self)
  have hx := B.exec
  have hb := B.bytes
  have hr := B.returns
  have hg : ∀ w ∈ G_, w.before _ s = true := fun w hw => atoms_spec (ws := w_BlockRuler_cut) B.pre w (List.mem_cons_of_mem _ hw)
  have hown : s.vm.findClass "BlockRuler" = some m.cls := findClass_of_methodNamed B.named
  have hlocks := B.notSynchronized
  have C0 : Cx "BlockRuler" b_BlockRuler_cut 3 p s m _ meth c := ⟨hx, hb, hml, hown, hg, hlocks⟩
  subst hsz
  have hzA := va_A_z (cs := cs) (σ := σ) hz hza
  have hD := hD0.self (sz := s.heap.size)
  generalize hAe : va_A (wsB a cs σ) s.heap.size = A at hD hzA ⊢
  have hA : ∀ q : Nat, s.heap.size ≤ q → A q := fun q h => by rw [← hAe]; exact Or.inr h
  have hS : va_S A s.heap s.heap [] := va_S.rf
  have hl := lv_entry ([.ref (a 0), .int v1, .int v2]) (n := 3) (Nat.le_of_ble_eq_true rfl)
  rw [lg_entry_eq]
  generalize (lg_sl ([.ref (a 0), .int v1, .int v2]) ++ List.replicate (3 - (lg_sl ([.ref (a 0), .int v1, .int v2])).length) Slot.unset).toArray = ls at hl ⊢
  have hl : lv_has ls 3 [(0, .ref (a 0)), (1, .int v1), (2, .int v2)] := hl
  unfold f_BlockRuler_cut at h
  refine lv_aload_n hx hb d_BlockRuler_cut_0 rfl (lv_at hl 0 rfl) ?_
  refine va_get (D := (dC, dI)) (ci := 0) (v := .ref (a 1)) (C := "BlockRuler") (T := F_BlockRuler) (N := 5) hx hb hg i_BlockRuler hown hK hP 0 rfl rfl 0 (by decide) (hg _ wd141) (fun _ h9 => h9) rfl d_BlockRuler_cut_1 ?_
  refine lv_iload_n hx hb d_BlockRuler_cut_4 rfl (lv_at hl 1 rfl) ?_
  refine lv_iload_n hx hb d_BlockRuler_cut_5 rfl (lv_at hl 2 rfl) ?_
  obtain ⟨r1, hr1, h⟩ := bd h
  refine ro_call (v := .int r1) (va_runV (C := "BlockRuler$Web") (As := [.int v1, .int v2]) (rest := []) ⟨hx, hb, hml, hown, hg⟩ (c_Web_hasWay l dC dI a cs σ v1 v2 _ hr1) (cwV 2 hg (gdV wd156 wd155 wd154 wd7 wd157) rfl rfl rfl (by decide +kernel) ⟨Nat.le_of_ble_eq_true rfl, Nat.le_of_ble_eq_true rfl⟩) ⟨wb_blind, va_recv hK hP (ci := 1) (q0 := 1) rfl rfl, fun U hU hW => ⟨rfl, wb_pre hU hW hP hK hN⟩⟩ rfl rfl hl.1 rfl (lv_room (Nat.le_of_ble_eq_true rfl)) d_BlockRuler_cut_6 ⟨Nat.zero_le _, Nat.zero_le _⟩) ?_
  refine lv_if_ne (tgt := 22) hx hb d_BlockRuler_cut_9 (by decide) (fun c2 => ?_) (fun c2 => ?_)
  · have h := b_f h c2
    refine lv_aload_n hx hb d_BlockRuler_cut_22 rfl (lv_at hl 0 rfl) ?_
    refine lv_iconst (v := 1) hx hb d_BlockRuler_cut_23 (by decide) ?_
    refine va_put (D := (dC, dI)) (ci := 0) (v := .int 1) (ty := .boolean) (C := "BlockRuler") (T := F_BlockRuler) (N := 5) hx hb hg i_BlockRuler t_BlockRuler t_BlockRuler_ok n_BlockRuler hown hK hP hD hS 0 rfl rfl 4 (by decide) (hg _ wd125) (fun _ h9 => h9) rfl (by decide +kernel) rfl rfl (Nat.le_of_ble_eq_true rfl) d_BlockRuler_cut_24 (fun H locs hP hD hS => ?_)
    have hP := va_Pe (setB_stale a cs σ 1) hP
    have hD := va_De (setB_stale a cs σ 1) hD
    refine lv_aload_n hx hb d_BlockRuler_cut_27 rfl (lv_at hl 0 rfl) ?_
    refine va_get (D := (dC, dI)) (ci := 0) (v := .ref (a 1)) (C := "BlockRuler") (T := F_BlockRuler) (N := 5) hx hb hg i_BlockRuler hown hK hP 0 rfl rfl 0 (by decide) (hg _ wd141) (fun _ h9 => h9) rfl d_BlockRuler_cut_28 ?_
    refine lv_iload_n hx hb d_BlockRuler_cut_31 rfl (lv_at hl 1 rfl) ?_
    refine lv_iload_n hx hb d_BlockRuler_cut_32 rfl (lv_at hl 2 rfl) ?_
    obtain ⟨r3, hr3, h⟩ := bd h
    have hFc := va_free (wc := wsB a cs (uB_stale σ 1)) hD hS hA [0, 1, 2, 3, 4, 5, 6, 7, 8, 9, 10, 11, 12, 13, 14] (allB a cs (uB_stale σ 1))
    refine va_calli (va_runV (C := "BlockRuler$Web") (As := [.int v1, .int v2]) (rest := []) ⟨hx, hb, hml, hown, hg⟩ (c_Web_removeWay l dC dI a cs _ (uB_stale σ 1) v1 v2 _ hr3) (cwV 2 hg (gdV wd160 wd159 wd158 wd7 wd161) rfl rfl rfl (by decide +kernel) ⟨Nat.le_of_ble_eq_true rfl, Nat.le_of_ble_eq_true rfl⟩) ⟨wbz_blind, va_recv hK hP (ci := 1) (q0 := 1) rfl rfl, fun U hU hW => ⟨rfl, by rw [hU], wb_preD hU hW hP hK hN hD⟩⟩ rfl rfl hl.1 rfl (lv_room (Nat.le_of_ble_eq_true rfl)) d_BlockRuler_cut_33 ⟨Nat.zero_le _, Nat.zero_le _⟩) hS (fun q _ h => hFc q h) hFc (fun rv u t H locs ht hvm hw hB hz1 hk1 hS => ?_)
    obtain rfl : r3.1 = rv := (congrArg Prod.fst hw).symm
    obtain rfl : r3.2 = u := (congrArg Prod.snd hw).symm
    have hP : va_P (dC, dI) classes (wsB a cs r3.2) H := by have q := hB.1; rw [ht] at q; exact q
    have hD : va_D A (wsB a cs r3.2) := hB.2.weaken (fun _ _ _ h => hFc _ h)
    cases h
  · have h := b_t h c2
    obtain rfl := th_s h
    exact W.throwNew (cls := cIOB) hx hb hown hlocks hnoh hml htr (by decide) own_IOB hg hT hz hzA (fun U hU => hU.2.2.2.2.2.2.1) wt277 wt278 wt279 hP hD hS hl.1 d_BlockRuler_cut_12 d_BlockRuler_cut_15 d_BlockRuler_cut_16 d_BlockRuler_cut_18 d_BlockRuler_cut_21 ⟨Nat.le_of_ble_eq_true rfl, Nat.le_of_ble_eq_true rfl, Nat.le_of_ble_eq_true rfl, Nat.le_of_ble_eq_true rfl⟩
def rm_BlockRuler_turn_IAE : Room := { frames := 6, cells := 1, slots := 6, locals := 82 }
set_option maxHeartbeats 4000000 in
set_option maxRecDepth 100000 in
theorem cT_BlockRuler_turn_IAE (l : Launch) (hfl : l.flags = flags0) (dC : Nat → ClassId) (dI : Nat → Nat → Nat) (a : Nat → Nat) (cs : Nat → ClassId) (z sz : Nat) (hz : z ≤ sz) (hza : ∀ k, k < 15 → z ≤ a k) (σ : SB) (v1 : Int32) (v2 : Int32) (v3 : Int32) (σ' : SB) (h : f_BlockRuler_turn σ v1 v2 v3 = some (Sum.inl 1, σ')) : MetT l y_BlockRuler_turn w_BlockRuler_turn rm_BlockRuler_turn_IAE (va_Pc [.ref (a 0), .int v1, .int v2, .int v3] (fun U => U.heap.size = sz ∧ WDB dC dI a cs σ U ∧ TW z U)) (QT cIAE (dC, dI) classes (wsB a cs σ') (va_A (wsB a cs σ) sz)) 1 6 (va_A (wsB a cs σ) sz) := by
  refine MetT.ofW (cc := b_BlockRuler_turn) (maxL := 4) (ret := (some .int)) (by decide) rfl ?_
  intro p e s m args below meth c s₁ B hml hv
  obtain ⟨rfl, hsz, ⟨hP, hK, hN, hD0⟩, hT⟩ := hv
  have htr := Launch.traces_off hfl B.admits
  have hnoh := B.noHandlers (atoms_spec (ws := w_BlockRuler_turn) B.pre _ List.mem_cons_self)
  have hx := B.exec
  have hb := B.bytes
  have hr := B.returns
  have hg : ∀ w ∈ G_, w.before _ s = true := fun w hw => atoms_spec (ws := w_BlockRuler_turn) B.pre w (List.mem_cons_of_mem _ hw)
  have hown : s.vm.findClass "BlockRuler" = some m.cls := findClass_of_methodNamed B.named
  have hlocks := B.notSynchronized
  have C0 : Cx "BlockRuler" b_BlockRuler_turn 4 p s m _ meth c := ⟨hx, hb, hml, hown, hg, hlocks⟩
  subst hsz
  have hzA := va_A_z (cs := cs) (σ := σ) hz hza
  have hD := hD0.self (sz := s.heap.size)
  generalize hAe : va_A (wsB a cs σ) s.heap.size = A at hD hzA ⊢
  have hA : ∀ q : Nat, s.heap.size ≤ q → A q := fun q h => by rw [← hAe]; exact Or.inr h
  have hS : va_S A s.heap s.heap [] := va_S.rf
  have hl := lv_entry ([.ref (a 0), .int v1, .int v2, .int v3]) (n := 4) (Nat.le_of_ble_eq_true rfl)
  rw [lg_entry_eq]
  generalize (lg_sl ([.ref (a 0), .int v1, .int v2, .int v3]) ++ List.replicate (4 - (lg_sl ([.ref (a 0), .int v1, .int v2, .int v3])).length) Slot.unset).toArray = ls at hl ⊢
  have hl : lv_has ls 4 [(0, .ref (a 0)), (1, .int v1), (2, .int v2), (3, .int v3)] := hl
  unfold f_BlockRuler_turn at h
  refine lv_aload_n hx hb d_BlockRuler_turn_0 rfl (lv_at hl 0 rfl) ?_
  refine va_get (D := (dC, dI)) (ci := 0) (v := .ref (a 1)) (C := "BlockRuler") (T := F_BlockRuler) (N := 5) hx hb hg i_BlockRuler hown hK hP 0 rfl rfl 0 (by decide) (hg _ wd141) (fun _ h9 => h9) rfl d_BlockRuler_turn_1 ?_
  refine lv_iload_n hx hb d_BlockRuler_turn_4 rfl (lv_at hl 1 rfl) ?_
  refine lv_iload_n hx hb d_BlockRuler_turn_5 rfl (lv_at hl 2 rfl) ?_
  obtain ⟨r1, hr1, h⟩ := bd h
  refine ro_call (v := .int r1) (va_runV (C := "BlockRuler$Web") (As := [.int v1, .int v2]) (rest := []) ⟨hx, hb, hml, hown, hg⟩ (c_Web_hasWay l dC dI a cs σ v1 v2 _ hr1) (cwV 2 hg (gdV wd156 wd155 wd154 wd7 wd157) rfl rfl rfl (by decide +kernel) ⟨Nat.le_of_ble_eq_true rfl, Nat.le_of_ble_eq_true rfl⟩) ⟨wb_blind, va_recv hK hP (ci := 1) (q0 := 1) rfl rfl, fun U hU hW => ⟨rfl, wb_pre hU hW hP hK hN⟩⟩ rfl rfl hl.1 rfl (lv_room (Nat.le_of_ble_eq_true rfl)) d_BlockRuler_turn_6 ⟨Nat.zero_le _, Nat.zero_le _⟩) ?_
  refine lv_if_ne (tgt := 22) hx hb d_BlockRuler_turn_9 (by decide) (fun c2 => ?_) (fun c2 => ?_)
  · have h := b_f h c2
    refine lv_aload_n hx hb d_BlockRuler_turn_22 rfl (lv_at hl 0 rfl) ?_
    refine va_get (D := (dC, dI)) (ci := 0) (v := .ref (a 1)) (C := "BlockRuler") (T := F_BlockRuler) (N := 5) hx hb hg i_BlockRuler hown hK hP 0 rfl rfl 0 (by decide) (hg _ wd141) (fun _ h9 => h9) rfl d_BlockRuler_turn_23 ?_
    refine lv_iload_n hx hb d_BlockRuler_turn_26 rfl (lv_at hl 3 rfl) ?_
    refine ro_call (v := .int (f_Web_hasBlock σ v3)) (va_runV (C := "BlockRuler$Web") (As := [.int v3]) (rest := []) ⟨hx, hb, hml, hown, hg⟩ (c_Web_hasBlock l dC dI a cs σ v3 _ rfl) (cwV 1 hg (gdV wd142 wd5 wd4 wd7 wd8) rfl rfl rfl (by decide +kernel) ⟨Nat.le_of_ble_eq_true rfl, Nat.le_of_ble_eq_true rfl⟩) ⟨wb_blind, va_recv hK hP (ci := 1) (q0 := 1) rfl rfl, fun U hU hW => ⟨rfl, wb_pre hU hW hP hK hN⟩⟩ rfl rfl hl.1 rfl (lv_room (Nat.le_of_ble_eq_true rfl)) d_BlockRuler_turn_27 ⟨Nat.zero_le _, Nat.zero_le _⟩) ?_
    refine lv_if_ne (tgt := 43) hx hb d_BlockRuler_turn_30 (by decide) (fun c3 => ?_) (fun c3 => ?_)
    · have h := b_f h c3
      refine lv_aload_n hx hb d_BlockRuler_turn_43 rfl (lv_at hl 0 rfl) ?_
      refine lv_iconst (v := 1) hx hb d_BlockRuler_turn_44 (by decide) ?_
      refine va_put (D := (dC, dI)) (ci := 0) (v := .int 1) (ty := .boolean) (C := "BlockRuler") (T := F_BlockRuler) (N := 5) hx hb hg i_BlockRuler t_BlockRuler t_BlockRuler_ok n_BlockRuler hown hK hP hD hS 0 rfl rfl 4 (by decide) (hg _ wd125) (fun _ h9 => h9) rfl (by decide +kernel) rfl rfl (Nat.le_of_ble_eq_true rfl) d_BlockRuler_turn_45 (fun H locs hP hD hS => ?_)
      have hP := va_Pe (setB_stale a cs σ 1) hP
      have hD := va_De (setB_stale a cs σ 1) hD
      refine lv_aload_n hx hb d_BlockRuler_turn_48 rfl (lv_at hl 0 rfl) ?_
      refine va_get (D := (dC, dI)) (ci := 0) (v := .ref (a 1)) (C := "BlockRuler") (T := F_BlockRuler) (N := 5) hx hb hg i_BlockRuler hown hK hP 0 rfl rfl 0 (by decide) (hg _ wd141) (fun _ h9 => h9) rfl d_BlockRuler_turn_49 ?_
      refine lv_iload_n hx hb d_BlockRuler_turn_52 rfl (lv_at hl 1 rfl) ?_
      refine lv_iload_n hx hb d_BlockRuler_turn_53 rfl (lv_at hl 2 rfl) ?_
      refine lv_iload_n hx hb d_BlockRuler_turn_54 rfl (lv_at hl 3 rfl) ?_
      obtain ⟨r4, hr4, h⟩ := bd h
      have hFc := va_free (wc := wsB a cs (uB_stale σ 1)) hD hS hA [0, 1, 2, 3, 4, 5, 6, 7, 8, 9, 10, 11, 12, 13, 14] (allB a cs (uB_stale σ 1))
      refine va_calli (va_runV (C := "BlockRuler$Web") (As := [.int v1, .int v2, .int v3]) (rest := []) ⟨hx, hb, hml, hown, hg⟩ (c_Web_moveWay l dC dI a cs _ (uB_stale σ 1) v1 v2 v3 _ hr4) (cwV 3 hg (gdV wd164 wd163 wd162 wd7 wd165) rfl rfl rfl (by decide +kernel) ⟨Nat.le_of_ble_eq_true rfl, Nat.le_of_ble_eq_true rfl⟩) ⟨wbz_blind, va_recv hK hP (ci := 1) (q0 := 1) rfl rfl, fun U hU hW => ⟨rfl, by rw [hU], wb_preD hU hW hP hK hN hD⟩⟩ rfl rfl hl.1 rfl (lv_room (Nat.le_of_ble_eq_true rfl)) d_BlockRuler_turn_55 ⟨Nat.zero_le _, Nat.zero_le _⟩) hS (fun q _ h => hFc q h) hFc (fun rv u t H locs ht hvm hw hB hz1 hk1 hS => ?_)
      obtain rfl : r4.1 = rv := (congrArg Prod.fst hw).symm
      obtain rfl : r4.2 = u := (congrArg Prod.snd hw).symm
      have hP : va_P (dC, dI) classes (wsB a cs r4.2) H := by have q := hB.1; rw [ht] at q; exact q
      have hD : va_D A (wsB a cs r4.2) := hB.2.weaken (fun _ _ _ h => hFc _ h)
      cases h
    · have h := b_t h c3
      obtain rfl := th_s h
      exact W.throwNew (cls := cIAE) hx hb hown hlocks hnoh hml htr (by decide) own_IAE hg hT hz hzA (fun U hU => hU.2.2.2.2.1) wt274 wt275 wt276 hP hD hS hl.1 d_BlockRuler_turn_33 d_BlockRuler_turn_36 d_BlockRuler_turn_37 d_BlockRuler_turn_39 d_BlockRuler_turn_42 ⟨Nat.le_of_ble_eq_true rfl, Nat.le_of_ble_eq_true rfl, Nat.le_of_ble_eq_true rfl, Nat.le_of_ble_eq_true rfl⟩
  · have h := b_t h c2
    exact absurd (th_k h) (by decide)
def rm_BlockRuler_turn_IOB : Room := { frames := 6, cells := 1, slots := 6, locals := 82 }
set_option maxHeartbeats 4000000 in
set_option maxRecDepth 100000 in
theorem cT_BlockRuler_turn_IOB (l : Launch) (hfl : l.flags = flags0) (dC : Nat → ClassId) (dI : Nat → Nat → Nat) (a : Nat → Nat) (cs : Nat → ClassId) (z sz : Nat) (hz : z ≤ sz) (hza : ∀ k, k < 15 → z ≤ a k) (σ : SB) (v1 : Int32) (v2 : Int32) (v3 : Int32) (σ' : SB) (h : f_BlockRuler_turn σ v1 v2 v3 = some (Sum.inl 2, σ')) : MetT l y_BlockRuler_turn w_BlockRuler_turn rm_BlockRuler_turn_IOB (va_Pc [.ref (a 0), .int v1, .int v2, .int v3] (fun U => U.heap.size = sz ∧ WDB dC dI a cs σ U ∧ TW z U)) (QT cIOB (dC, dI) classes (wsB a cs σ') (va_A (wsB a cs σ) sz)) 1 6 (va_A (wsB a cs σ) sz) := by
  refine MetT.ofW (cc := b_BlockRuler_turn) (maxL := 4) (ret := (some .int)) (by decide) rfl ?_
  intro p e s m args below meth c s₁ B hml hv
  obtain ⟨rfl, hsz, ⟨hP, hK, hN, hD0⟩, hT⟩ := hv
  have htr := Launch.traces_off hfl B.admits
  have hnoh := B.noHandlers (atoms_spec (ws := w_BlockRuler_turn) B.pre _ List.mem_cons_self)
  have hx := B.exec
  have hb := B.bytes
  have hr := B.returns
  have hg : ∀ w ∈ G_, w.before _ s = true := fun w hw => atoms_spec (ws := w_BlockRuler_turn) B.pre w (List.mem_cons_of_mem _ hw)
  have hown : s.vm.findClass "BlockRuler" = some m.cls := findClass_of_methodNamed B.named
  have hlocks := B.notSynchronized
  have C0 : Cx "BlockRuler" b_BlockRuler_turn 4 p s m _ meth c := ⟨hx, hb, hml, hown, hg, hlocks⟩
  subst hsz
  have hzA := va_A_z (cs := cs) (σ := σ) hz hza
  have hD := hD0.self (sz := s.heap.size)
  generalize hAe : va_A (wsB a cs σ) s.heap.size = A at hD hzA ⊢
  have hA : ∀ q : Nat, s.heap.size ≤ q → A q := fun q h => by rw [← hAe]; exact Or.inr h
  have hS : va_S A s.heap s.heap [] := va_S.rf
  have hl := lv_entry ([.ref (a 0), .int v1, .int v2, .int v3]) (n := 4) (Nat.le_of_ble_eq_true rfl)
  rw [lg_entry_eq]
  generalize (lg_sl ([.ref (a 0), .int v1, .int v2, .int v3]) ++ List.replicate (4 - (lg_sl ([.ref (a 0), .int v1, .int v2, .int v3])).length) Slot.unset).toArray = ls at hl ⊢
  have hl : lv_has ls 4 [(0, .ref (a 0)), (1, .int v1), (2, .int v2), (3, .int v3)] := hl
  unfold f_BlockRuler_turn at h
  refine lv_aload_n hx hb d_BlockRuler_turn_0 rfl (lv_at hl 0 rfl) ?_
  refine va_get (D := (dC, dI)) (ci := 0) (v := .ref (a 1)) (C := "BlockRuler") (T := F_BlockRuler) (N := 5) hx hb hg i_BlockRuler hown hK hP 0 rfl rfl 0 (by decide) (hg _ wd141) (fun _ h9 => h9) rfl d_BlockRuler_turn_1 ?_
  refine lv_iload_n hx hb d_BlockRuler_turn_4 rfl (lv_at hl 1 rfl) ?_
  refine lv_iload_n hx hb d_BlockRuler_turn_5 rfl (lv_at hl 2 rfl) ?_
  obtain ⟨r1, hr1, h⟩ := bd h
  refine ro_call (v := .int r1) (va_runV (C := "BlockRuler$Web") (As := [.int v1, .int v2]) (rest := []) ⟨hx, hb, hml, hown, hg⟩ (c_Web_hasWay l dC dI a cs σ v1 v2 _ hr1) (cwV 2 hg (gdV wd156 wd155 wd154 wd7 wd157) rfl rfl rfl (by decide +kernel) ⟨Nat.le_of_ble_eq_true rfl, Nat.le_of_ble_eq_true rfl⟩) ⟨wb_blind, va_recv hK hP (ci := 1) (q0 := 1) rfl rfl, fun U hU hW => ⟨rfl, wb_pre hU hW hP hK hN⟩⟩ rfl rfl hl.1 rfl (lv_room (Nat.le_of_ble_eq_true rfl)) d_BlockRuler_turn_6 ⟨Nat.zero_le _, Nat.zero_le _⟩) ?_
  refine lv_if_ne (tgt := 22) hx hb d_BlockRuler_turn_9 (by decide) (fun c2 => ?_) (fun c2 => ?_)
  · have h := b_f h c2
    refine lv_aload_n hx hb d_BlockRuler_turn_22 rfl (lv_at hl 0 rfl) ?_
    refine va_get (D := (dC, dI)) (ci := 0) (v := .ref (a 1)) (C := "BlockRuler") (T := F_BlockRuler) (N := 5) hx hb hg i_BlockRuler hown hK hP 0 rfl rfl 0 (by decide) (hg _ wd141) (fun _ h9 => h9) rfl d_BlockRuler_turn_23 ?_
    refine lv_iload_n hx hb d_BlockRuler_turn_26 rfl (lv_at hl 3 rfl) ?_
    refine ro_call (v := .int (f_Web_hasBlock σ v3)) (va_runV (C := "BlockRuler$Web") (As := [.int v3]) (rest := []) ⟨hx, hb, hml, hown, hg⟩ (c_Web_hasBlock l dC dI a cs σ v3 _ rfl) (cwV 1 hg (gdV wd142 wd5 wd4 wd7 wd8) rfl rfl rfl (by decide +kernel) ⟨Nat.le_of_ble_eq_true rfl, Nat.le_of_ble_eq_true rfl⟩) ⟨wb_blind, va_recv hK hP (ci := 1) (q0 := 1) rfl rfl, fun U hU hW => ⟨rfl, wb_pre hU hW hP hK hN⟩⟩ rfl rfl hl.1 rfl (lv_room (Nat.le_of_ble_eq_true rfl)) d_BlockRuler_turn_27 ⟨Nat.zero_le _, Nat.zero_le _⟩) ?_
    refine lv_if_ne (tgt := 43) hx hb d_BlockRuler_turn_30 (by decide) (fun c3 => ?_) (fun c3 => ?_)
    · have h := b_f h c3
      refine lv_aload_n hx hb d_BlockRuler_turn_43 rfl (lv_at hl 0 rfl) ?_
      refine lv_iconst (v := 1) hx hb d_BlockRuler_turn_44 (by decide) ?_
      refine va_put (D := (dC, dI)) (ci := 0) (v := .int 1) (ty := .boolean) (C := "BlockRuler") (T := F_BlockRuler) (N := 5) hx hb hg i_BlockRuler t_BlockRuler t_BlockRuler_ok n_BlockRuler hown hK hP hD hS 0 rfl rfl 4 (by decide) (hg _ wd125) (fun _ h9 => h9) rfl (by decide +kernel) rfl rfl (Nat.le_of_ble_eq_true rfl) d_BlockRuler_turn_45 (fun H locs hP hD hS => ?_)
      have hP := va_Pe (setB_stale a cs σ 1) hP
      have hD := va_De (setB_stale a cs σ 1) hD
      refine lv_aload_n hx hb d_BlockRuler_turn_48 rfl (lv_at hl 0 rfl) ?_
      refine va_get (D := (dC, dI)) (ci := 0) (v := .ref (a 1)) (C := "BlockRuler") (T := F_BlockRuler) (N := 5) hx hb hg i_BlockRuler hown hK hP 0 rfl rfl 0 (by decide) (hg _ wd141) (fun _ h9 => h9) rfl d_BlockRuler_turn_49 ?_
      refine lv_iload_n hx hb d_BlockRuler_turn_52 rfl (lv_at hl 1 rfl) ?_
      refine lv_iload_n hx hb d_BlockRuler_turn_53 rfl (lv_at hl 2 rfl) ?_
      refine lv_iload_n hx hb d_BlockRuler_turn_54 rfl (lv_at hl 3 rfl) ?_
      obtain ⟨r4, hr4, h⟩ := bd h
      have hFc := va_free (wc := wsB a cs (uB_stale σ 1)) hD hS hA [0, 1, 2, 3, 4, 5, 6, 7, 8, 9, 10, 11, 12, 13, 14] (allB a cs (uB_stale σ 1))
      refine va_calli (va_runV (C := "BlockRuler$Web") (As := [.int v1, .int v2, .int v3]) (rest := []) ⟨hx, hb, hml, hown, hg⟩ (c_Web_moveWay l dC dI a cs _ (uB_stale σ 1) v1 v2 v3 _ hr4) (cwV 3 hg (gdV wd164 wd163 wd162 wd7 wd165) rfl rfl rfl (by decide +kernel) ⟨Nat.le_of_ble_eq_true rfl, Nat.le_of_ble_eq_true rfl⟩) ⟨wbz_blind, va_recv hK hP (ci := 1) (q0 := 1) rfl rfl, fun U hU hW => ⟨rfl, by rw [hU], wb_preD hU hW hP hK hN hD⟩⟩ rfl rfl hl.1 rfl (lv_room (Nat.le_of_ble_eq_true rfl)) d_BlockRuler_turn_55 ⟨Nat.zero_le _, Nat.zero_le _⟩) hS (fun q _ h => hFc q h) hFc (fun rv u t H locs ht hvm hw hB hz1 hk1 hS => ?_)
      obtain rfl : r4.1 = rv := (congrArg Prod.fst hw).symm
      obtain rfl : r4.2 = u := (congrArg Prod.snd hw).symm
      have hP : va_P (dC, dI) classes (wsB a cs r4.2) H := by have q := hB.1; rw [ht] at q; exact q
      have hD : va_D A (wsB a cs r4.2) := hB.2.weaken (fun _ _ _ h => hFc _ h)
      cases h
    · have h := b_t h c3
      exact absurd (th_k h) (by decide)
  · have h := b_t h c2
    obtain rfl := th_s h
    exact W.throwNew (cls := cIOB) hx hb hown hlocks hnoh hml htr (by decide) own_IOB hg hT hz hzA (fun U hU => hU.2.2.2.2.2.2.1) wt277 wt278 wt279 hP hD hS hl.1 d_BlockRuler_turn_12 d_BlockRuler_turn_15 d_BlockRuler_turn_16 d_BlockRuler_turn_18 d_BlockRuler_turn_21 ⟨Nat.le_of_ble_eq_true rfl, Nat.le_of_ble_eq_true rfl, Nat.le_of_ble_eq_true rfl, Nat.le_of_ble_eq_true rfl⟩
def rm_BlockRuler_common_IAE : Room := { frames := 6, cells := 1, slots := 6, locals := 137 }
set_option maxHeartbeats 4000000 in
set_option maxRecDepth 100000 in
theorem cT_BlockRuler_common_IAE (l : Launch) (hfl : l.flags = flags0) (dC : Nat → ClassId) (dI : Nat → Nat → Nat) (a : Nat → Nat) (cs : Nat → ClassId) (z sz : Nat) (hz : z ≤ sz) (hza : ∀ k, k < 15 → z ≤ a k) (σ : SB) (v1 : Int32) (v2 : Int32) (σ' : SB) (h : f_BlockRuler_common σ v1 v2 = some (Sum.inl 1, σ')) : MetT l y_BlockRuler_common w_BlockRuler_common rm_BlockRuler_common_IAE (va_Pc [.ref (a 0), .int v1, .int v2] (fun U => U.heap.size = sz ∧ WDB dC dI a cs σ U ∧ TW z U)) (QT cIAE (dC, dI) classes (wsB a cs σ') (va_A (wsB a cs σ) sz)) 1 6 (va_A (wsB a cs σ) sz) := by
  refine MetT.ofW (cc := b_BlockRuler_common) (maxL := 3) (ret := (some .int)) (by decide) rfl ?_
  intro p e s m args below meth c s₁ B hml hv
  obtain ⟨rfl, hsz, ⟨hP, hK, hN, hD0⟩, hT⟩ := hv
  have htr := Launch.traces_off hfl B.admits
  have hnoh := B.noHandlers (atoms_spec (ws := w_BlockRuler_common) B.pre _ List.mem_cons_self)
  have hx := B.exec
  have hb := B.bytes
  have hr := B.returns
  have hg : ∀ w ∈ G_, w.before _ s = true := fun w hw => atoms_spec (ws := w_BlockRuler_common) B.pre w (List.mem_cons_of_mem _ hw)
  have hown : s.vm.findClass "BlockRuler" = some m.cls := findClass_of_methodNamed B.named
  have hlocks := B.notSynchronized
  have C0 : Cx "BlockRuler" b_BlockRuler_common 3 p s m _ meth c := ⟨hx, hb, hml, hown, hg, hlocks⟩
  subst hsz
  have hzA := va_A_z (cs := cs) (σ := σ) hz hza
  have hD := hD0.self (sz := s.heap.size)
  generalize hAe : va_A (wsB a cs σ) s.heap.size = A at hD hzA ⊢
  have hA : ∀ q : Nat, s.heap.size ≤ q → A q := fun q h => by rw [← hAe]; exact Or.inr h
  have hS : va_S A s.heap s.heap [] := va_S.rf
  have hl := lv_entry ([.ref (a 0), .int v1, .int v2]) (n := 3) (Nat.le_of_ble_eq_true rfl)
  rw [lg_entry_eq]
  generalize (lg_sl ([.ref (a 0), .int v1, .int v2]) ++ List.replicate (3 - (lg_sl ([.ref (a 0), .int v1, .int v2])).length) Slot.unset).toArray = ls at hl ⊢
  have hl : lv_has ls 3 [(0, .ref (a 0)), (1, .int v1), (2, .int v2)] := hl
  unfold f_BlockRuler_common at h
  refine lv_aload_n hx hb d_BlockRuler_common_0 rfl (lv_at hl 0 rfl) ?_
  obtain ⟨r1, hr1, h⟩ := bd h
  have hFc := va_free (wc := wsB a cs σ) hD hS hA [0, 1, 2, 3, 4, 5, 6, 7, 8, 9, 10, 11, 12, 13, 14] (allB a cs σ)
  refine va_callv (va_runV (C := "BlockRuler") (As := []) (rest := []) ⟨hx, hb, hml, hown, hg⟩ (c_BlockRuler_refresh l dC dI a cs _ σ _ hr1) (cwV 0 hg (gdV wd168 wd167 wd166 wd22 wd169) rfl rfl rfl (by decide +kernel) ⟨Nat.le_of_ble_eq_true rfl, Nat.le_of_ble_eq_true rfl⟩) ⟨wbz_blind, va_recv hK hP (ci := 0) (q0 := 0) rfl rfl, fun U hU hW => ⟨rfl, by rw [hU], wb_preD hU hW hP hK hN hD⟩⟩ rfl rfl hl.1 rfl (lv_room (Nat.le_of_ble_eq_true rfl)) d_BlockRuler_common_1 ⟨Nat.zero_le _, Nat.zero_le _⟩) hS (fun q _ h => hFc q h) hFc (fun u t H locs ht hvm hw hB hz1 hk1 hS => ?_)
  obtain rfl : r1 = u := hw.symm
  have hP : va_P (dC, dI) classes (wsB a cs r1) H := by have q := hB.1; rw [ht] at q; exact q
  have hD : va_D A (wsB a cs r1) := hB.2.weaken (fun _ _ _ h => hFc _ h)
  refine lv_aload_n hx hb d_BlockRuler_common_4 rfl (lv_at hl 0 rfl) ?_
  refine lv_iload_n hx hb d_BlockRuler_common_5 rfl (lv_at hl 1 rfl) ?_
  obtain ⟨r2, hr2, h⟩ := bd h
  refine ro_call (v := .int r2) (va_runV (C := "BlockRuler") (As := [.int v1]) (rest := []) ⟨hx, hb, hml, hown, hg⟩ (c_BlockRuler_isReached l dC dI a cs r1 v1 _ hr2) (cwV 1 hg (gdV wd172 wd171 wd170 wd22 wd173) rfl rfl rfl (by decide +kernel) ⟨Nat.le_of_ble_eq_true rfl, Nat.le_of_ble_eq_true rfl⟩) ⟨wb_blind, va_recv hK hP (ci := 0) (q0 := 0) rfl rfl, fun U hU hW => ⟨rfl, wb_pre hU hW hP hK hN⟩⟩ rfl rfl hl.1 rfl (lv_room (Nat.le_of_ble_eq_true rfl)) d_BlockRuler_common_6 ⟨Nat.zero_le _, Nat.zero_le _⟩) ?_
  refine lv_if_eq (tgt := 20) hx hb d_BlockRuler_common_9 (by decide) (fun c3 => ?_) (fun c3 => ?_)
  · have h := b_t h c3
    obtain rfl := th_s h
    exact W.throwNew (cls := cIAE) hx hb hown hlocks hnoh hml htr (by decide) own_IAE hg hT hz hzA (fun U hU => hU.2.2.2.2.2.2.2) wt274 wt275 wt276 hP hD hS hl.1 d_BlockRuler_common_20 d_BlockRuler_common_23 d_BlockRuler_common_24 d_BlockRuler_common_26 d_BlockRuler_common_29 ⟨Nat.le_of_ble_eq_true rfl, Nat.le_of_ble_eq_true rfl, Nat.le_of_ble_eq_true rfl, Nat.le_of_ble_eq_true rfl⟩
  · have h := b_f h c3
    refine lv_aload_n hx hb d_BlockRuler_common_12 rfl (lv_at hl 0 rfl) ?_
    refine lv_iload_n hx hb d_BlockRuler_common_13 rfl (lv_at hl 2 rfl) ?_
    obtain ⟨r4, hr4, h⟩ := bd h
    refine ro_call (v := .int r4) (va_runV (C := "BlockRuler") (As := [.int v2]) (rest := []) ⟨hx, hb, hml, hown, hg⟩ (c_BlockRuler_isReached l dC dI a cs r1 v2 _ hr4) (cwV 1 hg (gdV wd172 wd171 wd170 wd22 wd173) rfl rfl rfl (by decide +kernel) ⟨Nat.le_of_ble_eq_true rfl, Nat.le_of_ble_eq_true rfl⟩) ⟨wb_blind, va_recv hK hP (ci := 0) (q0 := 0) rfl rfl, fun U hU hW => ⟨rfl, wb_pre hU hW hP hK hN⟩⟩ rfl rfl hl.1 rfl (lv_room (Nat.le_of_ble_eq_true rfl)) d_BlockRuler_common_14 ⟨Nat.zero_le _, Nat.zero_le _⟩) ?_
    refine lv_if_ne (tgt := 30) hx hb d_BlockRuler_common_17 (by decide) (fun c5 => ?_) (fun c5 => ?_)
    · have h := b_f h c5
      refine lv_aload_n hx hb d_BlockRuler_common_30 rfl (lv_at hl 0 rfl) ?_
      refine va_get (D := (dC, dI)) (ci := 0) (v := .ref (a 2)) (C := "BlockRuler") (T := F_BlockRuler) (N := 5) hx hb hg i_BlockRuler hown hK hP 0 rfl rfl 1 (by decide) (hg _ wd126) (fun _ h9 => h9) rfl d_BlockRuler_common_31 ?_
      refine lv_aload_n hx hb d_BlockRuler_common_34 rfl (lv_at hl 0 rfl) ?_
      refine va_get (D := (dC, dI)) (ci := 0) (v := .ref (a 3)) (C := "BlockRuler") (T := F_BlockRuler) (N := 5) hx hb hg i_BlockRuler hown hK hP 0 rfl rfl 2 (by decide) (hg _ wd131) (fun _ h9 => h9) rfl d_BlockRuler_common_35 ?_
      refine va_get (D := (dC, dI)) (ci := 3) (v := .ref (a 13)) (C := "BlockRuler$Rulers") (T := F_Rulers) (N := 2) hx hb hg i_Rulers hown hK hP 3 rfl rfl 1 (by decide) (hg _ wd174) (fun _ h9 => h9) rfl d_BlockRuler_common_38 ?_
      refine lv_iload_n hx hb d_BlockRuler_common_41 rfl (lv_at hl 1 rfl) ?_
      obtain ⟨hi6, h⟩ := gd h
      refine va_lald (f := sB_rof r1) (n := 64) hx hb hK hP 13 8 rfl rfl hi6 d_BlockRuler_common_42 ?_
      refine lv_aload_n hx hb d_BlockRuler_common_43 rfl (lv_at hl 0 rfl) ?_
      refine va_get (D := (dC, dI)) (ci := 0) (v := .ref (a 3)) (C := "BlockRuler") (T := F_BlockRuler) (N := 5) hx hb hg i_BlockRuler hown hK hP 0 rfl rfl 2 (by decide) (hg _ wd131) (fun _ h9 => h9) rfl d_BlockRuler_common_44 ?_
      refine va_get (D := (dC, dI)) (ci := 3) (v := .ref (a 13)) (C := "BlockRuler$Rulers") (T := F_Rulers) (N := 2) hx hb hg i_Rulers hown hK hP 3 rfl rfl 1 (by decide) (hg _ wd174) (fun _ h9 => h9) rfl d_BlockRuler_common_47 ?_
      refine lv_iload_n hx hb d_BlockRuler_common_50 rfl (lv_at hl 2 rfl) ?_
      obtain ⟨hi7, h⟩ := gd h
      refine va_lald (f := sB_rof r1) (n := 64) hx hb hK hP 13 8 rfl rfl hi7 d_BlockRuler_common_51 ?_
      refine lv_land hx hb d_BlockRuler_common_52 ?_
      obtain ⟨r8, hr8, h⟩ := bd h
      refine ro_call (v := .int r8) (va_runV (C := "BlockRuler$Walk") (As := [.long ((sB_rof r1 (Int32.toNatClampNeg v1)) &&& (sB_rof r1 (Int32.toNatClampNeg v2)))]) (rest := []) ⟨hx, hb, hml, hown, hg⟩ (c_Walk_lastOf l dC dI a cs r1 ((sB_rof r1 (Int32.toNatClampNeg v1)) &&& (sB_rof r1 (Int32.toNatClampNeg v2))) _ hr8) (cwV 1 hg (gdV wd177 wd176 wd175 wd45 wd178) rfl rfl rfl (by decide +kernel) ⟨Nat.le_of_ble_eq_true rfl, Nat.le_of_ble_eq_true rfl⟩) ⟨wb_blind, va_recv hK hP (ci := 2) (q0 := 2) rfl rfl, fun U hU hW => ⟨rfl, wb_pre hU hW hP hK hN⟩⟩ rfl rfl hl.1 rfl (lv_room (Nat.le_of_ble_eq_true rfl)) d_BlockRuler_common_53 ⟨Nat.zero_le _, Nat.zero_le _⟩) ?_
      cases h
    · have h := b_t h c5
      obtain rfl := th_s h
      exact W.throwNew (cls := cIAE) hx hb hown hlocks hnoh hml htr (by decide) own_IAE hg hT hz hzA (fun U hU => hU.2.2.2.2.2.2.2) wt274 wt275 wt276 hP hD hS hl.1 d_BlockRuler_common_20 d_BlockRuler_common_23 d_BlockRuler_common_24 d_BlockRuler_common_26 d_BlockRuler_common_29 ⟨Nat.le_of_ble_eq_true rfl, Nat.le_of_ble_eq_true rfl, Nat.le_of_ble_eq_true rfl, Nat.le_of_ble_eq_true rfl⟩
