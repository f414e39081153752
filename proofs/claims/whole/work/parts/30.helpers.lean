-- written by wip/gen (blockruler.py)
theorem vin01 : vp_in 0 1 := by
  unfold vp_in
  decide
theorem wh280 : Cond.methodLink "BlockRulerLaw" 7 y_BlockRuler_block ∈ G_ := g_in (by decide +kernel) (by decide +kernel)
theorem wh281 : Cond.instanceMethod y_BlockRuler_block ∈ G_ := g_in (by decide +kernel) (by decide +kernel)
theorem wh282 : Cond.selects "BlockRuler" y_BlockRuler_block y_BlockRuler_block ∈ G_ := g_in (by decide +kernel) (by decide +kernel)
theorem wh283 : Cond.code y_BlockRuler_block b_BlockRuler_block 1 (some .int) ∈ G_ := g_in (by decide +kernel) (by decide +kernel)
theorem wh284 : Cond.classLink "BlockRulerLaw" 13 "java/lang/IllegalStateException" ∈ G_ := g_in (by decide +kernel) (by decide +kernel)
theorem wh285 : Cond.methodLink "BlockRulerLaw" 15 y_BlockRuler_way ∈ G_ := g_in (by decide +kernel) (by decide +kernel)
theorem wh286 : Cond.instanceMethod y_BlockRuler_way ∈ G_ := g_in (by decide +kernel) (by decide +kernel)
theorem wh287 : Cond.selects "BlockRuler" y_BlockRuler_way y_BlockRuler_way ∈ G_ := g_in (by decide +kernel) (by decide +kernel)
theorem wh288 : Cond.code y_BlockRuler_way b_BlockRuler_way 3 (some .int) ∈ G_ := g_in (by decide +kernel) (by decide +kernel)
theorem wh289 : Cond.classLink "BlockRulerLaw" 19 "java/lang/IllegalArgumentException" ∈ G_ := g_in (by decide +kernel) (by decide +kernel)
theorem wh290 : Cond.methodLink "BlockRulerLaw" 21 y_BlockRuler_cut ∈ G_ := g_in (by decide +kernel) (by decide +kernel)
theorem wh291 : Cond.instanceMethod y_BlockRuler_cut ∈ G_ := g_in (by decide +kernel) (by decide +kernel)
theorem wh292 : Cond.selects "BlockRuler" y_BlockRuler_cut y_BlockRuler_cut ∈ G_ := g_in (by decide +kernel) (by decide +kernel)
theorem wh293 : Cond.code y_BlockRuler_cut b_BlockRuler_cut 3 (some .int) ∈ G_ := g_in (by decide +kernel) (by decide +kernel)
theorem wh294 : Cond.classLink "BlockRulerLaw" 24 "java/lang/IndexOutOfBoundsException" ∈ G_ := g_in (by decide +kernel) (by decide +kernel)
theorem wh295 : Cond.methodLink "BlockRulerLaw" 26 y_BlockRuler_turn ∈ G_ := g_in (by decide +kernel) (by decide +kernel)
theorem wh296 : Cond.instanceMethod y_BlockRuler_turn ∈ G_ := g_in (by decide +kernel) (by decide +kernel)
theorem wh297 : Cond.selects "BlockRuler" y_BlockRuler_turn y_BlockRuler_turn ∈ G_ := g_in (by decide +kernel) (by decide +kernel)
theorem wh298 : Cond.code y_BlockRuler_turn b_BlockRuler_turn 4 (some .int) ∈ G_ := g_in (by decide +kernel) (by decide +kernel)
theorem wh299 : Cond.methodLink "BlockRulerLaw" 30 y_BlockRuler_common ∈ G_ := g_in (by decide +kernel) (by decide +kernel)
theorem wh300 : Cond.instanceMethod y_BlockRuler_common ∈ G_ := g_in (by decide +kernel) (by decide +kernel)
theorem wh301 : Cond.selects "BlockRuler" y_BlockRuler_common y_BlockRuler_common ∈ G_ := g_in (by decide +kernel) (by decide +kernel)
theorem wh302 : Cond.code y_BlockRuler_common b_BlockRuler_common 3 (some .int) ∈ G_ := g_in (by decide +kernel) (by decide +kernel)
theorem d_Law_block_0 : decode b_Law_block 0 = .ok (.aload_n 1, 1) := by decide +kernel
theorem d_Law_block_1 : decode b_Law_block 1 = .ok (.iconst 0, 1) := by decide +kernel
theorem d_Law_block_2 : decode b_Law_block 2 = .ok (.aload_n 0, 1) := by decide +kernel
theorem d_Law_block_3 : decode b_Law_block 3 = .ok (.invokevirtual 7, 3) := by decide +kernel
theorem d_Law_block_6 : decode b_Law_block 6 = .ok (.i2l, 1) := by decide +kernel
theorem d_Law_block_7 : decode b_Law_block 7 = .ok (.lastore, 1) := by decide +kernel
theorem d_Law_block_8 : decode b_Law_block 8 = .ok (.goto 6, 3) := by decide +kernel
theorem d_Law_block_11 : decode b_Law_block 11 = .ok (.astore_n 2, 1) := by decide +kernel
theorem d_Law_block_12 : decode b_Law_block 12 = .ok (.iconst 1, 1) := by decide +kernel
theorem d_Law_block_13 : decode b_Law_block 13 = .ok (.ireturn, 1) := by decide +kernel
theorem d_Law_block_14 : decode b_Law_block 14 = .ok (.iconst 0, 1) := by decide +kernel
theorem d_Law_block_15 : decode b_Law_block 15 = .ok (.ireturn, 1) := by decide +kernel
abbrev w_Law_block : List Cond := Cond.codeWith y_Law_block b_Law_block 3 (some .int) [(0, 8, 11, 13)] :: G_
def rmH_block_ret : Room := { frames := 2, cells := 0, slots := 0, locals := 41 }
set_option maxHeartbeats 4000000 in
set_option maxRecDepth 100000 in
theorem cH_block_ret (l : Launch) (hfl : l.flags = flags0) (dC : Nat → ClassId) (dI : Nat → Nat → Nat) (a : Nat → Nat) (cs : Nat → ClassId) (z sz : Nat) (hz : z ≤ sz) (hza : ∀ k, k < 15 → z ≤ a k) (o : Nat) (cO : ClassId) (f : Nat → Int64) (hne : ∀ k, k < 15 → a k ≠ o) (σ : SB) (r : Int32 × SB) (h : f_BlockRuler_block σ = some (Sum.inr r.1, r.2)) : Met l y_Law_block w_Law_block rmH_block_ret (va_Pc [.ref (a 0), .ref o] (fun U => U.heap.size = sz ∧ WH dC dI a cs z σ o cO f U)) (va_Qi (fun (x : Int32) (u : SB × (Nat → Int64)) => x = 0 ∧ u = (r.2, vp_updL f 0 (Int32.toInt64 r.1))) (atH dC dI a cs o cO (AH a cs σ o sz)) (AH a cs σ o sz)) 0 0 (AH a cs σ o sz) := by
  refine Met.ofWW (cc := b_Law_block) (maxL := 3) (ret := (some .int)) (hs := [(0, 8, 11, 13)]) (by decide) rfl ?_
  intro p e s m args below meth c s₁ B hml htab hv
  obtain ⟨rfl, hsz, ⟨hP, hK, hN, hD0⟩, hT, hXC, hPo, hKo⟩ := hv
  have hx := B.exec
  have hb := B.bytes
  have hr := B.returns
  have hg : ∀ w ∈ G_, w.before _ s = true := fun w hw => atoms_spec (ws := w_Law_block) B.pre w (List.mem_cons_of_mem _ hw)
  have hown : s.vm.findClass "BlockRulerLaw" = some m.cls := findClass_of_methodNamed B.named
  have hlocks := B.notSynchronized
  subst hsz
  have hol : o < s.heap.size := (hPo 0 _ rfl).lt
  have hsub : ∀ q, va_A (wsB a cs σ) s.heap.size q → AH a cs σ o s.heap.size q := fun q h => Or.inl h
  have hAo : AH a cs σ o s.heap.size o := Or.inr rfl
  have hD : va_D (AH a cs σ o s.heap.size) (wsB a cs σ) := (hD0.self (sz := s.heap.size)).weaken (fun _ _ _ h => hsub _ h)
  have hA : ∀ q : Nat, s.heap.size ≤ q → AH a cs σ o s.heap.size q := fun q h => Or.inl (Or.inr h)
  generalize hAe : AH a cs σ o s.heap.size = A at hsub hAo hD hA ⊢
  have hS : va_S A s.heap s.heap [] := va_S.rf
  have hl := lv_entry ([.ref (a 0), .ref o]) (n := 3) (Nat.le_of_ble_eq_true rfl)
  rw [lg_entry_eq]
  generalize (lg_sl ([.ref (a 0), .ref o]) ++ List.replicate (3 - (lg_sl ([.ref (a 0), .ref o])).length) Slot.unset).toArray = ls at hl ⊢
  have hl : lv_has ls 3 [(0, .ref (a 0)), (1, .ref o)] := hl
  refine lv_aload_n hx hb d_Law_block_0 rfl (lv_at hl 1 rfl) ?_
  refine lv_iconst (v := 0) hx hb d_Law_block_1 (by decide) ?_
  refine lv_aload_n hx hb d_Law_block_2 rfl (lv_at hl 0 rfl) ?_
  refine va_calli (va_runV (C := "BlockRuler") (As := []) (rest := [.int 0, .ref o]) ⟨hx, hb, hml, hown, hg⟩ (c_BlockRuler_block l dC dI a cs _ σ  r h) (cwV 0 hg (gdV wh280 wh281 wh282 wd22 wh283) rfl rfl rfl (by decide +kernel) ⟨Nat.le_of_ble_eq_true rfl, Nat.le_of_ble_eq_true rfl⟩) ⟨wbz_blind, va_recv hK hP (ci := 0) (q0 := 0) rfl rfl, fun U hU hW => ⟨rfl, by rw [hU], wb_preD hU hW hP hK hN hD0⟩⟩ rfl rfl hl.1 rfl (lv_room (Nat.le_of_ble_eq_true rfl)) d_Law_block_3 ⟨Nat.zero_le _, Nat.zero_le _⟩) hS (fun q _ h => hsub q h) hsub (fun rv u t H locs ht hvm hw hB hz1 hk1 hS => ?_)
  obtain rfl : r.1 = rv := (congrArg Prod.fst hw).symm
  obtain rfl : r.2 = u := (congrArg Prod.snd hw).symm
  have hP : va_P (dC, dI) classes (wsB a cs r.2) H := by have q := hB.1; rw [ht] at q; exact q
  have hD : va_D A (wsB a cs r.2) := hB.2.weaken (fun _ _ _ h => hsub _ h)
  have hPo : va_P (dC, dI) classes [oc o cO f] H := hPo.kept (fun k q hk => by
    match k, hk with
    | 0, hk => cases hk; exact hk1 o hol (off_B hol hne))
  have hPa := vP_cons hPo hP
  have hDa := vD_cons (x := .inl (cO, 1, .inr (.inl f))) hAo hD hne
  refine lv_i2l (v := Int32.toInt64 r.1) hx hb d_Law_block_6 rfl ?_
  refine va_last (f := f) (n := 1) hx hb hKo hPa hDa hS 0 0 rfl rfl vin01 d_Law_block_7 (fun H locs hPa hDa hS => ?_)
  have hPa : va_P (dC, dI) classes (oc o cO (vp_updL f 0 (Int32.toInt64 r.1)) :: wsB a cs r.2) H := hPa
  refine lv_goto (tgt := 14) hx hb d_Law_block_8 (by decide) ?_
  refine lv_iconst (v := 0) hx hb d_Law_block_14 (by decide) ?_
  exact W.iret (v := 0) hx hb hr (fun t ht hW => ⟨⟨0, (r.2, vp_updL f 0 (Int32.toInt64 r.1)), rfl, ⟨rfl, rfl⟩, by rw [ht]; exact vP_tail hPa, hD, by rw [ht]; exact vP_head hPa⟩, hS.F ht⟩) hS.2.2 d_Law_block_15
def rmH_block_ISE : Room := { frames := 7, cells := 1, slots := 6, locals := 102 }
set_option maxHeartbeats 4000000 in
set_option maxRecDepth 100000 in
theorem cH_block_ISE (l : Launch) (hfl : l.flags = flags0) (dC : Nat → ClassId) (dI : Nat → Nat → Nat) (a : Nat → Nat) (cs : Nat → ClassId) (z sz : Nat) (hz : z ≤ sz) (hza : ∀ k, k < 15 → z ≤ a k) (o : Nat) (cO : ClassId) (f : Nat → Int64) (hne : ∀ k, k < 15 → a k ≠ o) (σ : SB) (σ' : SB) (h : f_BlockRuler_block σ = some (Sum.inl 0, σ')) : Met l y_Law_block w_Law_block rmH_block_ISE (va_Pc [.ref (a 0), .ref o] (fun U => U.heap.size = sz ∧ WH dC dI a cs z σ o cO f U)) (va_Qi (fun (x : Int32) (u : SB × (Nat → Int64)) => x = 1 ∧ u = (σ', f)) (atH dC dI a cs o cO (AH a cs σ o sz)) (AH a cs σ o sz)) 1 6 (AH a cs σ o sz) := by
  refine Met.ofWW (cc := b_Law_block) (maxL := 3) (ret := (some .int)) (hs := [(0, 8, 11, 13)]) (by decide) rfl ?_
  intro p e s m args below meth c s₁ B hml htab hv
  obtain ⟨rfl, hsz, ⟨hP, hK, hN, hD0⟩, hT, hXC, hPo, hKo⟩ := hv
  have hx := B.exec
  have hb := B.bytes
  have hr := B.returns
  have hg : ∀ w ∈ G_, w.before _ s = true := fun w hw => atoms_spec (ws := w_Law_block) B.pre w (List.mem_cons_of_mem _ hw)
  have hown : s.vm.findClass "BlockRulerLaw" = some m.cls := findClass_of_methodNamed B.named
  have hlocks := B.notSynchronized
  subst hsz
  have hol : o < s.heap.size := (hPo 0 _ rfl).lt
  have hsub : ∀ q, va_A (wsB a cs σ) s.heap.size q → AH a cs σ o s.heap.size q := fun q h => Or.inl h
  have hAo : AH a cs σ o s.heap.size o := Or.inr rfl
  have hD : va_D (AH a cs σ o s.heap.size) (wsB a cs σ) := (hD0.self (sz := s.heap.size)).weaken (fun _ _ _ h => hsub _ h)
  have hA : ∀ q : Nat, s.heap.size ≤ q → AH a cs σ o s.heap.size q := fun q h => Or.inl (Or.inr h)
  generalize hAe : AH a cs σ o s.heap.size = A at hsub hAo hD hA ⊢
  have hS : va_S A s.heap s.heap [] := va_S.rf
  have hl := lv_entry ([.ref (a 0), .ref o]) (n := 3) (Nat.le_of_ble_eq_true rfl)
  rw [lg_entry_eq]
  generalize (lg_sl ([.ref (a 0), .ref o]) ++ List.replicate (3 - (lg_sl ([.ref (a 0), .ref o])).length) Slot.unset).toArray = ls at hl ⊢
  have hl : lv_has ls 3 [(0, .ref (a 0)), (1, .ref o)] := hl
  refine lv_aload_n hx hb d_Law_block_0 rfl (lv_at hl 1 rfl) ?_
  refine lv_iconst (v := 0) hx hb d_Law_block_1 (by decide) ?_
  refine lv_aload_n hx hb d_Law_block_2 rfl (lv_at hl 0 rfl) ?_
  refine W.callC (h2 := 11) (As := []) (rest := [.int 0, .ref o]) hx hb hml hown (cT_BlockRuler_block_ISE l hfl dC dI a cs z _ hz hza σ  σ' h) (cwV 0 hg (gdV wh280 wh281 wh282 wd22 wh283) rfl rfl rfl (by decide +kernel) ⟨Nat.le_of_ble_eq_true rfl, Nat.le_of_ble_eq_true rfl⟩) ⟨wt_blind, va_recv hK hP (ci := 0) (q0 := 0) rfl rfl, fun U hU hW => ⟨rfl, by rw [hU], wb_preD hU hW hP hK hN hD0, hT.warm hW (fun q _ => by rw [hU])⟩⟩ rfl hl.1 rfl (Nat.le_of_ble_eq_true rfl) d_Law_block_3 ⟨Nat.le_of_ble_eq_true rfl, Nat.le_of_ble_eq_true rfl⟩ hS hsub (fun T' x cell L X' q1 q2 q3 => st_caught1 X' (cls := cISE) (clsX := cISE) hown htab (hg _ wh284) (by decide) q1 q2 q3 (va_Nw.use rfl (hT.1 _ (by decide))) (g := F0 m 3 ls [.int 0, .ref o]) rfl (Nat.le_of_ble_eq_true rfl) (Nat.le_of_ble_eq_true rfl)) (fun x H locs hP1 hD1 hz1 hk1 hS => ?_)
  have hPo : va_P (dC, dI) classes [oc o cO f] H := hPo.kept (fun k q hk => by
    match k, hk with
    | 0, hk => cases hk; exact hk1 o hol (off_B hol hne))
  have hD : va_D A (wsB a cs σ') := hD1.weaken (fun _ _ _ h => hsub _ h)
  refine lv_astore_n (lv' := [(2, .ref x), (0, .ref (a 0)), (1, .ref o)]) hx hb d_Law_block_11 rfl hl (by decide) rfl (fun ls hl => ?_)
  refine lv_iconst (v := 1) hx hb d_Law_block_12 (by decide) ?_
  exact W.iret (v := 1) hx hb hr (fun t ht hW => ⟨⟨1, (σ', f), rfl, ⟨rfl, rfl⟩, by rw [ht]; exact hP1, hD, by rw [ht]; exact hPo⟩, hS.F ht⟩) hS.2.2 d_Law_block_13
theorem d_Law_way_0 : decode b_Law_way 0 = .ok (.aload_n 3, 1) := by decide +kernel
theorem d_Law_way_1 : decode b_Law_way 1 = .ok (.iconst 0, 1) := by decide +kernel
theorem d_Law_way_2 : decode b_Law_way 2 = .ok (.aload_n 0, 1) := by decide +kernel
theorem d_Law_way_3 : decode b_Law_way 3 = .ok (.iload_n 1, 1) := by decide +kernel
theorem d_Law_way_4 : decode b_Law_way 4 = .ok (.iload_n 2, 1) := by decide +kernel
theorem d_Law_way_5 : decode b_Law_way 5 = .ok (.invokevirtual 15, 3) := by decide +kernel
theorem d_Law_way_8 : decode b_Law_way 8 = .ok (.i2l, 1) := by decide +kernel
theorem d_Law_way_9 : decode b_Law_way 9 = .ok (.lastore, 1) := by decide +kernel
theorem d_Law_way_10 : decode b_Law_way 10 = .ok (.goto 11, 3) := by decide +kernel
theorem d_Law_way_13 : decode b_Law_way 13 = .ok (.astore 4, 2) := by decide +kernel
theorem d_Law_way_15 : decode b_Law_way 15 = .ok (.iconst 1, 1) := by decide +kernel
theorem d_Law_way_16 : decode b_Law_way 16 = .ok (.ireturn, 1) := by decide +kernel
theorem d_Law_way_17 : decode b_Law_way 17 = .ok (.astore 4, 2) := by decide +kernel
theorem d_Law_way_19 : decode b_Law_way 19 = .ok (.iconst 2, 1) := by decide +kernel
theorem d_Law_way_20 : decode b_Law_way 20 = .ok (.ireturn, 1) := by decide +kernel
theorem d_Law_way_21 : decode b_Law_way 21 = .ok (.iconst 0, 1) := by decide +kernel
theorem d_Law_way_22 : decode b_Law_way 22 = .ok (.ireturn, 1) := by decide +kernel
abbrev w_Law_way : List Cond := Cond.codeWith y_Law_way b_Law_way 5 (some .int) [(0, 10, 13, 19), (0, 10, 17, 13)] :: G_
def rmH_way_ret : Room := { frames := 2, cells := 0, slots := 0, locals := 45 }
set_option maxHeartbeats 4000000 in
set_option maxRecDepth 100000 in
theorem cH_way_ret (l : Launch) (hfl : l.flags = flags0) (dC : Nat → ClassId) (dI : Nat → Nat → Nat) (a : Nat → Nat) (cs : Nat → ClassId) (z sz : Nat) (hz : z ≤ sz) (hza : ∀ k, k < 15 → z ≤ a k) (o : Nat) (cO : ClassId) (f : Nat → Int64) (hne : ∀ k, k < 15 → a k ≠ o) (σ : SB) (v1 v2 : Int32) (r : Int32 × SB) (h : f_BlockRuler_way σ v1 v2 = some (Sum.inr r.1, r.2)) : Met l y_Law_way w_Law_way rmH_way_ret (va_Pc [.ref (a 0), .int v1, .int v2, .ref o] (fun U => U.heap.size = sz ∧ WH dC dI a cs z σ o cO f U)) (va_Qi (fun (x : Int32) (u : SB × (Nat → Int64)) => x = 0 ∧ u = (r.2, vp_updL f 0 (Int32.toInt64 r.1))) (atH dC dI a cs o cO (AH a cs σ o sz)) (AH a cs σ o sz)) 0 0 (AH a cs σ o sz) := by
  refine Met.ofWW (cc := b_Law_way) (maxL := 5) (ret := (some .int)) (hs := [(0, 10, 13, 19), (0, 10, 17, 13)]) (by decide) rfl ?_
  intro p e s m args below meth c s₁ B hml htab hv
  obtain ⟨rfl, hsz, ⟨hP, hK, hN, hD0⟩, hT, hXC, hPo, hKo⟩ := hv
  have hx := B.exec
  have hb := B.bytes
  have hr := B.returns
  have hg : ∀ w ∈ G_, w.before _ s = true := fun w hw => atoms_spec (ws := w_Law_way) B.pre w (List.mem_cons_of_mem _ hw)
  have hown : s.vm.findClass "BlockRulerLaw" = some m.cls := findClass_of_methodNamed B.named
  have hlocks := B.notSynchronized
  subst hsz
  have hol : o < s.heap.size := (hPo 0 _ rfl).lt
  have hsub : ∀ q, va_A (wsB a cs σ) s.heap.size q → AH a cs σ o s.heap.size q := fun q h => Or.inl h
  have hAo : AH a cs σ o s.heap.size o := Or.inr rfl
  have hD : va_D (AH a cs σ o s.heap.size) (wsB a cs σ) := (hD0.self (sz := s.heap.size)).weaken (fun _ _ _ h => hsub _ h)
  have hA : ∀ q : Nat, s.heap.size ≤ q → AH a cs σ o s.heap.size q := fun q h => Or.inl (Or.inr h)
  generalize hAe : AH a cs σ o s.heap.size = A at hsub hAo hD hA ⊢
  have hS : va_S A s.heap s.heap [] := va_S.rf
  have hl := lv_entry ([.ref (a 0), .int v1, .int v2, .ref o]) (n := 5) (Nat.le_of_ble_eq_true rfl)
  rw [lg_entry_eq]
  generalize (lg_sl ([.ref (a 0), .int v1, .int v2, .ref o]) ++ List.replicate (5 - (lg_sl ([.ref (a 0), .int v1, .int v2, .ref o])).length) Slot.unset).toArray = ls at hl ⊢
  have hl : lv_has ls 5 [(0, .ref (a 0)), (1, .int v1), (2, .int v2), (3, .ref o)] := hl
  refine lv_aload_n hx hb d_Law_way_0 rfl (lv_at hl 3 rfl) ?_
  refine lv_iconst (v := 0) hx hb d_Law_way_1 (by decide) ?_
  refine lv_aload_n hx hb d_Law_way_2 rfl (lv_at hl 0 rfl) ?_
  refine lv_iload_n hx hb d_Law_way_3 rfl (lv_at hl 1 rfl) ?_
  refine lv_iload_n hx hb d_Law_way_4 rfl (lv_at hl 2 rfl) ?_
  refine va_calli (va_runV (C := "BlockRuler") (As := [.int v1, .int v2]) (rest := [.int 0, .ref o]) ⟨hx, hb, hml, hown, hg⟩ (c_BlockRuler_way l dC dI a cs _ σ v1 v2 r h) (cwV 2 hg (gdV wh285 wh286 wh287 wd22 wh288) rfl rfl rfl (by decide +kernel) ⟨Nat.le_of_ble_eq_true rfl, Nat.le_of_ble_eq_true rfl⟩) ⟨wbz_blind, va_recv hK hP (ci := 0) (q0 := 0) rfl rfl, fun U hU hW => ⟨rfl, by rw [hU], wb_preD hU hW hP hK hN hD0⟩⟩ rfl rfl hl.1 rfl (lv_room (Nat.le_of_ble_eq_true rfl)) d_Law_way_5 ⟨Nat.zero_le _, Nat.zero_le _⟩) hS (fun q _ h => hsub q h) hsub (fun rv u t H locs ht hvm hw hB hz1 hk1 hS => ?_)
  obtain rfl : r.1 = rv := (congrArg Prod.fst hw).symm
  obtain rfl : r.2 = u := (congrArg Prod.snd hw).symm
  have hP : va_P (dC, dI) classes (wsB a cs r.2) H := by have q := hB.1; rw [ht] at q; exact q
  have hD : va_D A (wsB a cs r.2) := hB.2.weaken (fun _ _ _ h => hsub _ h)
  have hPo : va_P (dC, dI) classes [oc o cO f] H := hPo.kept (fun k q hk => by
    match k, hk with
    | 0, hk => cases hk; exact hk1 o hol (off_B hol hne))
  have hPa := vP_cons hPo hP
  have hDa := vD_cons (x := .inl (cO, 1, .inr (.inl f))) hAo hD hne
  refine lv_i2l (v := Int32.toInt64 r.1) hx hb d_Law_way_8 rfl ?_
  refine va_last (f := f) (n := 1) hx hb hKo hPa hDa hS 0 0 rfl rfl vin01 d_Law_way_9 (fun H locs hPa hDa hS => ?_)
  have hPa : va_P (dC, dI) classes (oc o cO (vp_updL f 0 (Int32.toInt64 r.1)) :: wsB a cs r.2) H := hPa
  refine lv_goto (tgt := 21) hx hb d_Law_way_10 (by decide) ?_
  refine lv_iconst (v := 0) hx hb d_Law_way_21 (by decide) ?_
  exact W.iret (v := 0) hx hb hr (fun t ht hW => ⟨⟨0, (r.2, vp_updL f 0 (Int32.toInt64 r.1)), rfl, ⟨rfl, rfl⟩, by rw [ht]; exact vP_tail hPa, hD, by rw [ht]; exact vP_head hPa⟩, hS.F ht⟩) hS.2.2 d_Law_way_22
def rmH_way_ISE : Room := { frames := 7, cells := 1, slots := 6, locals := 104 }
set_option maxHeartbeats 4000000 in
set_option maxRecDepth 100000 in
theorem cH_way_ISE (l : Launch) (hfl : l.flags = flags0) (dC : Nat → ClassId) (dI : Nat → Nat → Nat) (a : Nat → Nat) (cs : Nat → ClassId) (z sz : Nat) (hz : z ≤ sz) (hza : ∀ k, k < 15 → z ≤ a k) (o : Nat) (cO : ClassId) (f : Nat → Int64) (hne : ∀ k, k < 15 → a k ≠ o) (σ : SB) (v1 v2 : Int32) (σ' : SB) (h : f_BlockRuler_way σ v1 v2 = some (Sum.inl 0, σ')) : Met l y_Law_way w_Law_way rmH_way_ISE (va_Pc [.ref (a 0), .int v1, .int v2, .ref o] (fun U => U.heap.size = sz ∧ WH dC dI a cs z σ o cO f U)) (va_Qi (fun (x : Int32) (u : SB × (Nat → Int64)) => x = 2 ∧ u = (σ', f)) (atH dC dI a cs o cO (AH a cs σ o sz)) (AH a cs σ o sz)) 1 6 (AH a cs σ o sz) := by
  refine Met.ofWW (cc := b_Law_way) (maxL := 5) (ret := (some .int)) (hs := [(0, 10, 13, 19), (0, 10, 17, 13)]) (by decide) rfl ?_
  intro p e s m args below meth c s₁ B hml htab hv
  obtain ⟨rfl, hsz, ⟨hP, hK, hN, hD0⟩, hT, hXC, hPo, hKo⟩ := hv
  have hx := B.exec
  have hb := B.bytes
  have hr := B.returns
  have hg : ∀ w ∈ G_, w.before _ s = true := fun w hw => atoms_spec (ws := w_Law_way) B.pre w (List.mem_cons_of_mem _ hw)
  have hown : s.vm.findClass "BlockRulerLaw" = some m.cls := findClass_of_methodNamed B.named
  have hlocks := B.notSynchronized
  subst hsz
  have hol : o < s.heap.size := (hPo 0 _ rfl).lt
  have hsub : ∀ q, va_A (wsB a cs σ) s.heap.size q → AH a cs σ o s.heap.size q := fun q h => Or.inl h
  have hAo : AH a cs σ o s.heap.size o := Or.inr rfl
  have hD : va_D (AH a cs σ o s.heap.size) (wsB a cs σ) := (hD0.self (sz := s.heap.size)).weaken (fun _ _ _ h => hsub _ h)
  have hA : ∀ q : Nat, s.heap.size ≤ q → AH a cs σ o s.heap.size q := fun q h => Or.inl (Or.inr h)
  generalize hAe : AH a cs σ o s.heap.size = A at hsub hAo hD hA ⊢
  have hS : va_S A s.heap s.heap [] := va_S.rf
  have hl := lv_entry ([.ref (a 0), .int v1, .int v2, .ref o]) (n := 5) (Nat.le_of_ble_eq_true rfl)
  rw [lg_entry_eq]
  generalize (lg_sl ([.ref (a 0), .int v1, .int v2, .ref o]) ++ List.replicate (5 - (lg_sl ([.ref (a 0), .int v1, .int v2, .ref o])).length) Slot.unset).toArray = ls at hl ⊢
  have hl : lv_has ls 5 [(0, .ref (a 0)), (1, .int v1), (2, .int v2), (3, .ref o)] := hl
  refine lv_aload_n hx hb d_Law_way_0 rfl (lv_at hl 3 rfl) ?_
  refine lv_iconst (v := 0) hx hb d_Law_way_1 (by decide) ?_
  refine lv_aload_n hx hb d_Law_way_2 rfl (lv_at hl 0 rfl) ?_
  refine lv_iload_n hx hb d_Law_way_3 rfl (lv_at hl 1 rfl) ?_
  refine lv_iload_n hx hb d_Law_way_4 rfl (lv_at hl 2 rfl) ?_
  refine W.callC (h2 := 17) (As := [.int v1, .int v2]) (rest := [.int 0, .ref o]) hx hb hml hown (cT_BlockRuler_way_ISE l hfl dC dI a cs z _ hz hza σ v1 v2 σ' h) (cwV 2 hg (gdV wh285 wh286 wh287 wd22 wh288) rfl rfl rfl (by decide +kernel) ⟨Nat.le_of_ble_eq_true rfl, Nat.le_of_ble_eq_true rfl⟩) ⟨wt_blind, va_recv hK hP (ci := 0) (q0 := 0) rfl rfl, fun U hU hW => ⟨rfl, by rw [hU], wb_preD hU hW hP hK hN hD0, hT.warm hW (fun q _ => by rw [hU])⟩⟩ rfl hl.1 rfl (Nat.le_of_ble_eq_true rfl) d_Law_way_5 ⟨Nat.le_of_ble_eq_true rfl, Nat.le_of_ble_eq_true rfl⟩ hS hsub (fun T' x cell L X' q1 q2 q3 => st_caught2 X' (cls0 := cIAE) (cls := cISE) (clsX := cISE) hown htab (hg _ wh289) (by decide) hXC.1 (hg _ wh284) (by decide) q1 q2 q3 (va_Nw.use rfl (hT.1 _ (by decide))) (g := F0 m 5 ls [.int 0, .ref o]) rfl (Nat.le_of_ble_eq_true rfl) (Nat.le_of_ble_eq_true rfl) (Nat.le_of_ble_eq_true rfl) (Nat.le_of_ble_eq_true rfl)) (fun x H locs hP1 hD1 hz1 hk1 hS => ?_)
  have hPo : va_P (dC, dI) classes [oc o cO f] H := hPo.kept (fun k q hk => by
    match k, hk with
    | 0, hk => cases hk; exact hk1 o hol (off_B hol hne))
  have hD : va_D A (wsB a cs σ') := hD1.weaken (fun _ _ _ h => hsub _ h)
  refine lv_astore (lv' := [(4, .ref x), (0, .ref (a 0)), (1, .int v1), (2, .int v2), (3, .ref o)]) hx hb d_Law_way_17 hl (by decide) rfl (fun ls hl => ?_)
  refine lv_iconst (v := 2) hx hb d_Law_way_19 (by decide) ?_
  exact W.iret (v := 2) hx hb hr (fun t ht hW => ⟨⟨2, (σ', f), rfl, ⟨rfl, rfl⟩, by rw [ht]; exact hP1, hD, by rw [ht]; exact hPo⟩, hS.F ht⟩) hS.2.2 d_Law_way_20
def rmH_way_IAE : Room := { frames := 7, cells := 1, slots := 6, locals := 104 }
set_option maxHeartbeats 4000000 in
set_option maxRecDepth 100000 in
theorem cH_way_IAE (l : Launch) (hfl : l.flags = flags0) (dC : Nat → ClassId) (dI : Nat → Nat → Nat) (a : Nat → Nat) (cs : Nat → ClassId) (z sz : Nat) (hz : z ≤ sz) (hza : ∀ k, k < 15 → z ≤ a k) (o : Nat) (cO : ClassId) (f : Nat → Int64) (hne : ∀ k, k < 15 → a k ≠ o) (σ : SB) (v1 v2 : Int32) (σ' : SB) (h : f_BlockRuler_way σ v1 v2 = some (Sum.inl 1, σ')) : Met l y_Law_way w_Law_way rmH_way_IAE (va_Pc [.ref (a 0), .int v1, .int v2, .ref o] (fun U => U.heap.size = sz ∧ WH dC dI a cs z σ o cO f U)) (va_Qi (fun (x : Int32) (u : SB × (Nat → Int64)) => x = 1 ∧ u = (σ', f)) (atH dC dI a cs o cO (AH a cs σ o sz)) (AH a cs σ o sz)) 1 6 (AH a cs σ o sz) := by
  refine Met.ofWW (cc := b_Law_way) (maxL := 5) (ret := (some .int)) (hs := [(0, 10, 13, 19), (0, 10, 17, 13)]) (by decide) rfl ?_
  intro p e s m args below meth c s₁ B hml htab hv
  obtain ⟨rfl, hsz, ⟨hP, hK, hN, hD0⟩, hT, hXC, hPo, hKo⟩ := hv
  have hx := B.exec
  have hb := B.bytes
  have hr := B.returns
  have hg : ∀ w ∈ G_, w.before _ s = true := fun w hw => atoms_spec (ws := w_Law_way) B.pre w (List.mem_cons_of_mem _ hw)
  have hown : s.vm.findClass "BlockRulerLaw" = some m.cls := findClass_of_methodNamed B.named
  have hlocks := B.notSynchronized
  subst hsz
  have hol : o < s.heap.size := (hPo 0 _ rfl).lt
  have hsub : ∀ q, va_A (wsB a cs σ) s.heap.size q → AH a cs σ o s.heap.size q := fun q h => Or.inl h
  have hAo : AH a cs σ o s.heap.size o := Or.inr rfl
  have hD : va_D (AH a cs σ o s.heap.size) (wsB a cs σ) := (hD0.self (sz := s.heap.size)).weaken (fun _ _ _ h => hsub _ h)
  have hA : ∀ q : Nat, s.heap.size ≤ q → AH a cs σ o s.heap.size q := fun q h => Or.inl (Or.inr h)
  generalize hAe : AH a cs σ o s.heap.size = A at hsub hAo hD hA ⊢
  have hS : va_S A s.heap s.heap [] := va_S.rf
  have hl := lv_entry ([.ref (a 0), .int v1, .int v2, .ref o]) (n := 5) (Nat.le_of_ble_eq_true rfl)
  rw [lg_entry_eq]
  generalize (lg_sl ([.ref (a 0), .int v1, .int v2, .ref o]) ++ List.replicate (5 - (lg_sl ([.ref (a 0), .int v1, .int v2, .ref o])).length) Slot.unset).toArray = ls at hl ⊢
  have hl : lv_has ls 5 [(0, .ref (a 0)), (1, .int v1), (2, .int v2), (3, .ref o)] := hl
  refine lv_aload_n hx hb d_Law_way_0 rfl (lv_at hl 3 rfl) ?_
  refine lv_iconst (v := 0) hx hb d_Law_way_1 (by decide) ?_
  refine lv_aload_n hx hb d_Law_way_2 rfl (lv_at hl 0 rfl) ?_
  refine lv_iload_n hx hb d_Law_way_3 rfl (lv_at hl 1 rfl) ?_
  refine lv_iload_n hx hb d_Law_way_4 rfl (lv_at hl 2 rfl) ?_
  refine W.callC (h2 := 13) (As := [.int v1, .int v2]) (rest := [.int 0, .ref o]) hx hb hml hown (cT_BlockRuler_way_IAE l hfl dC dI a cs z _ hz hza σ v1 v2 σ' h) (cwV 2 hg (gdV wh285 wh286 wh287 wd22 wh288) rfl rfl rfl (by decide +kernel) ⟨Nat.le_of_ble_eq_true rfl, Nat.le_of_ble_eq_true rfl⟩) ⟨wt_blind, va_recv hK hP (ci := 0) (q0 := 0) rfl rfl, fun U hU hW => ⟨rfl, by rw [hU], wb_preD hU hW hP hK hN hD0, hT.warm hW (fun q _ => by rw [hU])⟩⟩ rfl hl.1 rfl (Nat.le_of_ble_eq_true rfl) d_Law_way_5 ⟨Nat.le_of_ble_eq_true rfl, Nat.le_of_ble_eq_true rfl⟩ hS hsub (fun T' x cell L X' q1 q2 q3 => st_caught1 X' (cls := cIAE) (clsX := cIAE) hown htab (hg _ wh289) (by decide) q1 q2 q3 (va_Nw.use rfl (hT.1 _ (by decide))) (g := F0 m 5 ls [.int 0, .ref o]) rfl (Nat.le_of_ble_eq_true rfl) (Nat.le_of_ble_eq_true rfl)) (fun x H locs hP1 hD1 hz1 hk1 hS => ?_)
  have hPo : va_P (dC, dI) classes [oc o cO f] H := hPo.kept (fun k q hk => by
    match k, hk with
    | 0, hk => cases hk; exact hk1 o hol (off_B hol hne))
  have hD : va_D A (wsB a cs σ') := hD1.weaken (fun _ _ _ h => hsub _ h)
  refine lv_astore (lv' := [(4, .ref x), (0, .ref (a 0)), (1, .int v1), (2, .int v2), (3, .ref o)]) hx hb d_Law_way_13 hl (by decide) rfl (fun ls hl => ?_)
  refine lv_iconst (v := 1) hx hb d_Law_way_15 (by decide) ?_
  exact W.iret (v := 1) hx hb hr (fun t ht hW => ⟨⟨1, (σ', f), rfl, ⟨rfl, rfl⟩, by rw [ht]; exact hP1, hD, by rw [ht]; exact hPo⟩, hS.F ht⟩) hS.2.2 d_Law_way_16
theorem d_Law_cut_0 : decode b_Law_cut 0 = .ok (.aload_n 3, 1) := by decide +kernel
theorem d_Law_cut_1 : decode b_Law_cut 1 = .ok (.iconst 0, 1) := by decide +kernel
theorem d_Law_cut_2 : decode b_Law_cut 2 = .ok (.aload_n 0, 1) := by decide +kernel
theorem d_Law_cut_3 : decode b_Law_cut 3 = .ok (.iload_n 1, 1) := by decide +kernel
theorem d_Law_cut_4 : decode b_Law_cut 4 = .ok (.iload_n 2, 1) := by decide +kernel
theorem d_Law_cut_5 : decode b_Law_cut 5 = .ok (.invokevirtual 21, 3) := by decide +kernel
theorem d_Law_cut_8 : decode b_Law_cut 8 = .ok (.i2l, 1) := by decide +kernel
theorem d_Law_cut_9 : decode b_Law_cut 9 = .ok (.lastore, 1) := by decide +kernel
theorem d_Law_cut_10 : decode b_Law_cut 10 = .ok (.goto 7, 3) := by decide +kernel
theorem d_Law_cut_13 : decode b_Law_cut 13 = .ok (.astore 4, 2) := by decide +kernel
theorem d_Law_cut_15 : decode b_Law_cut 15 = .ok (.iconst 1, 1) := by decide +kernel
theorem d_Law_cut_16 : decode b_Law_cut 16 = .ok (.ireturn, 1) := by decide +kernel
theorem d_Law_cut_17 : decode b_Law_cut 17 = .ok (.iconst 0, 1) := by decide +kernel
theorem d_Law_cut_18 : decode b_Law_cut 18 = .ok (.ireturn, 1) := by decide +kernel
abbrev w_Law_cut : List Cond := Cond.codeWith y_Law_cut b_Law_cut 5 (some .int) [(0, 10, 13, 24)] :: G_
def rmH_cut_ret : Room := { frames := 3, cells := 0, slots := 0, locals := 69 }
set_option maxHeartbeats 4000000 in
set_option maxRecDepth 100000 in
theorem cH_cut_ret (l : Launch) (hfl : l.flags = flags0) (dC : Nat → ClassId) (dI : Nat → Nat → Nat) (a : Nat → Nat) (cs : Nat → ClassId) (z sz : Nat) (hz : z ≤ sz) (hza : ∀ k, k < 15 → z ≤ a k) (o : Nat) (cO : ClassId) (f : Nat → Int64) (hne : ∀ k, k < 15 → a k ≠ o) (σ : SB) (v1 v2 : Int32) (r : Int32 × SB) (h : f_BlockRuler_cut σ v1 v2 = some (Sum.inr r.1, r.2)) : Met l y_Law_cut w_Law_cut rmH_cut_ret (va_Pc [.ref (a 0), .int v1, .int v2, .ref o] (fun U => U.heap.size = sz ∧ WH dC dI a cs z σ o cO f U)) (va_Qi (fun (x : Int32) (u : SB × (Nat → Int64)) => x = 0 ∧ u = (r.2, vp_updL f 0 (Int32.toInt64 r.1))) (atH dC dI a cs o cO (AH a cs σ o sz)) (AH a cs σ o sz)) 0 0 (AH a cs σ o sz) := by
  refine Met.ofWW (cc := b_Law_cut) (maxL := 5) (ret := (some .int)) (hs := [(0, 10, 13, 24)]) (by decide) rfl ?_
  intro p e s m args below meth c s₁ B hml htab hv
  obtain ⟨rfl, hsz, ⟨hP, hK, hN, hD0⟩, hT, hXC, hPo, hKo⟩ := hv
  have hx := B.exec
  have hb := B.bytes
  have hr := B.returns
  have hg : ∀ w ∈ G_, w.before _ s = true := fun w hw => atoms_spec (ws := w_Law_cut) B.pre w (List.mem_cons_of_mem _ hw)
  have hown : s.vm.findClass "BlockRulerLaw" = some m.cls := findClass_of_methodNamed B.named
  have hlocks := B.notSynchronized
  subst hsz
  have hol : o < s.heap.size := (hPo 0 _ rfl).lt
  have hsub : ∀ q, va_A (wsB a cs σ) s.heap.size q → AH a cs σ o s.heap.size q := fun q h => Or.inl h
  have hAo : AH a cs σ o s.heap.size o := Or.inr rfl
  have hD : va_D (AH a cs σ o s.heap.size) (wsB a cs σ) := (hD0.self (sz := s.heap.size)).weaken (fun _ _ _ h => hsub _ h)
  have hA : ∀ q : Nat, s.heap.size ≤ q → AH a cs σ o s.heap.size q := fun q h => Or.inl (Or.inr h)
  generalize hAe : AH a cs σ o s.heap.size = A at hsub hAo hD hA ⊢
  have hS : va_S A s.heap s.heap [] := va_S.rf
  have hl := lv_entry ([.ref (a 0), .int v1, .int v2, .ref o]) (n := 5) (Nat.le_of_ble_eq_true rfl)
  rw [lg_entry_eq]
  generalize (lg_sl ([.ref (a 0), .int v1, .int v2, .ref o]) ++ List.replicate (5 - (lg_sl ([.ref (a 0), .int v1, .int v2, .ref o])).length) Slot.unset).toArray = ls at hl ⊢
  have hl : lv_has ls 5 [(0, .ref (a 0)), (1, .int v1), (2, .int v2), (3, .ref o)] := hl
  refine lv_aload_n hx hb d_Law_cut_0 rfl (lv_at hl 3 rfl) ?_
  refine lv_iconst (v := 0) hx hb d_Law_cut_1 (by decide) ?_
  refine lv_aload_n hx hb d_Law_cut_2 rfl (lv_at hl 0 rfl) ?_
  refine lv_iload_n hx hb d_Law_cut_3 rfl (lv_at hl 1 rfl) ?_
  refine lv_iload_n hx hb d_Law_cut_4 rfl (lv_at hl 2 rfl) ?_
  refine va_calli (va_runV (C := "BlockRuler") (As := [.int v1, .int v2]) (rest := [.int 0, .ref o]) ⟨hx, hb, hml, hown, hg⟩ (c_BlockRuler_cut l dC dI a cs _ σ v1 v2 r h) (cwV 2 hg (gdV wh290 wh291 wh292 wd22 wh293) rfl rfl rfl (by decide +kernel) ⟨Nat.le_of_ble_eq_true rfl, Nat.le_of_ble_eq_true rfl⟩) ⟨wbz_blind, va_recv hK hP (ci := 0) (q0 := 0) rfl rfl, fun U hU hW => ⟨rfl, by rw [hU], wb_preD hU hW hP hK hN hD0⟩⟩ rfl rfl hl.1 rfl (lv_room (Nat.le_of_ble_eq_true rfl)) d_Law_cut_5 ⟨Nat.zero_le _, Nat.zero_le _⟩) hS (fun q _ h => hsub q h) hsub (fun rv u t H locs ht hvm hw hB hz1 hk1 hS => ?_)
  obtain rfl : r.1 = rv := (congrArg Prod.fst hw).symm
  obtain rfl : r.2 = u := (congrArg Prod.snd hw).symm
  have hP : va_P (dC, dI) classes (wsB a cs r.2) H := by have q := hB.1; rw [ht] at q; exact q
  have hD : va_D A (wsB a cs r.2) := hB.2.weaken (fun _ _ _ h => hsub _ h)
  have hPo : va_P (dC, dI) classes [oc o cO f] H := hPo.kept (fun k q hk => by
    match k, hk with
    | 0, hk => cases hk; exact hk1 o hol (off_B hol hne))
  have hPa := vP_cons hPo hP
  have hDa := vD_cons (x := .inl (cO, 1, .inr (.inl f))) hAo hD hne
  refine lv_i2l (v := Int32.toInt64 r.1) hx hb d_Law_cut_8 rfl ?_
  refine va_last (f := f) (n := 1) hx hb hKo hPa hDa hS 0 0 rfl rfl vin01 d_Law_cut_9 (fun H locs hPa hDa hS => ?_)
  have hPa : va_P (dC, dI) classes (oc o cO (vp_updL f 0 (Int32.toInt64 r.1)) :: wsB a cs r.2) H := hPa
  refine lv_goto (tgt := 17) hx hb d_Law_cut_10 (by decide) ?_
  refine lv_iconst (v := 0) hx hb d_Law_cut_17 (by decide) ?_
  exact W.iret (v := 0) hx hb hr (fun t ht hW => ⟨⟨0, (r.2, vp_updL f 0 (Int32.toInt64 r.1)), rfl, ⟨rfl, rfl⟩, by rw [ht]; exact vP_tail hPa, hD, by rw [ht]; exact vP_head hPa⟩, hS.F ht⟩) hS.2.2 d_Law_cut_18
def rmH_cut_IOB : Room := { frames := 7, cells := 1, slots := 6, locals := 104 }
set_option maxHeartbeats 4000000 in
set_option maxRecDepth 100000 in
theorem cH_cut_IOB (l : Launch) (hfl : l.flags = flags0) (dC : Nat → ClassId) (dI : Nat → Nat → Nat) (a : Nat → Nat) (cs : Nat → ClassId) (z sz : Nat) (hz : z ≤ sz) (hza : ∀ k, k < 15 → z ≤ a k) (o : Nat) (cO : ClassId) (f : Nat → Int64) (hne : ∀ k, k < 15 → a k ≠ o) (σ : SB) (v1 v2 : Int32) (σ' : SB) (h : f_BlockRuler_cut σ v1 v2 = some (Sum.inl 2, σ')) : Met l y_Law_cut w_Law_cut rmH_cut_IOB (va_Pc [.ref (a 0), .int v1, .int v2, .ref o] (fun U => U.heap.size = sz ∧ WH dC dI a cs z σ o cO f U)) (va_Qi (fun (x : Int32) (u : SB × (Nat → Int64)) => x = 1 ∧ u = (σ', f)) (atH dC dI a cs o cO (AH a cs σ o sz)) (AH a cs σ o sz)) 1 6 (AH a cs σ o sz) := by
  refine Met.ofWW (cc := b_Law_cut) (maxL := 5) (ret := (some .int)) (hs := [(0, 10, 13, 24)]) (by decide) rfl ?_
  intro p e s m args below meth c s₁ B hml htab hv
  obtain ⟨rfl, hsz, ⟨hP, hK, hN, hD0⟩, hT, hXC, hPo, hKo⟩ := hv
  have hx := B.exec
  have hb := B.bytes
  have hr := B.returns
  have hg : ∀ w ∈ G_, w.before _ s = true := fun w hw => atoms_spec (ws := w_Law_cut) B.pre w (List.mem_cons_of_mem _ hw)
  have hown : s.vm.findClass "BlockRulerLaw" = some m.cls := findClass_of_methodNamed B.named
  have hlocks := B.notSynchronized
  subst hsz
  have hol : o < s.heap.size := (hPo 0 _ rfl).lt
  have hsub : ∀ q, va_A (wsB a cs σ) s.heap.size q → AH a cs σ o s.heap.size q := fun q h => Or.inl h
  have hAo : AH a cs σ o s.heap.size o := Or.inr rfl
  have hD : va_D (AH a cs σ o s.heap.size) (wsB a cs σ) := (hD0.self (sz := s.heap.size)).weaken (fun _ _ _ h => hsub _ h)
  have hA : ∀ q : Nat, s.heap.size ≤ q → AH a cs σ o s.heap.size q := fun q h => Or.inl (Or.inr h)
  generalize hAe : AH a cs σ o s.heap.size = A at hsub hAo hD hA ⊢
  have hS : va_S A s.heap s.heap [] := va_S.rf
  have hl := lv_entry ([.ref (a 0), .int v1, .int v2, .ref o]) (n := 5) (Nat.le_of_ble_eq_true rfl)
  rw [lg_entry_eq]
  generalize (lg_sl ([.ref (a 0), .int v1, .int v2, .ref o]) ++ List.replicate (5 - (lg_sl ([.ref (a 0), .int v1, .int v2, .ref o])).length) Slot.unset).toArray = ls at hl ⊢
  have hl : lv_has ls 5 [(0, .ref (a 0)), (1, .int v1), (2, .int v2), (3, .ref o)] := hl
  refine lv_aload_n hx hb d_Law_cut_0 rfl (lv_at hl 3 rfl) ?_
  refine lv_iconst (v := 0) hx hb d_Law_cut_1 (by decide) ?_
  refine lv_aload_n hx hb d_Law_cut_2 rfl (lv_at hl 0 rfl) ?_
  refine lv_iload_n hx hb d_Law_cut_3 rfl (lv_at hl 1 rfl) ?_
  refine lv_iload_n hx hb d_Law_cut_4 rfl (lv_at hl 2 rfl) ?_
  refine W.callC (h2 := 13) (As := [.int v1, .int v2]) (rest := [.int 0, .ref o]) hx hb hml hown (cT_BlockRuler_cut_IOB l hfl dC dI a cs z _ hz hza σ v1 v2 σ' h) (cwV 2 hg (gdV wh290 wh291 wh292 wd22 wh293) rfl rfl rfl (by decide +kernel) ⟨Nat.le_of_ble_eq_true rfl, Nat.le_of_ble_eq_true rfl⟩) ⟨wt_blind, va_recv hK hP (ci := 0) (q0 := 0) rfl rfl, fun U hU hW => ⟨rfl, by rw [hU], wb_preD hU hW hP hK hN hD0, hT.warm hW (fun q _ => by rw [hU])⟩⟩ rfl hl.1 rfl (Nat.le_of_ble_eq_true rfl) d_Law_cut_5 ⟨Nat.le_of_ble_eq_true rfl, Nat.le_of_ble_eq_true rfl⟩ hS hsub (fun T' x cell L X' q1 q2 q3 => st_caught1 X' (cls := cIOB) (clsX := cIOB) hown htab (hg _ wh294) (by decide) q1 q2 q3 (va_Nw.use rfl (hT.1 _ (by decide))) (g := F0 m 5 ls [.int 0, .ref o]) rfl (Nat.le_of_ble_eq_true rfl) (Nat.le_of_ble_eq_true rfl)) (fun x H locs hP1 hD1 hz1 hk1 hS => ?_)
  have hPo : va_P (dC, dI) classes [oc o cO f] H := hPo.kept (fun k q hk => by
    match k, hk with
    | 0, hk => cases hk; exact hk1 o hol (off_B hol hne))
  have hD : va_D A (wsB a cs σ') := hD1.weaken (fun _ _ _ h => hsub _ h)
  refine lv_astore (lv' := [(4, .ref x), (0, .ref (a 0)), (1, .int v1), (2, .int v2), (3, .ref o)]) hx hb d_Law_cut_13 hl (by decide) rfl (fun ls hl => ?_)
  refine lv_iconst (v := 1) hx hb d_Law_cut_15 (by decide) ?_
  exact W.iret (v := 1) hx hb hr (fun t ht hW => ⟨⟨1, (σ', f), rfl, ⟨rfl, rfl⟩, by rw [ht]; exact hP1, hD, by rw [ht]; exact hPo⟩, hS.F ht⟩) hS.2.2 d_Law_cut_16
theorem d_Law_turn_0 : decode b_Law_turn 0 = .ok (.aload 4, 2) := by decide +kernel
theorem d_Law_turn_2 : decode b_Law_turn 2 = .ok (.iconst 0, 1) := by decide +kernel
theorem d_Law_turn_3 : decode b_Law_turn 3 = .ok (.aload_n 0, 1) := by decide +kernel
theorem d_Law_turn_4 : decode b_Law_turn 4 = .ok (.iload_n 1, 1) := by decide +kernel
theorem d_Law_turn_5 : decode b_Law_turn 5 = .ok (.iload_n 2, 1) := by decide +kernel
theorem d_Law_turn_6 : decode b_Law_turn 6 = .ok (.iload_n 3, 1) := by decide +kernel
theorem d_Law_turn_7 : decode b_Law_turn 7 = .ok (.invokevirtual 26, 3) := by decide +kernel
theorem d_Law_turn_10 : decode b_Law_turn 10 = .ok (.i2l, 1) := by decide +kernel
theorem d_Law_turn_11 : decode b_Law_turn 11 = .ok (.lastore, 1) := by decide +kernel
theorem d_Law_turn_12 : decode b_Law_turn 12 = .ok (.goto 11, 3) := by decide +kernel
theorem d_Law_turn_15 : decode b_Law_turn 15 = .ok (.astore 5, 2) := by decide +kernel
theorem d_Law_turn_17 : decode b_Law_turn 17 = .ok (.iconst 1, 1) := by decide +kernel
theorem d_Law_turn_18 : decode b_Law_turn 18 = .ok (.ireturn, 1) := by decide +kernel
theorem d_Law_turn_19 : decode b_Law_turn 19 = .ok (.astore 5, 2) := by decide +kernel
theorem d_Law_turn_21 : decode b_Law_turn 21 = .ok (.iconst 2, 1) := by decide +kernel
theorem d_Law_turn_22 : decode b_Law_turn 22 = .ok (.ireturn, 1) := by decide +kernel
theorem d_Law_turn_23 : decode b_Law_turn 23 = .ok (.iconst 0, 1) := by decide +kernel
theorem d_Law_turn_24 : decode b_Law_turn 24 = .ok (.ireturn, 1) := by decide +kernel
abbrev w_Law_turn : List Cond := Cond.codeWith y_Law_turn b_Law_turn 6 (some .int) [(0, 12, 15, 24), (0, 12, 19, 19)] :: G_
def rmH_turn_ret : Room := { frames := 3, cells := 0, slots := 0, locals := 69 }
set_option maxHeartbeats 4000000 in
set_option maxRecDepth 100000 in
theorem cH_turn_ret (l : Launch) (hfl : l.flags = flags0) (dC : Nat → ClassId) (dI : Nat → Nat → Nat) (a : Nat → Nat) (cs : Nat → ClassId) (z sz : Nat) (hz : z ≤ sz) (hza : ∀ k, k < 15 → z ≤ a k) (o : Nat) (cO : ClassId) (f : Nat → Int64) (hne : ∀ k, k < 15 → a k ≠ o) (σ : SB) (v1 v2 v3 : Int32) (r : Int32 × SB) (h : f_BlockRuler_turn σ v1 v2 v3 = some (Sum.inr r.1, r.2)) : Met l y_Law_turn w_Law_turn rmH_turn_ret (va_Pc [.ref (a 0), .int v1, .int v2, .int v3, .ref o] (fun U => U.heap.size = sz ∧ WH dC dI a cs z σ o cO f U)) (va_Qi (fun (x : Int32) (u : SB × (Nat → Int64)) => x = 0 ∧ u = (r.2, vp_updL f 0 (Int32.toInt64 r.1))) (atH dC dI a cs o cO (AH a cs σ o sz)) (AH a cs σ o sz)) 0 0 (AH a cs σ o sz) := by
  refine Met.ofWW (cc := b_Law_turn) (maxL := 6) (ret := (some .int)) (hs := [(0, 12, 15, 24), (0, 12, 19, 19)]) (by decide) rfl ?_
  intro p e s m args below meth c s₁ B hml htab hv
  obtain ⟨rfl, hsz, ⟨hP, hK, hN, hD0⟩, hT, hXC, hPo, hKo⟩ := hv
  have hx := B.exec
  have hb := B.bytes
  have hr := B.returns
  have hg : ∀ w ∈ G_, w.before _ s = true := fun w hw => atoms_spec (ws := w_Law_turn) B.pre w (List.mem_cons_of_mem _ hw)
  have hown : s.vm.findClass "BlockRulerLaw" = some m.cls := findClass_of_methodNamed B.named
  have hlocks := B.notSynchronized
  subst hsz
  have hol : o < s.heap.size := (hPo 0 _ rfl).lt
  have hsub : ∀ q, va_A (wsB a cs σ) s.heap.size q → AH a cs σ o s.heap.size q := fun q h => Or.inl h
  have hAo : AH a cs σ o s.heap.size o := Or.inr rfl
  have hD : va_D (AH a cs σ o s.heap.size) (wsB a cs σ) := (hD0.self (sz := s.heap.size)).weaken (fun _ _ _ h => hsub _ h)
  have hA : ∀ q : Nat, s.heap.size ≤ q → AH a cs σ o s.heap.size q := fun q h => Or.inl (Or.inr h)
  generalize hAe : AH a cs σ o s.heap.size = A at hsub hAo hD hA ⊢
  have hS : va_S A s.heap s.heap [] := va_S.rf
  have hl := lv_entry ([.ref (a 0), .int v1, .int v2, .int v3, .ref o]) (n := 6) (Nat.le_of_ble_eq_true rfl)
  rw [lg_entry_eq]
  generalize (lg_sl ([.ref (a 0), .int v1, .int v2, .int v3, .ref o]) ++ List.replicate (6 - (lg_sl ([.ref (a 0), .int v1, .int v2, .int v3, .ref o])).length) Slot.unset).toArray = ls at hl ⊢
  have hl : lv_has ls 6 [(0, .ref (a 0)), (1, .int v1), (2, .int v2), (3, .int v3), (4, .ref o)] := hl
  refine lv_aload hx hb d_Law_turn_0 (lv_at hl 4 rfl) ?_
  refine lv_iconst (v := 0) hx hb d_Law_turn_2 (by decide) ?_
  refine lv_aload_n hx hb d_Law_turn_3 rfl (lv_at hl 0 rfl) ?_
  refine lv_iload_n hx hb d_Law_turn_4 rfl (lv_at hl 1 rfl) ?_
  refine lv_iload_n hx hb d_Law_turn_5 rfl (lv_at hl 2 rfl) ?_
  refine lv_iload_n hx hb d_Law_turn_6 rfl (lv_at hl 3 rfl) ?_
  refine va_calli (va_runV (C := "BlockRuler") (As := [.int v1, .int v2, .int v3]) (rest := [.int 0, .ref o]) ⟨hx, hb, hml, hown, hg⟩ (c_BlockRuler_turn l dC dI a cs _ σ v1 v2 v3 r h) (cwV 3 hg (gdV wh295 wh296 wh297 wd22 wh298) rfl rfl rfl (by decide +kernel) ⟨Nat.le_of_ble_eq_true rfl, Nat.le_of_ble_eq_true rfl⟩) ⟨wbz_blind, va_recv hK hP (ci := 0) (q0 := 0) rfl rfl, fun U hU hW => ⟨rfl, by rw [hU], wb_preD hU hW hP hK hN hD0⟩⟩ rfl rfl hl.1 rfl (lv_room (Nat.le_of_ble_eq_true rfl)) d_Law_turn_7 ⟨Nat.zero_le _, Nat.zero_le _⟩) hS (fun q _ h => hsub q h) hsub (fun rv u t H locs ht hvm hw hB hz1 hk1 hS => ?_)
  obtain rfl : r.1 = rv := (congrArg Prod.fst hw).symm
  obtain rfl : r.2 = u := (congrArg Prod.snd hw).symm
  have hP : va_P (dC, dI) classes (wsB a cs r.2) H := by have q := hB.1; rw [ht] at q; exact q
  have hD : va_D A (wsB a cs r.2) := hB.2.weaken (fun _ _ _ h => hsub _ h)
  have hPo : va_P (dC, dI) classes [oc o cO f] H := hPo.kept (fun k q hk => by
    match k, hk with
    | 0, hk => cases hk; exact hk1 o hol (off_B hol hne))
  have hPa := vP_cons hPo hP
  have hDa := vD_cons (x := .inl (cO, 1, .inr (.inl f))) hAo hD hne
  refine lv_i2l (v := Int32.toInt64 r.1) hx hb d_Law_turn_10 rfl ?_
  refine va_last (f := f) (n := 1) hx hb hKo hPa hDa hS 0 0 rfl rfl vin01 d_Law_turn_11 (fun H locs hPa hDa hS => ?_)
  have hPa : va_P (dC, dI) classes (oc o cO (vp_updL f 0 (Int32.toInt64 r.1)) :: wsB a cs r.2) H := hPa
  refine lv_goto (tgt := 23) hx hb d_Law_turn_12 (by decide) ?_
  refine lv_iconst (v := 0) hx hb d_Law_turn_23 (by decide) ?_
  exact W.iret (v := 0) hx hb hr (fun t ht hW => ⟨⟨0, (r.2, vp_updL f 0 (Int32.toInt64 r.1)), rfl, ⟨rfl, rfl⟩, by rw [ht]; exact vP_tail hPa, hD, by rw [ht]; exact vP_head hPa⟩, hS.F ht⟩) hS.2.2 d_Law_turn_24
def rmH_turn_IAE : Room := { frames := 7, cells := 1, slots := 6, locals := 105 }
set_option maxHeartbeats 4000000 in
set_option maxRecDepth 100000 in
theorem cH_turn_IAE (l : Launch) (hfl : l.flags = flags0) (dC : Nat → ClassId) (dI : Nat → Nat → Nat) (a : Nat → Nat) (cs : Nat → ClassId) (z sz : Nat) (hz : z ≤ sz) (hza : ∀ k, k < 15 → z ≤ a k) (o : Nat) (cO : ClassId) (f : Nat → Int64) (hne : ∀ k, k < 15 → a k ≠ o) (σ : SB) (v1 v2 v3 : Int32) (σ' : SB) (h : f_BlockRuler_turn σ v1 v2 v3 = some (Sum.inl 1, σ')) : Met l y_Law_turn w_Law_turn rmH_turn_IAE (va_Pc [.ref (a 0), .int v1, .int v2, .int v3, .ref o] (fun U => U.heap.size = sz ∧ WH dC dI a cs z σ o cO f U)) (va_Qi (fun (x : Int32) (u : SB × (Nat → Int64)) => x = 2 ∧ u = (σ', f)) (atH dC dI a cs o cO (AH a cs σ o sz)) (AH a cs σ o sz)) 1 6 (AH a cs σ o sz) := by
  refine Met.ofWW (cc := b_Law_turn) (maxL := 6) (ret := (some .int)) (hs := [(0, 12, 15, 24), (0, 12, 19, 19)]) (by decide) rfl ?_
  intro p e s m args below meth c s₁ B hml htab hv
  obtain ⟨rfl, hsz, ⟨hP, hK, hN, hD0⟩, hT, hXC, hPo, hKo⟩ := hv
  have hx := B.exec
  have hb := B.bytes
  have hr := B.returns
  have hg : ∀ w ∈ G_, w.before _ s = true := fun w hw => atoms_spec (ws := w_Law_turn) B.pre w (List.mem_cons_of_mem _ hw)
  have hown : s.vm.findClass "BlockRulerLaw" = some m.cls := findClass_of_methodNamed B.named
  have hlocks := B.notSynchronized
  subst hsz
  have hol : o < s.heap.size := (hPo 0 _ rfl).lt
  have hsub : ∀ q, va_A (wsB a cs σ) s.heap.size q → AH a cs σ o s.heap.size q := fun q h => Or.inl h
  have hAo : AH a cs σ o s.heap.size o := Or.inr rfl
  have hD : va_D (AH a cs σ o s.heap.size) (wsB a cs σ) := (hD0.self (sz := s.heap.size)).weaken (fun _ _ _ h => hsub _ h)
  have hA : ∀ q : Nat, s.heap.size ≤ q → AH a cs σ o s.heap.size q := fun q h => Or.inl (Or.inr h)
  generalize hAe : AH a cs σ o s.heap.size = A at hsub hAo hD hA ⊢
  have hS : va_S A s.heap s.heap [] := va_S.rf
  have hl := lv_entry ([.ref (a 0), .int v1, .int v2, .int v3, .ref o]) (n := 6) (Nat.le_of_ble_eq_true rfl)
  rw [lg_entry_eq]
  generalize (lg_sl ([.ref (a 0), .int v1, .int v2, .int v3, .ref o]) ++ List.replicate (6 - (lg_sl ([.ref (a 0), .int v1, .int v2, .int v3, .ref o])).length) Slot.unset).toArray = ls at hl ⊢
  have hl : lv_has ls 6 [(0, .ref (a 0)), (1, .int v1), (2, .int v2), (3, .int v3), (4, .ref o)] := hl
  refine lv_aload hx hb d_Law_turn_0 (lv_at hl 4 rfl) ?_
  refine lv_iconst (v := 0) hx hb d_Law_turn_2 (by decide) ?_
  refine lv_aload_n hx hb d_Law_turn_3 rfl (lv_at hl 0 rfl) ?_
  refine lv_iload_n hx hb d_Law_turn_4 rfl (lv_at hl 1 rfl) ?_
  refine lv_iload_n hx hb d_Law_turn_5 rfl (lv_at hl 2 rfl) ?_
  refine lv_iload_n hx hb d_Law_turn_6 rfl (lv_at hl 3 rfl) ?_
  refine W.callC (h2 := 19) (As := [.int v1, .int v2, .int v3]) (rest := [.int 0, .ref o]) hx hb hml hown (cT_BlockRuler_turn_IAE l hfl dC dI a cs z _ hz hza σ v1 v2 v3 σ' h) (cwV 3 hg (gdV wh295 wh296 wh297 wd22 wh298) rfl rfl rfl (by decide +kernel) ⟨Nat.le_of_ble_eq_true rfl, Nat.le_of_ble_eq_true rfl⟩) ⟨wt_blind, va_recv hK hP (ci := 0) (q0 := 0) rfl rfl, fun U hU hW => ⟨rfl, by rw [hU], wb_preD hU hW hP hK hN hD0, hT.warm hW (fun q _ => by rw [hU])⟩⟩ rfl hl.1 rfl (Nat.le_of_ble_eq_true rfl) d_Law_turn_7 ⟨Nat.le_of_ble_eq_true rfl, Nat.le_of_ble_eq_true rfl⟩ hS hsub (fun T' x cell L X' q1 q2 q3 => st_caught2 X' (cls0 := cIOB) (cls := cIAE) (clsX := cIAE) hown htab (hg _ wh294) (by decide) hXC.2 (hg _ wh289) (by decide) q1 q2 q3 (va_Nw.use rfl (hT.1 _ (by decide))) (g := F0 m 7 ls [.int 0, .ref o]) rfl (Nat.le_of_ble_eq_true rfl) (Nat.le_of_ble_eq_true rfl) (Nat.le_of_ble_eq_true rfl) (Nat.le_of_ble_eq_true rfl)) (fun x H locs hP1 hD1 hz1 hk1 hS => ?_)
  have hPo : va_P (dC, dI) classes [oc o cO f] H := hPo.kept (fun k q hk => by
    match k, hk with
    | 0, hk => cases hk; exact hk1 o hol (off_B hol hne))
  have hD : va_D A (wsB a cs σ') := hD1.weaken (fun _ _ _ h => hsub _ h)
  refine lv_astore (lv' := [(5, .ref x), (0, .ref (a 0)), (1, .int v1), (2, .int v2), (3, .int v3), (4, .ref o)]) hx hb d_Law_turn_19 hl (by decide) rfl (fun ls hl => ?_)
  refine lv_iconst (v := 2) hx hb d_Law_turn_21 (by decide) ?_
  exact W.iret (v := 2) hx hb hr (fun t ht hW => ⟨⟨2, (σ', f), rfl, ⟨rfl, rfl⟩, by rw [ht]; exact hP1, hD, by rw [ht]; exact hPo⟩, hS.F ht⟩) hS.2.2 d_Law_turn_22
def rmH_turn_IOB : Room := { frames := 7, cells := 1, slots := 6, locals := 105 }
set_option maxHeartbeats 4000000 in
set_option maxRecDepth 100000 in
theorem cH_turn_IOB (l : Launch) (hfl : l.flags = flags0) (dC : Nat → ClassId) (dI : Nat → Nat → Nat) (a : Nat → Nat) (cs : Nat → ClassId) (z sz : Nat) (hz : z ≤ sz) (hza : ∀ k, k < 15 → z ≤ a k) (o : Nat) (cO : ClassId) (f : Nat → Int64) (hne : ∀ k, k < 15 → a k ≠ o) (σ : SB) (v1 v2 v3 : Int32) (σ' : SB) (h : f_BlockRuler_turn σ v1 v2 v3 = some (Sum.inl 2, σ')) : Met l y_Law_turn w_Law_turn rmH_turn_IOB (va_Pc [.ref (a 0), .int v1, .int v2, .int v3, .ref o] (fun U => U.heap.size = sz ∧ WH dC dI a cs z σ o cO f U)) (va_Qi (fun (x : Int32) (u : SB × (Nat → Int64)) => x = 1 ∧ u = (σ', f)) (atH dC dI a cs o cO (AH a cs σ o sz)) (AH a cs σ o sz)) 1 6 (AH a cs σ o sz) := by
  refine Met.ofWW (cc := b_Law_turn) (maxL := 6) (ret := (some .int)) (hs := [(0, 12, 15, 24), (0, 12, 19, 19)]) (by decide) rfl ?_
  intro p e s m args below meth c s₁ B hml htab hv
  obtain ⟨rfl, hsz, ⟨hP, hK, hN, hD0⟩, hT, hXC, hPo, hKo⟩ := hv
  have hx := B.exec
  have hb := B.bytes
  have hr := B.returns
  have hg : ∀ w ∈ G_, w.before _ s = true := fun w hw => atoms_spec (ws := w_Law_turn) B.pre w (List.mem_cons_of_mem _ hw)
  have hown : s.vm.findClass "BlockRulerLaw" = some m.cls := findClass_of_methodNamed B.named
  have hlocks := B.notSynchronized
  subst hsz
  have hol : o < s.heap.size := (hPo 0 _ rfl).lt
  have hsub : ∀ q, va_A (wsB a cs σ) s.heap.size q → AH a cs σ o s.heap.size q := fun q h => Or.inl h
  have hAo : AH a cs σ o s.heap.size o := Or.inr rfl
  have hD : va_D (AH a cs σ o s.heap.size) (wsB a cs σ) := (hD0.self (sz := s.heap.size)).weaken (fun _ _ _ h => hsub _ h)
  have hA : ∀ q : Nat, s.heap.size ≤ q → AH a cs σ o s.heap.size q := fun q h => Or.inl (Or.inr h)
  generalize hAe : AH a cs σ o s.heap.size = A at hsub hAo hD hA ⊢
  have hS : va_S A s.heap s.heap [] := va_S.rf
  have hl := lv_entry ([.ref (a 0), .int v1, .int v2, .int v3, .ref o]) (n := 6) (Nat.le_of_ble_eq_true rfl)
  rw [lg_entry_eq]
  generalize (lg_sl ([.ref (a 0), .int v1, .int v2, .int v3, .ref o]) ++ List.replicate (6 - (lg_sl ([.ref (a 0), .int v1, .int v2, .int v3, .ref o])).length) Slot.unset).toArray = ls at hl ⊢
  have hl : lv_has ls 6 [(0, .ref (a 0)), (1, .int v1), (2, .int v2), (3, .int v3), (4, .ref o)] := hl
  refine lv_aload hx hb d_Law_turn_0 (lv_at hl 4 rfl) ?_
  refine lv_iconst (v := 0) hx hb d_Law_turn_2 (by decide) ?_
  refine lv_aload_n hx hb d_Law_turn_3 rfl (lv_at hl 0 rfl) ?_
  refine lv_iload_n hx hb d_Law_turn_4 rfl (lv_at hl 1 rfl) ?_
  refine lv_iload_n hx hb d_Law_turn_5 rfl (lv_at hl 2 rfl) ?_
  refine lv_iload_n hx hb d_Law_turn_6 rfl (lv_at hl 3 rfl) ?_
  refine W.callC (h2 := 15) (As := [.int v1, .int v2, .int v3]) (rest := [.int 0, .ref o]) hx hb hml hown (cT_BlockRuler_turn_IOB l hfl dC dI a cs z _ hz hza σ v1 v2 v3 σ' h) (cwV 3 hg (gdV wh295 wh296 wh297 wd22 wh298) rfl rfl rfl (by decide +kernel) ⟨Nat.le_of_ble_eq_true rfl, Nat.le_of_ble_eq_true rfl⟩) ⟨wt_blind, va_recv hK hP (ci := 0) (q0 := 0) rfl rfl, fun U hU hW => ⟨rfl, by rw [hU], wb_preD hU hW hP hK hN hD0, hT.warm hW (fun q _ => by rw [hU])⟩⟩ rfl hl.1 rfl (Nat.le_of_ble_eq_true rfl) d_Law_turn_7 ⟨Nat.le_of_ble_eq_true rfl, Nat.le_of_ble_eq_true rfl⟩ hS hsub (fun T' x cell L X' q1 q2 q3 => st_caught1 X' (cls := cIOB) (clsX := cIOB) hown htab (hg _ wh294) (by decide) q1 q2 q3 (va_Nw.use rfl (hT.1 _ (by decide))) (g := F0 m 7 ls [.int 0, .ref o]) rfl (Nat.le_of_ble_eq_true rfl) (Nat.le_of_ble_eq_true rfl)) (fun x H locs hP1 hD1 hz1 hk1 hS => ?_)
  have hPo : va_P (dC, dI) classes [oc o cO f] H := hPo.kept (fun k q hk => by
    match k, hk with
    | 0, hk => cases hk; exact hk1 o hol (off_B hol hne))
  have hD : va_D A (wsB a cs σ') := hD1.weaken (fun _ _ _ h => hsub _ h)
  refine lv_astore (lv' := [(5, .ref x), (0, .ref (a 0)), (1, .int v1), (2, .int v2), (3, .int v3), (4, .ref o)]) hx hb d_Law_turn_15 hl (by decide) rfl (fun ls hl => ?_)
  refine lv_iconst (v := 1) hx hb d_Law_turn_17 (by decide) ?_
  exact W.iret (v := 1) hx hb hr (fun t ht hW => ⟨⟨1, (σ', f), rfl, ⟨rfl, rfl⟩, by rw [ht]; exact hP1, hD, by rw [ht]; exact hPo⟩, hS.F ht⟩) hS.2.2 d_Law_turn_18
theorem d_Law_common_0 : decode b_Law_common 0 = .ok (.aload_n 3, 1) := by decide +kernel
theorem d_Law_common_1 : decode b_Law_common 1 = .ok (.iconst 0, 1) := by decide +kernel
theorem d_Law_common_2 : decode b_Law_common 2 = .ok (.aload_n 0, 1) := by decide +kernel
theorem d_Law_common_3 : decode b_Law_common 3 = .ok (.iload_n 1, 1) := by decide +kernel
theorem d_Law_common_4 : decode b_Law_common 4 = .ok (.iload_n 2, 1) := by decide +kernel
theorem d_Law_common_5 : decode b_Law_common 5 = .ok (.invokevirtual 30, 3) := by decide +kernel
theorem d_Law_common_8 : decode b_Law_common 8 = .ok (.i2l, 1) := by decide +kernel
theorem d_Law_common_9 : decode b_Law_common 9 = .ok (.lastore, 1) := by decide +kernel
theorem d_Law_common_10 : decode b_Law_common 10 = .ok (.goto 7, 3) := by decide +kernel
theorem d_Law_common_13 : decode b_Law_common 13 = .ok (.astore 4, 2) := by decide +kernel
theorem d_Law_common_15 : decode b_Law_common 15 = .ok (.iconst 1, 1) := by decide +kernel
theorem d_Law_common_16 : decode b_Law_common 16 = .ok (.ireturn, 1) := by decide +kernel
theorem d_Law_common_17 : decode b_Law_common 17 = .ok (.iconst 0, 1) := by decide +kernel
theorem d_Law_common_18 : decode b_Law_common 18 = .ok (.ireturn, 1) := by decide +kernel
abbrev w_Law_common : List Cond := Cond.codeWith y_Law_common b_Law_common 5 (some .int) [(0, 10, 13, 19)] :: G_
def rmH_common_ret : Room := { frames := 7, cells := 0, slots := 0, locals := 159 }
set_option maxHeartbeats 4000000 in
set_option maxRecDepth 100000 in
theorem cH_common_ret (l : Launch) (hfl : l.flags = flags0) (dC : Nat → ClassId) (dI : Nat → Nat → Nat) (a : Nat → Nat) (cs : Nat → ClassId) (z sz : Nat) (hz : z ≤ sz) (hza : ∀ k, k < 15 → z ≤ a k) (o : Nat) (cO : ClassId) (f : Nat → Int64) (hne : ∀ k, k < 15 → a k ≠ o) (σ : SB) (v1 v2 : Int32) (r : Int32 × SB) (h : f_BlockRuler_common σ v1 v2 = some (Sum.inr r.1, r.2)) : Met l y_Law_common w_Law_common rmH_common_ret (va_Pc [.ref (a 0), .int v1, .int v2, .ref o] (fun U => U.heap.size = sz ∧ WH dC dI a cs z σ o cO f U)) (va_Qi (fun (x : Int32) (u : SB × (Nat → Int64)) => x = 0 ∧ u = (r.2, vp_updL f 0 (Int32.toInt64 r.1))) (atH dC dI a cs o cO (AH a cs σ o sz)) (AH a cs σ o sz)) 0 0 (AH a cs σ o sz) := by
  refine Met.ofWW (cc := b_Law_common) (maxL := 5) (ret := (some .int)) (hs := [(0, 10, 13, 19)]) (by decide) rfl ?_
  intro p e s m args below meth c s₁ B hml htab hv
  obtain ⟨rfl, hsz, ⟨hP, hK, hN, hD0⟩, hT, hXC, hPo, hKo⟩ := hv
  have hx := B.exec
  have hb := B.bytes
  have hr := B.returns
  have hg : ∀ w ∈ G_, w.before _ s = true := fun w hw => atoms_spec (ws := w_Law_common) B.pre w (List.mem_cons_of_mem _ hw)
  have hown : s.vm.findClass "BlockRulerLaw" = some m.cls := findClass_of_methodNamed B.named
  have hlocks := B.notSynchronized
  subst hsz
  have hol : o < s.heap.size := (hPo 0 _ rfl).lt
  have hsub : ∀ q, va_A (wsB a cs σ) s.heap.size q → AH a cs σ o s.heap.size q := fun q h => Or.inl h
  have hAo : AH a cs σ o s.heap.size o := Or.inr rfl
  have hD : va_D (AH a cs σ o s.heap.size) (wsB a cs σ) := (hD0.self (sz := s.heap.size)).weaken (fun _ _ _ h => hsub _ h)
  have hA : ∀ q : Nat, s.heap.size ≤ q → AH a cs σ o s.heap.size q := fun q h => Or.inl (Or.inr h)
  generalize hAe : AH a cs σ o s.heap.size = A at hsub hAo hD hA ⊢
  have hS : va_S A s.heap s.heap [] := va_S.rf
  have hl := lv_entry ([.ref (a 0), .int v1, .int v2, .ref o]) (n := 5) (Nat.le_of_ble_eq_true rfl)
  rw [lg_entry_eq]
  generalize (lg_sl ([.ref (a 0), .int v1, .int v2, .ref o]) ++ List.replicate (5 - (lg_sl ([.ref (a 0), .int v1, .int v2, .ref o])).length) Slot.unset).toArray = ls at hl ⊢
  have hl : lv_has ls 5 [(0, .ref (a 0)), (1, .int v1), (2, .int v2), (3, .ref o)] := hl
  refine lv_aload_n hx hb d_Law_common_0 rfl (lv_at hl 3 rfl) ?_
  refine lv_iconst (v := 0) hx hb d_Law_common_1 (by decide) ?_
  refine lv_aload_n hx hb d_Law_common_2 rfl (lv_at hl 0 rfl) ?_
  refine lv_iload_n hx hb d_Law_common_3 rfl (lv_at hl 1 rfl) ?_
  refine lv_iload_n hx hb d_Law_common_4 rfl (lv_at hl 2 rfl) ?_
  refine va_calli (va_runV (C := "BlockRuler") (As := [.int v1, .int v2]) (rest := [.int 0, .ref o]) ⟨hx, hb, hml, hown, hg⟩ (c_BlockRuler_common l dC dI a cs _ σ v1 v2 r h) (cwV 2 hg (gdV wh299 wh300 wh301 wd22 wh302) rfl rfl rfl (by decide +kernel) ⟨Nat.le_of_ble_eq_true rfl, Nat.le_of_ble_eq_true rfl⟩) ⟨wbz_blind, va_recv hK hP (ci := 0) (q0 := 0) rfl rfl, fun U hU hW => ⟨rfl, by rw [hU], wb_preD hU hW hP hK hN hD0⟩⟩ rfl rfl hl.1 rfl (lv_room (Nat.le_of_ble_eq_true rfl)) d_Law_common_5 ⟨Nat.zero_le _, Nat.zero_le _⟩) hS (fun q _ h => hsub q h) hsub (fun rv u t H locs ht hvm hw hB hz1 hk1 hS => ?_)
  obtain rfl : r.1 = rv := (congrArg Prod.fst hw).symm
  obtain rfl : r.2 = u := (congrArg Prod.snd hw).symm
  have hP : va_P (dC, dI) classes (wsB a cs r.2) H := by have q := hB.1; rw [ht] at q; exact q
  have hD : va_D A (wsB a cs r.2) := hB.2.weaken (fun _ _ _ h => hsub _ h)
  have hPo : va_P (dC, dI) classes [oc o cO f] H := hPo.kept (fun k q hk => by
    match k, hk with
    | 0, hk => cases hk; exact hk1 o hol (off_B hol hne))
  have hPa := vP_cons hPo hP
  have hDa := vD_cons (x := .inl (cO, 1, .inr (.inl f))) hAo hD hne
  refine lv_i2l (v := Int32.toInt64 r.1) hx hb d_Law_common_8 rfl ?_
  refine va_last (f := f) (n := 1) hx hb hKo hPa hDa hS 0 0 rfl rfl vin01 d_Law_common_9 (fun H locs hPa hDa hS => ?_)
  have hPa : va_P (dC, dI) classes (oc o cO (vp_updL f 0 (Int32.toInt64 r.1)) :: wsB a cs r.2) H := hPa
  refine lv_goto (tgt := 17) hx hb d_Law_common_10 (by decide) ?_
  refine lv_iconst (v := 0) hx hb d_Law_common_17 (by decide) ?_
  exact W.iret (v := 0) hx hb hr (fun t ht hW => ⟨⟨0, (r.2, vp_updL f 0 (Int32.toInt64 r.1)), rfl, ⟨rfl, rfl⟩, by rw [ht]; exact vP_tail hPa, hD, by rw [ht]; exact vP_head hPa⟩, hS.F ht⟩) hS.2.2 d_Law_common_18
def rmH_common_IAE : Room := { frames := 7, cells := 1, slots := 6, locals := 159 }
set_option maxHeartbeats 4000000 in
set_option maxRecDepth 100000 in
theorem cH_common_IAE (l : Launch) (hfl : l.flags = flags0) (dC : Nat → ClassId) (dI : Nat → Nat → Nat) (a : Nat → Nat) (cs : Nat → ClassId) (z sz : Nat) (hz : z ≤ sz) (hza : ∀ k, k < 15 → z ≤ a k) (o : Nat) (cO : ClassId) (f : Nat → Int64) (hne : ∀ k, k < 15 → a k ≠ o) (σ : SB) (v1 v2 : Int32) (σ' : SB) (h : f_BlockRuler_common σ v1 v2 = some (Sum.inl 1, σ')) : Met l y_Law_common w_Law_common rmH_common_IAE (va_Pc [.ref (a 0), .int v1, .int v2, .ref o] (fun U => U.heap.size = sz ∧ WH dC dI a cs z σ o cO f U)) (va_Qi (fun (x : Int32) (u : SB × (Nat → Int64)) => x = 1 ∧ u = (σ', f)) (atH dC dI a cs o cO (AH a cs σ o sz)) (AH a cs σ o sz)) 1 6 (AH a cs σ o sz) := by
  refine Met.ofWW (cc := b_Law_common) (maxL := 5) (ret := (some .int)) (hs := [(0, 10, 13, 19)]) (by decide) rfl ?_
  intro p e s m args below meth c s₁ B hml htab hv
  obtain ⟨rfl, hsz, ⟨hP, hK, hN, hD0⟩, hT, hXC, hPo, hKo⟩ := hv
  have hx := B.exec
  have hb := B.bytes
  have hr := B.returns
  have hg : ∀ w ∈ G_, w.before _ s = true := fun w hw => atoms_spec (ws := w_Law_common) B.pre w (List.mem_cons_of_mem _ hw)
  have hown : s.vm.findClass "BlockRulerLaw" = some m.cls := findClass_of_methodNamed B.named
  have hlocks := B.notSynchronized
  subst hsz
  have hol : o < s.heap.size := (hPo 0 _ rfl).lt
  have hsub : ∀ q, va_A (wsB a cs σ) s.heap.size q → AH a cs σ o s.heap.size q := fun q h => Or.inl h
  have hAo : AH a cs σ o s.heap.size o := Or.inr rfl
  have hD : va_D (AH a cs σ o s.heap.size) (wsB a cs σ) := (hD0.self (sz := s.heap.size)).weaken (fun _ _ _ h => hsub _ h)
  have hA : ∀ q : Nat, s.heap.size ≤ q → AH a cs σ o s.heap.size q := fun q h => Or.inl (Or.inr h)
  generalize hAe : AH a cs σ o s.heap.size = A at hsub hAo hD hA ⊢
  have hS : va_S A s.heap s.heap [] := va_S.rf
  have hl := lv_entry ([.ref (a 0), .int v1, .int v2, .ref o]) (n := 5) (Nat.le_of_ble_eq_true rfl)
  rw [lg_entry_eq]
  generalize (lg_sl ([.ref (a 0), .int v1, .int v2, .ref o]) ++ List.replicate (5 - (lg_sl ([.ref (a 0), .int v1, .int v2, .ref o])).length) Slot.unset).toArray = ls at hl ⊢
  have hl : lv_has ls 5 [(0, .ref (a 0)), (1, .int v1), (2, .int v2), (3, .ref o)] := hl
  refine lv_aload_n hx hb d_Law_common_0 rfl (lv_at hl 3 rfl) ?_
  refine lv_iconst (v := 0) hx hb d_Law_common_1 (by decide) ?_
  refine lv_aload_n hx hb d_Law_common_2 rfl (lv_at hl 0 rfl) ?_
  refine lv_iload_n hx hb d_Law_common_3 rfl (lv_at hl 1 rfl) ?_
  refine lv_iload_n hx hb d_Law_common_4 rfl (lv_at hl 2 rfl) ?_
  refine W.callC (h2 := 13) (As := [.int v1, .int v2]) (rest := [.int 0, .ref o]) hx hb hml hown (cT_BlockRuler_common_IAE l hfl dC dI a cs z _ hz hza σ v1 v2 σ' h) (cwV 2 hg (gdV wh299 wh300 wh301 wd22 wh302) rfl rfl rfl (by decide +kernel) ⟨Nat.le_of_ble_eq_true rfl, Nat.le_of_ble_eq_true rfl⟩) ⟨wt_blind, va_recv hK hP (ci := 0) (q0 := 0) rfl rfl, fun U hU hW => ⟨rfl, by rw [hU], wb_preD hU hW hP hK hN hD0, hT.warm hW (fun q _ => by rw [hU])⟩⟩ rfl hl.1 rfl (Nat.le_of_ble_eq_true rfl) d_Law_common_5 ⟨Nat.le_of_ble_eq_true rfl, Nat.le_of_ble_eq_true rfl⟩ hS hsub (fun T' x cell L X' q1 q2 q3 => st_caught1 X' (cls := cIAE) (clsX := cIAE) hown htab (hg _ wh289) (by decide) q1 q2 q3 (va_Nw.use rfl (hT.1 _ (by decide))) (g := F0 m 5 ls [.int 0, .ref o]) rfl (Nat.le_of_ble_eq_true rfl) (Nat.le_of_ble_eq_true rfl)) (fun x H locs hP1 hD1 hz1 hk1 hS => ?_)
  have hPo : va_P (dC, dI) classes [oc o cO f] H := hPo.kept (fun k q hk => by
    match k, hk with
    | 0, hk => cases hk; exact hk1 o hol (off_B hol hne))
  have hD : va_D A (wsB a cs σ') := hD1.weaken (fun _ _ _ h => hsub _ h)
  refine lv_astore (lv' := [(4, .ref x), (0, .ref (a 0)), (1, .int v1), (2, .int v2), (3, .ref o)]) hx hb d_Law_common_13 hl (by decide) rfl (fun ls hl => ?_)
  refine lv_iconst (v := 1) hx hb d_Law_common_15 (by decide) ?_
  exact W.iret (v := 1) hx hb hr (fun t ht hW => ⟨⟨1, (σ', f), rfl, ⟨rfl, rfl⟩, by rw [ht]; exact hP1, hD, by rw [ht]; exact hPo⟩, hS.F ht⟩) hS.2.2 d_Law_common_16
