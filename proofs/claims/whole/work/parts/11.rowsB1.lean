-- written by wip/gen (blockruler.py)
set_option maxHeartbeats 4000000 in
set_option maxRecDepth 100000 in
theorem c_BlockRuler_only (l : Launch) (v0 : Int32) (r : Int64) (h : f_BlockRuler_only v0 = r) : Met l y_BlockRuler_only w_BlockRuler_only rm_BlockRuler_only (va_Pc [.int v0] (fun _ => True)) (QcV (.long r)) 0 0 (fun _ => False) := by
  refine Met.ofW (cc := b_BlockRuler_only) (maxL := 1) (ret := (some .long)) (by decide) rfl ?_
  intro p e s m args below meth c s₁ B hml hv
  obtain ⟨rfl, -⟩ := hv
  have hx := B.exec
  have hb := B.bytes
  have hr := B.returns
  have hg : ∀ w ∈ G_, w.before _ s = true := fun w hw => atoms_spec (ws := w_BlockRuler_only) B.pre w (List.mem_cons_of_mem _ hw)
  have hown : s.vm.findClass "BlockRuler" = some m.cls := findClass_of_methodNamed B.named
  have hlocks := B.notSynchronized
  have C0 : Cx "BlockRuler" b_BlockRuler_only 1 p s m _ meth c := ⟨hx, hb, hml, hown, hg, hlocks⟩
  have hl := lv_entry ([.int v0]) (n := 1) (Nat.le_of_ble_eq_true rfl)
  rw [lg_entry_eq]
  generalize (lg_sl ([.int v0]) ++ List.replicate (1 - (lg_sl ([.int v0])).length) Slot.unset).toArray = ls at hl ⊢
  have hl : lv_has ls 1 [(0, .int v0)] := hl
  unfold f_BlockRuler_only at h
  refine lv_lconst (v := 1) hx hb d_BlockRuler_only_0 (by decide) ?_
  refine lv_iload_n hx hb d_BlockRuler_only_1 rfl (lv_at hl 0 rfl) ?_
  refine lv_lshl (v := jshl 1 v0) hx hb d_BlockRuler_only_2 rfl ?_
  exact W.lret (v := jshl 1 v0) hx hb hr (fun t ht _ => ⟨by rw [h], ht⟩) (fun q hq => by cases hq) d_BlockRuler_only_3
set_option maxHeartbeats 4000000 in
set_option maxRecDepth 100000 in
theorem c_BlockRuler_holds (l : Launch) (v0 : Int64) (v2 : Int32) (r : Int32) (h : f_BlockRuler_holds v0 v2 = r) : Met l y_BlockRuler_holds w_BlockRuler_holds rm_BlockRuler_holds (va_Pc [.long v0, .int v2] (fun _ => True)) (QcV (.int r)) 0 0 (fun _ => False) := by
  refine Met.ofW (cc := b_BlockRuler_holds) (maxL := 3) (ret := (some .boolean)) (by decide) rfl ?_
  intro p e s m args below meth c s₁ B hml hv
  obtain ⟨rfl, -⟩ := hv
  have hx := B.exec
  have hb := B.bytes
  have hr := B.returns
  have hg : ∀ w ∈ G_, w.before _ s = true := fun w hw => atoms_spec (ws := w_BlockRuler_holds) B.pre w (List.mem_cons_of_mem _ hw)
  have hown : s.vm.findClass "BlockRuler" = some m.cls := findClass_of_methodNamed B.named
  have hlocks := B.notSynchronized
  have C0 : Cx "BlockRuler" b_BlockRuler_holds 3 p s m _ meth c := ⟨hx, hb, hml, hown, hg, hlocks⟩
  have hl := lv_entry ([.long v0, .int v2]) (n := 3) (Nat.le_of_ble_eq_true rfl)
  rw [lg_entry_eq]
  generalize (lg_sl ([.long v0, .int v2]) ++ List.replicate (3 - (lg_sl ([.long v0, .int v2])).length) Slot.unset).toArray = ls at hl ⊢
  have hl : lv_has ls 3 [(0, .long v0), (2, .int v2)] := hl
  unfold f_BlockRuler_holds at h
  refine lv_lload_n hx hb d_BlockRuler_holds_0 rfl (lv_at hl 0 rfl) ?_
  refine lv_iload_n hx hb d_BlockRuler_holds_1 rfl (lv_at hl 1 rfl) ?_
  refine lv_lushr (v := jushr v0 v2) hx hb d_BlockRuler_holds_2 rfl ?_
  refine lv_lconst (v := 1) hx hb d_BlockRuler_holds_3 (by decide) ?_
  refine lv_land hx hb d_BlockRuler_holds_4 ?_
  refine lv_lconst (v := 0) hx hb d_BlockRuler_holds_5 (by decide) ?_
  refine W.lcmp hx hb d_BlockRuler_holds_6 ?_
  refine lv_if_eq (tgt := 14) hx hb d_BlockRuler_holds_7 (by decide) (fun c1 => ?_) (fun c1 => ?_)
  · have h := b_t h c1
    refine lv_iconst (v := 0) hx hb d_BlockRuler_holds_14 (by decide) ?_
    exact W.zret (v := 0) (ty := .boolean) hx hb hr rfl (fun t ht _ => ⟨by rw [h], ht⟩) (fun q hq => by cases hq) d_BlockRuler_holds_15
  · have h := b_f h c1
    refine lv_iconst (v := 1) hx hb d_BlockRuler_holds_10 (by decide) ?_
    refine lv_goto (tgt := 15) hx hb d_BlockRuler_holds_11 (by decide) ?_
    exact W.zret (v := 1) (ty := .boolean) hx hb hr rfl (fun t ht _ => ⟨by rw [h], ht⟩) (fun q hq => by cases hq) d_BlockRuler_holds_15
set_option maxHeartbeats 4000000 in
set_option maxRecDepth 100000 in
theorem c_BlockRuler_least (l : Launch) (v0 : Int64) (r : Int32) (h : f_BlockRuler_least v0 = r) : Met l y_BlockRuler_least w_BlockRuler_least rm_BlockRuler_least (va_Pc [.long v0] (fun _ => True)) (QcV (.int r)) 0 0 (fun _ => False) := by
  refine Met.ofW (cc := b_BlockRuler_least) (maxL := 2) (ret := (some .int)) (by decide) rfl ?_
  intro p e s m args below meth c s₁ B hml hv
  obtain ⟨rfl, -⟩ := hv
  have hx := B.exec
  have hb := B.bytes
  have hr := B.returns
  have hg : ∀ w ∈ G_, w.before _ s = true := fun w hw => atoms_spec (ws := w_BlockRuler_least) B.pre w (List.mem_cons_of_mem _ hw)
  have hown : s.vm.findClass "BlockRuler" = some m.cls := findClass_of_methodNamed B.named
  have hlocks := B.notSynchronized
  have C0 : Cx "BlockRuler" b_BlockRuler_least 2 p s m _ meth c := ⟨hx, hb, hml, hown, hg, hlocks⟩
  have hl := lv_entry ([.long v0]) (n := 2) (Nat.le_of_ble_eq_true rfl)
  rw [lg_entry_eq]
  generalize (lg_sl ([.long v0]) ++ List.replicate (2 - (lg_sl ([.long v0])).length) Slot.unset).toArray = ls at hl ⊢
  have hl : lv_has ls 2 [(0, .long v0)] := hl
  unfold f_BlockRuler_least at h
  refine lv_lload_n hx hb d_BlockRuler_least_0 rfl (lv_at hl 0 rfl) ?_
  refine lv_lload_n hx hb d_BlockRuler_least_1 rfl (lv_at hl 0 rfl) ?_
  refine lv_lneg hx hb d_BlockRuler_least_2 ?_
  refine lv_land hx hb d_BlockRuler_least_3 ?_
  refine lv_lconst (v := 1) hx hb d_BlockRuler_least_4 (by decide) ?_
  refine lv_lsub hx hb d_BlockRuler_least_5 ?_
  refine ro_call (v := .int (f_Long_bitCount ((v0 &&& (-v0)) - 1))) (va_runS (As := [.long ((v0 &&& (-v0)) - 1)]) (rest := []) ⟨hx, hb, hml, hown, hg⟩ (c_Long_bitCount l ((v0 &&& (-v0)) - 1) _ rfl) (va_cwS 1 hg (gdSX wd16 wd17 wd18 wd19) rfl rfl rfl (by decide +kernel) ⟨Nat.le_of_ble_eq_true rfl, Nat.le_of_ble_eq_true rfl⟩) ⟨va_blind0, fun U hU hW => ⟨rfl, trivial⟩⟩ rfl rfl hl.1 rfl (lv_room (Nat.le_of_ble_eq_true rfl)) d_BlockRuler_least_6 ⟨Nat.zero_le _, Nat.zero_le _⟩) ?_
  exact W.iret (v := f_Long_bitCount ((v0 &&& (-v0)) - 1)) hx hb hr (fun t ht _ => ⟨by rw [h], ht⟩) (fun q hq => by cases hq) d_BlockRuler_least_9
set_option maxHeartbeats 4000000 in
set_option maxRecDepth 100000 in
theorem c_BlockRuler_withoutLeast (l : Launch) (v0 : Int64) (r : Int64) (h : f_BlockRuler_withoutLeast v0 = r) : Met l y_BlockRuler_withoutLeast w_BlockRuler_withoutLeast rm_BlockRuler_withoutLeast (va_Pc [.long v0] (fun _ => True)) (QcV (.long r)) 0 0 (fun _ => False) := by
  refine Met.ofW (cc := b_BlockRuler_withoutLeast) (maxL := 2) (ret := (some .long)) (by decide) rfl ?_
  intro p e s m args below meth c s₁ B hml hv
  obtain ⟨rfl, -⟩ := hv
  have hx := B.exec
  have hb := B.bytes
  have hr := B.returns
  have hg : ∀ w ∈ G_, w.before _ s = true := fun w hw => atoms_spec (ws := w_BlockRuler_withoutLeast) B.pre w (List.mem_cons_of_mem _ hw)
  have hown : s.vm.findClass "BlockRuler" = some m.cls := findClass_of_methodNamed B.named
  have hlocks := B.notSynchronized
  have C0 : Cx "BlockRuler" b_BlockRuler_withoutLeast 2 p s m _ meth c := ⟨hx, hb, hml, hown, hg, hlocks⟩
  have hl := lv_entry ([.long v0]) (n := 2) (Nat.le_of_ble_eq_true rfl)
  rw [lg_entry_eq]
  generalize (lg_sl ([.long v0]) ++ List.replicate (2 - (lg_sl ([.long v0])).length) Slot.unset).toArray = ls at hl ⊢
  have hl : lv_has ls 2 [(0, .long v0)] := hl
  unfold f_BlockRuler_withoutLeast at h
  refine lv_lload_n hx hb d_BlockRuler_withoutLeast_0 rfl (lv_at hl 0 rfl) ?_
  refine lv_lload_n hx hb d_BlockRuler_withoutLeast_1 rfl (lv_at hl 0 rfl) ?_
  refine lv_lconst (v := 1) hx hb d_BlockRuler_withoutLeast_2 (by decide) ?_
  refine lv_lsub hx hb d_BlockRuler_withoutLeast_3 ?_
  refine lv_land hx hb d_BlockRuler_withoutLeast_4 ?_
  exact W.lret (v := v0 &&& (v0 - 1)) hx hb hr (fun t ht _ => ⟨by rw [h], ht⟩) (fun q hq => by cases hq) d_BlockRuler_withoutLeast_5
set_option maxHeartbeats 4000000 in
set_option maxRecDepth 100000 in
theorem lpW_BlockRuler_nth_19 {p : Program} {l : Launch} {e : Env} {s : State} {m : MethodId} {args : Array Value} {below : List Frame} {meth : Method} {c : Code} {Q : State → Prop} {H : Heap} {locs : List Loc} (C0 : Cx "BlockRuler" b_BlockRuler_nth 6 p s m args meth c) : ∀ (n : Nat) (v2 : Int32) (v3 : Int64) (v5 : Int32) (y : Int64 × Int32), lp_BlockRuler_nth_19 n v2 v3 v5 = some y → ∀ (ls : Array Slot), lv_has ls 6 [(2, .int v2), (3, .long v3), (5, .int v5)] → (∀ (ls : Array Slot), lv_has ls 6 [(2, .int v2), (3, .long y.1), (5, .int y.2)] → W p l e (headSpec w_BlockRuler_nth rm_BlockRuler_nth).room s m args below meth c H locs 0 0 Q (F0 m 36 ls [])) → W p l e (headSpec w_BlockRuler_nth rm_BlockRuler_nth).room s m args below meth c H locs 0 0 Q (F0 m 19 ls []) := by
  have C1 := C0
  obtain ⟨hx, hb, hml, hown, hg, hlocks⟩ := C1
  intro n
  induction n with
  | zero => intro v2 v3 v5 y h; exact absurd (show (none : Option (Int64 × Int32)) = some y from h) (fun q => by cases q)
  | succ n ih =>
    intro v2 v3 v5 y h ls hl k0
    rw [lp_BlockRuler_nth_19_s] at h
    refine lv_iload hx hb d_BlockRuler_nth_19 (lv_at hl 2 rfl) ?_
    refine lv_iload_n hx hb d_BlockRuler_nth_21 rfl (lv_at hl 0 rfl) ?_
    refine lv_icmp_ge (tgt := 36) hx hb d_BlockRuler_nth_22 (by decide) (fun c3 => ?_) (fun c3 => ?_)
    · have h := b_t h c3
      obtain rfl := Option.some.inj h
      exact k0 ls (lv_sub hl [0, 1, 2] rfl)
    · have h := b_f h c3
      refine lv_lload_n hx hb d_BlockRuler_nth_25 rfl (lv_at hl 1 rfl) ?_
      refine ro_call (v := .long (f_BlockRuler_withoutLeast v3)) (va_runS (As := [.long v3]) (rest := []) ⟨hx, hb, hml, hown, hg⟩ (c_BlockRuler_withoutLeast l v3 _ rfl) (cwS 1 hg (gdS wd20 wd21 wd22 wd23) rfl rfl rfl (by decide +kernel) ⟨Nat.le_of_ble_eq_true rfl, Nat.le_of_ble_eq_true rfl⟩) ⟨va_blind0, fun U hU hW => ⟨rfl, trivial⟩⟩ rfl rfl hl.1 rfl (lv_room (Nat.le_of_ble_eq_true rfl)) d_BlockRuler_nth_26 ⟨Nat.zero_le _, Nat.zero_le _⟩) ?_
      refine lv_topl (fun x4 ex4 => ?_)
      have h := lt_ h x4 ex4
      refine lv_lstore_n (lv' := [(3, .long x4), (2, .int v2), (5, .int v5)]) hx hb d_BlockRuler_nth_29 rfl hl (by decide) rfl (fun ls hl => ?_)
      refine lv_iinc (v := v5 + 1) (lv' := [(5, .int (v5 + 1)), (3, .long x4), (2, .int v2)]) hx hb d_BlockRuler_nth_30 hl (k := 2) rfl rfl (by decide) rfl (fun ls hl => ?_)
      refine lv_goto (tgt := 19) hx hb d_BlockRuler_nth_33 (by decide) ?_
      exact ih v2 x4 (v5 + 1) y h ls (lv_sub hl [2, 1, 0] rfl) k0
set_option maxHeartbeats 4000000 in
set_option maxRecDepth 100000 in
theorem c_BlockRuler_nth (l : Launch) (v0 : Int64) (v2 : Int32) (r : Int32) (h : f_BlockRuler_nth v0 v2 = some r) : Met l y_BlockRuler_nth w_BlockRuler_nth rm_BlockRuler_nth (va_Pc [.long v0, .int v2] (fun _ => True)) (QcV (.int r)) 0 0 (fun _ => False) := by
  refine Met.ofW (cc := b_BlockRuler_nth) (maxL := 6) (ret := (some .int)) (by decide) rfl ?_
  intro p e s m args below meth c s₁ B hml hv
  obtain ⟨rfl, -⟩ := hv
  have hx := B.exec
  have hb := B.bytes
  have hr := B.returns
  have hg : ∀ w ∈ G_, w.before _ s = true := fun w hw => atoms_spec (ws := w_BlockRuler_nth) B.pre w (List.mem_cons_of_mem _ hw)
  have hown : s.vm.findClass "BlockRuler" = some m.cls := findClass_of_methodNamed B.named
  have hlocks := B.notSynchronized
  have C0 : Cx "BlockRuler" b_BlockRuler_nth 6 p s m _ meth c := ⟨hx, hb, hml, hown, hg, hlocks⟩
  have hl := lv_entry ([.long v0, .int v2]) (n := 6) (Nat.le_of_ble_eq_true rfl)
  rw [lg_entry_eq]
  generalize (lg_sl ([.long v0, .int v2]) ++ List.replicate (6 - (lg_sl ([.long v0, .int v2])).length) Slot.unset).toArray = ls at hl ⊢
  have hl : lv_has ls 6 [(0, .long v0), (2, .int v2)] := hl
  unfold f_BlockRuler_nth at h
  refine lv_iload_n hx hb d_BlockRuler_nth_0 rfl (lv_at hl 1 rfl) ?_
  refine lv_if_lt (tgt := 12) hx hb d_BlockRuler_nth_1 (by decide) (fun c1 => ?_) (fun c1 => ?_)
  · have h := b_t h c1
    refine lv_iconst (v := -1) hx hb d_BlockRuler_nth_12 (by decide) ?_
    exact W.iret (v := -1) hx hb hr (fun t ht _ => ⟨by rw [Option.some.inj h], ht⟩) (fun q hq => by cases hq) d_BlockRuler_nth_13
  · have h := b_f h c1
    refine lv_iload_n hx hb d_BlockRuler_nth_4 rfl (lv_at hl 1 rfl) ?_
    refine lv_lload_n hx hb d_BlockRuler_nth_5 rfl (lv_at hl 0 rfl) ?_
    refine ro_call (v := .int (f_Long_bitCount v0)) (va_runS (As := [.long v0]) (rest := [.int v2]) ⟨hx, hb, hml, hown, hg⟩ (c_Long_bitCount l v0 _ rfl) (va_cwS 1 hg (gdSX wd16 wd17 wd18 wd19) rfl rfl rfl (by decide +kernel) ⟨Nat.le_of_ble_eq_true rfl, Nat.le_of_ble_eq_true rfl⟩) ⟨va_blind0, fun U hU hW => ⟨rfl, trivial⟩⟩ rfl rfl hl.1 rfl (lv_room (Nat.le_of_ble_eq_true rfl)) d_BlockRuler_nth_6 ⟨Nat.zero_le _, Nat.zero_le _⟩) ?_
    refine lv_icmp_lt (tgt := 14) hx hb d_BlockRuler_nth_9 (by decide) (fun c2 => ?_) (fun c2 => ?_)
    · have h := b_t h c2
      refine lv_lload_n hx hb d_BlockRuler_nth_14 rfl (lv_at hl 0 rfl) ?_
      refine lv_lstore_n (lv' := [(3, .long v0), (0, .long v0), (2, .int v2)]) hx hb d_BlockRuler_nth_15 rfl hl (by decide) rfl (fun ls hl => ?_)
      refine lv_iconst (v := 0) hx hb d_BlockRuler_nth_16 (by decide) ?_
      refine lv_istore (lv' := [(5, .int 0), (3, .long v0), (0, .long v0), (2, .int v2)]) hx hb d_BlockRuler_nth_17 hl (by decide) rfl (fun ls hl => ?_)
      obtain ⟨y5, hy5, h⟩ := bd h
      refine lpW_BlockRuler_nth_19 C0 100 v2 v0 0 y5 hy5 ls (lv_sub hl [3, 1, 0] rfl) (fun ls hl => ?_)
      refine lv_lload_n hx hb d_BlockRuler_nth_36 rfl (lv_at hl 1 rfl) ?_
      refine ro_call (v := .int (f_BlockRuler_least y5.1)) (va_runS (As := [.long y5.1]) (rest := []) ⟨hx, hb, hml, hown, hg⟩ (c_BlockRuler_least l y5.1 _ rfl) (cwS 1 hg (gdS wd24 wd25 wd22 wd26) rfl rfl rfl (by decide +kernel) ⟨Nat.le_of_ble_eq_true rfl, Nat.le_of_ble_eq_true rfl⟩) ⟨va_blind0, fun U hU hW => ⟨rfl, trivial⟩⟩ rfl rfl hl.1 rfl (lv_room (Nat.le_of_ble_eq_true rfl)) d_BlockRuler_nth_37 ⟨Nat.zero_le _, Nat.zero_le _⟩) ?_
      exact W.iret (v := f_BlockRuler_least y5.1) hx hb hr (fun t ht _ => ⟨by rw [Option.some.inj h], ht⟩) (fun q hq => by cases hq) d_BlockRuler_nth_40
    · have h := b_f h c2
      refine lv_iconst (v := -1) hx hb d_BlockRuler_nth_12 (by decide) ?_
      exact W.iret (v := -1) hx hb hr (fun t ht _ => ⟨by rw [Option.some.inj h], ht⟩) (fun q hq => by cases hq) d_BlockRuler_nth_13
set_option maxHeartbeats 4000000 in
set_option maxRecDepth 100000 in
theorem c_Walk_blockAt (l : Launch) (dC : Nat → ClassId) (dI : Nat → Nat → Nat) (a : Nat → Nat) (cs : Nat → ClassId) (σ : SB) (v1 : Int32) (r : Int32) (h : f_Walk_blockAt σ v1 = some r) : Met l y_Walk_blockAt w_Walk_blockAt rm_Walk_blockAt (va_Pc [.ref (a 2), .int v1] (WBB dC dI a cs σ)) (QcV (.int r)) 0 0 (fun _ => False) := by
  refine Met.ofW (cc := b_Walk_blockAt) (maxL := 2) (ret := (some .int)) (by decide) rfl ?_
  intro p e s m args below meth c s₁ B hml hv
  obtain ⟨rfl, hP, hK, hN⟩ := hv
  have hx := B.exec
  have hb := B.bytes
  have hr := B.returns
  have hg : ∀ w ∈ G_, w.before _ s = true := fun w hw => atoms_spec (ws := w_Walk_blockAt) B.pre w (List.mem_cons_of_mem _ hw)
  have hown : s.vm.findClass "BlockRuler$Walk" = some m.cls := findClass_of_methodNamed B.named
  have hlocks := B.notSynchronized
  have C0 : Cx "BlockRuler$Walk" b_Walk_blockAt 2 p s m _ meth c := ⟨hx, hb, hml, hown, hg, hlocks⟩
  have hl := lv_entry ([.ref (a 2), .int v1]) (n := 2) (Nat.le_of_ble_eq_true rfl)
  rw [lg_entry_eq]
  generalize (lg_sl ([.ref (a 2), .int v1]) ++ List.replicate (2 - (lg_sl ([.ref (a 2), .int v1])).length) Slot.unset).toArray = ls at hl ⊢
  have hl : lv_has ls 2 [(0, .ref (a 2)), (1, .int v1)] := hl
  unfold f_Walk_blockAt at h
  refine lv_aload_n hx hb d_Walk_blockAt_0 rfl (lv_at hl 0 rfl) ?_
  refine va_get (D := (dC, dI)) (ci := 2) (v := .ref (a 8)) (C := "BlockRuler$Walk") (T := F_Walk) (N := 9) hx hb hg i_Walk hown hK hP 2 rfl rfl 2 (by decide) (hg _ wd27) (fun _ h9 => h9) rfl d_Walk_blockAt_1 ?_
  refine lv_aload_n hx hb d_Walk_blockAt_4 rfl (lv_at hl 0 rfl) ?_
  refine va_get (D := (dC, dI)) (ci := 2) (v := .int (sB_reached σ)) (C := "BlockRuler$Walk") (T := F_Walk) (N := 9) hx hb hg i_Walk hown hK hP 2 rfl rfl 7 (by decide) (hg _ wd28) (fun _ h9 => h9) rfl d_Walk_blockAt_5 ?_
  refine lv_iconst (v := 1) hx hb d_Walk_blockAt_8 (by decide) ?_
  refine lv_isub hx hb d_Walk_blockAt_9 ?_
  refine lv_iload_n hx hb d_Walk_blockAt_10 rfl (lv_at hl 1 rfl) ?_
  refine lv_isub hx hb d_Walk_blockAt_11 ?_
  obtain ⟨hi1, h⟩ := gd h
  refine va_iald (f := sB_left σ) (n := 64) hx hb hK hP 8 3 rfl rfl hi1 d_Walk_blockAt_12 ?_
  exact W.iret (v := sB_left σ (Int32.toNatClampNeg (((sB_reached σ) - 1) - v1))) hx hb hr (fun t ht _ => ⟨by rw [Option.some.inj h], ht⟩) (fun q hq => by cases hq) d_Walk_blockAt_13
set_option maxHeartbeats 4000000 in
set_option maxRecDepth 100000 in
theorem lpW_Walk_lastOf_2 {p : Program} {l : Launch} {e : Env} {s : State} {m : MethodId} {args : Array Value} {below : List Frame} {meth : Method} {c : Code} {Q : State → Prop} {dC : Nat → ClassId} {dI : Nat → Nat → Nat} {a : Nat → Nat} {cs : Nat → ClassId} {H : Heap} {locs : List Loc} (C0 : Cx "BlockRuler$Walk" b_Walk_lastOf 4 p s m args meth c) (hK : va_K (dC, dI) classes (tyB cs) s) (hN : NW s) : ∀ (n : Nat) (σ : SB) (v1 : Int64) (v3 : Int32) (y : Sum (Int32) (Int32)), lp_Walk_lastOf_2 n σ v1 v3 = some y → va_P (dC, dI) classes (wsB a cs σ) H → ∀ (ls : Array Slot), lv_has ls 4 [(0, .ref (a 2)), (1, .long v1), (3, .int v3)] → (∀ (z : Int32), y = Sum.inl z → ∀ (ls : Array Slot), lv_has ls 4 [(0, .ref (a 2)), (1, .long v1), (3, .int z)] → W p l e (headSpec w_Walk_lastOf rm_Walk_lastOf).room s m args below meth c H locs 0 0 Q (F0 m 36 ls [])) → (∀ (z : Int32), y = Sum.inr z → ∀ (ls : Array Slot), lv_has ls 4 [(0, .ref (a 2)), (1, .long v1), (3, .int z)] → W p l e (headSpec w_Walk_lastOf rm_Walk_lastOf).room s m args below meth c H locs 0 0 Q (F0 m 23 ls [])) → W p l e (headSpec w_Walk_lastOf rm_Walk_lastOf).room s m args below meth c H locs 0 0 Q (F0 m 2 ls []) := by
  have C1 := C0
  obtain ⟨hx, hb, hml, hown, hg, hlocks⟩ := C1
  intro n
  induction n with
  | zero => intro σ v1 v3 y h; exact absurd (show (none : Option (Sum (Int32) (Int32))) = some y from h) (fun q => by cases q)
  | succ n ih =>
    intro σ v1 v3 y h hP ls hl k0 k1
    rw [lp_Walk_lastOf_2_s] at h
    refine lv_iload_n hx hb d_Walk_lastOf_2 rfl (lv_at hl 2 rfl) ?_
    refine lv_aload_n hx hb d_Walk_lastOf_3 rfl (lv_at hl 0 rfl) ?_
    refine va_get (D := (dC, dI)) (ci := 2) (v := .int (sB_reached σ)) (C := "BlockRuler$Walk") (T := F_Walk) (N := 9) hx hb hg i_Walk hown hK hP 2 rfl rfl 7 (by decide) (hg _ wd28) (fun _ h9 => h9) rfl d_Walk_lastOf_4 ?_
    refine lv_icmp_ge (tgt := 36) hx hb d_Walk_lastOf_7 (by decide) (fun c1 => ?_) (fun c1 => ?_)
    · have h := b_t h c1
      obtain rfl := Option.some.inj h
      exact k0 v3 rfl ls (lv_sub hl [0, 1, 2] rfl)
    · have h := b_f h c1
      refine lv_lload_n hx hb d_Walk_lastOf_10 rfl (lv_at hl 1 rfl) ?_
      refine lv_aload_n hx hb d_Walk_lastOf_11 rfl (lv_at hl 0 rfl) ?_
      refine va_get (D := (dC, dI)) (ci := 2) (v := .ref (a 8)) (C := "BlockRuler$Walk") (T := F_Walk) (N := 9) hx hb hg i_Walk hown hK hP 2 rfl rfl 2 (by decide) (hg _ wd27) (fun _ h9 => h9) rfl d_Walk_lastOf_12 ?_
      refine lv_iload_n hx hb d_Walk_lastOf_15 rfl (lv_at hl 2 rfl) ?_
      obtain ⟨hi2, h⟩ := gd h
      refine va_iald (f := sB_left σ) (n := 64) hx hb hK hP 8 3 rfl rfl hi2 d_Walk_lastOf_16 ?_
      refine ro_call (v := .int (f_BlockRuler_holds v1 (sB_left σ (Int32.toNatClampNeg v3)))) (va_runSN (As := [.long v1, .int (sB_left σ (Int32.toNatClampNeg v3))]) (rest := []) ⟨hx, hb, hml, hown, hg⟩ (c_BlockRuler_holds l v1 (sB_left σ (Int32.toNatClampNeg v3)) _ rfl) ⟨va_cnB 2 hg (gdC wd29) rfl rfl rfl (hN _ nw0) (hg _ wd22) (by decide +kernel) ⟨Nat.le_of_ble_eq_true rfl, Nat.le_of_ble_eq_true rfl⟩, hg _ wd30, trivial⟩ ⟨va_blind0, fun U hU hW => ⟨rfl, trivial⟩⟩ rfl rfl hl.1 rfl (lv_room (Nat.le_of_ble_eq_true rfl)) d_Walk_lastOf_17 ⟨Nat.zero_le _, Nat.zero_le _⟩) ?_
      refine lv_if_eq (tgt := 30) hx hb d_Walk_lastOf_20 (by decide) (fun c3 => ?_) (fun c3 => ?_)
      · have h := b_t h c3
        refine lv_iinc (v := v3 + 1) (lv' := [(3, .int (v3 + 1)), (0, .ref (a 2)), (1, .long v1)]) hx hb d_Walk_lastOf_30 hl (k := 2) rfl rfl (by decide) rfl (fun ls hl => ?_)
        refine lv_goto (tgt := 2) hx hb d_Walk_lastOf_33 (by decide) ?_
        exact ih σ v1 (v3 + 1) y h hP ls (lv_sub hl [1, 2, 0] rfl) k0 k1
      · have h := b_f h c3
        obtain rfl := Option.some.inj h
        exact k1 v3 rfl ls (lv_sub hl [0, 1, 2] rfl)
set_option maxHeartbeats 4000000 in
set_option maxRecDepth 100000 in
theorem c_Walk_lastOf (l : Launch) (dC : Nat → ClassId) (dI : Nat → Nat → Nat) (a : Nat → Nat) (cs : Nat → ClassId) (σ : SB) (v1 : Int64) (r : Int32) (h : f_Walk_lastOf σ v1 = some r) : Met l y_Walk_lastOf w_Walk_lastOf rm_Walk_lastOf (va_Pc [.ref (a 2), .long v1] (WBB dC dI a cs σ)) (QcV (.int r)) 0 0 (fun _ => False) := by
  refine Met.ofW (cc := b_Walk_lastOf) (maxL := 4) (ret := (some .int)) (by decide) rfl ?_
  intro p e s m args below meth c s₁ B hml hv
  obtain ⟨rfl, hP, hK, hN⟩ := hv
  have hx := B.exec
  have hb := B.bytes
  have hr := B.returns
  have hg : ∀ w ∈ G_, w.before _ s = true := fun w hw => atoms_spec (ws := w_Walk_lastOf) B.pre w (List.mem_cons_of_mem _ hw)
  have hown : s.vm.findClass "BlockRuler$Walk" = some m.cls := findClass_of_methodNamed B.named
  have hlocks := B.notSynchronized
  have C0 : Cx "BlockRuler$Walk" b_Walk_lastOf 4 p s m _ meth c := ⟨hx, hb, hml, hown, hg, hlocks⟩
  have hl := lv_entry ([.ref (a 2), .long v1]) (n := 4) (Nat.le_of_ble_eq_true rfl)
  rw [lg_entry_eq]
  generalize (lg_sl ([.ref (a 2), .long v1]) ++ List.replicate (4 - (lg_sl ([.ref (a 2), .long v1])).length) Slot.unset).toArray = ls at hl ⊢
  have hl : lv_has ls 4 [(0, .ref (a 2)), (1, .long v1)] := hl
  unfold f_Walk_lastOf at h
  refine lv_iconst (v := 0) hx hb d_Walk_lastOf_0 (by decide) ?_
  refine lv_istore_n (lv' := [(3, .int 0), (0, .ref (a 2)), (1, .long v1)]) hx hb d_Walk_lastOf_1 rfl hl (by decide) rfl (fun ls hl => ?_)
  obtain ⟨y4, hy4, h⟩ := bd h
  refine lpW_Walk_lastOf_2 C0 hK hN 100 σ v1 0 y4 hy4 hP ls (lv_sub hl [1, 2, 0] rfl) (fun z5 ez5 ls hl => ?_) (fun z6 ez6 ls hl => ?_)
  · subst ez5
    have h := s_l h
    refine lv_iconst (v := -1) hx hb d_Walk_lastOf_36 (by decide) ?_
    exact W.iret (v := -1) hx hb hr (fun t ht _ => ⟨by rw [Option.some.inj h], ht⟩) (fun q hq => by cases hq) d_Walk_lastOf_37
  · subst ez6
    have h := s_r h
    refine lv_aload_n hx hb d_Walk_lastOf_23 rfl (lv_at hl 0 rfl) ?_
    refine va_get (D := (dC, dI)) (ci := 2) (v := .ref (a 8)) (C := "BlockRuler$Walk") (T := F_Walk) (N := 9) hx hb hg i_Walk hown hK hP 2 rfl rfl 2 (by decide) (hg _ wd27) (fun _ h9 => h9) rfl d_Walk_lastOf_24 ?_
    refine lv_iload_n hx hb d_Walk_lastOf_27 rfl (lv_at hl 2 rfl) ?_
    obtain ⟨hi7, h⟩ := gd h
    refine va_iald (f := sB_left σ) (n := 64) hx hb hK hP 8 3 rfl rfl hi7 d_Walk_lastOf_28 ?_
    exact W.iret (v := sB_left σ (Int32.toNatClampNeg z6)) hx hb hr (fun t ht _ => ⟨by rw [Option.some.inj h], ht⟩) (fun q hq => by cases hq) d_Walk_lastOf_29
set_option maxHeartbeats 4000000 in
set_option maxRecDepth 100000 in
theorem lpW_Walk_clear_7 {p : Program} {l : Launch} {e : Env} {s : State} {m : MethodId} {args : Array Value} {below : List Frame} {meth : Method} {c : Code} {Q : State → Prop} {dC : Nat → ClassId} {dI : Nat → Nat → Nat} {a : Nat → Nat} {cs : Nat → ClassId} {A : Nat → Prop} (C0 : Cx "BlockRuler$Walk" b_Walk_clear 2 p s m args meth c) (hK : va_K (dC, dI) classes (tyB cs) s) (hN : NW s) (hA : ∀ q : Nat, s.heap.size ≤ q → A q) : ∀ (n : Nat) (σ : SB) (v1 : Int32) (y : Int32 × SB), lp_Walk_clear_7 n σ v1 = some y → ∀ (H : Heap) (locs : List Loc) (ls : Array Slot), va_P (dC, dI) classes (wsB a cs σ) H → va_D A (wsB a cs σ) → va_S A s.heap H locs → lv_has ls 2 [(0, .ref (a 2)), (1, .int v1)] → (∀ (H : Heap) (locs : List Loc) (ls : Array Slot), va_P (dC, dI) classes (wsB a cs y.2) H → va_D A (wsB a cs y.2) → va_S A s.heap H locs → lv_has ls 2 [(0, .ref (a 2)), (1, .int y.1)] → W p l e (headSpec w_Walk_clear rm_Walk_clear).room s m args below meth c H locs 0 0 Q (F0 m 47 ls [])) → W p l e (headSpec w_Walk_clear rm_Walk_clear).room s m args below meth c H locs 0 0 Q (F0 m 7 ls []) := by
  have C1 := C0
  obtain ⟨hx, hb, hml, hown, hg, hlocks⟩ := C1
  intro n
  induction n with
  | zero => intro σ v1 y h; exact absurd (show (none : Option (Int32 × SB)) = some y from h) (fun q => by cases q)
  | succ n ih =>
    intro σ v1 y h H locs ls hP hD hS hl k0
    rw [lp_Walk_clear_7_s] at h
    refine lv_iload_n hx hb d_Walk_clear_7 rfl (lv_at hl 1 rfl) ?_
    refine lv_bipush (v := 64) hx hb d_Walk_clear_8 (by decide) ?_
    refine lv_icmp_ge (tgt := 47) hx hb d_Walk_clear_10 (by decide) (fun c1 => ?_) (fun c1 => ?_)
    · have h := b_t h c1
      obtain rfl := Option.some.inj h
      exact k0 _ _ ls hP hD hS (lv_sub hl [0, 1] rfl)
    · have h := b_f h c1
      refine lv_aload_n hx hb d_Walk_clear_13 rfl (lv_at hl 0 rfl) ?_
      refine va_get (D := (dC, dI)) (ci := 2) (v := .ref (a 7)) (C := "BlockRuler$Walk") (T := F_Walk) (N := 9) hx hb hg i_Walk hown hK hP 2 rfl rfl 1 (by decide) (hg _ wd31) (fun _ h9 => h9) rfl d_Walk_clear_14 ?_
      refine lv_iload_n hx hb d_Walk_clear_17 rfl (lv_at hl 1 rfl) ?_
      refine lv_iconst (v := -1) hx hb d_Walk_clear_18 (by decide) ?_
      obtain ⟨hi2, h⟩ := gd h
      refine va_iast (f := sB_orders σ) (n := 64) hx hb hK hP hD hS 7 2 rfl rfl hi2 d_Walk_clear_19 (fun H locs hP hD hS => ?_)
      have hP := va_Pe (setB_orders a cs σ (upd (sB_orders σ) (Int32.toNatClampNeg v1) (-1))) hP
      have hD := va_De (setB_orders a cs σ (upd (sB_orders σ) (Int32.toNatClampNeg v1) (-1))) hD
      refine lv_aload_n hx hb d_Walk_clear_20 rfl (lv_at hl 0 rfl) ?_
      refine va_get (D := (dC, dI)) (ci := 2) (v := .ref (a 10)) (C := "BlockRuler$Walk") (T := F_Walk) (N := 9) hx hb hg i_Walk hown hK hP 2 rfl rfl 4 (by decide) (hg _ wd32) (fun _ h9 => h9) rfl d_Walk_clear_21 ?_
      refine lv_iload_n hx hb d_Walk_clear_24 rfl (lv_at hl 1 rfl) ?_
      refine lv_iconst (v := 0) hx hb d_Walk_clear_25 (by decide) ?_
      refine va_iast (f := sB_taken σ) (n := 64) hx hb hK hP hD hS 10 5 (rdB_taken a cs (uB_orders σ (upd (sB_orders σ) (Int32.toNatClampNeg v1) (-1))) (gB_taken_orders _ _)) rfl hi2 d_Walk_clear_26 (fun H locs hP hD hS => ?_)
      have hP := va_Pe (setB_taken a cs (uB_orders σ (upd (sB_orders σ) (Int32.toNatClampNeg v1) (-1))) (upd (sB_taken σ) (Int32.toNatClampNeg v1) 0)) hP
      have hD := va_De (setB_taken a cs (uB_orders σ (upd (sB_orders σ) (Int32.toNatClampNeg v1) (-1))) (upd (sB_taken σ) (Int32.toNatClampNeg v1) 0)) hD
      refine lv_aload_n hx hb d_Walk_clear_27 rfl (lv_at hl 0 rfl) ?_
      refine va_get (D := (dC, dI)) (ci := 2) (v := .ref (a 11)) (C := "BlockRuler$Walk") (T := F_Walk) (N := 9) hx hb hg i_Walk hown hK hP 2 rfl rfl 5 (by decide) (hg _ wd33) (fun _ h9 => h9) rfl d_Walk_clear_28 ?_
      refine lv_iload_n hx hb d_Walk_clear_31 rfl (lv_at hl 1 rfl) ?_
      refine lv_lconst (v := 0) hx hb d_Walk_clear_32 (by decide) ?_
      refine va_last (f := sB_comers σ) (n := 64) hx hb hK hP hD hS 11 6 (rdB_comers a cs (uB_taken (uB_orders σ (upd (sB_orders σ) (Int32.toNatClampNeg v1) (-1))) (upd (sB_taken σ) (Int32.toNatClampNeg v1) 0)) ((gB_comers_taken _ _).trans (gB_comers_orders _ _))) rfl hi2 d_Walk_clear_33 (fun H locs hP hD hS => ?_)
      have hP := va_Pe (setB_comers a cs (uB_taken (uB_orders σ (upd (sB_orders σ) (Int32.toNatClampNeg v1) (-1))) (upd (sB_taken σ) (Int32.toNatClampNeg v1) 0)) (vp_updL (sB_comers σ) (Int32.toNatClampNeg v1) 0)) hP
      have hD := va_De (setB_comers a cs (uB_taken (uB_orders σ (upd (sB_orders σ) (Int32.toNatClampNeg v1) (-1))) (upd (sB_taken σ) (Int32.toNatClampNeg v1) 0)) (vp_updL (sB_comers σ) (Int32.toNatClampNeg v1) 0)) hD
      refine lv_aload_n hx hb d_Walk_clear_34 rfl (lv_at hl 0 rfl) ?_
      refine va_get (D := (dC, dI)) (ci := 2) (v := .ref (a 12)) (C := "BlockRuler$Walk") (T := F_Walk) (N := 9) hx hb hg i_Walk hown hK hP 2 rfl rfl 6 (by decide) (hg _ wd34) (fun _ h9 => h9) rfl d_Walk_clear_35 ?_
      refine lv_iload_n hx hb d_Walk_clear_38 rfl (lv_at hl 1 rfl) ?_
      refine lv_iconst (v := 0) hx hb d_Walk_clear_39 (by decide) ?_
      refine va_iast (f := sB_comings σ) (n := 64) hx hb hK hP hD hS 12 7 (rdB_comings a cs (uB_comers (uB_taken (uB_orders σ (upd (sB_orders σ) (Int32.toNatClampNeg v1) (-1))) (upd (sB_taken σ) (Int32.toNatClampNeg v1) 0)) (vp_updL (sB_comers σ) (Int32.toNatClampNeg v1) 0)) ((gB_comings_comers _ _).trans ((gB_comings_taken _ _).trans (gB_comings_orders _ _)))) rfl hi2 d_Walk_clear_40 (fun H locs hP hD hS => ?_)
      have hP := va_Pe (setB_comings a cs (uB_comers (uB_taken (uB_orders σ (upd (sB_orders σ) (Int32.toNatClampNeg v1) (-1))) (upd (sB_taken σ) (Int32.toNatClampNeg v1) 0)) (vp_updL (sB_comers σ) (Int32.toNatClampNeg v1) 0)) (upd (sB_comings σ) (Int32.toNatClampNeg v1) 0)) hP
      have hD := va_De (setB_comings a cs (uB_comers (uB_taken (uB_orders σ (upd (sB_orders σ) (Int32.toNatClampNeg v1) (-1))) (upd (sB_taken σ) (Int32.toNatClampNeg v1) 0)) (vp_updL (sB_comers σ) (Int32.toNatClampNeg v1) 0)) (upd (sB_comings σ) (Int32.toNatClampNeg v1) 0)) hD
      refine lv_iinc (v := v1 + 1) (lv' := [(1, .int (v1 + 1)), (0, .ref (a 2))]) hx hb d_Walk_clear_41 hl (k := 1) rfl rfl (by decide) rfl (fun ls hl => ?_)
      refine lv_goto (tgt := 7) hx hb d_Walk_clear_44 (by decide) ?_
      exact ih (uB_comings (uB_comers (uB_taken (uB_orders σ (upd (sB_orders σ) (Int32.toNatClampNeg v1) (-1))) (upd (sB_taken σ) (Int32.toNatClampNeg v1) 0)) (vp_updL (sB_comers σ) (Int32.toNatClampNeg v1) 0)) (upd (sB_comings σ) (Int32.toNatClampNeg v1) 0)) (v1 + 1) y h _ _ ls hP hD hS (lv_sub hl [1, 0] rfl) k0
set_option maxHeartbeats 4000000 in
set_option maxRecDepth 100000 in
theorem c_Walk_clear (l : Launch) (dC : Nat → ClassId) (dI : Nat → Nat → Nat) (a : Nat → Nat) (cs : Nat → ClassId) (sz : Nat) (σ : SB) (r : SB) (h : f_Walk_clear σ = some r) : Met l y_Walk_clear w_Walk_clear rm_Walk_clear (va_Pc [.ref (a 2)] (fun U => U.heap.size = sz ∧ WDB dC dI a cs σ U)) (va_Qv (fun u : SB => u = r) (atB dC dI a cs (va_A (wsB a cs σ) sz)) (va_A (wsB a cs σ) sz)) 0 0 (va_A (wsB a cs σ) sz) := by
  refine Met.ofW (cc := b_Walk_clear) (maxL := 2) (ret := none) (by decide) rfl ?_
  intro p e s m args below meth c s₁ B hml hv
  obtain ⟨rfl, hsz, hP, hK, hN, hD0⟩ := hv
  have hx := B.exec
  have hb := B.bytes
  have hr := B.returns
  have hg : ∀ w ∈ G_, w.before _ s = true := fun w hw => atoms_spec (ws := w_Walk_clear) B.pre w (List.mem_cons_of_mem _ hw)
  have hown : s.vm.findClass "BlockRuler$Walk" = some m.cls := findClass_of_methodNamed B.named
  have hlocks := B.notSynchronized
  have C0 : Cx "BlockRuler$Walk" b_Walk_clear 2 p s m _ meth c := ⟨hx, hb, hml, hown, hg, hlocks⟩
  subst hsz
  have hD := hD0.self (sz := s.heap.size)
  generalize hAe : va_A (wsB a cs σ) s.heap.size = A at hD ⊢
  have hA : ∀ q : Nat, s.heap.size ≤ q → A q := fun q h => by rw [← hAe]; exact Or.inr h
  have hS : va_S A s.heap s.heap [] := va_S.rf
  have hl := lv_entry ([.ref (a 2)]) (n := 2) (Nat.le_of_ble_eq_true rfl)
  rw [lg_entry_eq]
  generalize (lg_sl ([.ref (a 2)]) ++ List.replicate (2 - (lg_sl ([.ref (a 2)])).length) Slot.unset).toArray = ls at hl ⊢
  have hl : lv_has ls 2 [(0, .ref (a 2))] := hl
  unfold f_Walk_clear at h
  refine lv_aload_n hx hb d_Walk_clear_0 rfl (lv_at hl 0 rfl) ?_
  refine lv_iconst (v := 0) hx hb d_Walk_clear_1 (by decide) ?_
  refine va_put (D := (dC, dI)) (ci := 2) (v := .int 0) (ty := .int) (C := "BlockRuler$Walk") (T := F_Walk) (N := 9) hx hb hg i_Walk t_Walk t_Walk_ok n_Walk hown hK hP hD hS 2 rfl rfl 7 (by decide) (hg _ wd28) (fun _ h9 => h9) rfl (by decide +kernel) rfl rfl (Nat.le_of_ble_eq_true rfl) d_Walk_clear_2 (fun H locs hP hD hS => ?_)
  have hP := va_Pe (setB_reached a cs σ 0) hP
  have hD := va_De (setB_reached a cs σ 0) hD
  refine lv_iconst (v := 0) hx hb d_Walk_clear_5 (by decide) ?_
  refine lv_istore_n (lv' := [(1, .int 0), (0, .ref (a 2))]) hx hb d_Walk_clear_6 rfl hl (by decide) rfl (fun ls hl => ?_)
  obtain ⟨y3, hy3, h⟩ := bd h
  refine lpW_Walk_clear_7 C0 hK hN hA 100 (uB_reached σ 0) 0 y3 hy3 _ _ ls hP hD hS (lv_sub hl [1, 0] rfl) (fun H locs ls hP hD hS hl => ?_)
  exact W.vret hx hb hr (fun t ht hW => ⟨⟨y3.2, rfl, Option.some.inj h, by rw [ht]; exact hP, hD⟩, hS.F ht⟩) hS.2.2 d_Walk_clear_47
set_option maxHeartbeats 4000000 in
set_option maxRecDepth 100000 in
theorem lpW_Walk_goDeep_19 {p : Program} {l : Launch} {e : Env} {s : State} {m : MethodId} {args : Array Value} {below : List Frame} {meth : Method} {c : Code} {Q : State → Prop} {dC : Nat → ClassId} {dI : Nat → Nat → Nat} {a : Nat → Nat} {cs : Nat → ClassId} {A : Nat → Prop} (C0 : Cx "BlockRuler$Walk" b_Walk_goDeep 5 p s m args meth c) (hK : va_K (dC, dI) classes (tyB cs) s) (hN : NW s) (hA : ∀ q : Nat, s.heap.size ≤ q → A q) : ∀ (n : Nat) (σ : SB) (v1 : Int32) (v2 : Int32) (y : Int32 × Int32 × SB), lp_Walk_goDeep_19 n σ v1 v2 = some y → ∀ (H : Heap) (locs : List Loc) (ls : Array Slot), va_P (dC, dI) classes (wsB a cs σ) H → va_D A (wsB a cs σ) → va_S A s.heap H locs → lv_has ls 5 [(0, .ref (a 2)), (1, .int v1), (2, .int v2)] → (∀ (H : Heap) (locs : List Loc) (ls : Array Slot), va_P (dC, dI) classes (wsB a cs y.2.2) H → va_D A (wsB a cs y.2.2) → va_S A s.heap H locs → lv_has ls 5 [(0, .ref (a 2)), (1, .int y.1), (2, .int y.2.1)] → W p l e (headSpec w_Walk_goDeep rm_Walk_goDeep).room s m args below meth c H locs 0 0 Q (F0 m 152 ls [])) → W p l e (headSpec w_Walk_goDeep rm_Walk_goDeep).room s m args below meth c H locs 0 0 Q (F0 m 19 ls []) := by
  have C1 := C0
  obtain ⟨hx, hb, hml, hown, hg, hlocks⟩ := C1
  intro n
  induction n with
  | zero => intro σ v1 v2 y h; exact absurd (show (none : Option (Int32 × Int32 × SB)) = some y from h) (fun q => by cases q)
  | succ n ih =>
    intro σ v1 v2 y h H locs ls hP hD hS hl k0
    rw [lp_Walk_goDeep_19_s] at h
    refine lv_iload_n hx hb d_Walk_goDeep_19 rfl (lv_at hl 2 rfl) ?_
    refine lv_sipush (v := 576) hx hb d_Walk_goDeep_20 (by decide) ?_
    refine lv_icmp_ge (tgt := 152) hx hb d_Walk_goDeep_23 (by decide) (fun c2 => ?_) (fun c2 => ?_)
    · have h := b_t h c2
      obtain rfl := Option.some.inj h
      exact k0 _ _ ls hP hD hS (lv_sub hl [0, 1, 2] rfl)
    · have h := b_f h c2
      refine lv_iload_n hx hb d_Walk_goDeep_26 rfl (lv_at hl 1 rfl) ?_
      refine lv_if_le (tgt := 152) hx hb d_Walk_goDeep_27 (by decide) (fun c3 => ?_) (fun c3 => ?_)
      · have h := b_t h c3
        obtain rfl := Option.some.inj h
        exact k0 _ _ ls hP hD hS (lv_sub hl [0, 1, 2] rfl)
      · have h := b_f h c3
        refine lv_aload_n hx hb d_Walk_goDeep_30 rfl (lv_at hl 0 rfl) ?_
        refine va_get (D := (dC, dI)) (ci := 2) (v := .ref (a 9)) (C := "BlockRuler$Walk") (T := F_Walk) (N := 9) hx hb hg i_Walk hown hK hP 2 rfl rfl 3 (by decide) (hg _ wd38) (fun _ h9 => h9) rfl d_Walk_goDeep_31 ?_
        refine lv_iload_n hx hb d_Walk_goDeep_34 rfl (lv_at hl 1 rfl) ?_
        refine lv_iconst (v := 1) hx hb d_Walk_goDeep_35 (by decide) ?_
        refine lv_isub hx hb d_Walk_goDeep_36 ?_
        obtain ⟨hi4, h⟩ := gd h
        refine va_iald (f := sB_open σ) (n := 64) hx hb hK hP 9 4 rfl rfl hi4 d_Walk_goDeep_37 ?_
        refine lv_topi (fun x5 ex5 => ?_)
        have h := lt_ h x5 ex5
        refine lv_istore_n (lv' := [(3, .int x5), (0, .ref (a 2)), (1, .int v1), (2, .int v2)]) hx hb d_Walk_goDeep_38 rfl hl (by decide) rfl (fun ls hl => ?_)
        refine lv_aload_n hx hb d_Walk_goDeep_39 rfl (lv_at hl 1 rfl) ?_
        refine va_get (D := (dC, dI)) (ci := 2) (v := .ref (a 10)) (C := "BlockRuler$Walk") (T := F_Walk) (N := 9) hx hb hg i_Walk hown hK hP 2 rfl rfl 4 (by decide) (hg _ wd32) (fun _ h9 => h9) rfl d_Walk_goDeep_40 ?_
        refine lv_iload_n hx hb d_Walk_goDeep_43 rfl (lv_at hl 0 rfl) ?_
        obtain ⟨hi6, h⟩ := gd h
        refine va_iald (f := sB_taken σ) (n := 64) hx hb hK hP 10 5 rfl rfl hi6 d_Walk_goDeep_44 ?_
        refine lv_aload_n hx hb d_Walk_goDeep_45 rfl (lv_at hl 1 rfl) ?_
        refine va_get (D := (dC, dI)) (ci := 2) (v := .ref (a 1)) (C := "BlockRuler$Walk") (T := F_Walk) (N := 9) hx hb hg i_Walk hown hK hP 2 rfl rfl 0 (by decide) (hg _ wd39) (fun _ h9 => h9) rfl d_Walk_goDeep_46 ?_
        refine va_get (D := (dC, dI)) (ci := 1) (v := .ref (a 5)) (C := "BlockRuler$Web") (T := F_Web) (N := 4) hx hb hg i_Web hown hK hP 1 rfl rfl 0 (by decide) (hg _ wd40) (fun _ h9 => h9) rfl d_Walk_goDeep_49 ?_
        refine lv_iload_n hx hb d_Walk_goDeep_52 rfl (lv_at hl 0 rfl) ?_
        refine va_iald (f := sB_deg σ) (n := 64) hx hb hK hP 5 0 rfl rfl hi6 d_Walk_goDeep_53 ?_
        refine lv_icmp_lt (tgt := 83) hx hb d_Walk_goDeep_54 (by decide) (fun c7 => ?_) (fun c7 => ?_)
        · have h := b_t h c7
          refine lv_aload_n hx hb d_Walk_goDeep_83 rfl (lv_at hl 1 rfl) ?_
          refine va_get (D := (dC, dI)) (ci := 2) (v := .ref (a 1)) (C := "BlockRuler$Walk") (T := F_Walk) (N := 9) hx hb hg i_Walk hown hK hP 2 rfl rfl 0 (by decide) (hg _ wd39) (fun _ h9 => h9) rfl d_Walk_goDeep_84 ?_
          refine lv_iload_n hx hb d_Walk_goDeep_87 rfl (lv_at hl 0 rfl) ?_
          refine lv_aload_n hx hb d_Walk_goDeep_88 rfl (lv_at hl 1 rfl) ?_
          refine va_get (D := (dC, dI)) (ci := 2) (v := .ref (a 10)) (C := "BlockRuler$Walk") (T := F_Walk) (N := 9) hx hb hg i_Walk hown hK hP 2 rfl rfl 4 (by decide) (hg _ wd32) (fun _ h9 => h9) rfl d_Walk_goDeep_89 ?_
          refine lv_iload_n hx hb d_Walk_goDeep_92 rfl (lv_at hl 0 rfl) ?_
          refine va_iald (f := sB_taken σ) (n := 64) hx hb hK hP 10 5 rfl rfl hi6 d_Walk_goDeep_93 ?_
          obtain ⟨r8, hr8, h⟩ := bd h
          refine ro_call (v := .int r8) (va_runV (C := "BlockRuler$Web") (As := [.int x5, .int (sB_taken σ (Int32.toNatClampNeg x5))]) (rest := []) ⟨hx, hb, hml, hown, hg⟩ (c_Web_endOf l dC dI a cs σ x5 (sB_taken σ (Int32.toNatClampNeg x5)) _ hr8) (cwV 2 hg (gdV wd41 wd13 wd12 wd7 wd15) rfl rfl rfl (by decide +kernel) ⟨Nat.le_of_ble_eq_true rfl, Nat.le_of_ble_eq_true rfl⟩) ⟨wb_blind, va_recv hK hP (ci := 1) (q0 := 1) rfl rfl, fun U hU hW => ⟨rfl, wb_pre hU hW hP hK hN⟩⟩ rfl rfl hl.1 rfl (lv_room (Nat.le_of_ble_eq_true rfl)) d_Walk_goDeep_94 ⟨Nat.zero_le _, Nat.zero_le _⟩) ?_
          refine lv_istore (lv' := [(4, .int r8), (3, .int x5), (0, .ref (a 2)), (1, .int v1), (2, .int v2)]) hx hb d_Walk_goDeep_97 hl (by decide) rfl (fun ls hl => ?_)
          refine lv_aload_n hx hb d_Walk_goDeep_99 rfl (lv_at hl 2 rfl) ?_
          refine va_get (D := (dC, dI)) (ci := 2) (v := .ref (a 10)) (C := "BlockRuler$Walk") (T := F_Walk) (N := 9) hx hb hg i_Walk hown hK hP 2 rfl rfl 4 (by decide) (hg _ wd32) (fun _ h9 => h9) rfl d_Walk_goDeep_100 ?_
          refine lv_iload_n hx hb d_Walk_goDeep_103 rfl (lv_at hl 1 rfl) ?_
          refine lv_dup2_11 hx hb d_Walk_goDeep_104 rfl rfl ?_
          refine va_iald (f := sB_taken σ) (n := 64) hx hb hK hP 10 5 rfl rfl hi6 d_Walk_goDeep_105 ?_
          refine lv_iconst (v := 1) hx hb d_Walk_goDeep_106 (by decide) ?_
          refine lv_iadd hx hb d_Walk_goDeep_107 ?_
          refine va_iast (f := sB_taken σ) (n := 64) hx hb hK hP hD hS 10 5 rfl rfl hi6 d_Walk_goDeep_108 (fun H locs hP hD hS => ?_)
          have hP := va_Pe (setB_taken a cs σ (upd (sB_taken σ) (Int32.toNatClampNeg x5) ((sB_taken σ (Int32.toNatClampNeg x5)) + 1))) hP
          have hD := va_De (setB_taken a cs σ (upd (sB_taken σ) (Int32.toNatClampNeg x5) ((sB_taken σ (Int32.toNatClampNeg x5)) + 1))) hD
          refine lv_aload_n hx hb d_Walk_goDeep_109 rfl (lv_at hl 2 rfl) ?_
          refine va_get (D := (dC, dI)) (ci := 2) (v := .long (sB_rset σ)) (C := "BlockRuler$Walk") (T := F_Walk) (N := 9) hx hb hg i_Walk hown hK hP 2 rfl rfl 8 (by decide) (hg _ wd37) (fun _ h9 => h9) (rfB_rset a cs (uB_taken σ (upd (sB_taken σ) (Int32.toNatClampNeg x5) ((sB_taken σ (Int32.toNatClampNeg x5)) + 1))) (gB_rset_taken _ _)) d_Walk_goDeep_110 ?_
          refine lv_iload hx hb d_Walk_goDeep_113 (lv_at hl 0 rfl) ?_
          refine ro_call (v := .int (f_BlockRuler_holds (sB_rset σ) r8)) (va_runSN (As := [.long (sB_rset σ), .int r8]) (rest := []) ⟨hx, hb, hml, hown, hg⟩ (c_BlockRuler_holds l (sB_rset σ) r8 _ rfl) ⟨va_cnB 2 hg (gdC wd29) rfl rfl rfl (hN _ nw0) (hg _ wd22) (by decide +kernel) ⟨Nat.le_of_ble_eq_true rfl, Nat.le_of_ble_eq_true rfl⟩, hg _ wd30, trivial⟩ ⟨va_blind0, fun U hU hW => ⟨rfl, trivial⟩⟩ rfl rfl hl.1 rfl (lv_room (Nat.le_of_ble_eq_true rfl)) d_Walk_goDeep_115 ⟨Nat.zero_le _, Nat.zero_le _⟩) ?_
          refine lv_if_ne (tgt := 146) hx hb d_Walk_goDeep_118 (by decide) (fun c9 => ?_) (fun c9 => ?_)
          · have h := b_f h c9
            refine lv_iinc (v := v2 + 1) (lv' := [(2, .int (v2 + 1)), (4, .int r8), (3, .int x5), (0, .ref (a 2)), (1, .int v1)]) hx hb d_Walk_goDeep_146 hl (k := 4) rfl rfl (by decide) rfl (fun ls hl => ?_)
            refine lv_goto (tgt := 19) hx hb d_Walk_goDeep_149 (by decide) ?_
            exact ih (uB_taken σ (upd (sB_taken σ) (Int32.toNatClampNeg x5) ((sB_taken σ (Int32.toNatClampNeg x5)) + 1))) v1 (v2 + 1) y h _ _ ls hP hD hS (lv_sub hl [3, 4, 0] rfl) k0
          · have h := b_t h c9
            refine lv_aload_n hx hb d_Walk_goDeep_121 rfl (lv_at hl 2 rfl) ?_
            refine lv_dup hx hb d_Walk_goDeep_122 rfl ?_
            refine va_get (D := (dC, dI)) (ci := 2) (v := .long (sB_rset σ)) (C := "BlockRuler$Walk") (T := F_Walk) (N := 9) hx hb hg i_Walk hown hK hP 2 rfl rfl 8 (by decide) (hg _ wd37) (fun _ h9 => h9) (rfB_rset a cs (uB_taken σ (upd (sB_taken σ) (Int32.toNatClampNeg x5) ((sB_taken σ (Int32.toNatClampNeg x5)) + 1))) (gB_rset_taken _ _)) d_Walk_goDeep_123 ?_
            refine lv_iload hx hb d_Walk_goDeep_126 (lv_at hl 0 rfl) ?_
            refine ro_call (v := .long (f_BlockRuler_only r8)) (va_runSN (As := [.int r8]) (rest := [.long (sB_rset σ), .ref (a 2)]) ⟨hx, hb, hml, hown, hg⟩ (c_BlockRuler_only l r8 _ rfl) ⟨va_cnB 1 hg (gdC wd35) rfl rfl rfl (hN _ nw1) (hg _ wd22) (by decide +kernel) ⟨Nat.le_of_ble_eq_true rfl, Nat.le_of_ble_eq_true rfl⟩, hg _ wd36, trivial⟩ ⟨va_blind0, fun U hU hW => ⟨rfl, trivial⟩⟩ rfl rfl hl.1 rfl (lv_room (Nat.le_of_ble_eq_true rfl)) d_Walk_goDeep_128 ⟨Nat.zero_le _, Nat.zero_le _⟩) ?_
            refine lv_lor hx hb d_Walk_goDeep_131 ?_
            refine va_put (D := (dC, dI)) (ci := 2) (v := .long ((sB_rset σ) ||| (f_BlockRuler_only r8))) (ty := .long) (C := "BlockRuler$Walk") (T := F_Walk) (N := 9) hx hb hg i_Walk t_Walk t_Walk_ok n_Walk hown hK hP hD hS 2 rfl rfl 8 (by decide) (hg _ wd37) (fun _ h9 => h9) rfl (by decide +kernel) rfl rfl (Nat.le_of_ble_eq_true rfl) d_Walk_goDeep_132 (fun H locs hP hD hS => ?_)
            have hP := va_Pe (setB_rset a cs (uB_taken σ (upd (sB_taken σ) (Int32.toNatClampNeg x5) ((sB_taken σ (Int32.toNatClampNeg x5)) + 1))) ((sB_rset σ) ||| (f_BlockRuler_only r8))) hP
            have hD := va_De (setB_rset a cs (uB_taken σ (upd (sB_taken σ) (Int32.toNatClampNeg x5) ((sB_taken σ (Int32.toNatClampNeg x5)) + 1))) ((sB_rset σ) ||| (f_BlockRuler_only r8))) hD
            refine lv_aload_n hx hb d_Walk_goDeep_135 rfl (lv_at hl 2 rfl) ?_
            refine va_get (D := (dC, dI)) (ci := 2) (v := .ref (a 9)) (C := "BlockRuler$Walk") (T := F_Walk) (N := 9) hx hb hg i_Walk hown hK hP 2 rfl rfl 3 (by decide) (hg _ wd38) (fun _ h9 => h9) rfl d_Walk_goDeep_136 ?_
            refine lv_iload_n hx hb d_Walk_goDeep_139 rfl (lv_at hl 3 rfl) ?_
            refine lv_iload hx hb d_Walk_goDeep_140 (lv_at hl 0 rfl) ?_
            obtain ⟨hi10, h⟩ := gd h
            refine va_iast (f := sB_open σ) (n := 64) hx hb hK hP hD hS 9 4 (rdB_open a cs (uB_rset (uB_taken σ (upd (sB_taken σ) (Int32.toNatClampNeg x5) ((sB_taken σ (Int32.toNatClampNeg x5)) + 1))) ((sB_rset σ) ||| (f_BlockRuler_only r8))) ((gB_open_rset _ _).trans (gB_open_taken _ _))) rfl hi10 d_Walk_goDeep_142 (fun H locs hP hD hS => ?_)
            have hP := va_Pe (setB_open a cs (uB_rset (uB_taken σ (upd (sB_taken σ) (Int32.toNatClampNeg x5) ((sB_taken σ (Int32.toNatClampNeg x5)) + 1))) ((sB_rset σ) ||| (f_BlockRuler_only r8))) (upd (sB_open σ) (Int32.toNatClampNeg v1) r8)) hP
            have hD := va_De (setB_open a cs (uB_rset (uB_taken σ (upd (sB_taken σ) (Int32.toNatClampNeg x5) ((sB_taken σ (Int32.toNatClampNeg x5)) + 1))) ((sB_rset σ) ||| (f_BlockRuler_only r8))) (upd (sB_open σ) (Int32.toNatClampNeg v1) r8)) hD
            refine lv_iinc (v := v1 + 1) (lv' := [(1, .int (v1 + 1)), (4, .int r8), (3, .int x5), (0, .ref (a 2)), (2, .int v2)]) hx hb d_Walk_goDeep_143 hl (k := 3) rfl rfl (by decide) rfl (fun ls hl => ?_)
            refine lv_iinc (v := v2 + 1) (lv' := [(2, .int (v2 + 1)), (1, .int (v1 + 1)), (4, .int r8), (3, .int x5), (0, .ref (a 2))]) hx hb d_Walk_goDeep_146 hl (k := 4) rfl rfl (by decide) rfl (fun ls hl => ?_)
            refine lv_goto (tgt := 19) hx hb d_Walk_goDeep_149 (by decide) ?_
            exact ih (uB_open (uB_rset (uB_taken σ (upd (sB_taken σ) (Int32.toNatClampNeg x5) ((sB_taken σ (Int32.toNatClampNeg x5)) + 1))) ((sB_rset σ) ||| (f_BlockRuler_only r8))) (upd (sB_open σ) (Int32.toNatClampNeg v1) r8)) (v1 + 1) (v2 + 1) y h _ _ ls hP hD hS (lv_sub hl [4, 1, 0] rfl) k0
        · have h := b_f h c7
          refine lv_aload_n hx hb d_Walk_goDeep_57 rfl (lv_at hl 1 rfl) ?_
          refine va_get (D := (dC, dI)) (ci := 2) (v := .ref (a 8)) (C := "BlockRuler$Walk") (T := F_Walk) (N := 9) hx hb hg i_Walk hown hK hP 2 rfl rfl 2 (by decide) (hg _ wd27) (fun _ h9 => h9) rfl d_Walk_goDeep_58 ?_
          refine lv_aload_n hx hb d_Walk_goDeep_61 rfl (lv_at hl 1 rfl) ?_
          refine va_get (D := (dC, dI)) (ci := 2) (v := .int (sB_reached σ)) (C := "BlockRuler$Walk") (T := F_Walk) (N := 9) hx hb hg i_Walk hown hK hP 2 rfl rfl 7 (by decide) (hg _ wd28) (fun _ h9 => h9) rfl d_Walk_goDeep_62 ?_
          refine lv_iload_n hx hb d_Walk_goDeep_65 rfl (lv_at hl 0 rfl) ?_
          obtain ⟨hi11, h⟩ := gd h
          refine va_iast (f := sB_left σ) (n := 64) hx hb hK hP hD hS 8 3 rfl rfl hi11 d_Walk_goDeep_66 (fun H locs hP hD hS => ?_)
          have hP := va_Pe (setB_left a cs σ (upd (sB_left σ) (Int32.toNatClampNeg (sB_reached σ)) x5)) hP
          have hD := va_De (setB_left a cs σ (upd (sB_left σ) (Int32.toNatClampNeg (sB_reached σ)) x5)) hD
          refine lv_aload_n hx hb d_Walk_goDeep_67 rfl (lv_at hl 1 rfl) ?_
          refine lv_dup hx hb d_Walk_goDeep_68 rfl ?_
          refine va_get (D := (dC, dI)) (ci := 2) (v := .int (sB_reached σ)) (C := "BlockRuler$Walk") (T := F_Walk) (N := 9) hx hb hg i_Walk hown hK hP 2 rfl rfl 7 (by decide) (hg _ wd28) (fun _ h9 => h9) (rfB_reached a cs (uB_left σ (upd (sB_left σ) (Int32.toNatClampNeg (sB_reached σ)) x5)) (gB_reached_left _ _)) d_Walk_goDeep_69 ?_
          refine lv_iconst (v := 1) hx hb d_Walk_goDeep_72 (by decide) ?_
          refine lv_iadd hx hb d_Walk_goDeep_73 ?_
          refine va_put (D := (dC, dI)) (ci := 2) (v := .int ((sB_reached σ) + 1)) (ty := .int) (C := "BlockRuler$Walk") (T := F_Walk) (N := 9) hx hb hg i_Walk t_Walk t_Walk_ok n_Walk hown hK hP hD hS 2 rfl rfl 7 (by decide) (hg _ wd28) (fun _ h9 => h9) rfl (by decide +kernel) rfl rfl (Nat.le_of_ble_eq_true rfl) d_Walk_goDeep_74 (fun H locs hP hD hS => ?_)
          have hP := va_Pe (setB_reached a cs (uB_left σ (upd (sB_left σ) (Int32.toNatClampNeg (sB_reached σ)) x5)) ((sB_reached σ) + 1)) hP
          have hD := va_De (setB_reached a cs (uB_left σ (upd (sB_left σ) (Int32.toNatClampNeg (sB_reached σ)) x5)) ((sB_reached σ) + 1)) hD
          refine lv_iinc (v := v1 + (-1)) (lv' := [(1, .int (v1 + (-1))), (3, .int x5), (0, .ref (a 2)), (2, .int v2)]) hx hb d_Walk_goDeep_77 hl (k := 2) rfl rfl (by decide) rfl (fun ls hl => ?_)
          refine lv_goto (tgt := 146) hx hb d_Walk_goDeep_80 (by decide) ?_
          refine lv_iinc (v := v2 + 1) (lv' := [(2, .int (v2 + 1)), (1, .int (v1 + (-1))), (3, .int x5), (0, .ref (a 2))]) hx hb d_Walk_goDeep_146 hl (k := 3) rfl rfl (by decide) rfl (fun ls hl => ?_)
          refine lv_goto (tgt := 19) hx hb d_Walk_goDeep_149 (by decide) ?_
          exact ih (uB_reached (uB_left σ (upd (sB_left σ) (Int32.toNatClampNeg (sB_reached σ)) x5)) ((sB_reached σ) + 1)) (v1 + (-1)) (v2 + 1) y h _ _ ls hP hD hS (lv_sub hl [3, 1, 0] rfl) k0
set_option maxHeartbeats 4000000 in
set_option maxRecDepth 100000 in
theorem c_Walk_goDeep (l : Launch) (dC : Nat → ClassId) (dI : Nat → Nat → Nat) (a : Nat → Nat) (cs : Nat → ClassId) (sz : Nat) (σ : SB) (r : SB) (h : f_Walk_goDeep σ = some r) : Met l y_Walk_goDeep w_Walk_goDeep rm_Walk_goDeep (va_Pc [.ref (a 2)] (fun U => U.heap.size = sz ∧ WDB dC dI a cs σ U)) (va_Qv (fun u : SB => u = r) (atB dC dI a cs (va_A (wsB a cs σ) sz)) (va_A (wsB a cs σ) sz)) 0 0 (va_A (wsB a cs σ) sz) := by
  refine Met.ofW (cc := b_Walk_goDeep) (maxL := 5) (ret := none) (by decide) rfl ?_
  intro p e s m args below meth c s₁ B hml hv
  obtain ⟨rfl, hsz, hP, hK, hN, hD0⟩ := hv
  have hx := B.exec
  have hb := B.bytes
  have hr := B.returns
  have hg : ∀ w ∈ G_, w.before _ s = true := fun w hw => atoms_spec (ws := w_Walk_goDeep) B.pre w (List.mem_cons_of_mem _ hw)
  have hown : s.vm.findClass "BlockRuler$Walk" = some m.cls := findClass_of_methodNamed B.named
  have hlocks := B.notSynchronized
  have C0 : Cx "BlockRuler$Walk" b_Walk_goDeep 5 p s m _ meth c := ⟨hx, hb, hml, hown, hg, hlocks⟩
  subst hsz
  have hD := hD0.self (sz := s.heap.size)
  generalize hAe : va_A (wsB a cs σ) s.heap.size = A at hD ⊢
  have hA : ∀ q : Nat, s.heap.size ≤ q → A q := fun q h => by rw [← hAe]; exact Or.inr h
  have hS : va_S A s.heap s.heap [] := va_S.rf
  have hl := lv_entry ([.ref (a 2)]) (n := 5) (Nat.le_of_ble_eq_true rfl)
  rw [lg_entry_eq]
  generalize (lg_sl ([.ref (a 2)]) ++ List.replicate (5 - (lg_sl ([.ref (a 2)])).length) Slot.unset).toArray = ls at hl ⊢
  have hl : lv_has ls 5 [(0, .ref (a 2))] := hl
  unfold f_Walk_goDeep at h
  refine lv_aload_n hx hb d_Walk_goDeep_0 rfl (lv_at hl 0 rfl) ?_
  refine lv_iconst (v := 0) hx hb d_Walk_goDeep_1 (by decide) ?_
  refine ro_call (v := .long (f_BlockRuler_only 0)) (va_runSN (As := [.int 0]) (rest := [.ref (a 2)]) ⟨hx, hb, hml, hown, hg⟩ (c_BlockRuler_only l 0 _ rfl) ⟨va_cnB 1 hg (gdC wd35) rfl rfl rfl (hN _ nw1) (hg _ wd22) (by decide +kernel) ⟨Nat.le_of_ble_eq_true rfl, Nat.le_of_ble_eq_true rfl⟩, hg _ wd36, trivial⟩ ⟨va_blind0, fun U hU hW => ⟨rfl, trivial⟩⟩ rfl rfl hl.1 rfl (lv_room (Nat.le_of_ble_eq_true rfl)) d_Walk_goDeep_2 ⟨Nat.zero_le _, Nat.zero_le _⟩) ?_
  refine va_put (D := (dC, dI)) (ci := 2) (v := .long (f_BlockRuler_only 0)) (ty := .long) (C := "BlockRuler$Walk") (T := F_Walk) (N := 9) hx hb hg i_Walk t_Walk t_Walk_ok n_Walk hown hK hP hD hS 2 rfl rfl 8 (by decide) (hg _ wd37) (fun _ h9 => h9) rfl (by decide +kernel) rfl rfl (Nat.le_of_ble_eq_true rfl) d_Walk_goDeep_5 (fun H locs hP hD hS => ?_)
  have hP := va_Pe (setB_rset a cs σ (f_BlockRuler_only 0)) hP
  have hD := va_De (setB_rset a cs σ (f_BlockRuler_only 0)) hD
  refine lv_aload_n hx hb d_Walk_goDeep_8 rfl (lv_at hl 0 rfl) ?_
  refine va_get (D := (dC, dI)) (ci := 2) (v := .ref (a 9)) (C := "BlockRuler$Walk") (T := F_Walk) (N := 9) hx hb hg i_Walk hown hK hP 2 rfl rfl 3 (by decide) (hg _ wd38) (fun _ h9 => h9) rfl d_Walk_goDeep_9 ?_
  refine lv_iconst (v := 0) hx hb d_Walk_goDeep_12 (by decide) ?_
  refine lv_iconst (v := 0) hx hb d_Walk_goDeep_13 (by decide) ?_
  obtain ⟨hi1, h⟩ := gd h
  refine va_iast (f := sB_open σ) (n := 64) hx hb hK hP hD hS 9 4 (rdB_open a cs (uB_rset σ (f_BlockRuler_only 0)) (gB_open_rset _ _)) rfl hi1 d_Walk_goDeep_14 (fun H locs hP hD hS => ?_)
  have hP := va_Pe (setB_open a cs (uB_rset σ (f_BlockRuler_only 0)) (upd (sB_open σ) (Int32.toNatClampNeg 0) 0)) hP
  have hD := va_De (setB_open a cs (uB_rset σ (f_BlockRuler_only 0)) (upd (sB_open σ) (Int32.toNatClampNeg 0) 0)) hD
  refine lv_iconst (v := 1) hx hb d_Walk_goDeep_15 (by decide) ?_
  refine lv_istore_n (lv' := [(1, .int 1), (0, .ref (a 2))]) hx hb d_Walk_goDeep_16 rfl hl (by decide) rfl (fun ls hl => ?_)
  refine lv_iconst (v := 0) hx hb d_Walk_goDeep_17 (by decide) ?_
  refine lv_istore_n (lv' := [(2, .int 0), (1, .int 1), (0, .ref (a 2))]) hx hb d_Walk_goDeep_18 rfl hl (by decide) rfl (fun ls hl => ?_)
  obtain ⟨y12, hy12, h⟩ := bd h
  refine lpW_Walk_goDeep_19 C0 hK hN hA 600 (uB_open (uB_rset σ (f_BlockRuler_only 0)) (upd (sB_open σ) (Int32.toNatClampNeg 0) 0)) 1 0 y12 hy12 _ _ ls hP hD hS (lv_sub hl [2, 1, 0] rfl) (fun H locs ls hP hD hS hl => ?_)
  exact W.vret hx hb hr (fun t ht hW => ⟨⟨y12.2.2, rfl, Option.some.inj h, by rw [ht]; exact hP, hD⟩, hS.F ht⟩) hS.2.2 d_Walk_goDeep_152
set_option maxHeartbeats 4000000 in
set_option maxRecDepth 100000 in
theorem lpW_Walk_markEndsOf_2 {p : Program} {l : Launch} {e : Env} {s : State} {m : MethodId} {args : Array Value} {below : List Frame} {meth : Method} {c : Code} {Q : State → Prop} {dC : Nat → ClassId} {dI : Nat → Nat → Nat} {a : Nat → Nat} {cs : Nat → ClassId} {A : Nat → Prop} (C0 : Cx "BlockRuler$Walk" b_Walk_markEndsOf 4 p s m args meth c) (hK : va_K (dC, dI) classes (tyB cs) s) (hN : NW s) (hA : ∀ q : Nat, s.heap.size ≤ q → A q) : ∀ (n : Nat) (σ : SB) (v1 : Int32) (v2 : Int32) (y : Int32 × SB), lp_Walk_markEndsOf_2 n σ v1 v2 = some y → ∀ (H : Heap) (locs : List Loc) (ls : Array Slot), va_P (dC, dI) classes (wsB a cs σ) H → va_D A (wsB a cs σ) → va_S A s.heap H locs → lv_has ls 4 [(0, .ref (a 2)), (1, .int v1), (2, .int v2)] → (∀ (H : Heap) (locs : List Loc) (ls : Array Slot), va_P (dC, dI) classes (wsB a cs y.2) H → va_D A (wsB a cs y.2) → va_S A s.heap H locs → lv_has ls 4 [(0, .ref (a 2)), (1, .int v1), (2, .int y.1)] → W p l e (headSpec w_Walk_markEndsOf rm_Walk_markEndsOf).room s m args below meth c H locs 0 0 Q (F0 m 54 ls [])) → W p l e (headSpec w_Walk_markEndsOf rm_Walk_markEndsOf).room s m args below meth c H locs 0 0 Q (F0 m 2 ls []) := by
  have C1 := C0
  obtain ⟨hx, hb, hml, hown, hg, hlocks⟩ := C1
  intro n
  induction n with
  | zero => intro σ v1 v2 y h; exact absurd (show (none : Option (Int32 × SB)) = some y from h) (fun q => by cases q)
  | succ n ih =>
    intro σ v1 v2 y h H locs ls hP hD hS hl k0
    rw [lp_Walk_markEndsOf_2_s] at h
    refine lv_iload_n hx hb d_Walk_markEndsOf_2 rfl (lv_at hl 2 rfl) ?_
    refine lv_aload_n hx hb d_Walk_markEndsOf_3 rfl (lv_at hl 0 rfl) ?_
    refine va_get (D := (dC, dI)) (ci := 2) (v := .ref (a 1)) (C := "BlockRuler$Walk") (T := F_Walk) (N := 9) hx hb hg i_Walk hown hK hP 2 rfl rfl 0 (by decide) (hg _ wd39) (fun _ h9 => h9) rfl d_Walk_markEndsOf_4 ?_
    refine va_get (D := (dC, dI)) (ci := 1) (v := .ref (a 5)) (C := "BlockRuler$Web") (T := F_Web) (N := 4) hx hb hg i_Web hown hK hP 1 rfl rfl 0 (by decide) (hg _ wd40) (fun _ h9 => h9) rfl d_Walk_markEndsOf_7 ?_
    refine lv_iload_n hx hb d_Walk_markEndsOf_10 rfl (lv_at hl 1 rfl) ?_
    obtain ⟨hi1, h⟩ := gd h
    refine va_iald (f := sB_deg σ) (n := 64) hx hb hK hP 5 0 rfl rfl hi1 d_Walk_markEndsOf_11 ?_
    refine lv_icmp_ge (tgt := 54) hx hb d_Walk_markEndsOf_12 (by decide) (fun c2 => ?_) (fun c2 => ?_)
    · have h := b_t h c2
      obtain rfl := Option.some.inj h
      exact k0 _ _ ls hP hD hS (lv_sub hl [0, 1, 2] rfl)
    · have h := b_f h c2
      refine lv_aload_n hx hb d_Walk_markEndsOf_15 rfl (lv_at hl 0 rfl) ?_
      refine va_get (D := (dC, dI)) (ci := 2) (v := .ref (a 1)) (C := "BlockRuler$Walk") (T := F_Walk) (N := 9) hx hb hg i_Walk hown hK hP 2 rfl rfl 0 (by decide) (hg _ wd39) (fun _ h9 => h9) rfl d_Walk_markEndsOf_16 ?_
      refine lv_iload_n hx hb d_Walk_markEndsOf_19 rfl (lv_at hl 1 rfl) ?_
      refine lv_iload_n hx hb d_Walk_markEndsOf_20 rfl (lv_at hl 2 rfl) ?_
      obtain ⟨r3, hr3, h⟩ := bd h
      refine ro_call (v := .int r3) (va_runV (C := "BlockRuler$Web") (As := [.int v1, .int v2]) (rest := []) ⟨hx, hb, hml, hown, hg⟩ (c_Web_endOf l dC dI a cs σ v1 v2 _ hr3) (cwV 2 hg (gdV wd41 wd13 wd12 wd7 wd15) rfl rfl rfl (by decide +kernel) ⟨Nat.le_of_ble_eq_true rfl, Nat.le_of_ble_eq_true rfl⟩) ⟨wb_blind, va_recv hK hP (ci := 1) (q0 := 1) rfl rfl, fun U hU hW => ⟨rfl, wb_pre hU hW hP hK hN⟩⟩ rfl rfl hl.1 rfl (lv_room (Nat.le_of_ble_eq_true rfl)) d_Walk_markEndsOf_21 ⟨Nat.zero_le _, Nat.zero_le _⟩) ?_
      refine lv_istore_n (lv' := [(3, .int r3), (0, .ref (a 2)), (1, .int v1), (2, .int v2)]) hx hb d_Walk_markEndsOf_24 rfl hl (by decide) rfl (fun ls hl => ?_)
      refine lv_aload_n hx hb d_Walk_markEndsOf_25 rfl (lv_at hl 1 rfl) ?_
      refine va_get (D := (dC, dI)) (ci := 2) (v := .ref (a 11)) (C := "BlockRuler$Walk") (T := F_Walk) (N := 9) hx hb hg i_Walk hown hK hP 2 rfl rfl 5 (by decide) (hg _ wd33) (fun _ h9 => h9) rfl d_Walk_markEndsOf_26 ?_
      refine lv_iload_n hx hb d_Walk_markEndsOf_29 rfl (lv_at hl 0 rfl) ?_
      refine lv_dup2_11 hx hb d_Walk_markEndsOf_30 rfl rfl ?_
      obtain ⟨hi4, h⟩ := gd h
      refine va_lald (f := sB_comers σ) (n := 64) hx hb hK hP 11 6 rfl rfl hi4 d_Walk_markEndsOf_31 ?_
      refine lv_iload_n hx hb d_Walk_markEndsOf_32 rfl (lv_at hl 2 rfl) ?_
      refine ro_call (v := .long (f_BlockRuler_only v1)) (va_runSN (As := [.int v1]) (rest := [.long (sB_comers σ (Int32.toNatClampNeg r3)), .int r3, .ref (a 11)]) ⟨hx, hb, hml, hown, hg⟩ (c_BlockRuler_only l v1 _ rfl) ⟨va_cnB 1 hg (gdC wd35) rfl rfl rfl (hN _ nw1) (hg _ wd22) (by decide +kernel) ⟨Nat.le_of_ble_eq_true rfl, Nat.le_of_ble_eq_true rfl⟩, hg _ wd36, trivial⟩ ⟨va_blind0, fun U hU hW => ⟨rfl, trivial⟩⟩ rfl rfl hl.1 rfl (lv_room (Nat.le_of_ble_eq_true rfl)) d_Walk_markEndsOf_33 ⟨Nat.zero_le _, Nat.zero_le _⟩) ?_
      refine lv_lor hx hb d_Walk_markEndsOf_36 ?_
      refine va_last (f := sB_comers σ) (n := 64) hx hb hK hP hD hS 11 6 rfl rfl hi4 d_Walk_markEndsOf_37 (fun H locs hP hD hS => ?_)
      have hP := va_Pe (setB_comers a cs σ (vp_updL (sB_comers σ) (Int32.toNatClampNeg r3) ((sB_comers σ (Int32.toNatClampNeg r3)) ||| (f_BlockRuler_only v1)))) hP
      have hD := va_De (setB_comers a cs σ (vp_updL (sB_comers σ) (Int32.toNatClampNeg r3) ((sB_comers σ (Int32.toNatClampNeg r3)) ||| (f_BlockRuler_only v1)))) hD
      refine lv_aload_n hx hb d_Walk_markEndsOf_38 rfl (lv_at hl 1 rfl) ?_
      refine va_get (D := (dC, dI)) (ci := 2) (v := .ref (a 12)) (C := "BlockRuler$Walk") (T := F_Walk) (N := 9) hx hb hg i_Walk hown hK hP 2 rfl rfl 6 (by decide) (hg _ wd34) (fun _ h9 => h9) rfl d_Walk_markEndsOf_39 ?_
      refine lv_iload_n hx hb d_Walk_markEndsOf_42 rfl (lv_at hl 0 rfl) ?_
      refine lv_dup2_11 hx hb d_Walk_markEndsOf_43 rfl rfl ?_
      refine va_iald (f := sB_comings σ) (n := 64) hx hb hK hP 12 7 (rdB_comings a cs (uB_comers σ (vp_updL (sB_comers σ) (Int32.toNatClampNeg r3) ((sB_comers σ (Int32.toNatClampNeg r3)) ||| (f_BlockRuler_only v1)))) (gB_comings_comers _ _)) rfl hi4 d_Walk_markEndsOf_44 ?_
      refine lv_iconst (v := 1) hx hb d_Walk_markEndsOf_45 (by decide) ?_
      refine lv_iadd hx hb d_Walk_markEndsOf_46 ?_
      refine va_iast (f := sB_comings σ) (n := 64) hx hb hK hP hD hS 12 7 (rdB_comings a cs (uB_comers σ (vp_updL (sB_comers σ) (Int32.toNatClampNeg r3) ((sB_comers σ (Int32.toNatClampNeg r3)) ||| (f_BlockRuler_only v1)))) (gB_comings_comers _ _)) rfl hi4 d_Walk_markEndsOf_47 (fun H locs hP hD hS => ?_)
      have hP := va_Pe (setB_comings a cs (uB_comers σ (vp_updL (sB_comers σ) (Int32.toNatClampNeg r3) ((sB_comers σ (Int32.toNatClampNeg r3)) ||| (f_BlockRuler_only v1)))) (upd (sB_comings σ) (Int32.toNatClampNeg r3) ((sB_comings σ (Int32.toNatClampNeg r3)) + 1))) hP
      have hD := va_De (setB_comings a cs (uB_comers σ (vp_updL (sB_comers σ) (Int32.toNatClampNeg r3) ((sB_comers σ (Int32.toNatClampNeg r3)) ||| (f_BlockRuler_only v1)))) (upd (sB_comings σ) (Int32.toNatClampNeg r3) ((sB_comings σ (Int32.toNatClampNeg r3)) + 1))) hD
      refine lv_iinc (v := v2 + 1) (lv' := [(2, .int (v2 + 1)), (3, .int r3), (0, .ref (a 2)), (1, .int v1)]) hx hb d_Walk_markEndsOf_48 hl (k := 3) rfl rfl (by decide) rfl (fun ls hl => ?_)
      refine lv_goto (tgt := 2) hx hb d_Walk_markEndsOf_51 (by decide) ?_
      exact ih (uB_comings (uB_comers σ (vp_updL (sB_comers σ) (Int32.toNatClampNeg r3) ((sB_comers σ (Int32.toNatClampNeg r3)) ||| (f_BlockRuler_only v1)))) (upd (sB_comings σ) (Int32.toNatClampNeg r3) ((sB_comings σ (Int32.toNatClampNeg r3)) + 1))) v1 (v2 + 1) y h _ _ ls hP hD hS (lv_sub hl [2, 3, 0] rfl) k0
set_option maxHeartbeats 4000000 in
set_option maxRecDepth 100000 in
theorem c_Walk_markEndsOf (l : Launch) (dC : Nat → ClassId) (dI : Nat → Nat → Nat) (a : Nat → Nat) (cs : Nat → ClassId) (sz : Nat) (σ : SB) (v1 : Int32) (r : SB) (h : f_Walk_markEndsOf σ v1 = some r) : Met l y_Walk_markEndsOf w_Walk_markEndsOf rm_Walk_markEndsOf (va_Pc [.ref (a 2), .int v1] (fun U => U.heap.size = sz ∧ WDB dC dI a cs σ U)) (va_Qv (fun u : SB => u = r) (atB dC dI a cs (va_A (wsB a cs σ) sz)) (va_A (wsB a cs σ) sz)) 0 0 (va_A (wsB a cs σ) sz) := by
  refine Met.ofW (cc := b_Walk_markEndsOf) (maxL := 4) (ret := none) (by decide) rfl ?_
  intro p e s m args below meth c s₁ B hml hv
  obtain ⟨rfl, hsz, hP, hK, hN, hD0⟩ := hv
  have hx := B.exec
  have hb := B.bytes
  have hr := B.returns
  have hg : ∀ w ∈ G_, w.before _ s = true := fun w hw => atoms_spec (ws := w_Walk_markEndsOf) B.pre w (List.mem_cons_of_mem _ hw)
  have hown : s.vm.findClass "BlockRuler$Walk" = some m.cls := findClass_of_methodNamed B.named
  have hlocks := B.notSynchronized
  have C0 : Cx "BlockRuler$Walk" b_Walk_markEndsOf 4 p s m _ meth c := ⟨hx, hb, hml, hown, hg, hlocks⟩
  subst hsz
  have hD := hD0.self (sz := s.heap.size)
  generalize hAe : va_A (wsB a cs σ) s.heap.size = A at hD ⊢
  have hA : ∀ q : Nat, s.heap.size ≤ q → A q := fun q h => by rw [← hAe]; exact Or.inr h
  have hS : va_S A s.heap s.heap [] := va_S.rf
  have hl := lv_entry ([.ref (a 2), .int v1]) (n := 4) (Nat.le_of_ble_eq_true rfl)
  rw [lg_entry_eq]
  generalize (lg_sl ([.ref (a 2), .int v1]) ++ List.replicate (4 - (lg_sl ([.ref (a 2), .int v1])).length) Slot.unset).toArray = ls at hl ⊢
  have hl : lv_has ls 4 [(0, .ref (a 2)), (1, .int v1)] := hl
  unfold f_Walk_markEndsOf at h
  refine lv_iconst (v := 0) hx hb d_Walk_markEndsOf_0 (by decide) ?_
  refine lv_istore_n (lv' := [(2, .int 0), (0, .ref (a 2)), (1, .int v1)]) hx hb d_Walk_markEndsOf_1 rfl hl (by decide) rfl (fun ls hl => ?_)
  obtain ⟨y5, hy5, h⟩ := bd h
  refine lpW_Walk_markEndsOf_2 C0 hK hN hA 100 σ v1 0 y5 hy5 _ _ ls hP hD hS (lv_sub hl [1, 2, 0] rfl) (fun H locs ls hP hD hS hl => ?_)
  exact W.vret hx hb hr (fun t ht hW => ⟨⟨y5.2, rfl, Option.some.inj h, by rw [ht]; exact hP, hD⟩, hS.F ht⟩) hS.2.2 d_Walk_markEndsOf_54
set_option maxHeartbeats 4000000 in
set_option maxRecDepth 100000 in
theorem lpW_Walk_make_10 {p : Program} {l : Launch} {e : Env} {s : State} {m : MethodId} {args : Array Value} {below : List Frame} {meth : Method} {c : Code} {Q : State → Prop} {dC : Nat → ClassId} {dI : Nat → Nat → Nat} {a : Nat → Nat} {cs : Nat → ClassId} {A : Nat → Prop} (C0 : Cx "BlockRuler$Walk" b_Walk_make 3 p s m args meth c) (hK : va_K (dC, dI) classes (tyB cs) s) (hN : NW s) (hA : ∀ q : Nat, s.heap.size ≤ q → A q) : ∀ (n : Nat) (σ : SB) (v1 : Int32) (y : Int32 × SB), lp_Walk_make_10 n σ v1 = some y → ∀ (H : Heap) (locs : List Loc) (ls : Array Slot), va_P (dC, dI) classes (wsB a cs σ) H → va_D A (wsB a cs σ) → va_S A s.heap H locs → lv_has ls 3 [(0, .ref (a 2)), (1, .int v1)] → (∀ (H : Heap) (locs : List Loc) (ls : Array Slot), va_P (dC, dI) classes (wsB a cs y.2) H → va_D A (wsB a cs y.2) → va_S A s.heap H locs → lv_has ls 3 [(0, .ref (a 2)), (1, .int y.1)] → W p l e (headSpec w_Walk_make rm_Walk_make).room s m args below meth c H locs 0 0 Q (F0 m 42 ls [])) → W p l e (headSpec w_Walk_make rm_Walk_make).room s m args below meth c H locs 0 0 Q (F0 m 10 ls []) := by
  have C1 := C0
  obtain ⟨hx, hb, hml, hown, hg, hlocks⟩ := C1
  intro n
  induction n with
  | zero => intro σ v1 y h; exact absurd (show (none : Option (Int32 × SB)) = some y from h) (fun q => by cases q)
  | succ n ih =>
    intro σ v1 y h H locs ls hP hD hS hl k0
    rw [lp_Walk_make_10_s] at h
    refine lv_iload_n hx hb d_Walk_make_10 rfl (lv_at hl 1 rfl) ?_
    refine lv_aload_n hx hb d_Walk_make_11 rfl (lv_at hl 0 rfl) ?_
    refine va_get (D := (dC, dI)) (ci := 2) (v := .int (sB_reached σ)) (C := "BlockRuler$Walk") (T := F_Walk) (N := 9) hx hb hg i_Walk hown hK hP 2 rfl rfl 7 (by decide) (hg _ wd28) (fun _ h9 => h9) rfl d_Walk_make_12 ?_
    refine lv_icmp_ge (tgt := 42) hx hb d_Walk_make_15 (by decide) (fun c3 => ?_) (fun c3 => ?_)
    · have h := b_t h c3
      obtain rfl := Option.some.inj h
      exact k0 _ _ ls hP hD hS (lv_sub hl [0, 1] rfl)
    · have h := b_f h c3
      refine lv_aload_n hx hb d_Walk_make_18 rfl (lv_at hl 0 rfl) ?_
      refine lv_iload_n hx hb d_Walk_make_19 rfl (lv_at hl 1 rfl) ?_
      obtain ⟨r4, hr4, h⟩ := bd h
      refine ro_call (v := .int r4) (va_runV (C := "BlockRuler$Walk") (As := [.int v1]) (rest := []) ⟨hx, hb, hml, hown, hg⟩ (c_Walk_blockAt l dC dI a cs σ v1 _ hr4) (cwV 1 hg (gdV wd53 wd52 wd51 wd45 wd54) rfl rfl rfl (by decide +kernel) ⟨Nat.le_of_ble_eq_true rfl, Nat.le_of_ble_eq_true rfl⟩) ⟨wb_blind, va_recv hK hP (ci := 2) (q0 := 2) rfl rfl, fun U hU hW => ⟨rfl, wb_pre hU hW hP hK hN⟩⟩ rfl rfl hl.1 rfl (lv_room (Nat.le_of_ble_eq_true rfl)) d_Walk_make_20 ⟨Nat.zero_le _, Nat.zero_le _⟩) ?_
      refine lv_istore_n (lv' := [(2, .int r4), (0, .ref (a 2)), (1, .int v1)]) hx hb d_Walk_make_23 rfl hl (by decide) rfl (fun ls hl => ?_)
      refine lv_aload_n hx hb d_Walk_make_24 rfl (lv_at hl 1 rfl) ?_
      refine va_get (D := (dC, dI)) (ci := 2) (v := .ref (a 7)) (C := "BlockRuler$Walk") (T := F_Walk) (N := 9) hx hb hg i_Walk hown hK hP 2 rfl rfl 1 (by decide) (hg _ wd31) (fun _ h9 => h9) rfl d_Walk_make_25 ?_
      refine lv_iload_n hx hb d_Walk_make_28 rfl (lv_at hl 0 rfl) ?_
      refine lv_iload_n hx hb d_Walk_make_29 rfl (lv_at hl 2 rfl) ?_
      obtain ⟨hi5, h⟩ := gd h
      refine va_iast (f := sB_orders σ) (n := 64) hx hb hK hP hD hS 7 2 rfl rfl hi5 d_Walk_make_30 (fun H locs hP hD hS => ?_)
      have hP := va_Pe (setB_orders a cs σ (upd (sB_orders σ) (Int32.toNatClampNeg r4) v1)) hP
      have hD := va_De (setB_orders a cs σ (upd (sB_orders σ) (Int32.toNatClampNeg r4) v1)) hD
      refine lv_aload_n hx hb d_Walk_make_31 rfl (lv_at hl 1 rfl) ?_
      refine lv_iload_n hx hb d_Walk_make_32 rfl (lv_at hl 0 rfl) ?_
      obtain ⟨r6, hr6, h⟩ := bd h
      have hFc := va_free (wc := wsB a cs (uB_orders σ (upd (sB_orders σ) (Int32.toNatClampNeg r4) v1))) hD hS hA [0, 1, 2, 3, 4, 5, 6, 7, 8, 9, 10, 11, 12, 13, 14] (allB a cs (uB_orders σ (upd (sB_orders σ) (Int32.toNatClampNeg r4) v1)))
      refine va_callv (va_runV (C := "BlockRuler$Walk") (As := [.int r4]) (rest := []) ⟨hx, hb, hml, hown, hg⟩ (c_Walk_markEndsOf l dC dI a cs _ (uB_orders σ (upd (sB_orders σ) (Int32.toNatClampNeg r4) v1)) r4 _ hr6) (cwV 1 hg (gdV wd57 wd56 wd55 wd45 wd58) rfl rfl rfl (by decide +kernel) ⟨Nat.le_of_ble_eq_true rfl, Nat.le_of_ble_eq_true rfl⟩) ⟨wbz_blind, va_recv hK hP (ci := 2) (q0 := 2) rfl rfl, fun U hU hW => ⟨rfl, by rw [hU], wb_preD hU hW hP hK hN hD⟩⟩ rfl rfl hl.1 rfl (lv_room (Nat.le_of_ble_eq_true rfl)) d_Walk_make_33 ⟨Nat.zero_le _, Nat.zero_le _⟩) hS (fun q _ h => hFc q h) hFc (fun u t H locs ht hvm hw hB hz1 hk1 hS => ?_)
      obtain rfl : r6 = u := hw.symm
      have hP : va_P (dC, dI) classes (wsB a cs r6) H := by have q := hB.1; rw [ht] at q; exact q
      have hD : va_D A (wsB a cs r6) := hB.2.weaken (fun _ _ _ h => hFc _ h)
      refine lv_iinc (v := v1 + 1) (lv' := [(1, .int (v1 + 1)), (2, .int r4), (0, .ref (a 2))]) hx hb d_Walk_make_36 hl (k := 2) rfl rfl (by decide) rfl (fun ls hl => ?_)
      refine lv_goto (tgt := 10) hx hb d_Walk_make_39 (by decide) ?_
      exact ih r6 (v1 + 1) y h _ _ ls hP hD hS (lv_sub hl [2, 0] rfl) k0
set_option maxHeartbeats 4000000 in
set_option maxRecDepth 100000 in
theorem c_Walk_make (l : Launch) (dC : Nat → ClassId) (dI : Nat → Nat → Nat) (a : Nat → Nat) (cs : Nat → ClassId) (sz : Nat) (σ : SB) (r : SB) (h : f_Walk_make σ = some r) : Met l y_Walk_make w_Walk_make rm_Walk_make (va_Pc [.ref (a 2)] (fun U => U.heap.size = sz ∧ WDB dC dI a cs σ U)) (va_Qv (fun u : SB => u = r) (atB dC dI a cs (va_A (wsB a cs σ) sz)) (va_A (wsB a cs σ) sz)) 0 0 (va_A (wsB a cs σ) sz) := by
  refine Met.ofW (cc := b_Walk_make) (maxL := 3) (ret := none) (by decide) rfl ?_
  intro p e s m args below meth c s₁ B hml hv
  obtain ⟨rfl, hsz, hP, hK, hN, hD0⟩ := hv
  have hx := B.exec
  have hb := B.bytes
  have hr := B.returns
  have hg : ∀ w ∈ G_, w.before _ s = true := fun w hw => atoms_spec (ws := w_Walk_make) B.pre w (List.mem_cons_of_mem _ hw)
  have hown : s.vm.findClass "BlockRuler$Walk" = some m.cls := findClass_of_methodNamed B.named
  have hlocks := B.notSynchronized
  have C0 : Cx "BlockRuler$Walk" b_Walk_make 3 p s m _ meth c := ⟨hx, hb, hml, hown, hg, hlocks⟩
  subst hsz
  have hD := hD0.self (sz := s.heap.size)
  generalize hAe : va_A (wsB a cs σ) s.heap.size = A at hD ⊢
  have hA : ∀ q : Nat, s.heap.size ≤ q → A q := fun q h => by rw [← hAe]; exact Or.inr h
  have hS : va_S A s.heap s.heap [] := va_S.rf
  have hl := lv_entry ([.ref (a 2)]) (n := 3) (Nat.le_of_ble_eq_true rfl)
  rw [lg_entry_eq]
  generalize (lg_sl ([.ref (a 2)]) ++ List.replicate (3 - (lg_sl ([.ref (a 2)])).length) Slot.unset).toArray = ls at hl ⊢
  have hl : lv_has ls 3 [(0, .ref (a 2))] := hl
  unfold f_Walk_make at h
  refine lv_aload_n hx hb d_Walk_make_0 rfl (lv_at hl 0 rfl) ?_
  obtain ⟨r1, hr1, h⟩ := bd h
  have hFc := va_free (wc := wsB a cs σ) hD hS hA [0, 1, 2, 3, 4, 5, 6, 7, 8, 9, 10, 11, 12, 13, 14] (allB a cs σ)
  refine va_callv (va_runV (C := "BlockRuler$Walk") (As := []) (rest := []) ⟨hx, hb, hml, hown, hg⟩ (c_Walk_clear l dC dI a cs _ σ _ hr1) (cwV 0 hg (gdV wd44 wd43 wd42 wd45 wd46) rfl rfl rfl (by decide +kernel) ⟨Nat.le_of_ble_eq_true rfl, Nat.le_of_ble_eq_true rfl⟩) ⟨wbz_blind, va_recv hK hP (ci := 2) (q0 := 2) rfl rfl, fun U hU hW => ⟨rfl, by rw [hU], wb_preD hU hW hP hK hN hD⟩⟩ rfl rfl hl.1 rfl (lv_room (Nat.le_of_ble_eq_true rfl)) d_Walk_make_1 ⟨Nat.zero_le _, Nat.zero_le _⟩) hS (fun q _ h => hFc q h) hFc (fun u t H locs ht hvm hw hB hz1 hk1 hS => ?_)
  obtain rfl : r1 = u := hw.symm
  have hP : va_P (dC, dI) classes (wsB a cs r1) H := by have q := hB.1; rw [ht] at q; exact q
  have hD : va_D A (wsB a cs r1) := hB.2.weaken (fun _ _ _ h => hFc _ h)
  refine lv_aload_n hx hb d_Walk_make_4 rfl (lv_at hl 0 rfl) ?_
  obtain ⟨r2, hr2, h⟩ := bd h
  have hFc := va_free (wc := wsB a cs r1) hD hS hA [0, 1, 2, 3, 4, 5, 6, 7, 8, 9, 10, 11, 12, 13, 14] (allB a cs r1)
  refine va_callv (va_runV (C := "BlockRuler$Walk") (As := []) (rest := []) ⟨hx, hb, hml, hown, hg⟩ (c_Walk_goDeep l dC dI a cs _ r1 _ hr2) (cwV 0 hg (gdV wd49 wd48 wd47 wd45 wd50) rfl rfl rfl (by decide +kernel) ⟨Nat.le_of_ble_eq_true rfl, Nat.le_of_ble_eq_true rfl⟩) ⟨wbz_blind, va_recv hK hP (ci := 2) (q0 := 2) rfl rfl, fun U hU hW => ⟨rfl, by rw [hU], wb_preD hU hW hP hK hN hD⟩⟩ rfl rfl hl.1 rfl (lv_room (Nat.le_of_ble_eq_true rfl)) d_Walk_make_5 ⟨Nat.zero_le _, Nat.zero_le _⟩) hS (fun q _ h => hFc q h) hFc (fun u t H locs ht hvm hw hB hz1 hk1 hS => ?_)
  obtain rfl : r2 = u := hw.symm
  have hP : va_P (dC, dI) classes (wsB a cs r2) H := by have q := hB.1; rw [ht] at q; exact q
  have hD : va_D A (wsB a cs r2) := hB.2.weaken (fun _ _ _ h => hFc _ h)
  refine lv_iconst (v := 0) hx hb d_Walk_make_8 (by decide) ?_
  refine lv_istore_n (lv' := [(1, .int 0), (0, .ref (a 2))]) hx hb d_Walk_make_9 rfl hl (by decide) rfl (fun ls hl => ?_)
  obtain ⟨y7, hy7, h⟩ := bd h
  refine lpW_Walk_make_10 C0 hK hN hA 100 r2 0 y7 hy7 _ _ ls hP hD hS (lv_sub hl [1, 0] rfl) (fun H locs ls hP hD hS hl => ?_)
  exact W.vret hx hb hr (fun t ht hW => ⟨⟨y7.2, rfl, Option.some.inj h, by rw [ht]; exact hP, hD⟩, hS.F ht⟩) hS.2.2 d_Walk_make_42
