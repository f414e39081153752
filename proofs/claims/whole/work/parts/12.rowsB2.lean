-- written by wip/gen (blockruler.py)
set_option maxHeartbeats 4000000 in
set_option maxRecDepth 100000 in
theorem c_Rulers_isRuled (l : Launch) (dC : Nat → ClassId) (dI : Nat → Nat → Nat) (a : Nat → Nat) (cs : Nat → ClassId) (σ : SB) (v1 : Int32) (v2 : Int32) (r : Int32) (h : f_Rulers_isRuled σ v1 v2 = some r) : Met l y_Rulers_isRuled w_Rulers_isRuled rm_Rulers_isRuled (va_Pc [.ref (a 3), .int v1, .int v2] (WBB dC dI a cs σ)) (QcV (.int r)) 0 0 (fun _ => False) := by
  refine Met.ofW (cc := b_Rulers_isRuled) (maxL := 3) (ret := (some .boolean)) (by decide) rfl ?_
  intro p e s m args below meth c s₁ B hml hv
  obtain ⟨rfl, hP, hK, hN⟩ := hv
  have hx := B.exec
  have hb := B.bytes
  have hr := B.returns
  have hg : ∀ w ∈ G_, w.before _ s = true := fun w hw => atoms_spec (ws := w_Rulers_isRuled) B.pre w (List.mem_cons_of_mem _ hw)
  have hown : s.vm.findClass "BlockRuler$Rulers" = some m.cls := findClass_of_methodNamed B.named
  have hlocks := B.notSynchronized
  have C0 : Cx "BlockRuler$Rulers" b_Rulers_isRuled 3 p s m _ meth c := ⟨hx, hb, hml, hown, hg, hlocks⟩
  have hl := lv_entry ([.ref (a 3), .int v1, .int v2]) (n := 3) (Nat.le_of_ble_eq_true rfl)
  rw [lg_entry_eq]
  generalize (lg_sl ([.ref (a 3), .int v1, .int v2]) ++ List.replicate (3 - (lg_sl ([.ref (a 3), .int v1, .int v2])).length) Slot.unset).toArray = ls at hl ⊢
  have hl : lv_has ls 3 [(0, .ref (a 3)), (1, .int v1), (2, .int v2)] := hl
  unfold f_Rulers_isRuled at h
  refine lv_aload_n hx hb d_Rulers_isRuled_0 rfl (lv_at hl 0 rfl) ?_
  refine va_get (D := (dC, dI)) (ci := 3) (v := .ref (a 13)) (C := "BlockRuler$Rulers") (T := F_Rulers) (N := 2) hx hb hg i_Rulers hown hK hP 3 rfl rfl 1 (by decide) (hg _ wd59) (fun _ h9 => h9) rfl d_Rulers_isRuled_1 ?_
  refine lv_iload_n hx hb d_Rulers_isRuled_4 rfl (lv_at hl 2 rfl) ?_
  obtain ⟨hi1, h⟩ := gd h
  refine va_lald (f := sB_rof σ) (n := 64) hx hb hK hP 13 8 rfl rfl hi1 d_Rulers_isRuled_5 ?_
  refine lv_iload_n hx hb d_Rulers_isRuled_6 rfl (lv_at hl 1 rfl) ?_
  refine ro_call (v := .int (f_BlockRuler_holds (sB_rof σ (Int32.toNatClampNeg v2)) v1)) (va_runSN (As := [.long (sB_rof σ (Int32.toNatClampNeg v2)), .int v1]) (rest := []) ⟨hx, hb, hml, hown, hg⟩ (c_BlockRuler_holds l (sB_rof σ (Int32.toNatClampNeg v2)) v1 _ rfl) ⟨va_cnB 2 hg (gdC wd29) rfl rfl rfl (hN _ nw2) (hg _ wd22) (by decide +kernel) ⟨Nat.le_of_ble_eq_true rfl, Nat.le_of_ble_eq_true rfl⟩, hg _ wd30, trivial⟩ ⟨va_blind0, fun U hU hW => ⟨rfl, trivial⟩⟩ rfl rfl hl.1 rfl (lv_room (Nat.le_of_ble_eq_true rfl)) d_Rulers_isRuled_7 ⟨Nat.zero_le _, Nat.zero_le _⟩) ?_
  exact W.zret (v := f_BlockRuler_holds (sB_rof σ (Int32.toNatClampNeg v2)) v1) (ty := .boolean) hx hb hr (nb_BlockRuler_holds _ _) (fun t ht _ => ⟨by rw [Option.some.inj h], ht⟩) (fun q hq => by cases hq) d_Rulers_isRuled_10
set_option maxHeartbeats 4000000 in
set_option maxRecDepth 100000 in
theorem lpW_Rulers_realmOf_5 {p : Program} {l : Launch} {e : Env} {s : State} {m : MethodId} {args : Array Value} {below : List Frame} {meth : Method} {c : Code} {Q : State → Prop} {dC : Nat → ClassId} {dI : Nat → Nat → Nat} {a : Nat → Nat} {cs : Nat → ClassId} {H : Heap} {locs : List Loc} (C0 : Cx "BlockRuler$Rulers" b_Rulers_realmOf 5 p s m args meth c) (hK : va_K (dC, dI) classes (tyB cs) s) (hN : NW s) : ∀ (n : Nat) (σ : SB) (v1 : Int32) (v2 : Int64) (v4 : Int32) (y : Int64 × Int32), lp_Rulers_realmOf_5 n σ v1 v2 v4 = some y → va_P (dC, dI) classes (wsB a cs σ) H → ∀ (ls : Array Slot), lv_has ls 5 [(0, .ref (a 3)), (1, .int v1), (2, .long v2), (4, .int v4)] → (∀ (ls : Array Slot), lv_has ls 5 [(0, .ref (a 3)), (1, .int v1), (2, .long y.1), (4, .int y.2)] → W p l e (headSpec w_Rulers_realmOf rm_Rulers_realmOf).room s m args below meth c H locs 0 0 Q (F0 m 36 ls [])) → W p l e (headSpec w_Rulers_realmOf rm_Rulers_realmOf).room s m args below meth c H locs 0 0 Q (F0 m 5 ls []) := by
  have C1 := C0
  obtain ⟨hx, hb, hml, hown, hg, hlocks⟩ := C1
  intro n
  induction n with
  | zero => intro σ v1 v2 v4 y h; exact absurd (show (none : Option (Int64 × Int32)) = some y from h) (fun q => by cases q)
  | succ n ih =>
    intro σ v1 v2 v4 y h hP ls hl k0
    rw [lp_Rulers_realmOf_5_s] at h
    refine lv_iload hx hb d_Rulers_realmOf_5 (lv_at hl 3 rfl) ?_
    refine lv_bipush (v := 64) hx hb d_Rulers_realmOf_7 (by decide) ?_
    refine lv_icmp_ge (tgt := 36) hx hb d_Rulers_realmOf_9 (by decide) (fun c1 => ?_) (fun c1 => ?_)
    · have h := b_t h c1
      obtain rfl := Option.some.inj h
      exact k0 ls (lv_sub hl [0, 1, 2, 3] rfl)
    · have h := b_f h c1
      refine lv_aload_n hx hb d_Rulers_realmOf_12 rfl (lv_at hl 0 rfl) ?_
      refine lv_iload_n hx hb d_Rulers_realmOf_13 rfl (lv_at hl 1 rfl) ?_
      refine lv_iload hx hb d_Rulers_realmOf_14 (lv_at hl 3 rfl) ?_
      obtain ⟨r2, hr2, h⟩ := bd h
      refine ro_call (v := .int r2) (va_runV (C := "BlockRuler$Rulers") (As := [.int v1, .int v4]) (rest := []) ⟨hx, hb, hml, hown, hg⟩ (c_Rulers_isRuled l dC dI a cs σ v1 v4 _ hr2) (cwV 2 hg (gdV wd62 wd61 wd60 wd63 wd64) rfl rfl rfl (by decide +kernel) ⟨Nat.le_of_ble_eq_true rfl, Nat.le_of_ble_eq_true rfl⟩) ⟨wb_blind, va_recv hK hP (ci := 3) (q0 := 3) rfl rfl, fun U hU hW => ⟨rfl, wb_pre hU hW hP hK hN⟩⟩ rfl rfl hl.1 rfl (lv_room (Nat.le_of_ble_eq_true rfl)) d_Rulers_realmOf_16 ⟨Nat.zero_le _, Nat.zero_le _⟩) ?_
      refine lv_if_eq (tgt := 30) hx hb d_Rulers_realmOf_19 (by decide) (fun c3 => ?_) (fun c3 => ?_)
      · have h := b_t h c3
        refine lv_iinc (v := v4 + 1) (lv' := [(4, .int (v4 + 1)), (0, .ref (a 3)), (1, .int v1), (2, .long v2)]) hx hb d_Rulers_realmOf_30 hl (k := 3) rfl rfl (by decide) rfl (fun ls hl => ?_)
        refine lv_goto (tgt := 5) hx hb d_Rulers_realmOf_33 (by decide) ?_
        exact ih σ v1 v2 (v4 + 1) y h hP ls (lv_sub hl [1, 2, 3, 0] rfl) k0
      · have h := b_f h c3
        refine lv_lload_n hx hb d_Rulers_realmOf_22 rfl (lv_at hl 2 rfl) ?_
        refine lv_iload hx hb d_Rulers_realmOf_23 (lv_at hl 3 rfl) ?_
        refine ro_call (v := .long (f_BlockRuler_only v4)) (va_runSN (As := [.int v4]) (rest := [.long v2]) ⟨hx, hb, hml, hown, hg⟩ (c_BlockRuler_only l v4 _ rfl) ⟨va_cnB 1 hg (gdC wd35) rfl rfl rfl (hN _ nw3) (hg _ wd22) (by decide +kernel) ⟨Nat.le_of_ble_eq_true rfl, Nat.le_of_ble_eq_true rfl⟩, hg _ wd36, trivial⟩ ⟨va_blind0, fun U hU hW => ⟨rfl, trivial⟩⟩ rfl rfl hl.1 rfl (lv_room (Nat.le_of_ble_eq_true rfl)) d_Rulers_realmOf_25 ⟨Nat.zero_le _, Nat.zero_le _⟩) ?_
        refine lv_lor hx hb d_Rulers_realmOf_28 ?_
        refine lv_topl (fun x4 ex4 => ?_)
        have h := lt_ h x4 ex4
        refine lv_lstore_n (lv' := [(2, .long x4), (0, .ref (a 3)), (1, .int v1), (4, .int v4)]) hx hb d_Rulers_realmOf_29 rfl hl (by decide) rfl (fun ls hl => ?_)
        refine lv_iinc (v := v4 + 1) (lv' := [(4, .int (v4 + 1)), (2, .long x4), (0, .ref (a 3)), (1, .int v1)]) hx hb d_Rulers_realmOf_30 hl (k := 3) rfl rfl (by decide) rfl (fun ls hl => ?_)
        refine lv_goto (tgt := 5) hx hb d_Rulers_realmOf_33 (by decide) ?_
        exact ih σ v1 x4 (v4 + 1) y h hP ls (lv_sub hl [2, 3, 1, 0] rfl) k0
set_option maxHeartbeats 4000000 in
set_option maxRecDepth 100000 in
theorem c_Rulers_realmOf (l : Launch) (dC : Nat → ClassId) (dI : Nat → Nat → Nat) (a : Nat → Nat) (cs : Nat → ClassId) (σ : SB) (v1 : Int32) (r : Int64) (h : f_Rulers_realmOf σ v1 = some r) : Met l y_Rulers_realmOf w_Rulers_realmOf rm_Rulers_realmOf (va_Pc [.ref (a 3), .int v1] (WBB dC dI a cs σ)) (QcV (.long r)) 0 0 (fun _ => False) := by
  refine Met.ofW (cc := b_Rulers_realmOf) (maxL := 5) (ret := (some .long)) (by decide) rfl ?_
  intro p e s m args below meth c s₁ B hml hv
  obtain ⟨rfl, hP, hK, hN⟩ := hv
  have hx := B.exec
  have hb := B.bytes
  have hr := B.returns
  have hg : ∀ w ∈ G_, w.before _ s = true := fun w hw => atoms_spec (ws := w_Rulers_realmOf) B.pre w (List.mem_cons_of_mem _ hw)
  have hown : s.vm.findClass "BlockRuler$Rulers" = some m.cls := findClass_of_methodNamed B.named
  have hlocks := B.notSynchronized
  have C0 : Cx "BlockRuler$Rulers" b_Rulers_realmOf 5 p s m _ meth c := ⟨hx, hb, hml, hown, hg, hlocks⟩
  have hl := lv_entry ([.ref (a 3), .int v1]) (n := 5) (Nat.le_of_ble_eq_true rfl)
  rw [lg_entry_eq]
  generalize (lg_sl ([.ref (a 3), .int v1]) ++ List.replicate (5 - (lg_sl ([.ref (a 3), .int v1])).length) Slot.unset).toArray = ls at hl ⊢
  have hl : lv_has ls 5 [(0, .ref (a 3)), (1, .int v1)] := hl
  unfold f_Rulers_realmOf at h
  refine lv_lconst (v := 0) hx hb d_Rulers_realmOf_0 (by decide) ?_
  refine lv_lstore_n (lv' := [(2, .long 0), (0, .ref (a 3)), (1, .int v1)]) hx hb d_Rulers_realmOf_1 rfl hl (by decide) rfl (fun ls hl => ?_)
  refine lv_iconst (v := 0) hx hb d_Rulers_realmOf_2 (by decide) ?_
  refine lv_istore (lv' := [(4, .int 0), (2, .long 0), (0, .ref (a 3)), (1, .int v1)]) hx hb d_Rulers_realmOf_3 hl (by decide) rfl (fun ls hl => ?_)
  obtain ⟨y5, hy5, h⟩ := bd h
  refine lpW_Rulers_realmOf_5 C0 hK hN 100 σ v1 0 0 y5 hy5 hP ls (lv_sub hl [2, 3, 1, 0] rfl) (fun ls hl => ?_)
  refine lv_lload_n hx hb d_Rulers_realmOf_36 rfl (lv_at hl 2 rfl) ?_
  exact W.lret (v := y5.1) hx hb hr (fun t ht _ => ⟨by rw [Option.some.inj h], ht⟩) (fun q hq => by cases hq) d_Rulers_realmOf_37
set_option maxHeartbeats 4000000 in
set_option maxRecDepth 100000 in
theorem lpW_Rulers_edgeOf_24 {p : Program} {l : Launch} {e : Env} {s : State} {m : MethodId} {args : Array Value} {below : List Frame} {meth : Method} {c : Code} {Q : State → Prop} {dC : Nat → ClassId} {dI : Nat → Nat → Nat} {a : Nat → Nat} {cs : Nat → ClassId} {H : Heap} {locs : List Loc} (C0 : Cx "BlockRuler$Rulers" b_Rulers_edgeOf 9 p s m args meth c) (hK : va_K (dC, dI) classes (tyB cs) s) (hN : NW s) : ∀ (n : Nat) (σ : SB) (v2 : Int64) (v4 : Int64) (v6 : Int64) (v8 : Int32) (y : Int64 × Int32), lp_Rulers_edgeOf_24 n σ v2 v4 v6 v8 = some y → va_P (dC, dI) classes (wsB a cs σ) H → ∀ (ls : Array Slot), lv_has ls 9 [(0, .ref (a 3)), (2, .long v2), (4, .long v4), (6, .long v6), (8, .int v8)] → (∀ (ls : Array Slot), lv_has ls 9 [(0, .ref (a 3)), (2, .long v2), (4, .long v4), (6, .long y.1), (8, .int y.2)] → W p l e (headSpec w_Rulers_edgeOf rm_Rulers_edgeOf).room s m args below meth c H locs 0 0 Q (F0 m 74 ls [])) → W p l e (headSpec w_Rulers_edgeOf rm_Rulers_edgeOf).room s m args below meth c H locs 0 0 Q (F0 m 24 ls []) := by
  have C1 := C0
  obtain ⟨hx, hb, hml, hown, hg, hlocks⟩ := C1
  intro n
  induction n with
  | zero => intro σ v2 v4 v6 v8 y h; exact absurd (show (none : Option (Int64 × Int32)) = some y from h) (fun q => by cases q)
  | succ n ih =>
    intro σ v2 v4 v6 v8 y h hP ls hl k0
    rw [lp_Rulers_edgeOf_24_s] at h
    refine lv_iload hx hb d_Rulers_edgeOf_24 (lv_at hl 4 rfl) ?_
    refine lv_bipush (v := 64) hx hb d_Rulers_edgeOf_26 (by decide) ?_
    refine lv_icmp_ge (tgt := 74) hx hb d_Rulers_edgeOf_28 (by decide) (fun c3 => ?_) (fun c3 => ?_)
    · have h := b_t h c3
      obtain rfl := Option.some.inj h
      exact k0 ls (lv_sub hl [0, 1, 2, 3, 4] rfl)
    · have h := b_f h c3
      refine lv_aload_n hx hb d_Rulers_edgeOf_31 rfl (lv_at hl 0 rfl) ?_
      refine va_get (D := (dC, dI)) (ci := 3) (v := .ref (a 2)) (C := "BlockRuler$Rulers") (T := F_Rulers) (N := 2) hx hb hg i_Rulers hown hK hP 3 rfl rfl 0 (by decide) (hg _ wd70) (fun _ h9 => h9) rfl d_Rulers_edgeOf_32 ?_
      refine va_get (D := (dC, dI)) (ci := 2) (v := .ref (a 11)) (C := "BlockRuler$Walk") (T := F_Walk) (N := 9) hx hb hg i_Walk hown hK hP 2 rfl rfl 5 (by decide) (hg _ wd71) (fun _ h9 => h9) rfl d_Rulers_edgeOf_35 ?_
      refine lv_iload hx hb d_Rulers_edgeOf_38 (lv_at hl 4 rfl) ?_
      obtain ⟨hi4, h⟩ := gd h
      refine va_lald (f := sB_comers σ) (n := 64) hx hb hK hP 11 6 rfl rfl hi4 d_Rulers_edgeOf_40 ?_
      refine lv_lload_n hx hb d_Rulers_edgeOf_41 rfl (lv_at hl 1 rfl) ?_
      refine lv_land hx hb d_Rulers_edgeOf_42 ?_
      refine lv_lconst (v := 0) hx hb d_Rulers_edgeOf_43 (by decide) ?_
      refine W.lcmp hx hb d_Rulers_edgeOf_44 ?_
      refine lv_if_eq (tgt := 68) hx hb d_Rulers_edgeOf_45 (by decide) (fun c5 => ?_) (fun c5 => ?_)
      · have h := b_t h c5
        refine lv_iinc (v := v8 + 1) (lv' := [(8, .int (v8 + 1)), (0, .ref (a 3)), (2, .long v2), (4, .long v4), (6, .long v6)]) hx hb d_Rulers_edgeOf_68 hl (k := 4) rfl rfl (by decide) rfl (fun ls hl => ?_)
        refine lv_goto (tgt := 24) hx hb d_Rulers_edgeOf_71 (by decide) ?_
        exact ih σ v2 v4 v6 (v8 + 1) y h hP ls (lv_sub hl [1, 2, 3, 4, 0] rfl) k0
      · have h := b_f h c5
        refine lv_lload hx hb d_Rulers_edgeOf_48 (lv_at hl 2 rfl) ?_
        refine lv_iload hx hb d_Rulers_edgeOf_50 (lv_at hl 4 rfl) ?_
        refine ro_call (v := .int (f_BlockRuler_holds v4 v8)) (va_runSN (As := [.long v4, .int v8]) (rest := []) ⟨hx, hb, hml, hown, hg⟩ (c_BlockRuler_holds l v4 v8 _ rfl) ⟨va_cnB 2 hg (gdC wd29) rfl rfl rfl (hN _ nw2) (hg _ wd22) (by decide +kernel) ⟨Nat.le_of_ble_eq_true rfl, Nat.le_of_ble_eq_true rfl⟩, hg _ wd30, trivial⟩ ⟨va_blind0, fun U hU hW => ⟨rfl, trivial⟩⟩ rfl rfl hl.1 rfl (lv_room (Nat.le_of_ble_eq_true rfl)) d_Rulers_edgeOf_52 ⟨Nat.zero_le _, Nat.zero_le _⟩) ?_
        refine lv_if_ne (tgt := 68) hx hb d_Rulers_edgeOf_55 (by decide) (fun c6 => ?_) (fun c6 => ?_)
        · have h := b_f h c6
          refine lv_iinc (v := v8 + 1) (lv' := [(8, .int (v8 + 1)), (0, .ref (a 3)), (2, .long v2), (4, .long v4), (6, .long v6)]) hx hb d_Rulers_edgeOf_68 hl (k := 4) rfl rfl (by decide) rfl (fun ls hl => ?_)
          refine lv_goto (tgt := 24) hx hb d_Rulers_edgeOf_71 (by decide) ?_
          exact ih σ v2 v4 v6 (v8 + 1) y h hP ls (lv_sub hl [1, 2, 3, 4, 0] rfl) k0
        · have h := b_t h c6
          refine lv_lload hx hb d_Rulers_edgeOf_58 (lv_at hl 3 rfl) ?_
          refine lv_iload hx hb d_Rulers_edgeOf_60 (lv_at hl 4 rfl) ?_
          refine ro_call (v := .long (f_BlockRuler_only v8)) (va_runSN (As := [.int v8]) (rest := [.long v6]) ⟨hx, hb, hml, hown, hg⟩ (c_BlockRuler_only l v8 _ rfl) ⟨va_cnB 1 hg (gdC wd35) rfl rfl rfl (hN _ nw3) (hg _ wd22) (by decide +kernel) ⟨Nat.le_of_ble_eq_true rfl, Nat.le_of_ble_eq_true rfl⟩, hg _ wd36, trivial⟩ ⟨va_blind0, fun U hU hW => ⟨rfl, trivial⟩⟩ rfl rfl hl.1 rfl (lv_room (Nat.le_of_ble_eq_true rfl)) d_Rulers_edgeOf_62 ⟨Nat.zero_le _, Nat.zero_le _⟩) ?_
          refine lv_lor hx hb d_Rulers_edgeOf_65 ?_
          refine lv_topl (fun x7 ex7 => ?_)
          have h := lt_ h x7 ex7
          refine lv_lstore (lv' := [(6, .long x7), (0, .ref (a 3)), (2, .long v2), (4, .long v4), (8, .int v8)]) hx hb d_Rulers_edgeOf_66 hl (by decide) rfl (fun ls hl => ?_)
          refine lv_iinc (v := v8 + 1) (lv' := [(8, .int (v8 + 1)), (6, .long x7), (0, .ref (a 3)), (2, .long v2), (4, .long v4)]) hx hb d_Rulers_edgeOf_68 hl (k := 4) rfl rfl (by decide) rfl (fun ls hl => ?_)
          refine lv_goto (tgt := 24) hx hb d_Rulers_edgeOf_71 (by decide) ?_
          exact ih σ v2 v4 x7 (v8 + 1) y h hP ls (lv_sub hl [2, 3, 4, 1, 0] rfl) k0
set_option maxHeartbeats 4000000 in
set_option maxRecDepth 100000 in
theorem c_Rulers_edgeOf (l : Launch) (dC : Nat → ClassId) (dI : Nat → Nat → Nat) (a : Nat → Nat) (cs : Nat → ClassId) (σ : SB) (v1 : Int32) (r : Int64) (h : f_Rulers_edgeOf σ v1 = some r) : Met l y_Rulers_edgeOf w_Rulers_edgeOf rm_Rulers_edgeOf (va_Pc [.ref (a 3), .int v1] (WBB dC dI a cs σ)) (QcV (.long r)) 0 0 (fun _ => False) := by
  refine Met.ofW (cc := b_Rulers_edgeOf) (maxL := 9) (ret := (some .long)) (by decide) rfl ?_
  intro p e s m args below meth c s₁ B hml hv
  obtain ⟨rfl, hP, hK, hN⟩ := hv
  have hx := B.exec
  have hb := B.bytes
  have hr := B.returns
  have hg : ∀ w ∈ G_, w.before _ s = true := fun w hw => atoms_spec (ws := w_Rulers_edgeOf) B.pre w (List.mem_cons_of_mem _ hw)
  have hown : s.vm.findClass "BlockRuler$Rulers" = some m.cls := findClass_of_methodNamed B.named
  have hlocks := B.notSynchronized
  have C0 : Cx "BlockRuler$Rulers" b_Rulers_edgeOf 9 p s m _ meth c := ⟨hx, hb, hml, hown, hg, hlocks⟩
  have hl := lv_entry ([.ref (a 3), .int v1]) (n := 9) (Nat.le_of_ble_eq_true rfl)
  rw [lg_entry_eq]
  generalize (lg_sl ([.ref (a 3), .int v1]) ++ List.replicate (9 - (lg_sl ([.ref (a 3), .int v1])).length) Slot.unset).toArray = ls at hl ⊢
  have hl : lv_has ls 9 [(0, .ref (a 3)), (1, .int v1)] := hl
  unfold f_Rulers_edgeOf at h
  refine lv_aload_n hx hb d_Rulers_edgeOf_0 rfl (lv_at hl 0 rfl) ?_
  refine lv_iload_n hx hb d_Rulers_edgeOf_1 rfl (lv_at hl 1 rfl) ?_
  obtain ⟨r1, hr1, h⟩ := bd h
  refine ro_call (v := .long r1) (va_runV (C := "BlockRuler$Rulers") (As := [.int v1]) (rest := []) ⟨hx, hb, hml, hown, hg⟩ (c_Rulers_realmOf l dC dI a cs σ v1 _ hr1) (cwV 1 hg (gdV wd67 wd66 wd65 wd63 wd68) rfl rfl rfl (by decide +kernel) ⟨Nat.le_of_ble_eq_true rfl, Nat.le_of_ble_eq_true rfl⟩) ⟨wb_blind, va_recv hK hP (ci := 3) (q0 := 3) rfl rfl, fun U hU hW => ⟨rfl, wb_pre hU hW hP hK hN⟩⟩ rfl rfl hl.1 rfl (lv_room (Nat.le_of_ble_eq_true rfl)) d_Rulers_edgeOf_2 ⟨Nat.zero_le _, Nat.zero_le _⟩) ?_
  refine lv_lstore_n (lv' := [(2, .long r1), (0, .ref (a 3)), (1, .int v1)]) hx hb d_Rulers_edgeOf_5 rfl hl (by decide) rfl (fun ls hl => ?_)
  refine lv_lload_n hx hb d_Rulers_edgeOf_6 rfl (lv_at hl 0 rfl) ?_
  refine lv_iload_n hx hb d_Rulers_edgeOf_7 rfl (lv_at hl 2 rfl) ?_
  refine ro_call (v := .long (f_BlockRuler_only v1)) (va_runSN (As := [.int v1]) (rest := [.long r1]) ⟨hx, hb, hml, hown, hg⟩ (c_BlockRuler_only l v1 _ rfl) ⟨va_cnB 1 hg (gdC wd35) rfl rfl rfl (hN _ nw3) (hg _ wd22) (by decide +kernel) ⟨Nat.le_of_ble_eq_true rfl, Nat.le_of_ble_eq_true rfl⟩, hg _ wd36, trivial⟩ ⟨va_blind0, fun U hU hW => ⟨rfl, trivial⟩⟩ rfl rfl hl.1 rfl (lv_room (Nat.le_of_ble_eq_true rfl)) d_Rulers_edgeOf_8 ⟨Nat.zero_le _, Nat.zero_le _⟩) ?_
  refine lv_ldc2 (v := -1) hx hb hown (hg _ wd69) d_Rulers_edgeOf_11 ?_
  refine lv_lxor hx hb d_Rulers_edgeOf_14 ?_
  refine lv_land hx hb d_Rulers_edgeOf_15 ?_
  refine lv_topl (fun x2 ex2 => ?_)
  have h := lt_ h x2 ex2
  refine lv_lstore (lv' := [(4, .long x2), (2, .long r1), (0, .ref (a 3)), (1, .int v1)]) hx hb d_Rulers_edgeOf_16 hl (by decide) rfl (fun ls hl => ?_)
  refine lv_lconst (v := 0) hx hb d_Rulers_edgeOf_18 (by decide) ?_
  refine lv_lstore (lv' := [(6, .long 0), (4, .long x2), (2, .long r1), (0, .ref (a 3)), (1, .int v1)]) hx hb d_Rulers_edgeOf_19 hl (by decide) rfl (fun ls hl => ?_)
  refine lv_iconst (v := 0) hx hb d_Rulers_edgeOf_21 (by decide) ?_
  refine lv_istore (lv' := [(8, .int 0), (6, .long 0), (4, .long x2), (2, .long r1), (0, .ref (a 3)), (1, .int v1)]) hx hb d_Rulers_edgeOf_22 hl (by decide) rfl (fun ls hl => ?_)
  obtain ⟨y8, hy8, h⟩ := bd h
  refine lpW_Rulers_edgeOf_24 C0 hK hN 100 σ r1 x2 0 0 y8 hy8 hP ls (lv_sub hl [4, 3, 2, 1, 0] rfl) (fun ls hl => ?_)
  refine lv_lload hx hb d_Rulers_edgeOf_74 (lv_at hl 3 rfl) ?_
  exact W.lret (v := y8.1) hx hb hr (fun t ht _ => ⟨by rw [Option.some.inj h], ht⟩) (fun q hq => by cases hq) d_Rulers_edgeOf_76
set_option maxHeartbeats 4000000 in
set_option maxRecDepth 100000 in
theorem lpW_Rulers_sharedBy_20 {p : Program} {l : Launch} {e : Env} {s : State} {m : MethodId} {args : Array Value} {below : List Frame} {meth : Method} {c : Code} {Q : State → Prop} {dC : Nat → ClassId} {dI : Nat → Nat → Nat} {a : Nat → Nat} {cs : Nat → ClassId} {H : Heap} {locs : List Loc} (C0 : Cx "BlockRuler$Rulers" b_Rulers_sharedBy 9 p s m args meth c) (hK : va_K (dC, dI) classes (tyB cs) s) (hN : NW s) : ∀ (n : Nat) (σ : SB) (v3 : Int64) (v5 : Int64) (v7 : Int32) (v8 : Int32) (y : Int64 × Int64 × Int32), lp_Rulers_sharedBy_20 n σ v3 v5 v7 v8 = some y → va_P (dC, dI) classes (wsB a cs σ) H → ∀ (ls : Array Slot), lv_has ls 9 [(0, .ref (a 3)), (3, .long v3), (5, .long v5), (7, .int v7), (8, .int v8)] → (∀ (ls : Array Slot), lv_has ls 9 [(0, .ref (a 3)), (3, .long y.1), (5, .long y.2.1), (7, .int v7), (8, .int y.2.2)] → W p l e (headSpec w_Rulers_sharedBy rm_Rulers_sharedBy).room s m args below meth c H locs 0 0 Q (F0 m 53 ls [])) → W p l e (headSpec w_Rulers_sharedBy rm_Rulers_sharedBy).room s m args below meth c H locs 0 0 Q (F0 m 20 ls []) := by
  have C1 := C0
  obtain ⟨hx, hb, hml, hown, hg, hlocks⟩ := C1
  intro n
  induction n with
  | zero => intro σ v3 v5 v7 v8 y h; exact absurd (show (none : Option (Int64 × Int64 × Int32)) = some y from h) (fun q => by cases q)
  | succ n ih =>
    intro σ v3 v5 v7 v8 y h hP ls hl k0
    rw [lp_Rulers_sharedBy_20_s] at h
    refine lv_iload hx hb d_Rulers_sharedBy_20 (lv_at hl 4 rfl) ?_
    refine lv_iload hx hb d_Rulers_sharedBy_22 (lv_at hl 3 rfl) ?_
    refine lv_icmp_ge (tgt := 53) hx hb d_Rulers_sharedBy_24 (by decide) (fun c1 => ?_) (fun c1 => ?_)
    · have h := b_t h c1
      obtain rfl := Option.some.inj h
      exact k0 ls (lv_sub hl [0, 1, 2, 3, 4] rfl)
    · have h := b_f h c1
      refine lv_lload_n hx hb d_Rulers_sharedBy_27 rfl (lv_at hl 1 rfl) ?_
      refine lv_aload_n hx hb d_Rulers_sharedBy_28 rfl (lv_at hl 0 rfl) ?_
      refine va_get (D := (dC, dI)) (ci := 3) (v := .ref (a 13)) (C := "BlockRuler$Rulers") (T := F_Rulers) (N := 2) hx hb hg i_Rulers hown hK hP 3 rfl rfl 1 (by decide) (hg _ wd59) (fun _ h9 => h9) rfl d_Rulers_sharedBy_29 ?_
      refine lv_lload hx hb d_Rulers_sharedBy_32 (lv_at hl 2 rfl) ?_
      refine ro_call (v := .int (f_BlockRuler_least v5)) (va_runSN (As := [.long v5]) (rest := [.ref (a 13), .long v3]) ⟨hx, hb, hml, hown, hg⟩ (c_BlockRuler_least l v5 _ rfl) ⟨va_cnB 1 hg (gdC wd26) rfl rfl rfl (hN _ nw4) (hg _ wd22) (by decide +kernel) ⟨Nat.le_of_ble_eq_true rfl, Nat.le_of_ble_eq_true rfl⟩, hg _ wd25, trivial⟩ ⟨va_blind0, fun U hU hW => ⟨rfl, trivial⟩⟩ rfl rfl hl.1 rfl (lv_room (Nat.le_of_ble_eq_true rfl)) d_Rulers_sharedBy_34 ⟨Nat.zero_le _, Nat.zero_le _⟩) ?_
      obtain ⟨hi2, h⟩ := gd h
      refine va_lald (f := sB_rof σ) (n := 64) hx hb hK hP 13 8 rfl rfl hi2 d_Rulers_sharedBy_37 ?_
      refine lv_land hx hb d_Rulers_sharedBy_38 ?_
      refine lv_topl (fun x3 ex3 => ?_)
      have h := lt_ h x3 ex3
      refine lv_lstore_n (lv' := [(3, .long x3), (0, .ref (a 3)), (5, .long v5), (7, .int v7), (8, .int v8)]) hx hb d_Rulers_sharedBy_39 rfl hl (by decide) rfl (fun ls hl => ?_)
      refine lv_lload hx hb d_Rulers_sharedBy_40 (lv_at hl 2 rfl) ?_
      refine ro_call (v := .long (f_BlockRuler_withoutLeast v5)) (va_runSN (As := [.long v5]) (rest := []) ⟨hx, hb, hml, hown, hg⟩ (c_BlockRuler_withoutLeast l v5 _ rfl) ⟨va_cnB 1 hg (gdC wd23) rfl rfl rfl (hN _ nw5) (hg _ wd22) (by decide +kernel) ⟨Nat.le_of_ble_eq_true rfl, Nat.le_of_ble_eq_true rfl⟩, hg _ wd21, trivial⟩ ⟨va_blind0, fun U hU hW => ⟨rfl, trivial⟩⟩ rfl rfl hl.1 rfl (lv_room (Nat.le_of_ble_eq_true rfl)) d_Rulers_sharedBy_42 ⟨Nat.zero_le _, Nat.zero_le _⟩) ?_
      refine lv_topl (fun x4 ex4 => ?_)
      have h := lt_ h x4 ex4
      refine lv_lstore (lv' := [(5, .long x4), (3, .long x3), (0, .ref (a 3)), (7, .int v7), (8, .int v8)]) hx hb d_Rulers_sharedBy_45 hl (by decide) rfl (fun ls hl => ?_)
      refine lv_iinc (v := v8 + 1) (lv' := [(8, .int (v8 + 1)), (5, .long x4), (3, .long x3), (0, .ref (a 3)), (7, .int v7)]) hx hb d_Rulers_sharedBy_47 hl (k := 4) rfl rfl (by decide) rfl (fun ls hl => ?_)
      refine lv_goto (tgt := 20) hx hb d_Rulers_sharedBy_50 (by decide) ?_
      exact ih σ x3 x4 v7 (v8 + 1) y h hP ls (lv_sub hl [3, 2, 1, 4, 0] rfl) k0
set_option maxHeartbeats 4000000 in
set_option maxRecDepth 100000 in
theorem c_Rulers_sharedBy (l : Launch) (dC : Nat → ClassId) (dI : Nat → Nat → Nat) (a : Nat → Nat) (cs : Nat → ClassId) (σ : SB) (v1 : Int64) (r : Int64) (h : f_Rulers_sharedBy σ v1 = some r) : Met l y_Rulers_sharedBy w_Rulers_sharedBy rm_Rulers_sharedBy (va_Pc [.ref (a 3), .long v1] (WBB dC dI a cs σ)) (QcV (.long r)) 0 0 (fun _ => False) := by
  refine Met.ofW (cc := b_Rulers_sharedBy) (maxL := 9) (ret := (some .long)) (by decide) rfl ?_
  intro p e s m args below meth c s₁ B hml hv
  obtain ⟨rfl, hP, hK, hN⟩ := hv
  have hx := B.exec
  have hb := B.bytes
  have hr := B.returns
  have hg : ∀ w ∈ G_, w.before _ s = true := fun w hw => atoms_spec (ws := w_Rulers_sharedBy) B.pre w (List.mem_cons_of_mem _ hw)
  have hown : s.vm.findClass "BlockRuler$Rulers" = some m.cls := findClass_of_methodNamed B.named
  have hlocks := B.notSynchronized
  have C0 : Cx "BlockRuler$Rulers" b_Rulers_sharedBy 9 p s m _ meth c := ⟨hx, hb, hml, hown, hg, hlocks⟩
  have hl := lv_entry ([.ref (a 3), .long v1]) (n := 9) (Nat.le_of_ble_eq_true rfl)
  rw [lg_entry_eq]
  generalize (lg_sl ([.ref (a 3), .long v1]) ++ List.replicate (9 - (lg_sl ([.ref (a 3), .long v1])).length) Slot.unset).toArray = ls at hl ⊢
  have hl : lv_has ls 9 [(0, .ref (a 3)), (1, .long v1)] := hl
  unfold f_Rulers_sharedBy at h
  refine lv_aload_n hx hb d_Rulers_sharedBy_0 rfl (lv_at hl 0 rfl) ?_
  refine va_get (D := (dC, dI)) (ci := 3) (v := .ref (a 2)) (C := "BlockRuler$Rulers") (T := F_Rulers) (N := 2) hx hb hg i_Rulers hown hK hP 3 rfl rfl 0 (by decide) (hg _ wd70) (fun _ h9 => h9) rfl d_Rulers_sharedBy_1 ?_
  refine va_get (D := (dC, dI)) (ci := 2) (v := .long (sB_rset σ)) (C := "BlockRuler$Walk") (T := F_Walk) (N := 9) hx hb hg i_Walk hown hK hP 2 rfl rfl 8 (by decide) (hg _ wd72) (fun _ h9 => h9) rfl d_Rulers_sharedBy_4 ?_
  refine lv_lstore_n (lv' := [(3, .long (sB_rset σ)), (0, .ref (a 3)), (1, .long v1)]) hx hb d_Rulers_sharedBy_7 rfl hl (by decide) rfl (fun ls hl => ?_)
  refine lv_lload_n hx hb d_Rulers_sharedBy_8 rfl (lv_at hl 2 rfl) ?_
  refine lv_lstore (lv' := [(5, .long v1), (3, .long (sB_rset σ)), (0, .ref (a 3)), (1, .long v1)]) hx hb d_Rulers_sharedBy_9 hl (by decide) rfl (fun ls hl => ?_)
  refine lv_lload_n hx hb d_Rulers_sharedBy_11 rfl (lv_at hl 3 rfl) ?_
  refine ro_call (v := .int (f_Long_bitCount v1)) (va_runS (As := [.long v1]) (rest := []) ⟨hx, hb, hml, hown, hg⟩ (c_Long_bitCount l v1 _ rfl) (va_cwS 1 hg (gdSX wd73 wd17 wd18 wd19) rfl rfl rfl (by decide +kernel) ⟨Nat.le_of_ble_eq_true rfl, Nat.le_of_ble_eq_true rfl⟩) ⟨va_blind0, fun U hU hW => ⟨rfl, trivial⟩⟩ rfl rfl hl.1 rfl (lv_room (Nat.le_of_ble_eq_true rfl)) d_Rulers_sharedBy_12 ⟨Nat.zero_le _, Nat.zero_le _⟩) ?_
  refine lv_istore (lv' := [(7, .int (f_Long_bitCount v1)), (5, .long v1), (3, .long (sB_rset σ)), (0, .ref (a 3)), (1, .long v1)]) hx hb d_Rulers_sharedBy_15 hl (by decide) rfl (fun ls hl => ?_)
  refine lv_iconst (v := 0) hx hb d_Rulers_sharedBy_17 (by decide) ?_
  refine lv_istore (lv' := [(8, .int 0), (7, .int (f_Long_bitCount v1)), (5, .long v1), (3, .long (sB_rset σ)), (0, .ref (a 3)), (1, .long v1)]) hx hb d_Rulers_sharedBy_18 hl (by decide) rfl (fun ls hl => ?_)
  obtain ⟨y5, hy5, h⟩ := bd h
  refine lpW_Rulers_sharedBy_20 C0 hK hN 100 σ (sB_rset σ) v1 (f_Long_bitCount v1) 0 y5 hy5 hP ls (lv_sub hl [4, 3, 2, 1, 0] rfl) (fun ls hl => ?_)
  refine lv_lload_n hx hb d_Rulers_sharedBy_53 rfl (lv_at hl 1 rfl) ?_
  exact W.lret (v := y5.1) hx hb hr (fun t ht _ => ⟨by rw [Option.some.inj h], ht⟩) (fun q hq => by cases hq) d_Rulers_sharedBy_54
set_option maxHeartbeats 4000000 in
set_option maxRecDepth 100000 in
theorem lpW_Rulers_narrow_4 {p : Program} {l : Launch} {e : Env} {s : State} {m : MethodId} {args : Array Value} {below : List Frame} {meth : Method} {c : Code} {Q : State → Prop} {dC : Nat → ClassId} {dI : Nat → Nat → Nat} {a : Nat → Nat} {cs : Nat → ClassId} {A : Nat → Prop} (C0 : Cx "BlockRuler$Rulers" b_Rulers_narrow 6 p s m args meth c) (hK : va_K (dC, dI) classes (tyB cs) s) (hN : NW s) (hA : ∀ q : Nat, s.heap.size ≤ q → A q) : ∀ (n : Nat) (σ : SB) (v1 : Int32) (v2 : Int32) (y : Int32 × Int32 × SB), lp_Rulers_narrow_4 n σ v1 v2 = some y → ∀ (H : Heap) (locs : List Loc) (ls : Array Slot), va_P (dC, dI) classes (wsB a cs σ) H → va_D A (wsB a cs σ) → va_S A s.heap H locs → lv_has ls 6 [(0, .ref (a 3)), (1, .int v1), (2, .int v2)] → (∀ (H : Heap) (locs : List Loc) (ls : Array Slot), va_P (dC, dI) classes (wsB a cs y.2.2) H → va_D A (wsB a cs y.2.2) → va_S A s.heap H locs → lv_has ls 6 [(0, .ref (a 3)), (1, .int y.1), (2, .int y.2.1)] → W p l e (headSpec w_Rulers_narrow rm_Rulers_narrow).room s m args below meth c H locs 0 0 Q (F0 m 72 ls [])) → W p l e (headSpec w_Rulers_narrow rm_Rulers_narrow).room s m args below meth c H locs 0 0 Q (F0 m 4 ls []) := by
  have C1 := C0
  obtain ⟨hx, hb, hml, hown, hg, hlocks⟩ := C1
  intro n
  induction n with
  | zero => intro σ v1 v2 y h; exact absurd (show (none : Option (Int32 × Int32 × SB)) = some y from h) (fun q => by cases q)
  | succ n ih =>
    intro σ v1 v2 y h H locs ls hP hD hS hl k0
    rw [lp_Rulers_narrow_4_s] at h
    refine lv_iload_n hx hb d_Rulers_narrow_4 rfl (lv_at hl 2 rfl) ?_
    refine lv_aload_n hx hb d_Rulers_narrow_5 rfl (lv_at hl 0 rfl) ?_
    refine va_get (D := (dC, dI)) (ci := 3) (v := .ref (a 2)) (C := "BlockRuler$Rulers") (T := F_Rulers) (N := 2) hx hb hg i_Rulers hown hK hP 3 rfl rfl 0 (by decide) (hg _ wd70) (fun _ h9 => h9) rfl d_Rulers_narrow_6 ?_
    refine va_get (D := (dC, dI)) (ci := 2) (v := .int (sB_reached σ)) (C := "BlockRuler$Walk") (T := F_Walk) (N := 9) hx hb hg i_Walk hown hK hP 2 rfl rfl 7 (by decide) (hg _ wd74) (fun _ h9 => h9) rfl d_Rulers_narrow_9 ?_
    refine lv_icmp_ge (tgt := 72) hx hb d_Rulers_narrow_12 (by decide) (fun c1 => ?_) (fun c1 => ?_)
    · have h := b_t h c1
      obtain rfl := Option.some.inj h
      exact k0 _ _ ls hP hD hS (lv_sub hl [0, 1, 2] rfl)
    · have h := b_f h c1
      refine lv_aload_n hx hb d_Rulers_narrow_15 rfl (lv_at hl 0 rfl) ?_
      refine va_get (D := (dC, dI)) (ci := 3) (v := .ref (a 2)) (C := "BlockRuler$Rulers") (T := F_Rulers) (N := 2) hx hb hg i_Rulers hown hK hP 3 rfl rfl 0 (by decide) (hg _ wd70) (fun _ h9 => h9) rfl d_Rulers_narrow_16 ?_
      refine lv_iload_n hx hb d_Rulers_narrow_19 rfl (lv_at hl 2 rfl) ?_
      obtain ⟨r2, hr2, h⟩ := bd h
      refine ro_call (v := .int r2) (va_runV (C := "BlockRuler$Walk") (As := [.int v2]) (rest := []) ⟨hx, hb, hml, hown, hg⟩ (c_Walk_blockAt l dC dI a cs σ v2 _ hr2) (cwV 1 hg (gdV wd75 wd52 wd51 wd45 wd54) rfl rfl rfl (by decide +kernel) ⟨Nat.le_of_ble_eq_true rfl, Nat.le_of_ble_eq_true rfl⟩) ⟨wb_blind, va_recv hK hP (ci := 2) (q0 := 2) rfl rfl, fun U hU hW => ⟨rfl, wb_pre hU hW hP hK hN⟩⟩ rfl rfl hl.1 rfl (lv_room (Nat.le_of_ble_eq_true rfl)) d_Rulers_narrow_20 ⟨Nat.zero_le _, Nat.zero_le _⟩) ?_
      refine lv_istore_n (lv' := [(3, .int r2), (0, .ref (a 3)), (1, .int v1), (2, .int v2)]) hx hb d_Rulers_narrow_23 rfl hl (by decide) rfl (fun ls hl => ?_)
      refine lv_aload_n hx hb d_Rulers_narrow_24 rfl (lv_at hl 1 rfl) ?_
      refine lv_aload_n hx hb d_Rulers_narrow_25 rfl (lv_at hl 1 rfl) ?_
      refine va_get (D := (dC, dI)) (ci := 3) (v := .ref (a 2)) (C := "BlockRuler$Rulers") (T := F_Rulers) (N := 2) hx hb hg i_Rulers hown hK hP 3 rfl rfl 0 (by decide) (hg _ wd70) (fun _ h9 => h9) rfl d_Rulers_narrow_26 ?_
      refine va_get (D := (dC, dI)) (ci := 2) (v := .ref (a 11)) (C := "BlockRuler$Walk") (T := F_Walk) (N := 9) hx hb hg i_Walk hown hK hP 2 rfl rfl 5 (by decide) (hg _ wd71) (fun _ h9 => h9) rfl d_Rulers_narrow_29 ?_
      refine lv_iload_n hx hb d_Rulers_narrow_32 rfl (lv_at hl 0 rfl) ?_
      obtain ⟨hi3, h⟩ := gd h
      refine va_lald (f := sB_comers σ) (n := 64) hx hb hK hP 11 6 rfl rfl hi3 d_Rulers_narrow_33 ?_
      obtain ⟨r4, hr4, h⟩ := bd h
      refine ro_call (v := .long r4) (va_runV (C := "BlockRuler$Rulers") (As := [.long (sB_comers σ (Int32.toNatClampNeg r2))]) (rest := []) ⟨hx, hb, hml, hown, hg⟩ (c_Rulers_sharedBy l dC dI a cs σ (sB_comers σ (Int32.toNatClampNeg r2)) _ hr4) (cwV 1 hg (gdV wd78 wd77 wd76 wd63 wd79) rfl rfl rfl (by decide +kernel) ⟨Nat.le_of_ble_eq_true rfl, Nat.le_of_ble_eq_true rfl⟩) ⟨wb_blind, va_recv hK hP (ci := 3) (q0 := 3) rfl rfl, fun U hU hW => ⟨rfl, wb_pre hU hW hP hK hN⟩⟩ rfl rfl hl.1 rfl (lv_room (Nat.le_of_ble_eq_true rfl)) d_Rulers_narrow_34 ⟨Nat.zero_le _, Nat.zero_le _⟩) ?_
      refine lv_iload_n hx hb d_Rulers_narrow_37 rfl (lv_at hl 0 rfl) ?_
      refine ro_call (v := .long (f_BlockRuler_only r2)) (va_runSN (As := [.int r2]) (rest := [.long r4]) ⟨hx, hb, hml, hown, hg⟩ (c_BlockRuler_only l r2 _ rfl) ⟨va_cnB 1 hg (gdC wd35) rfl rfl rfl (hN _ nw3) (hg _ wd22) (by decide +kernel) ⟨Nat.le_of_ble_eq_true rfl, Nat.le_of_ble_eq_true rfl⟩, hg _ wd36, trivial⟩ ⟨va_blind0, fun U hU hW => ⟨rfl, trivial⟩⟩ rfl rfl hl.1 rfl (lv_room (Nat.le_of_ble_eq_true rfl)) d_Rulers_narrow_38 ⟨Nat.zero_le _, Nat.zero_le _⟩) ?_
      refine lv_lor hx hb d_Rulers_narrow_41 ?_
      refine lv_topl (fun x5 ex5 => ?_)
      have h := lt_ h x5 ex5
      refine lv_lstore (lv' := [(4, .long x5), (3, .int r2), (0, .ref (a 3)), (1, .int v1), (2, .int v2)]) hx hb d_Rulers_narrow_42 hl (by decide) rfl (fun ls hl => ?_)
      refine lv_lload hx hb d_Rulers_narrow_44 (lv_at hl 0 rfl) ?_
      refine lv_aload_n hx hb d_Rulers_narrow_46 rfl (lv_at hl 2 rfl) ?_
      refine va_get (D := (dC, dI)) (ci := 3) (v := .ref (a 13)) (C := "BlockRuler$Rulers") (T := F_Rulers) (N := 2) hx hb hg i_Rulers hown hK hP 3 rfl rfl 1 (by decide) (hg _ wd59) (fun _ h9 => h9) rfl d_Rulers_narrow_47 ?_
      refine lv_iload_n hx hb d_Rulers_narrow_50 rfl (lv_at hl 1 rfl) ?_
      refine va_lald (f := sB_rof σ) (n := 64) hx hb hK hP 13 8 rfl rfl hi3 d_Rulers_narrow_51 ?_
      refine W.lcmp hx hb d_Rulers_narrow_52 ?_
      refine lv_if_eq (tgt := 66) hx hb d_Rulers_narrow_53 (by decide) (fun c6 => ?_) (fun c6 => ?_)
      · have h := b_t h c6
        refine lv_iinc (v := v2 + 1) (lv' := [(2, .int (v2 + 1)), (4, .long x5), (3, .int r2), (0, .ref (a 3)), (1, .int v1)]) hx hb d_Rulers_narrow_66 hl (k := 4) rfl rfl (by decide) rfl (fun ls hl => ?_)
        refine lv_goto (tgt := 4) hx hb d_Rulers_narrow_69 (by decide) ?_
        exact ih σ v1 (v2 + 1) y h _ _ ls hP hD hS (lv_sub hl [3, 4, 0] rfl) k0
      · have h := b_f h c6
        refine lv_aload_n hx hb d_Rulers_narrow_56 rfl (lv_at hl 2 rfl) ?_
        refine va_get (D := (dC, dI)) (ci := 3) (v := .ref (a 13)) (C := "BlockRuler$Rulers") (T := F_Rulers) (N := 2) hx hb hg i_Rulers hown hK hP 3 rfl rfl 1 (by decide) (hg _ wd59) (fun _ h9 => h9) rfl d_Rulers_narrow_57 ?_
        refine lv_iload_n hx hb d_Rulers_narrow_60 rfl (lv_at hl 1 rfl) ?_
        refine lv_lload hx hb d_Rulers_narrow_61 (lv_at hl 0 rfl) ?_
        refine va_last (f := sB_rof σ) (n := 64) hx hb hK hP hD hS 13 8 rfl rfl hi3 d_Rulers_narrow_63 (fun H locs hP hD hS => ?_)
        have hP := va_Pe (setB_rof a cs σ (vp_updL (sB_rof σ) (Int32.toNatClampNeg r2) x5)) hP
        have hD := va_De (setB_rof a cs σ (vp_updL (sB_rof σ) (Int32.toNatClampNeg r2) x5)) hD
        refine lv_iconst (v := 1) hx hb d_Rulers_narrow_64 (by decide) ?_
        refine lv_istore_n (lv' := [(1, .int 1), (4, .long x5), (3, .int r2), (0, .ref (a 3)), (2, .int v2)]) hx hb d_Rulers_narrow_65 rfl hl (by decide) rfl (fun ls hl => ?_)
        refine lv_iinc (v := v2 + 1) (lv' := [(2, .int (v2 + 1)), (1, .int 1), (4, .long x5), (3, .int r2), (0, .ref (a 3))]) hx hb d_Rulers_narrow_66 hl (k := 4) rfl rfl (by decide) rfl (fun ls hl => ?_)
        refine lv_goto (tgt := 4) hx hb d_Rulers_narrow_69 (by decide) ?_
        exact ih (uB_rof σ (vp_updL (sB_rof σ) (Int32.toNatClampNeg r2) x5)) 1 (v2 + 1) y h _ _ ls hP hD hS (lv_sub hl [4, 1, 0] rfl) k0
set_option maxHeartbeats 4000000 in
set_option maxRecDepth 100000 in
theorem c_Rulers_narrow (l : Launch) (dC : Nat → ClassId) (dI : Nat → Nat → Nat) (a : Nat → Nat) (cs : Nat → ClassId) (sz : Nat) (σ : SB) (r : Int32 × SB) (h : f_Rulers_narrow σ = some r) : Met l y_Rulers_narrow w_Rulers_narrow rm_Rulers_narrow (va_Pc [.ref (a 3)] (fun U => U.heap.size = sz ∧ WDB dC dI a cs σ U)) (va_Qi (fun (x : Int32) (u : SB) => (x, u) = r) (atB dC dI a cs (va_A (wsB a cs σ) sz)) (va_A (wsB a cs σ) sz)) 0 0 (va_A (wsB a cs σ) sz) := by
  refine Met.ofW (cc := b_Rulers_narrow) (maxL := 6) (ret := (some .boolean)) (by decide) rfl ?_
  intro p e s m args below meth c s₁ B hml hv
  obtain ⟨rfl, hsz, hP, hK, hN, hD0⟩ := hv
  have hx := B.exec
  have hb := B.bytes
  have hr := B.returns
  have hg : ∀ w ∈ G_, w.before _ s = true := fun w hw => atoms_spec (ws := w_Rulers_narrow) B.pre w (List.mem_cons_of_mem _ hw)
  have hown : s.vm.findClass "BlockRuler$Rulers" = some m.cls := findClass_of_methodNamed B.named
  have hlocks := B.notSynchronized
  have C0 : Cx "BlockRuler$Rulers" b_Rulers_narrow 6 p s m _ meth c := ⟨hx, hb, hml, hown, hg, hlocks⟩
  subst hsz
  have hD := hD0.self (sz := s.heap.size)
  generalize hAe : va_A (wsB a cs σ) s.heap.size = A at hD ⊢
  have hA : ∀ q : Nat, s.heap.size ≤ q → A q := fun q h => by rw [← hAe]; exact Or.inr h
  have hS : va_S A s.heap s.heap [] := va_S.rf
  have hl := lv_entry ([.ref (a 3)]) (n := 6) (Nat.le_of_ble_eq_true rfl)
  rw [lg_entry_eq]
  generalize (lg_sl ([.ref (a 3)]) ++ List.replicate (6 - (lg_sl ([.ref (a 3)])).length) Slot.unset).toArray = ls at hl ⊢
  have hl : lv_has ls 6 [(0, .ref (a 3))] := hl
  unfold f_Rulers_narrow at h
  refine lv_iconst (v := 0) hx hb d_Rulers_narrow_0 (by decide) ?_
  refine lv_istore_n (lv' := [(1, .int 0), (0, .ref (a 3))]) hx hb d_Rulers_narrow_1 rfl hl (by decide) rfl (fun ls hl => ?_)
  refine lv_iconst (v := 1) hx hb d_Rulers_narrow_2 (by decide) ?_
  refine lv_istore_n (lv' := [(2, .int 1), (1, .int 0), (0, .ref (a 3))]) hx hb d_Rulers_narrow_3 rfl hl (by decide) rfl (fun ls hl => ?_)
  obtain ⟨y7, hy7, h⟩ := bd h
  refine lpW_Rulers_narrow_4 C0 hK hN hA 100 σ 0 1 y7 hy7 _ _ ls hP hD hS (lv_sub hl [2, 1, 0] rfl) (fun H locs ls hP hD hS hl => ?_)
  refine lv_iload_n hx hb d_Rulers_narrow_72 rfl (lv_at hl 1 rfl) ?_
  obtain ⟨hz8, h⟩ := gz h
  exact W.zret (ty := .boolean) (v := y7.1) hx hb hr hz8 (fun t ht hW => ⟨⟨y7.1, y7.2.2, rfl, Option.some.inj h, by rw [ht]; exact hP, hD⟩, hS.F ht⟩) hS.2.2 d_Rulers_narrow_73
set_option maxHeartbeats 4000000 in
set_option maxRecDepth 100000 in
theorem lpW_Rulers_make_2 {p : Program} {l : Launch} {e : Env} {s : State} {m : MethodId} {args : Array Value} {below : List Frame} {meth : Method} {c : Code} {Q : State → Prop} {dC : Nat → ClassId} {dI : Nat → Nat → Nat} {a : Nat → Nat} {cs : Nat → ClassId} {A : Nat → Prop} (C0 : Cx "BlockRuler$Rulers" b_Rulers_make 3 p s m args meth c) (hK : va_K (dC, dI) classes (tyB cs) s) (hN : NW s) (hA : ∀ q : Nat, s.heap.size ≤ q → A q) : ∀ (n : Nat) (σ : SB) (v1 : Int32) (y : Int32 × SB), lp_Rulers_make_2 n σ v1 = some y → ∀ (H : Heap) (locs : List Loc) (ls : Array Slot), va_P (dC, dI) classes (wsB a cs σ) H → va_D A (wsB a cs σ) → va_S A s.heap H locs → lv_has ls 3 [(0, .ref (a 3)), (1, .int v1)] → (∀ (H : Heap) (locs : List Loc) (ls : Array Slot), va_P (dC, dI) classes (wsB a cs y.2) H → va_D A (wsB a cs y.2) → va_S A s.heap H locs → lv_has ls 3 [(0, .ref (a 3)), (1, .int y.1)] → W p l e (headSpec w_Rulers_make rm_Rulers_make).room s m args below meth c H locs 0 0 Q (F0 m 45 ls [])) → W p l e (headSpec w_Rulers_make rm_Rulers_make).room s m args below meth c H locs 0 0 Q (F0 m 2 ls []) := by
  have C1 := C0
  obtain ⟨hx, hb, hml, hown, hg, hlocks⟩ := C1
  intro n
  induction n with
  | zero => intro σ v1 y h; exact absurd (show (none : Option (Int32 × SB)) = some y from h) (fun q => by cases q)
  | succ n ih =>
    intro σ v1 y h H locs ls hP hD hS hl k0
    rw [lp_Rulers_make_2_s] at h
    refine lv_iload_n hx hb d_Rulers_make_2 rfl (lv_at hl 1 rfl) ?_
    refine lv_bipush (v := 64) hx hb d_Rulers_make_3 (by decide) ?_
    refine lv_icmp_ge (tgt := 45) hx hb d_Rulers_make_5 (by decide) (fun c1 => ?_) (fun c1 => ?_)
    · have h := b_t h c1
      obtain rfl := Option.some.inj h
      exact k0 _ _ ls hP hD hS (lv_sub hl [0, 1] rfl)
    · have h := b_f h c1
      refine lv_aload_n hx hb d_Rulers_make_8 rfl (lv_at hl 0 rfl) ?_
      refine va_get (D := (dC, dI)) (ci := 3) (v := .ref (a 13)) (C := "BlockRuler$Rulers") (T := F_Rulers) (N := 2) hx hb hg i_Rulers hown hK hP 3 rfl rfl 1 (by decide) (hg _ wd59) (fun _ h9 => h9) rfl d_Rulers_make_9 ?_
      refine lv_iload_n hx hb d_Rulers_make_12 rfl (lv_at hl 1 rfl) ?_
      refine lv_aload_n hx hb d_Rulers_make_13 rfl (lv_at hl 0 rfl) ?_
      refine va_get (D := (dC, dI)) (ci := 3) (v := .ref (a 2)) (C := "BlockRuler$Rulers") (T := F_Rulers) (N := 2) hx hb hg i_Rulers hown hK hP 3 rfl rfl 0 (by decide) (hg _ wd70) (fun _ h9 => h9) rfl d_Rulers_make_14 ?_
      refine va_get (D := (dC, dI)) (ci := 2) (v := .long (sB_rset σ)) (C := "BlockRuler$Walk") (T := F_Walk) (N := 9) hx hb hg i_Walk hown hK hP 2 rfl rfl 8 (by decide) (hg _ wd72) (fun _ h9 => h9) rfl d_Rulers_make_17 ?_
      refine lv_iload_n hx hb d_Rulers_make_20 rfl (lv_at hl 1 rfl) ?_
      refine ro_call (v := .int (f_BlockRuler_holds (sB_rset σ) v1)) (va_runSN (As := [.long (sB_rset σ), .int v1]) (rest := [.int v1, .ref (a 13)]) ⟨hx, hb, hml, hown, hg⟩ (c_BlockRuler_holds l (sB_rset σ) v1 _ rfl) ⟨va_cnB 2 hg (gdC wd29) rfl rfl rfl (hN _ nw2) (hg _ wd22) (by decide +kernel) ⟨Nat.le_of_ble_eq_true rfl, Nat.le_of_ble_eq_true rfl⟩, hg _ wd30, trivial⟩ ⟨va_blind0, fun U hU hW => ⟨rfl, trivial⟩⟩ rfl rfl hl.1 rfl (lv_room (Nat.le_of_ble_eq_true rfl)) d_Rulers_make_21 ⟨Nat.zero_le _, Nat.zero_le _⟩) ?_
      refine lv_if_eq (tgt := 37) hx hb d_Rulers_make_24 (by decide) (fun c2 => ?_) (fun c2 => ?_)
      · have h := b_t h c2
        refine lv_lconst (v := 0) hx hb d_Rulers_make_37 (by decide) ?_
        obtain ⟨hi3, h⟩ := gd h
        refine va_last (f := sB_rof σ) (n := 64) hx hb hK hP hD hS 13 8 rfl rfl hi3 d_Rulers_make_38 (fun H locs hP hD hS => ?_)
        have hP := va_Pe (setB_rof a cs σ (vp_updL (sB_rof σ) (Int32.toNatClampNeg v1) 0)) hP
        have hD := va_De (setB_rof a cs σ (vp_updL (sB_rof σ) (Int32.toNatClampNeg v1) 0)) hD
        refine lv_iinc (v := v1 + 1) (lv' := [(1, .int (v1 + 1)), (0, .ref (a 3))]) hx hb d_Rulers_make_39 hl (k := 1) rfl rfl (by decide) rfl (fun ls hl => ?_)
        refine lv_goto (tgt := 2) hx hb d_Rulers_make_42 (by decide) ?_
        exact ih (uB_rof σ (vp_updL (sB_rof σ) (Int32.toNatClampNeg v1) 0)) (v1 + 1) y h _ _ ls hP hD hS (lv_sub hl [1, 0] rfl) k0
      · have h := b_f h c2
        refine lv_aload_n hx hb d_Rulers_make_27 rfl (lv_at hl 0 rfl) ?_
        refine va_get (D := (dC, dI)) (ci := 3) (v := .ref (a 2)) (C := "BlockRuler$Rulers") (T := F_Rulers) (N := 2) hx hb hg i_Rulers hown hK hP 3 rfl rfl 0 (by decide) (hg _ wd70) (fun _ h9 => h9) rfl d_Rulers_make_28 ?_
        refine va_get (D := (dC, dI)) (ci := 2) (v := .long (sB_rset σ)) (C := "BlockRuler$Walk") (T := F_Walk) (N := 9) hx hb hg i_Walk hown hK hP 2 rfl rfl 8 (by decide) (hg _ wd72) (fun _ h9 => h9) rfl d_Rulers_make_31 ?_
        refine lv_goto (tgt := 38) hx hb d_Rulers_make_34 (by decide) ?_
        obtain ⟨hi4, h⟩ := gd h
        refine va_last (f := sB_rof σ) (n := 64) hx hb hK hP hD hS 13 8 rfl rfl hi4 d_Rulers_make_38 (fun H locs hP hD hS => ?_)
        have hP := va_Pe (setB_rof a cs σ (vp_updL (sB_rof σ) (Int32.toNatClampNeg v1) (sB_rset σ))) hP
        have hD := va_De (setB_rof a cs σ (vp_updL (sB_rof σ) (Int32.toNatClampNeg v1) (sB_rset σ))) hD
        refine lv_iinc (v := v1 + 1) (lv' := [(1, .int (v1 + 1)), (0, .ref (a 3))]) hx hb d_Rulers_make_39 hl (k := 1) rfl rfl (by decide) rfl (fun ls hl => ?_)
        refine lv_goto (tgt := 2) hx hb d_Rulers_make_42 (by decide) ?_
        exact ih (uB_rof σ (vp_updL (sB_rof σ) (Int32.toNatClampNeg v1) (sB_rset σ))) (v1 + 1) y h _ _ ls hP hD hS (lv_sub hl [1, 0] rfl) k0
set_option maxHeartbeats 4000000 in
set_option maxRecDepth 100000 in
theorem lpW_Rulers_make_59 {p : Program} {l : Launch} {e : Env} {s : State} {m : MethodId} {args : Array Value} {below : List Frame} {meth : Method} {c : Code} {Q : State → Prop} {dC : Nat → ClassId} {dI : Nat → Nat → Nat} {a : Nat → Nat} {cs : Nat → ClassId} {A : Nat → Prop} (C0 : Cx "BlockRuler$Rulers" b_Rulers_make 3 p s m args meth c) (hK : va_K (dC, dI) classes (tyB cs) s) (hN : NW s) (hA : ∀ q : Nat, s.heap.size ≤ q → A q) : ∀ (n : Nat) (σ : SB) (v1 : Int32) (v2 : Int32) (y : Int32 × Int32 × SB), lp_Rulers_make_59 n σ v1 v2 = some y → ∀ (H : Heap) (locs : List Loc) (ls : Array Slot), va_P (dC, dI) classes (wsB a cs σ) H → va_D A (wsB a cs σ) → va_S A s.heap H locs → lv_has ls 3 [(0, .ref (a 3)), (1, .int v1), (2, .int v2)] → (∀ (H : Heap) (locs : List Loc) (ls : Array Slot), va_P (dC, dI) classes (wsB a cs y.2.2) H → va_D A (wsB a cs y.2.2) → va_S A s.heap H locs → lv_has ls 3 [(0, .ref (a 3)), (1, .int y.1), (2, .int y.2.1)] → W p l e (headSpec w_Rulers_make rm_Rulers_make).room s m args below meth c H locs 0 0 Q (F0 m 81 ls [])) → W p l e (headSpec w_Rulers_make rm_Rulers_make).room s m args below meth c H locs 0 0 Q (F0 m 59 ls []) := by
  have C1 := C0
  obtain ⟨hx, hb, hml, hown, hg, hlocks⟩ := C1
  intro n
  induction n with
  | zero => intro σ v1 v2 y h; exact absurd (show (none : Option (Int32 × Int32 × SB)) = some y from h) (fun q => by cases q)
  | succ n ih =>
    intro σ v1 v2 y h H locs ls hP hD hS hl k0
    rw [lp_Rulers_make_59_s] at h
    refine lv_iload_n hx hb d_Rulers_make_59 rfl (lv_at hl 2 rfl) ?_
    refine lv_sipush (v := 4097) hx hb d_Rulers_make_60 (by decide) ?_
    refine lv_icmp_ge (tgt := 81) hx hb d_Rulers_make_63 (by decide) (fun c7 => ?_) (fun c7 => ?_)
    · have h := b_t h c7
      obtain rfl := Option.some.inj h
      exact k0 _ _ ls hP hD hS (lv_sub hl [0, 1, 2] rfl)
    · have h := b_f h c7
      refine lv_iload_n hx hb d_Rulers_make_66 rfl (lv_at hl 1 rfl) ?_
      refine lv_if_eq (tgt := 81) hx hb d_Rulers_make_67 (by decide) (fun c8 => ?_) (fun c8 => ?_)
      · have h := b_t h c8
        obtain rfl := Option.some.inj h
        exact k0 _ _ ls hP hD hS (lv_sub hl [0, 1, 2] rfl)
      · have h := b_f h c8
        refine lv_aload_n hx hb d_Rulers_make_70 rfl (lv_at hl 0 rfl) ?_
        obtain ⟨r9, hr9, h⟩ := bd h
        have hFc := va_free (wc := wsB a cs σ) hD hS hA [0, 1, 2, 3, 4, 5, 6, 7, 8, 9, 10, 11, 12, 13, 14] (allB a cs σ)
        refine va_calli (va_runV (C := "BlockRuler$Rulers") (As := []) (rest := []) ⟨hx, hb, hml, hown, hg⟩ (c_Rulers_narrow l dC dI a cs _ σ _ hr9) (cwV 0 hg (gdV wd82 wd81 wd80 wd63 wd83) rfl rfl rfl (by decide +kernel) ⟨Nat.le_of_ble_eq_true rfl, Nat.le_of_ble_eq_true rfl⟩) ⟨wbz_blind, va_recv hK hP (ci := 3) (q0 := 3) rfl rfl, fun U hU hW => ⟨rfl, by rw [hU], wb_preD hU hW hP hK hN hD⟩⟩ rfl rfl hl.1 rfl (lv_room (Nat.le_of_ble_eq_true rfl)) d_Rulers_make_71 ⟨Nat.zero_le _, Nat.zero_le _⟩) hS (fun q _ h => hFc q h) hFc (fun rv u t H locs ht hvm hw hB hz1 hk1 hS => ?_)
        obtain rfl : r9.1 = rv := (congrArg Prod.fst hw).symm
        obtain rfl : r9.2 = u := (congrArg Prod.snd hw).symm
        have hP : va_P (dC, dI) classes (wsB a cs r9.2) H := by have q := hB.1; rw [ht] at q; exact q
        have hD : va_D A (wsB a cs r9.2) := hB.2.weaken (fun _ _ _ h => hFc _ h)
        refine lv_istore_n (lv' := [(1, .int r9.1), (0, .ref (a 3)), (2, .int v2)]) hx hb d_Rulers_make_74 rfl hl (by decide) rfl (fun ls hl => ?_)
        refine lv_iinc (v := v2 + 1) (lv' := [(2, .int (v2 + 1)), (1, .int r9.1), (0, .ref (a 3))]) hx hb d_Rulers_make_75 hl (k := 2) rfl rfl (by decide) rfl (fun ls hl => ?_)
        refine lv_goto (tgt := 59) hx hb d_Rulers_make_78 (by decide) ?_
        exact ih r9.2 r9.1 (v2 + 1) y h _ _ ls hP hD hS (lv_sub hl [2, 1, 0] rfl) k0
set_option maxHeartbeats 4000000 in
set_option maxRecDepth 100000 in
theorem c_Rulers_make (l : Launch) (dC : Nat → ClassId) (dI : Nat → Nat → Nat) (a : Nat → Nat) (cs : Nat → ClassId) (sz : Nat) (σ : SB) (r : SB) (h : f_Rulers_make σ = some r) : Met l y_Rulers_make w_Rulers_make rm_Rulers_make (va_Pc [.ref (a 3)] (fun U => U.heap.size = sz ∧ WDB dC dI a cs σ U)) (va_Qv (fun u : SB => u = r) (atB dC dI a cs (va_A (wsB a cs σ) sz)) (va_A (wsB a cs σ) sz)) 0 0 (va_A (wsB a cs σ) sz) := by
  refine Met.ofW (cc := b_Rulers_make) (maxL := 3) (ret := none) (by decide) rfl ?_
  intro p e s m args below meth c s₁ B hml hv
  obtain ⟨rfl, hsz, hP, hK, hN, hD0⟩ := hv
  have hx := B.exec
  have hb := B.bytes
  have hr := B.returns
  have hg : ∀ w ∈ G_, w.before _ s = true := fun w hw => atoms_spec (ws := w_Rulers_make) B.pre w (List.mem_cons_of_mem _ hw)
  have hown : s.vm.findClass "BlockRuler$Rulers" = some m.cls := findClass_of_methodNamed B.named
  have hlocks := B.notSynchronized
  have C0 : Cx "BlockRuler$Rulers" b_Rulers_make 3 p s m _ meth c := ⟨hx, hb, hml, hown, hg, hlocks⟩
  subst hsz
  have hD := hD0.self (sz := s.heap.size)
  generalize hAe : va_A (wsB a cs σ) s.heap.size = A at hD ⊢
  have hA : ∀ q : Nat, s.heap.size ≤ q → A q := fun q h => by rw [← hAe]; exact Or.inr h
  have hS : va_S A s.heap s.heap [] := va_S.rf
  have hl := lv_entry ([.ref (a 3)]) (n := 3) (Nat.le_of_ble_eq_true rfl)
  rw [lg_entry_eq]
  generalize (lg_sl ([.ref (a 3)]) ++ List.replicate (3 - (lg_sl ([.ref (a 3)])).length) Slot.unset).toArray = ls at hl ⊢
  have hl : lv_has ls 3 [(0, .ref (a 3))] := hl
  unfold f_Rulers_make at h
  refine lv_iconst (v := 0) hx hb d_Rulers_make_0 (by decide) ?_
  refine lv_istore_n (lv' := [(1, .int 0), (0, .ref (a 3))]) hx hb d_Rulers_make_1 rfl hl (by decide) rfl (fun ls hl => ?_)
  obtain ⟨y5, hy5, h⟩ := bd h
  refine lpW_Rulers_make_2 C0 hK hN hA 5000 σ 0 y5 hy5 _ _ ls hP hD hS (lv_sub hl [1, 0] rfl) (fun H locs ls hP hD hS hl => ?_)
  refine lv_aload_n hx hb d_Rulers_make_45 rfl (lv_at hl 0 rfl) ?_
  refine va_get (D := (dC, dI)) (ci := 3) (v := .ref (a 13)) (C := "BlockRuler$Rulers") (T := F_Rulers) (N := 2) hx hb hg i_Rulers hown hK hP 3 rfl rfl 1 (by decide) (hg _ wd59) (fun _ h9 => h9) rfl d_Rulers_make_46 ?_
  refine lv_iconst (v := 0) hx hb d_Rulers_make_49 (by decide) ?_
  refine lv_iconst (v := 0) hx hb d_Rulers_make_50 (by decide) ?_
  refine ro_call (v := .long (f_BlockRuler_only 0)) (va_runSN (As := [.int 0]) (rest := [.int 0, .ref (a 13)]) ⟨hx, hb, hml, hown, hg⟩ (c_BlockRuler_only l 0 _ rfl) ⟨va_cnB 1 hg (gdC wd35) rfl rfl rfl (hN _ nw3) (hg _ wd22) (by decide +kernel) ⟨Nat.le_of_ble_eq_true rfl, Nat.le_of_ble_eq_true rfl⟩, hg _ wd36, trivial⟩ ⟨va_blind0, fun U hU hW => ⟨rfl, trivial⟩⟩ rfl rfl hl.1 rfl (lv_room (Nat.le_of_ble_eq_true rfl)) d_Rulers_make_51 ⟨Nat.zero_le _, Nat.zero_le _⟩) ?_
  obtain ⟨hi6, h⟩ := gd h
  refine va_last (f := sB_rof y5.2) (n := 64) hx hb hK hP hD hS 13 8 rfl rfl hi6 d_Rulers_make_54 (fun H locs hP hD hS => ?_)
  have hP := va_Pe (setB_rof a cs y5.2 (vp_updL (sB_rof y5.2) (Int32.toNatClampNeg 0) (f_BlockRuler_only 0))) hP
  have hD := va_De (setB_rof a cs y5.2 (vp_updL (sB_rof y5.2) (Int32.toNatClampNeg 0) (f_BlockRuler_only 0))) hD
  refine lv_iconst (v := 1) hx hb d_Rulers_make_55 (by decide) ?_
  refine lv_istore_n (lv' := [(1, .int 1), (0, .ref (a 3))]) hx hb d_Rulers_make_56 rfl hl (by decide) rfl (fun ls hl => ?_)
  refine lv_iconst (v := 0) hx hb d_Rulers_make_57 (by decide) ?_
  refine lv_istore_n (lv' := [(2, .int 0), (1, .int 1), (0, .ref (a 3))]) hx hb d_Rulers_make_58 rfl hl (by decide) rfl (fun ls hl => ?_)
  obtain ⟨y10, hy10, h⟩ := bd h
  refine lpW_Rulers_make_59 C0 hK hN hA 5000 (uB_rof y5.2 (vp_updL (sB_rof y5.2) (Int32.toNatClampNeg 0) (f_BlockRuler_only 0))) 1 0 y10 hy10 _ _ ls hP hD hS (lv_sub hl [2, 1, 0] rfl) (fun H locs ls hP hD hS hl => ?_)
  exact W.vret hx hb hr (fun t ht hW => ⟨⟨y10.2.2, rfl, Option.some.inj h, by rw [ht]; exact hP, hD⟩, hS.F ht⟩) hS.2.2 d_Rulers_make_81
