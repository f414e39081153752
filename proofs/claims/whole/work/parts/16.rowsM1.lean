-- written by wip/gen (blockruler.py)
set_option maxHeartbeats 4000000 in
set_option maxRecDepth 100000 in
theorem c_Model_sortOf (l : Launch) (dC : Nat → ClassId) (dI : Nat → Nat → Nat) (a : Nat → Nat) (cs : Nat → ClassId) (σ : SM) (v1 : Int32) (v2 : Int32) (r : Int32) (h : f_Model_sortOf σ v1 v2 = some r) : Met l y_Model_sortOf w_Model_sortOf rm_Model_sortOf (va_Pc [.ref (a 0), .int v1, .int v2] (WBM dC dI a cs σ)) (QcV (.int r)) 0 0 (fun _ => False) := by
  refine Met.ofW (cc := b_Model_sortOf) (maxL := 4) (ret := (some .int)) (by decide) rfl ?_
  intro p e s m args below meth c s₁ B hml hv
  obtain ⟨rfl, hP, hK, hN⟩ := hv
  have hx := B.exec
  have hb := B.bytes
  have hr := B.returns
  have hg : ∀ w ∈ G_, w.before _ s = true := fun w hw => atoms_spec (ws := w_Model_sortOf) B.pre w (List.mem_cons_of_mem _ hw)
  have hown : s.vm.findClass "BlockRulerModel" = some m.cls := findClass_of_methodNamed B.named
  have hlocks := B.notSynchronized
  have C0 : Cx "BlockRulerModel" b_Model_sortOf 4 p s m _ meth c := ⟨hx, hb, hml, hown, hg, hlocks⟩
  have hl := lv_entry ([.ref (a 0), .int v1, .int v2]) (n := 4) (Nat.le_of_ble_eq_true rfl)
  rw [lg_entry_eq]
  generalize (lg_sl ([.ref (a 0), .int v1, .int v2]) ++ List.replicate (4 - (lg_sl ([.ref (a 0), .int v1, .int v2])).length) Slot.unset).toArray = ls at hl ⊢
  have hl : lv_has ls 4 [(0, .ref (a 0)), (1, .int v1), (2, .int v2)] := hl
  unfold f_Model_sortOf at h
  refine lv_aload_n hx hb d_Model_sortOf_0 rfl (lv_at hl 0 rfl) ?_
  refine va_get (D := (dC, dI)) (ci := 5) (v := .ref (a 2)) (C := "BlockRulerModel") (T := F_Model) (N := 16) hx hb hg i_Model hown hK hP 0 rfl rfl 3 (by decide) (hg _ wd219) (fun _ h9 => h9) rfl d_Model_sortOf_1 ?_
  refine lv_bipush (v := 8) hx hb d_Model_sortOf_4 (by decide) ?_
  refine lv_iload_n hx hb d_Model_sortOf_6 rfl (lv_at hl 1 rfl) ?_
  refine lv_imul hx hb d_Model_sortOf_7 ?_
  refine lv_iload_n hx hb d_Model_sortOf_8 rfl (lv_at hl 2 rfl) ?_
  refine lv_iadd hx hb d_Model_sortOf_9 ?_
  obtain ⟨hi1, h⟩ := gd h
  refine va_iald (f := sM_ends σ) (n := 512) hx hb hK hP 2 1 rfl rfl hi1 d_Model_sortOf_10 ?_
  refine lv_topi (fun x2 ex2 => ?_)
  have h := lt_ h x2 ex2
  refine lv_istore_n (lv' := [(3, .int x2), (0, .ref (a 0)), (1, .int v1), (2, .int v2)]) hx hb d_Model_sortOf_11 rfl hl (by decide) rfl (fun ls hl => ?_)
  refine lv_aload_n hx hb d_Model_sortOf_12 rfl (lv_at hl 1 rfl) ?_
  refine va_get (D := (dC, dI)) (ci := 5) (v := .ref (a 3)) (C := "BlockRulerModel") (T := F_Model) (N := 16) hx hb hg i_Model hown hK hP 0 rfl rfl 6 (by decide) (hg _ wd224) (fun _ h9 => h9) rfl d_Model_sortOf_13 ?_
  refine lv_iload_n hx hb d_Model_sortOf_16 rfl (lv_at hl 2 rfl) ?_
  obtain ⟨hi3, h⟩ := gd h
  refine va_iald (f := sM_order σ) (n := 64) hx hb hK hP 3 2 rfl rfl hi3 d_Model_sortOf_17 ?_
  refine lv_if_ge (tgt := 23) hx hb d_Model_sortOf_18 (by decide) (fun c4 => ?_) (fun c4 => ?_)
  · have h := b_t h c4
    refine lv_aload_n hx hb d_Model_sortOf_23 rfl (lv_at hl 1 rfl) ?_
    refine va_get (D := (dC, dI)) (ci := 5) (v := .ref (a 3)) (C := "BlockRulerModel") (T := F_Model) (N := 16) hx hb hg i_Model hown hK hP 0 rfl rfl 6 (by decide) (hg _ wd224) (fun _ h9 => h9) rfl d_Model_sortOf_24 ?_
    refine lv_iload_n hx hb d_Model_sortOf_27 rfl (lv_at hl 0 rfl) ?_
    obtain ⟨hi5, h⟩ := gd h
    refine va_iald (f := sM_order σ) (n := 64) hx hb hK hP 3 2 rfl rfl hi5 d_Model_sortOf_28 ?_
    refine lv_aload_n hx hb d_Model_sortOf_29 rfl (lv_at hl 1 rfl) ?_
    refine va_get (D := (dC, dI)) (ci := 5) (v := .ref (a 3)) (C := "BlockRulerModel") (T := F_Model) (N := 16) hx hb hg i_Model hown hK hP 0 rfl rfl 6 (by decide) (hg _ wd224) (fun _ h9 => h9) rfl d_Model_sortOf_30 ?_
    refine lv_iload_n hx hb d_Model_sortOf_33 rfl (lv_at hl 2 rfl) ?_
    refine va_iald (f := sM_order σ) (n := 64) hx hb hK hP 3 2 rfl rfl hi3 d_Model_sortOf_34 ?_
    refine lv_icmp_le (tgt := 42) hx hb d_Model_sortOf_35 (by decide) (fun c6 => ?_) (fun c6 => ?_)
    · have h := b_t h c6
      refine lv_aload_n hx hb d_Model_sortOf_42 rfl (lv_at hl 1 rfl) ?_
      refine va_get (D := (dC, dI)) (ci := 5) (v := .ref (a 5)) (C := "BlockRulerModel") (T := F_Model) (N := 16) hx hb hg i_Model hown hK hP 0 rfl rfl 8 (by decide) (hg _ wd225) (fun _ h9 => h9) rfl d_Model_sortOf_43 ?_
      refine lv_bipush (v := 64) hx hb d_Model_sortOf_46 (by decide) ?_
      refine lv_iload_n hx hb d_Model_sortOf_48 rfl (lv_at hl 0 rfl) ?_
      refine lv_imul hx hb d_Model_sortOf_49 ?_
      refine lv_iload_n hx hb d_Model_sortOf_50 rfl (lv_at hl 2 rfl) ?_
      refine lv_iadd hx hb d_Model_sortOf_51 ?_
      obtain ⟨hi7, h⟩ := gd h
      refine va_zald (f := sM_rules σ) (n := 4096) hx hb hK hP 5 4 rfl rfl hi7 d_Model_sortOf_52 ?_
      refine lv_if_eq (tgt := 60) hx hb d_Model_sortOf_53 (by decide) (fun c8 => ?_) (fun c8 => ?_)
      · have h := b_t h c8
        refine lv_iconst (v := 2) hx hb d_Model_sortOf_60 (by decide) ?_
        exact W.iret (v := 2) hx hb hr (fun t ht _ => ⟨by rw [Option.some.inj h], ht⟩) (fun q hq => by cases hq) d_Model_sortOf_61
      · have h := b_f h c8
        refine lv_iconst (v := 1) hx hb d_Model_sortOf_56 (by decide) ?_
        refine lv_goto (tgt := 61) hx hb d_Model_sortOf_57 (by decide) ?_
        exact W.iret (v := 1) hx hb hr (fun t ht _ => ⟨by rw [Option.some.inj h], ht⟩) (fun q hq => by cases hq) d_Model_sortOf_61
    · have h := b_f h c6
      refine lv_iconst (v := 0) hx hb d_Model_sortOf_38 (by decide) ?_
      refine lv_goto (tgt := 61) hx hb d_Model_sortOf_39 (by decide) ?_
      exact W.iret (v := 0) hx hb hr (fun t ht _ => ⟨by rw [Option.some.inj h], ht⟩) (fun q hq => by cases hq) d_Model_sortOf_61
  · have h := b_f h c4
    refine lv_iconst (v := -1) hx hb d_Model_sortOf_21 (by decide) ?_
    exact W.iret (v := -1) hx hb hr (fun t ht _ => ⟨by rw [Option.some.inj h], ht⟩) (fun q hq => by cases hq) d_Model_sortOf_22
set_option maxHeartbeats 4000000 in
set_option maxRecDepth 100000 in
theorem lpW_Model_orders_2 {p : Program} {l : Launch} {e : Env} {s : State} {m : MethodId} {args : Array Value} {below : List Frame} {meth : Method} {c : Code} {Q : State → Prop} {dC : Nat → ClassId} {dI : Nat → Nat → Nat} {a : Nat → Nat} {cs : Nat → ClassId} {A : Nat → Prop} (C0 : Cx "BlockRulerModel" b_Model_orders 5 p s m args meth c) (hK : va_K (dC, dI) classes (tyM cs) s) (hN : NW s) (hA : ∀ q : Nat, s.heap.size ≤ q → A q) : ∀ (n : Nat) (σ : SM) (v1 : Int32) (y : Int32 × SM), lp_Model_orders_2 n σ v1 = some y → ∀ (H : Heap) (locs : List Loc) (ls : Array Slot), va_P (dC, dI) classes (wsM a cs σ) H → va_D A (wsM a cs σ) → va_S A s.heap H locs → lv_has ls 5 [(0, .ref (a 0)), (1, .int v1)] → (∀ (H : Heap) (locs : List Loc) (ls : Array Slot), va_P (dC, dI) classes (wsM a cs y.2) H → va_D A (wsM a cs y.2) → va_S A s.heap H locs → lv_has ls 5 [(0, .ref (a 0)), (1, .int y.1)] → W p l e (headSpec w_Model_orders rm_Model_orders).room s m args below meth c H locs 0 0 Q (F0 m 30 ls [])) → W p l e (headSpec w_Model_orders rm_Model_orders).room s m args below meth c H locs 0 0 Q (F0 m 2 ls []) := by
  have C1 := C0
  obtain ⟨hx, hb, hml, hown, hg, hlocks⟩ := C1
  intro n
  induction n with
  | zero => intro σ v1 y h; exact absurd (show (none : Option (Int32 × SM)) = some y from h) (fun q => by cases q)
  | succ n ih =>
    intro σ v1 y h H locs ls hP hD hS hl k0
    rw [lp_Model_orders_2_s] at h
    refine lv_iload_n hx hb d_Model_orders_2 rfl (lv_at hl 1 rfl) ?_
    refine lv_aload_n hx hb d_Model_orders_3 rfl (lv_at hl 0 rfl) ?_
    refine va_get (D := (dC, dI)) (ci := 5) (v := .int (sM_blocks σ)) (C := "BlockRulerModel") (T := F_Model) (N := 16) hx hb hg i_Model hown hK hP 0 rfl rfl 1 (by decide) (hg _ wd211) (fun _ h9 => h9) rfl d_Model_orders_4 ?_
    refine lv_icmp_ge (tgt := 30) hx hb d_Model_orders_7 (by decide) (fun c1 => ?_) (fun c1 => ?_)
    · have h := b_t h c1
      obtain rfl := Option.some.inj h
      exact k0 _ _ ls hP hD hS (lv_sub hl [0, 1] rfl)
    · have h := b_f h c1
      refine lv_aload_n hx hb d_Model_orders_10 rfl (lv_at hl 0 rfl) ?_
      refine va_get (D := (dC, dI)) (ci := 5) (v := .ref (a 3)) (C := "BlockRulerModel") (T := F_Model) (N := 16) hx hb hg i_Model hown hK hP 0 rfl rfl 6 (by decide) (hg _ wd224) (fun _ h9 => h9) rfl d_Model_orders_11 ?_
      refine lv_iload_n hx hb d_Model_orders_14 rfl (lv_at hl 1 rfl) ?_
      refine lv_iconst (v := -1) hx hb d_Model_orders_15 (by decide) ?_
      obtain ⟨hi2, h⟩ := gd h
      refine va_iast (f := sM_order σ) (n := 64) hx hb hK hP hD hS 3 2 rfl rfl hi2 d_Model_orders_16 (fun H locs hP hD hS => ?_)
      have hP := va_Pe (setM_order a cs σ (upd (sM_order σ) (Int32.toNatClampNeg v1) (-1))) hP
      have hD := va_De (setM_order a cs σ (upd (sM_order σ) (Int32.toNatClampNeg v1) (-1))) hD
      refine lv_aload_n hx hb d_Model_orders_17 rfl (lv_at hl 0 rfl) ?_
      refine va_get (D := (dC, dI)) (ci := 5) (v := .ref (a 10)) (C := "BlockRulerModel") (T := F_Model) (N := 16) hx hb hg i_Model hown hK hP 0 rfl rfl 13 (by decide) (hg _ wd226) (fun _ h9 => h9) rfl d_Model_orders_18 ?_
      refine lv_iload_n hx hb d_Model_orders_21 rfl (lv_at hl 1 rfl) ?_
      refine lv_iconst (v := 0) hx hb d_Model_orders_22 (by decide) ?_
      refine va_zast (f := sM_seen σ) (n := 64) hx hb hK hP hD hS 10 9 (rdM_seen a cs (uM_order σ (upd (sM_order σ) (Int32.toNatClampNeg v1) (-1))) (gM_seen_order _ _)) rfl hi2 d_Model_orders_23 (fun H locs hP hD hS => ?_)
      have hP := va_Pe (setM_seen a cs (uM_order σ (upd (sM_order σ) (Int32.toNatClampNeg v1) (-1))) (upd (sM_seen σ) (Int32.toNatClampNeg v1) (vp_nar .boolean 0))) hP
      have hD := va_De (setM_seen a cs (uM_order σ (upd (sM_order σ) (Int32.toNatClampNeg v1) (-1))) (upd (sM_seen σ) (Int32.toNatClampNeg v1) (vp_nar .boolean 0))) hD
      refine lv_iinc (v := v1 + 1) (lv' := [(1, .int (v1 + 1)), (0, .ref (a 0))]) hx hb d_Model_orders_24 hl (k := 1) rfl rfl (by decide) rfl (fun ls hl => ?_)
      refine lv_goto (tgt := 2) hx hb d_Model_orders_27 (by decide) ?_
      exact ih (uM_seen (uM_order σ (upd (sM_order σ) (Int32.toNatClampNeg v1) (-1))) (upd (sM_seen σ) (Int32.toNatClampNeg v1) (vp_nar .boolean 0))) (v1 + 1) y h _ _ ls hP hD hS (lv_sub hl [1, 0] rfl) k0
set_option maxHeartbeats 4000000 in
set_option maxRecDepth 100000 in
theorem lpW_Model_orders_55 {p : Program} {l : Launch} {e : Env} {s : State} {m : MethodId} {args : Array Value} {below : List Frame} {meth : Method} {c : Code} {Q : State → Prop} {dC : Nat → ClassId} {dI : Nat → Nat → Nat} {a : Nat → Nat} {cs : Nat → ClassId} {A : Nat → Prop} (C0 : Cx "BlockRulerModel" b_Model_orders 5 p s m args meth c) (hK : va_K (dC, dI) classes (tyM cs) s) (hN : NW s) (hA : ∀ q : Nat, s.heap.size ≤ q → A q) : ∀ (n : Nat) (σ : SM) (v1 : Int32) (v2 : Int32) (y : Int32 × Int32 × SM), lp_Model_orders_55 n σ v1 v2 = some y → ∀ (H : Heap) (locs : List Loc) (ls : Array Slot), va_P (dC, dI) classes (wsM a cs σ) H → va_D A (wsM a cs σ) → va_S A s.heap H locs → lv_has ls 5 [(0, .ref (a 0)), (1, .int v1), (2, .int v2)] → (∀ (H : Heap) (locs : List Loc) (ls : Array Slot), va_P (dC, dI) classes (wsM a cs y.2.2) H → va_D A (wsM a cs y.2.2) → va_S A s.heap H locs → lv_has ls 5 [(0, .ref (a 0)), (1, .int y.1), (2, .int y.2.1)] → W p l e (headSpec w_Model_orders rm_Model_orders).room s m args below meth c H locs 0 0 Q (F0 m 172 ls [])) → W p l e (headSpec w_Model_orders rm_Model_orders).room s m args below meth c H locs 0 0 Q (F0 m 55 ls []) := by
  have C1 := C0
  obtain ⟨hx, hb, hml, hown, hg, hlocks⟩ := C1
  intro n
  induction n with
  | zero => intro σ v1 v2 y h; exact absurd (show (none : Option (Int32 × Int32 × SM)) = some y from h) (fun q => by cases q)
  | succ n ih =>
    intro σ v1 v2 y h H locs ls hP hD hS hl k0
    rw [lp_Model_orders_55_s] at h
    refine lv_iload_n hx hb d_Model_orders_55 rfl (lv_at hl 1 rfl) ?_
    refine lv_if_le (tgt := 172) hx hb d_Model_orders_56 (by decide) (fun c5 => ?_) (fun c5 => ?_)
    · have h := b_t h c5
      obtain rfl := Option.some.inj h
      exact k0 _ _ ls hP hD hS (lv_sub hl [0, 1, 2] rfl)
    · have h := b_f h c5
      refine lv_aload_n hx hb d_Model_orders_59 rfl (lv_at hl 0 rfl) ?_
      refine va_get (D := (dC, dI)) (ci := 5) (v := .ref (a 11)) (C := "BlockRulerModel") (T := F_Model) (N := 16) hx hb hg i_Model hown hK hP 0 rfl rfl 14 (by decide) (hg _ wd227) (fun _ h9 => h9) rfl d_Model_orders_60 ?_
      refine lv_iload_n hx hb d_Model_orders_63 rfl (lv_at hl 1 rfl) ?_
      refine lv_iconst (v := 1) hx hb d_Model_orders_64 (by decide) ?_
      refine lv_isub hx hb d_Model_orders_65 ?_
      obtain ⟨hi6, h⟩ := gd h
      refine va_iald (f := sM_pile σ) (n := 64) hx hb hK hP 11 10 rfl rfl hi6 d_Model_orders_66 ?_
      refine lv_topi (fun x7 ex7 => ?_)
      have h := lt_ h x7 ex7
      refine lv_istore_n (lv' := [(3, .int x7), (0, .ref (a 0)), (1, .int v1), (2, .int v2)]) hx hb d_Model_orders_67 rfl hl (by decide) rfl (fun ls hl => ?_)
      refine lv_aload_n hx hb d_Model_orders_68 rfl (lv_at hl 1 rfl) ?_
      refine va_get (D := (dC, dI)) (ci := 5) (v := .ref (a 12)) (C := "BlockRulerModel") (T := F_Model) (N := 16) hx hb hg i_Model hown hK hP 0 rfl rfl 15 (by decide) (hg _ wd228) (fun _ h9 => h9) rfl d_Model_orders_69 ?_
      refine lv_iload_n hx hb d_Model_orders_72 rfl (lv_at hl 2 rfl) ?_
      refine lv_iconst (v := 1) hx hb d_Model_orders_73 (by decide) ?_
      refine lv_isub hx hb d_Model_orders_74 ?_
      refine va_iald (f := sM_next σ) (n := 64) hx hb hK hP 12 11 rfl rfl hi6 d_Model_orders_75 ?_
      refine lv_aload_n hx hb d_Model_orders_76 rfl (lv_at hl 1 rfl) ?_
      refine va_get (D := (dC, dI)) (ci := 5) (v := .ref (a 1)) (C := "BlockRulerModel") (T := F_Model) (N := 16) hx hb hg i_Model hown hK hP 0 rfl rfl 2 (by decide) (hg _ wd217) (fun _ h9 => h9) rfl d_Model_orders_77 ?_
      refine lv_iload_n hx hb d_Model_orders_80 rfl (lv_at hl 0 rfl) ?_
      obtain ⟨hi8, h⟩ := gd h
      refine va_iald (f := sM_many σ) (n := 64) hx hb hK hP 1 0 rfl rfl hi8 d_Model_orders_81 ?_
      refine lv_icmp_ne (tgt := 101) hx hb d_Model_orders_82 (by decide) (fun c9 => ?_) (fun c9 => ?_)
      · have h := b_f h c9
        refine lv_aload_n hx hb d_Model_orders_101 rfl (lv_at hl 1 rfl) ?_
        refine va_get (D := (dC, dI)) (ci := 5) (v := .ref (a 2)) (C := "BlockRulerModel") (T := F_Model) (N := 16) hx hb hg i_Model hown hK hP 0 rfl rfl 3 (by decide) (hg _ wd219) (fun _ h9 => h9) rfl d_Model_orders_102 ?_
        refine lv_bipush (v := 8) hx hb d_Model_orders_105 (by decide) ?_
        refine lv_iload_n hx hb d_Model_orders_107 rfl (lv_at hl 0 rfl) ?_
        refine lv_imul hx hb d_Model_orders_108 ?_
        refine lv_aload_n hx hb d_Model_orders_109 rfl (lv_at hl 1 rfl) ?_
        refine va_get (D := (dC, dI)) (ci := 5) (v := .ref (a 12)) (C := "BlockRulerModel") (T := F_Model) (N := 16) hx hb hg i_Model hown hK hP 0 rfl rfl 15 (by decide) (hg _ wd228) (fun _ h9 => h9) rfl d_Model_orders_110 ?_
        refine lv_iload_n hx hb d_Model_orders_113 rfl (lv_at hl 2 rfl) ?_
        refine lv_iconst (v := 1) hx hb d_Model_orders_114 (by decide) ?_
        refine lv_isub hx hb d_Model_orders_115 ?_
        refine va_iald (f := sM_next σ) (n := 64) hx hb hK hP 12 11 rfl rfl hi6 d_Model_orders_116 ?_
        refine lv_iadd hx hb d_Model_orders_117 ?_
        obtain ⟨hi10, h⟩ := gd h
        refine va_iald (f := sM_ends σ) (n := 512) hx hb hK hP 2 1 rfl rfl hi10 d_Model_orders_118 ?_
        refine lv_topi (fun x11 ex11 => ?_)
        have h := lt_ h x11 ex11
        refine lv_istore (lv' := [(4, .int x11), (3, .int x7), (0, .ref (a 0)), (1, .int v1), (2, .int v2)]) hx hb d_Model_orders_119 hl (by decide) rfl (fun ls hl => ?_)
        refine lv_aload_n hx hb d_Model_orders_121 rfl (lv_at hl 2 rfl) ?_
        refine va_get (D := (dC, dI)) (ci := 5) (v := .ref (a 12)) (C := "BlockRulerModel") (T := F_Model) (N := 16) hx hb hg i_Model hown hK hP 0 rfl rfl 15 (by decide) (hg _ wd228) (fun _ h9 => h9) rfl d_Model_orders_122 ?_
        refine lv_iload_n hx hb d_Model_orders_125 rfl (lv_at hl 3 rfl) ?_
        refine lv_iconst (v := 1) hx hb d_Model_orders_126 (by decide) ?_
        refine lv_isub hx hb d_Model_orders_127 ?_
        refine lv_dup2_11 hx hb d_Model_orders_128 rfl rfl ?_
        refine va_iald (f := sM_next σ) (n := 64) hx hb hK hP 12 11 rfl rfl hi6 d_Model_orders_129 ?_
        refine lv_iconst (v := 1) hx hb d_Model_orders_130 (by decide) ?_
        refine lv_iadd hx hb d_Model_orders_131 ?_
        refine va_iast (f := sM_next σ) (n := 64) hx hb hK hP hD hS 12 11 rfl rfl hi6 d_Model_orders_132 (fun H locs hP hD hS => ?_)
        have hP := va_Pe (setM_next a cs σ (upd (sM_next σ) (Int32.toNatClampNeg (v1 - 1)) ((sM_next σ (Int32.toNatClampNeg (v1 - 1))) + 1))) hP
        have hD := va_De (setM_next a cs σ (upd (sM_next σ) (Int32.toNatClampNeg (v1 - 1)) ((sM_next σ (Int32.toNatClampNeg (v1 - 1))) + 1))) hD
        refine lv_aload_n hx hb d_Model_orders_133 rfl (lv_at hl 2 rfl) ?_
        refine va_get (D := (dC, dI)) (ci := 5) (v := .ref (a 10)) (C := "BlockRulerModel") (T := F_Model) (N := 16) hx hb hg i_Model hown hK hP 0 rfl rfl 13 (by decide) (hg _ wd226) (fun _ h9 => h9) rfl d_Model_orders_134 ?_
        refine lv_iload hx hb d_Model_orders_137 (lv_at hl 0 rfl) ?_
        obtain ⟨hi12, h⟩ := gd h
        refine va_zald (f := sM_seen σ) (n := 64) hx hb hK hP 10 9 (rdM_seen a cs (uM_next σ (upd (sM_next σ) (Int32.toNatClampNeg (v1 - 1)) ((sM_next σ (Int32.toNatClampNeg (v1 - 1))) + 1))) (gM_seen_next _ _)) rfl hi12 d_Model_orders_139 ?_
        refine lv_if_ne (tgt := 169) hx hb d_Model_orders_140 (by decide) (fun c13 => ?_) (fun c13 => ?_)
        · have h := b_f h c13
          refine lv_goto (tgt := 55) hx hb d_Model_orders_169 (by decide) ?_
          exact ih (uM_next σ (upd (sM_next σ) (Int32.toNatClampNeg (v1 - 1)) ((sM_next σ (Int32.toNatClampNeg (v1 - 1))) + 1))) v1 v2 y h _ _ ls hP hD hS (lv_sub hl [2, 3, 4] rfl) k0
        · have h := b_t h c13
          refine lv_aload_n hx hb d_Model_orders_143 rfl (lv_at hl 2 rfl) ?_
          refine va_get (D := (dC, dI)) (ci := 5) (v := .ref (a 10)) (C := "BlockRulerModel") (T := F_Model) (N := 16) hx hb hg i_Model hown hK hP 0 rfl rfl 13 (by decide) (hg _ wd226) (fun _ h9 => h9) rfl d_Model_orders_144 ?_
          refine lv_iload hx hb d_Model_orders_147 (lv_at hl 0 rfl) ?_
          refine lv_iconst (v := 1) hx hb d_Model_orders_149 (by decide) ?_
          refine va_zast (f := sM_seen σ) (n := 64) hx hb hK hP hD hS 10 9 (rdM_seen a cs (uM_next σ (upd (sM_next σ) (Int32.toNatClampNeg (v1 - 1)) ((sM_next σ (Int32.toNatClampNeg (v1 - 1))) + 1))) (gM_seen_next _ _)) rfl hi12 d_Model_orders_150 (fun H locs hP hD hS => ?_)
          have hP := va_Pe (setM_seen a cs (uM_next σ (upd (sM_next σ) (Int32.toNatClampNeg (v1 - 1)) ((sM_next σ (Int32.toNatClampNeg (v1 - 1))) + 1))) (upd (sM_seen σ) (Int32.toNatClampNeg x11) (vp_nar .boolean 1))) hP
          have hD := va_De (setM_seen a cs (uM_next σ (upd (sM_next σ) (Int32.toNatClampNeg (v1 - 1)) ((sM_next σ (Int32.toNatClampNeg (v1 - 1))) + 1))) (upd (sM_seen σ) (Int32.toNatClampNeg x11) (vp_nar .boolean 1))) hD
          refine lv_aload_n hx hb d_Model_orders_151 rfl (lv_at hl 2 rfl) ?_
          refine va_get (D := (dC, dI)) (ci := 5) (v := .ref (a 11)) (C := "BlockRulerModel") (T := F_Model) (N := 16) hx hb hg i_Model hown hK hP 0 rfl rfl 14 (by decide) (hg _ wd227) (fun _ h9 => h9) rfl d_Model_orders_152 ?_
          refine lv_iload_n hx hb d_Model_orders_155 rfl (lv_at hl 3 rfl) ?_
          refine lv_iload hx hb d_Model_orders_156 (lv_at hl 0 rfl) ?_
          obtain ⟨hi14, h⟩ := gd h
          refine va_iast (f := sM_pile σ) (n := 64) hx hb hK hP hD hS 11 10 (rdM_pile a cs (uM_seen (uM_next σ (upd (sM_next σ) (Int32.toNatClampNeg (v1 - 1)) ((sM_next σ (Int32.toNatClampNeg (v1 - 1))) + 1))) (upd (sM_seen σ) (Int32.toNatClampNeg x11) (vp_nar .boolean 1))) ((gM_pile_seen _ _).trans (gM_pile_next _ _))) rfl hi14 d_Model_orders_158 (fun H locs hP hD hS => ?_)
          have hP := va_Pe (setM_pile a cs (uM_seen (uM_next σ (upd (sM_next σ) (Int32.toNatClampNeg (v1 - 1)) ((sM_next σ (Int32.toNatClampNeg (v1 - 1))) + 1))) (upd (sM_seen σ) (Int32.toNatClampNeg x11) (vp_nar .boolean 1))) (upd (sM_pile σ) (Int32.toNatClampNeg v1) x11)) hP
          have hD := va_De (setM_pile a cs (uM_seen (uM_next σ (upd (sM_next σ) (Int32.toNatClampNeg (v1 - 1)) ((sM_next σ (Int32.toNatClampNeg (v1 - 1))) + 1))) (upd (sM_seen σ) (Int32.toNatClampNeg x11) (vp_nar .boolean 1))) (upd (sM_pile σ) (Int32.toNatClampNeg v1) x11)) hD
          refine lv_aload_n hx hb d_Model_orders_159 rfl (lv_at hl 2 rfl) ?_
          refine va_get (D := (dC, dI)) (ci := 5) (v := .ref (a 12)) (C := "BlockRulerModel") (T := F_Model) (N := 16) hx hb hg i_Model hown hK hP 0 rfl rfl 15 (by decide) (hg _ wd228) (fun _ h9 => h9) rfl d_Model_orders_160 ?_
          refine lv_iload_n hx hb d_Model_orders_163 rfl (lv_at hl 3 rfl) ?_
          refine lv_iconst (v := 0) hx hb d_Model_orders_164 (by decide) ?_
          refine va_iast (f := upd (sM_next σ) (Int32.toNatClampNeg (v1 - 1)) ((sM_next σ (Int32.toNatClampNeg (v1 - 1))) + 1)) (n := 64) hx hb hK hP hD hS 12 11 (rdM_next a cs (uM_pile (uM_seen (uM_next σ (upd (sM_next σ) (Int32.toNatClampNeg (v1 - 1)) ((sM_next σ (Int32.toNatClampNeg (v1 - 1))) + 1))) (upd (sM_seen σ) (Int32.toNatClampNeg x11) (vp_nar .boolean 1))) (upd (sM_pile σ) (Int32.toNatClampNeg v1) x11)) ((gM_next_pile _ _).trans ((gM_next_seen _ _).trans (gM_next_next _ _)))) rfl hi14 d_Model_orders_165 (fun H locs hP hD hS => ?_)
          have hP := va_Pe (setM_next a cs (uM_pile (uM_seen (uM_next σ (upd (sM_next σ) (Int32.toNatClampNeg (v1 - 1)) ((sM_next σ (Int32.toNatClampNeg (v1 - 1))) + 1))) (upd (sM_seen σ) (Int32.toNatClampNeg x11) (vp_nar .boolean 1))) (upd (sM_pile σ) (Int32.toNatClampNeg v1) x11)) (upd (upd (sM_next σ) (Int32.toNatClampNeg (v1 - 1)) ((sM_next σ (Int32.toNatClampNeg (v1 - 1))) + 1)) (Int32.toNatClampNeg v1) 0)) hP
          have hD := va_De (setM_next a cs (uM_pile (uM_seen (uM_next σ (upd (sM_next σ) (Int32.toNatClampNeg (v1 - 1)) ((sM_next σ (Int32.toNatClampNeg (v1 - 1))) + 1))) (upd (sM_seen σ) (Int32.toNatClampNeg x11) (vp_nar .boolean 1))) (upd (sM_pile σ) (Int32.toNatClampNeg v1) x11)) (upd (upd (sM_next σ) (Int32.toNatClampNeg (v1 - 1)) ((sM_next σ (Int32.toNatClampNeg (v1 - 1))) + 1)) (Int32.toNatClampNeg v1) 0)) hD
          refine lv_iinc (v := v1 + 1) (lv' := [(1, .int (v1 + 1)), (4, .int x11), (3, .int x7), (0, .ref (a 0)), (2, .int v2)]) hx hb d_Model_orders_166 hl (k := 3) rfl rfl (by decide) rfl (fun ls hl => ?_)
          refine lv_goto (tgt := 55) hx hb d_Model_orders_169 (by decide) ?_
          exact ih (uM_next (uM_pile (uM_seen (uM_next σ (upd (sM_next σ) (Int32.toNatClampNeg (v1 - 1)) ((sM_next σ (Int32.toNatClampNeg (v1 - 1))) + 1))) (upd (sM_seen σ) (Int32.toNatClampNeg x11) (vp_nar .boolean 1))) (upd (sM_pile σ) (Int32.toNatClampNeg v1) x11)) (upd (upd (sM_next σ) (Int32.toNatClampNeg (v1 - 1)) ((sM_next σ (Int32.toNatClampNeg (v1 - 1))) + 1)) (Int32.toNatClampNeg v1) 0)) (v1 + 1) v2 y h _ _ ls hP hD hS (lv_sub hl [3, 0, 4] rfl) k0
      · have h := b_t h c9
        refine lv_iinc (v := v1 + (-1)) (lv' := [(1, .int (v1 + (-1))), (3, .int x7), (0, .ref (a 0)), (2, .int v2)]) hx hb d_Model_orders_85 hl (k := 2) rfl rfl (by decide) rfl (fun ls hl => ?_)
        refine lv_aload_n hx hb d_Model_orders_88 rfl (lv_at hl 2 rfl) ?_
        refine va_get (D := (dC, dI)) (ci := 5) (v := .ref (a 4)) (C := "BlockRulerModel") (T := F_Model) (N := 16) hx hb hg i_Model hown hK hP 0 rfl rfl 7 (by decide) (hg _ wd229) (fun _ h9 => h9) rfl d_Model_orders_89 ?_
        refine lv_iload_n hx hb d_Model_orders_92 rfl (lv_at hl 3 rfl) ?_
        refine lv_iload_n hx hb d_Model_orders_93 rfl (lv_at hl 1 rfl) ?_
        obtain ⟨hi15, h⟩ := gd h
        refine va_iast (f := sM_at σ) (n := 64) hx hb hK hP hD hS 4 3 rfl rfl hi15 d_Model_orders_94 (fun H locs hP hD hS => ?_)
        have hP := va_Pe (setM_at a cs σ (upd (sM_at σ) (Int32.toNatClampNeg v2) x7)) hP
        have hD := va_De (setM_at a cs σ (upd (sM_at σ) (Int32.toNatClampNeg v2) x7)) hD
        refine lv_iinc (v := v2 + 1) (lv' := [(2, .int (v2 + 1)), (1, .int (v1 + (-1))), (3, .int x7), (0, .ref (a 0))]) hx hb d_Model_orders_95 hl (k := 3) rfl rfl (by decide) rfl (fun ls hl => ?_)
        refine lv_goto (tgt := 169) hx hb d_Model_orders_98 (by decide) ?_
        refine lv_goto (tgt := 55) hx hb d_Model_orders_169 (by decide) ?_
        exact ih (uM_at σ (upd (sM_at σ) (Int32.toNatClampNeg v2) x7)) (v1 + (-1)) (v2 + 1) y h _ _ ls hP hD hS (lv_sub hl [3, 1, 0] rfl) k0
set_option maxHeartbeats 4000000 in
set_option maxRecDepth 100000 in
theorem lpW_Model_orders_179 {p : Program} {l : Launch} {e : Env} {s : State} {m : MethodId} {args : Array Value} {below : List Frame} {meth : Method} {c : Code} {Q : State → Prop} {dC : Nat → ClassId} {dI : Nat → Nat → Nat} {a : Nat → Nat} {cs : Nat → ClassId} {A : Nat → Prop} (C0 : Cx "BlockRulerModel" b_Model_orders 5 p s m args meth c) (hK : va_K (dC, dI) classes (tyM cs) s) (hN : NW s) (hA : ∀ q : Nat, s.heap.size ≤ q → A q) : ∀ (n : Nat) (σ : SM) (v2 : Int32) (v3 : Int32) (y : Int32 × SM), lp_Model_orders_179 n σ v2 v3 = some y → ∀ (H : Heap) (locs : List Loc) (ls : Array Slot), va_P (dC, dI) classes (wsM a cs σ) H → va_D A (wsM a cs σ) → va_S A s.heap H locs → lv_has ls 5 [(0, .ref (a 0)), (2, .int v2), (3, .int v3)] → (∀ (H : Heap) (locs : List Loc) (ls : Array Slot), va_P (dC, dI) classes (wsM a cs y.2) H → va_D A (wsM a cs y.2) → va_S A s.heap H locs → lv_has ls 5 [(0, .ref (a 0)), (2, .int v2), (3, .int y.1)] → W p l e (headSpec w_Model_orders rm_Model_orders).room s m args below meth c H locs 0 0 Q (F0 m 228 ls [])) → W p l e (headSpec w_Model_orders rm_Model_orders).room s m args below meth c H locs 0 0 Q (F0 m 179 ls []) := by
  have C1 := C0
  obtain ⟨hx, hb, hml, hown, hg, hlocks⟩ := C1
  intro n
  induction n with
  | zero => intro σ v2 v3 y h; exact absurd (show (none : Option (Int32 × SM)) = some y from h) (fun q => by cases q)
  | succ n ih =>
    intro σ v2 v3 y h H locs ls hP hD hS hl k0
    rw [lp_Model_orders_179_s] at h
    refine lv_iload_n hx hb d_Model_orders_179 rfl (lv_at hl 2 rfl) ?_
    refine lv_iload_n hx hb d_Model_orders_180 rfl (lv_at hl 1 rfl) ?_
    refine lv_iconst (v := 2) hx hb d_Model_orders_181 (by decide) ?_
    refine lv_idiv hx hb d_Model_orders_182 (by decide) ?_
    refine lv_icmp_ge (tgt := 228) hx hb d_Model_orders_183 (by decide) (fun c17 => ?_) (fun c17 => ?_)
    · have h := b_t h c17
      obtain rfl := Option.some.inj h
      exact k0 _ _ ls hP hD hS (lv_sub hl [0, 1, 2] rfl)
    · have h := b_f h c17
      refine lv_aload_n hx hb d_Model_orders_186 rfl (lv_at hl 0 rfl) ?_
      refine va_get (D := (dC, dI)) (ci := 5) (v := .ref (a 4)) (C := "BlockRulerModel") (T := F_Model) (N := 16) hx hb hg i_Model hown hK hP 0 rfl rfl 7 (by decide) (hg _ wd229) (fun _ h9 => h9) rfl d_Model_orders_187 ?_
      refine lv_iload_n hx hb d_Model_orders_190 rfl (lv_at hl 2 rfl) ?_
      obtain ⟨hi18, h⟩ := gd h
      refine va_iald (f := sM_at σ) (n := 64) hx hb hK hP 4 3 rfl rfl hi18 d_Model_orders_191 ?_
      refine lv_topi (fun x19 ex19 => ?_)
      have h := lt_ h x19 ex19
      refine lv_istore (lv' := [(4, .int x19), (0, .ref (a 0)), (2, .int v2), (3, .int v3)]) hx hb d_Model_orders_192 hl (by decide) rfl (fun ls hl => ?_)
      refine lv_aload_n hx hb d_Model_orders_194 rfl (lv_at hl 1 rfl) ?_
      refine va_get (D := (dC, dI)) (ci := 5) (v := .ref (a 4)) (C := "BlockRulerModel") (T := F_Model) (N := 16) hx hb hg i_Model hown hK hP 0 rfl rfl 7 (by decide) (hg _ wd229) (fun _ h9 => h9) rfl d_Model_orders_195 ?_
      refine lv_iload_n hx hb d_Model_orders_198 rfl (lv_at hl 3 rfl) ?_
      refine lv_aload_n hx hb d_Model_orders_199 rfl (lv_at hl 1 rfl) ?_
      refine va_get (D := (dC, dI)) (ci := 5) (v := .ref (a 4)) (C := "BlockRulerModel") (T := F_Model) (N := 16) hx hb hg i_Model hown hK hP 0 rfl rfl 7 (by decide) (hg _ wd229) (fun _ h9 => h9) rfl d_Model_orders_200 ?_
      refine lv_iload_n hx hb d_Model_orders_203 rfl (lv_at hl 2 rfl) ?_
      refine lv_iconst (v := 1) hx hb d_Model_orders_204 (by decide) ?_
      refine lv_isub hx hb d_Model_orders_205 ?_
      refine lv_iload_n hx hb d_Model_orders_206 rfl (lv_at hl 3 rfl) ?_
      refine lv_isub hx hb d_Model_orders_207 ?_
      obtain ⟨hi20, h⟩ := gd h
      refine va_iald (f := sM_at σ) (n := 64) hx hb hK hP 4 3 rfl rfl hi20 d_Model_orders_208 ?_
      refine va_iast (f := sM_at σ) (n := 64) hx hb hK hP hD hS 4 3 rfl rfl hi18 d_Model_orders_209 (fun H locs hP hD hS => ?_)
      have hP := va_Pe (setM_at a cs σ (upd (sM_at σ) (Int32.toNatClampNeg v3) (sM_at σ (Int32.toNatClampNeg ((v2 - 1) - v3))))) hP
      have hD := va_De (setM_at a cs σ (upd (sM_at σ) (Int32.toNatClampNeg v3) (sM_at σ (Int32.toNatClampNeg ((v2 - 1) - v3))))) hD
      refine lv_aload_n hx hb d_Model_orders_210 rfl (lv_at hl 1 rfl) ?_
      refine va_get (D := (dC, dI)) (ci := 5) (v := .ref (a 4)) (C := "BlockRulerModel") (T := F_Model) (N := 16) hx hb hg i_Model hown hK hP 0 rfl rfl 7 (by decide) (hg _ wd229) (fun _ h9 => h9) rfl d_Model_orders_211 ?_
      refine lv_iload_n hx hb d_Model_orders_214 rfl (lv_at hl 2 rfl) ?_
      refine lv_iconst (v := 1) hx hb d_Model_orders_215 (by decide) ?_
      refine lv_isub hx hb d_Model_orders_216 ?_
      refine lv_iload_n hx hb d_Model_orders_217 rfl (lv_at hl 3 rfl) ?_
      refine lv_isub hx hb d_Model_orders_218 ?_
      refine lv_iload hx hb d_Model_orders_219 (lv_at hl 0 rfl) ?_
      refine va_iast (f := upd (sM_at σ) (Int32.toNatClampNeg v3) (sM_at σ (Int32.toNatClampNeg ((v2 - 1) - v3)))) (n := 64) hx hb hK hP hD hS 4 3 (rdM_at a cs (uM_at σ (upd (sM_at σ) (Int32.toNatClampNeg v3) (sM_at σ (Int32.toNatClampNeg ((v2 - 1) - v3))))) (gM_at_at _ _)) rfl hi20 d_Model_orders_221 (fun H locs hP hD hS => ?_)
      have hP := va_Pe (setM_at a cs (uM_at σ (upd (sM_at σ) (Int32.toNatClampNeg v3) (sM_at σ (Int32.toNatClampNeg ((v2 - 1) - v3))))) (upd (upd (sM_at σ) (Int32.toNatClampNeg v3) (sM_at σ (Int32.toNatClampNeg ((v2 - 1) - v3)))) (Int32.toNatClampNeg ((v2 - 1) - v3)) x19)) hP
      have hD := va_De (setM_at a cs (uM_at σ (upd (sM_at σ) (Int32.toNatClampNeg v3) (sM_at σ (Int32.toNatClampNeg ((v2 - 1) - v3))))) (upd (upd (sM_at σ) (Int32.toNatClampNeg v3) (sM_at σ (Int32.toNatClampNeg ((v2 - 1) - v3)))) (Int32.toNatClampNeg ((v2 - 1) - v3)) x19)) hD
      refine lv_iinc (v := v3 + 1) (lv' := [(3, .int (v3 + 1)), (4, .int x19), (0, .ref (a 0)), (2, .int v2)]) hx hb d_Model_orders_222 hl (k := 3) rfl rfl (by decide) rfl (fun ls hl => ?_)
      refine lv_goto (tgt := 179) hx hb d_Model_orders_225 (by decide) ?_
      exact ih (uM_at (uM_at σ (upd (sM_at σ) (Int32.toNatClampNeg v3) (sM_at σ (Int32.toNatClampNeg ((v2 - 1) - v3))))) (upd (upd (sM_at σ) (Int32.toNatClampNeg v3) (sM_at σ (Int32.toNatClampNeg ((v2 - 1) - v3)))) (Int32.toNatClampNeg ((v2 - 1) - v3)) x19)) v2 (v3 + 1) y h _ _ ls hP hD hS (lv_sub hl [2, 3, 0] rfl) k0
set_option maxHeartbeats 4000000 in
set_option maxRecDepth 100000 in
theorem lpW_Model_orders_230 {p : Program} {l : Launch} {e : Env} {s : State} {m : MethodId} {args : Array Value} {below : List Frame} {meth : Method} {c : Code} {Q : State → Prop} {dC : Nat → ClassId} {dI : Nat → Nat → Nat} {a : Nat → Nat} {cs : Nat → ClassId} {A : Nat → Prop} (C0 : Cx "BlockRulerModel" b_Model_orders 5 p s m args meth c) (hK : va_K (dC, dI) classes (tyM cs) s) (hN : NW s) (hA : ∀ q : Nat, s.heap.size ≤ q → A q) : ∀ (n : Nat) (σ : SM) (v2 : Int32) (v3 : Int32) (y : Int32 × SM), lp_Model_orders_230 n σ v2 v3 = some y → ∀ (H : Heap) (locs : List Loc) (ls : Array Slot), va_P (dC, dI) classes (wsM a cs σ) H → va_D A (wsM a cs σ) → va_S A s.heap H locs → lv_has ls 5 [(0, .ref (a 0)), (2, .int v2), (3, .int v3)] → (∀ (H : Heap) (locs : List Loc) (ls : Array Slot), va_P (dC, dI) classes (wsM a cs y.2) H → va_D A (wsM a cs y.2) → va_S A s.heap H locs → lv_has ls 5 [(0, .ref (a 0)), (2, .int v2), (3, .int y.1)] → W p l e (headSpec w_Model_orders rm_Model_orders).room s m args below meth c H locs 0 0 Q (F0 m 253 ls [])) → W p l e (headSpec w_Model_orders rm_Model_orders).room s m args below meth c H locs 0 0 Q (F0 m 230 ls []) := by
  have C1 := C0
  obtain ⟨hx, hb, hml, hown, hg, hlocks⟩ := C1
  intro n
  induction n with
  | zero => intro σ v2 v3 y h; exact absurd (show (none : Option (Int32 × SM)) = some y from h) (fun q => by cases q)
  | succ n ih =>
    intro σ v2 v3 y h H locs ls hP hD hS hl k0
    rw [lp_Model_orders_230_s] at h
    refine lv_iload_n hx hb d_Model_orders_230 rfl (lv_at hl 2 rfl) ?_
    refine lv_iload_n hx hb d_Model_orders_231 rfl (lv_at hl 1 rfl) ?_
    refine lv_icmp_ge (tgt := 253) hx hb d_Model_orders_232 (by decide) (fun c22 => ?_) (fun c22 => ?_)
    · have h := b_t h c22
      obtain rfl := Option.some.inj h
      exact k0 _ _ ls hP hD hS (lv_sub hl [0, 1, 2] rfl)
    · have h := b_f h c22
      refine lv_aload_n hx hb d_Model_orders_235 rfl (lv_at hl 0 rfl) ?_
      refine va_get (D := (dC, dI)) (ci := 5) (v := .ref (a 3)) (C := "BlockRulerModel") (T := F_Model) (N := 16) hx hb hg i_Model hown hK hP 0 rfl rfl 6 (by decide) (hg _ wd224) (fun _ h9 => h9) rfl d_Model_orders_236 ?_
      refine lv_aload_n hx hb d_Model_orders_239 rfl (lv_at hl 0 rfl) ?_
      refine va_get (D := (dC, dI)) (ci := 5) (v := .ref (a 4)) (C := "BlockRulerModel") (T := F_Model) (N := 16) hx hb hg i_Model hown hK hP 0 rfl rfl 7 (by decide) (hg _ wd229) (fun _ h9 => h9) rfl d_Model_orders_240 ?_
      refine lv_iload_n hx hb d_Model_orders_243 rfl (lv_at hl 2 rfl) ?_
      obtain ⟨hi23, h⟩ := gd h
      refine va_iald (f := sM_at σ) (n := 64) hx hb hK hP 4 3 rfl rfl hi23 d_Model_orders_244 ?_
      refine lv_iload_n hx hb d_Model_orders_245 rfl (lv_at hl 2 rfl) ?_
      obtain ⟨hi24, h⟩ := gd h
      refine va_iast (f := sM_order σ) (n := 64) hx hb hK hP hD hS 3 2 rfl rfl hi24 d_Model_orders_246 (fun H locs hP hD hS => ?_)
      have hP := va_Pe (setM_order a cs σ (upd (sM_order σ) (Int32.toNatClampNeg (sM_at σ (Int32.toNatClampNeg v3))) v3)) hP
      have hD := va_De (setM_order a cs σ (upd (sM_order σ) (Int32.toNatClampNeg (sM_at σ (Int32.toNatClampNeg v3))) v3)) hD
      refine lv_iinc (v := v3 + 1) (lv' := [(3, .int (v3 + 1)), (0, .ref (a 0)), (2, .int v2)]) hx hb d_Model_orders_247 hl (k := 2) rfl rfl (by decide) rfl (fun ls hl => ?_)
      refine lv_goto (tgt := 230) hx hb d_Model_orders_250 (by decide) ?_
      exact ih (uM_order σ (upd (sM_order σ) (Int32.toNatClampNeg (sM_at σ (Int32.toNatClampNeg v3))) v3)) v2 (v3 + 1) y h _ _ ls hP hD hS (lv_sub hl [1, 2, 0] rfl) k0
set_option maxHeartbeats 4000000 in
set_option maxRecDepth 100000 in
theorem c_Model_orders (l : Launch) (dC : Nat → ClassId) (dI : Nat → Nat → Nat) (a : Nat → Nat) (cs : Nat → ClassId) (sz : Nat) (σ : SM) (r : SM) (h : f_Model_orders σ = some r) : Met l y_Model_orders w_Model_orders rm_Model_orders (va_Pc [.ref (a 0)] (fun U => U.heap.size = sz ∧ WDM dC dI a cs σ U)) (va_Qv (fun u : SM => u = r) (atM dC dI a cs (va_A (wsM a cs σ) sz)) (va_A (wsM a cs σ) sz)) 0 0 (va_A (wsM a cs σ) sz) := by
  refine Met.ofW (cc := b_Model_orders) (maxL := 5) (ret := none) (by decide) rfl ?_
  intro p e s m args below meth c s₁ B hml hv
  obtain ⟨rfl, hsz, hP, hK, hN, hD0⟩ := hv
  have hx := B.exec
  have hb := B.bytes
  have hr := B.returns
  have hg : ∀ w ∈ G_, w.before _ s = true := fun w hw => atoms_spec (ws := w_Model_orders) B.pre w (List.mem_cons_of_mem _ hw)
  have hown : s.vm.findClass "BlockRulerModel" = some m.cls := findClass_of_methodNamed B.named
  have hlocks := B.notSynchronized
  have C0 : Cx "BlockRulerModel" b_Model_orders 5 p s m _ meth c := ⟨hx, hb, hml, hown, hg, hlocks⟩
  subst hsz
  have hD := hD0.self (sz := s.heap.size)
  generalize hAe : va_A (wsM a cs σ) s.heap.size = A at hD ⊢
  have hA : ∀ q : Nat, s.heap.size ≤ q → A q := fun q h => by rw [← hAe]; exact Or.inr h
  have hS : va_S A s.heap s.heap [] := va_S.rf
  have hl := lv_entry ([.ref (a 0)]) (n := 5) (Nat.le_of_ble_eq_true rfl)
  rw [lg_entry_eq]
  generalize (lg_sl ([.ref (a 0)]) ++ List.replicate (5 - (lg_sl ([.ref (a 0)])).length) Slot.unset).toArray = ls at hl ⊢
  have hl : lv_has ls 5 [(0, .ref (a 0))] := hl
  unfold f_Model_orders at h
  refine lv_iconst (v := 0) hx hb d_Model_orders_0 (by decide) ?_
  refine lv_istore_n (lv' := [(1, .int 0), (0, .ref (a 0))]) hx hb d_Model_orders_1 rfl hl (by decide) rfl (fun ls hl => ?_)
  obtain ⟨y3, hy3, h⟩ := bd h
  refine lpW_Model_orders_2 C0 hK hN hA 700 σ 0 y3 hy3 _ _ ls hP hD hS (lv_sub hl [1, 0] rfl) (fun H locs ls hP hD hS hl => ?_)
  refine lv_iconst (v := 1) hx hb d_Model_orders_30 (by decide) ?_
  refine lv_istore_n (lv' := [(1, .int 1), (0, .ref (a 0))]) hx hb d_Model_orders_31 rfl hl (by decide) rfl (fun ls hl => ?_)
  refine lv_aload_n hx hb d_Model_orders_32 rfl (lv_at hl 1 rfl) ?_
  refine va_get (D := (dC, dI)) (ci := 5) (v := .ref (a 11)) (C := "BlockRulerModel") (T := F_Model) (N := 16) hx hb hg i_Model hown hK hP 0 rfl rfl 14 (by decide) (hg _ wd227) (fun _ h9 => h9) rfl d_Model_orders_33 ?_
  refine lv_iconst (v := 0) hx hb d_Model_orders_36 (by decide) ?_
  refine lv_iconst (v := 0) hx hb d_Model_orders_37 (by decide) ?_
  obtain ⟨hi4, h⟩ := gd h
  refine va_iast (f := sM_pile y3.2) (n := 64) hx hb hK hP hD hS 11 10 rfl rfl hi4 d_Model_orders_38 (fun H locs hP hD hS => ?_)
  have hP := va_Pe (setM_pile a cs y3.2 (upd (sM_pile y3.2) (Int32.toNatClampNeg 0) 0)) hP
  have hD := va_De (setM_pile a cs y3.2 (upd (sM_pile y3.2) (Int32.toNatClampNeg 0) 0)) hD
  refine lv_aload_n hx hb d_Model_orders_39 rfl (lv_at hl 1 rfl) ?_
  refine va_get (D := (dC, dI)) (ci := 5) (v := .ref (a 12)) (C := "BlockRulerModel") (T := F_Model) (N := 16) hx hb hg i_Model hown hK hP 0 rfl rfl 15 (by decide) (hg _ wd228) (fun _ h9 => h9) rfl d_Model_orders_40 ?_
  refine lv_iconst (v := 0) hx hb d_Model_orders_43 (by decide) ?_
  refine lv_iconst (v := 0) hx hb d_Model_orders_44 (by decide) ?_
  refine va_iast (f := sM_next y3.2) (n := 64) hx hb hK hP hD hS 12 11 (rdM_next a cs (uM_pile y3.2 (upd (sM_pile y3.2) (Int32.toNatClampNeg 0) 0)) (gM_next_pile _ _)) rfl hi4 d_Model_orders_45 (fun H locs hP hD hS => ?_)
  have hP := va_Pe (setM_next a cs (uM_pile y3.2 (upd (sM_pile y3.2) (Int32.toNatClampNeg 0) 0)) (upd (sM_next y3.2) (Int32.toNatClampNeg 0) 0)) hP
  have hD := va_De (setM_next a cs (uM_pile y3.2 (upd (sM_pile y3.2) (Int32.toNatClampNeg 0) 0)) (upd (sM_next y3.2) (Int32.toNatClampNeg 0) 0)) hD
  refine lv_aload_n hx hb d_Model_orders_46 rfl (lv_at hl 1 rfl) ?_
  refine va_get (D := (dC, dI)) (ci := 5) (v := .ref (a 10)) (C := "BlockRulerModel") (T := F_Model) (N := 16) hx hb hg i_Model hown hK hP 0 rfl rfl 13 (by decide) (hg _ wd226) (fun _ h9 => h9) rfl d_Model_orders_47 ?_
  refine lv_iconst (v := 0) hx hb d_Model_orders_50 (by decide) ?_
  refine lv_iconst (v := 1) hx hb d_Model_orders_51 (by decide) ?_
  refine va_zast (f := sM_seen y3.2) (n := 64) hx hb hK hP hD hS 10 9 (rdM_seen a cs (uM_next (uM_pile y3.2 (upd (sM_pile y3.2) (Int32.toNatClampNeg 0) 0)) (upd (sM_next y3.2) (Int32.toNatClampNeg 0) 0)) ((gM_seen_next _ _).trans (gM_seen_pile _ _))) rfl hi4 d_Model_orders_52 (fun H locs hP hD hS => ?_)
  have hP := va_Pe (setM_seen a cs (uM_next (uM_pile y3.2 (upd (sM_pile y3.2) (Int32.toNatClampNeg 0) 0)) (upd (sM_next y3.2) (Int32.toNatClampNeg 0) 0)) (upd (sM_seen y3.2) (Int32.toNatClampNeg 0) (vp_nar .boolean 1))) hP
  have hD := va_De (setM_seen a cs (uM_next (uM_pile y3.2 (upd (sM_pile y3.2) (Int32.toNatClampNeg 0) 0)) (upd (sM_next y3.2) (Int32.toNatClampNeg 0) 0)) (upd (sM_seen y3.2) (Int32.toNatClampNeg 0) (vp_nar .boolean 1))) hD
  refine lv_iconst (v := 0) hx hb d_Model_orders_53 (by decide) ?_
  refine lv_istore_n (lv' := [(2, .int 0), (1, .int 1), (0, .ref (a 0))]) hx hb d_Model_orders_54 rfl hl (by decide) rfl (fun ls hl => ?_)
  obtain ⟨y16, hy16, h⟩ := bd h
  refine lpW_Model_orders_55 C0 hK hN hA 700 (uM_seen (uM_next (uM_pile y3.2 (upd (sM_pile y3.2) (Int32.toNatClampNeg 0) 0)) (upd (sM_next y3.2) (Int32.toNatClampNeg 0) 0)) (upd (sM_seen y3.2) (Int32.toNatClampNeg 0) (vp_nar .boolean 1))) 1 0 y16 hy16 _ _ ls hP hD hS (lv_sub hl [2, 1, 0] rfl) (fun H locs ls hP hD hS hl => ?_)
  refine lv_aload_n hx hb d_Model_orders_172 rfl (lv_at hl 0 rfl) ?_
  refine lv_iload_n hx hb d_Model_orders_173 rfl (lv_at hl 2 rfl) ?_
  refine va_put (D := (dC, dI)) (ci := 5) (v := .int y16.2.1) (ty := .int) (C := "BlockRulerModel") (T := F_Model) (N := 16) hx hb hg i_Model t_Model t_Model_ok n_Model hown hK hP hD hS 0 rfl rfl 5 (by decide) (hg _ wd230) (fun _ h9 => h9) rfl (by decide +kernel) rfl rfl (Nat.le_of_ble_eq_true rfl) d_Model_orders_174 (fun H locs hP hD hS => ?_)
  have hP := va_Pe (setM_reached a cs y16.2.2 y16.2.1) hP
  have hD := va_De (setM_reached a cs y16.2.2 y16.2.1) hD
  refine lv_iconst (v := 0) hx hb d_Model_orders_177 (by decide) ?_
  refine lv_istore_n (lv' := [(3, .int 0), (0, .ref (a 0)), (1, .int y16.1), (2, .int y16.2.1)]) hx hb d_Model_orders_178 rfl hl (by decide) rfl (fun ls hl => ?_)
  obtain ⟨y21, hy21, h⟩ := bd h
  refine lpW_Model_orders_179 C0 hK hN hA 700 (uM_reached y16.2.2 y16.2.1) y16.2.1 0 y21 hy21 _ _ ls hP hD hS (lv_sub hl [1, 3, 0] rfl) (fun H locs ls hP hD hS hl => ?_)
  refine lv_iconst (v := 0) hx hb d_Model_orders_228 (by decide) ?_
  refine lv_istore_n (lv' := [(3, .int 0), (0, .ref (a 0)), (2, .int y16.2.1)]) hx hb d_Model_orders_229 rfl hl (by decide) rfl (fun ls hl => ?_)
  obtain ⟨y25, hy25, h⟩ := bd h
  refine lpW_Model_orders_230 C0 hK hN hA 700 y21.2 y16.2.1 0 y25 hy25 _ _ ls hP hD hS (lv_sub hl [1, 2, 0] rfl) (fun H locs ls hP hD hS hl => ?_)
  exact W.vret hx hb hr (fun t ht hW => ⟨⟨y25.2, rfl, Option.some.inj h, by rw [ht]; exact hP, hD⟩, hS.F ht⟩) hS.2.2 d_Model_orders_253
set_option maxHeartbeats 4000000 in
set_option maxRecDepth 100000 in
theorem lpW_Model_leaveOut_2 {p : Program} {l : Launch} {e : Env} {s : State} {m : MethodId} {args : Array Value} {below : List Frame} {meth : Method} {c : Code} {Q : State → Prop} {dC : Nat → ClassId} {dI : Nat → Nat → Nat} {a : Nat → Nat} {cs : Nat → ClassId} {A : Nat → Prop} (C0 : Cx "BlockRulerModel" b_Model_leaveOut 6 p s m args meth c) (hK : va_K (dC, dI) classes (tyM cs) s) (hN : NW s) (hA : ∀ q : Nat, s.heap.size ≤ q → A q) : ∀ (n : Nat) (σ : SM) (v1 : Int32) (v2 : Int32) (y : Int32 × SM), lp_Model_leaveOut_2 n σ v1 v2 = some y → ∀ (H : Heap) (locs : List Loc) (ls : Array Slot), va_P (dC, dI) classes (wsM a cs σ) H → va_D A (wsM a cs σ) → va_S A s.heap H locs → lv_has ls 6 [(0, .ref (a 0)), (1, .int v1), (2, .int v2)] → (∀ (H : Heap) (locs : List Loc) (ls : Array Slot), va_P (dC, dI) classes (wsM a cs y.2) H → va_D A (wsM a cs y.2) → va_S A s.heap H locs → lv_has ls 6 [(0, .ref (a 0)), (1, .int v1), (2, .int y.1)] → W p l e (headSpec w_Model_leaveOut rm_Model_leaveOut).room s m args below meth c H locs 0 0 Q (F0 m 35 ls [])) → W p l e (headSpec w_Model_leaveOut rm_Model_leaveOut).room s m args below meth c H locs 0 0 Q (F0 m 2 ls []) := by
  have C1 := C0
  obtain ⟨hx, hb, hml, hown, hg, hlocks⟩ := C1
  intro n
  induction n with
  | zero => intro σ v1 v2 y h; exact absurd (show (none : Option (Int32 × SM)) = some y from h) (fun q => by cases q)
  | succ n ih =>
    intro σ v1 v2 y h H locs ls hP hD hS hl k0
    rw [lp_Model_leaveOut_2_s] at h
    refine lv_iload_n hx hb d_Model_leaveOut_2 rfl (lv_at hl 2 rfl) ?_
    refine lv_aload_n hx hb d_Model_leaveOut_3 rfl (lv_at hl 0 rfl) ?_
    refine va_get (D := (dC, dI)) (ci := 5) (v := .int (sM_blocks σ)) (C := "BlockRulerModel") (T := F_Model) (N := 16) hx hb hg i_Model hown hK hP 0 rfl rfl 1 (by decide) (hg _ wd211) (fun _ h9 => h9) rfl d_Model_leaveOut_4 ?_
    refine lv_icmp_ge (tgt := 35) hx hb d_Model_leaveOut_7 (by decide) (fun c1 => ?_) (fun c1 => ?_)
    · have h := b_t h c1
      obtain rfl := Option.some.inj h
      exact k0 _ _ ls hP hD hS (lv_sub hl [0, 1, 2] rfl)
    · have h := b_f h c1
      refine lv_aload_n hx hb d_Model_leaveOut_10 rfl (lv_at hl 0 rfl) ?_
      refine va_get (D := (dC, dI)) (ci := 5) (v := .ref (a 10)) (C := "BlockRulerModel") (T := F_Model) (N := 16) hx hb hg i_Model hown hK hP 0 rfl rfl 13 (by decide) (hg _ wd226) (fun _ h9 => h9) rfl d_Model_leaveOut_11 ?_
      refine lv_iload_n hx hb d_Model_leaveOut_14 rfl (lv_at hl 2 rfl) ?_
      refine lv_iload_n hx hb d_Model_leaveOut_15 rfl (lv_at hl 2 rfl) ?_
      refine lv_if_ne (tgt := 27) hx hb d_Model_leaveOut_16 (by decide) (fun c2 => ?_) (fun c2 => ?_)
      · have h := b_f h c2
        refine lv_iconst (v := 0) hx hb d_Model_leaveOut_27 (by decide) ?_
        obtain ⟨hi3, h⟩ := gd h
        refine va_zast (f := sM_seen σ) (n := 64) hx hb hK hP hD hS 10 9 rfl rfl hi3 d_Model_leaveOut_28 (fun H locs hP hD hS => ?_)
        have hP := va_Pe (setM_seen a cs σ (upd (sM_seen σ) (Int32.toNatClampNeg v2) (vp_nar .boolean 0))) hP
        have hD := va_De (setM_seen a cs σ (upd (sM_seen σ) (Int32.toNatClampNeg v2) (vp_nar .boolean 0))) hD
        refine lv_iinc (v := v2 + 1) (lv' := [(2, .int (v2 + 1)), (0, .ref (a 0)), (1, .int v1)]) hx hb d_Model_leaveOut_29 hl (k := 2) rfl rfl (by decide) rfl (fun ls hl => ?_)
        refine lv_goto (tgt := 2) hx hb d_Model_leaveOut_32 (by decide) ?_
        exact ih (uM_seen σ (upd (sM_seen σ) (Int32.toNatClampNeg v2) (vp_nar .boolean 0))) v1 (v2 + 1) y h _ _ ls hP hD hS (lv_sub hl [1, 2, 0] rfl) k0
      · have h := b_t h c2
        refine lv_iload_n hx hb d_Model_leaveOut_19 rfl (lv_at hl 1 rfl) ?_
        refine lv_if_eq (tgt := 27) hx hb d_Model_leaveOut_20 (by decide) (fun c4 => ?_) (fun c4 => ?_)
        · have h := b_t h c4
          refine lv_iconst (v := 0) hx hb d_Model_leaveOut_27 (by decide) ?_
          obtain ⟨hi5, h⟩ := gd h
          refine va_zast (f := sM_seen σ) (n := 64) hx hb hK hP hD hS 10 9 rfl rfl hi5 d_Model_leaveOut_28 (fun H locs hP hD hS => ?_)
          have hP := va_Pe (setM_seen a cs σ (upd (sM_seen σ) (Int32.toNatClampNeg v2) (vp_nar .boolean 0))) hP
          have hD := va_De (setM_seen a cs σ (upd (sM_seen σ) (Int32.toNatClampNeg v2) (vp_nar .boolean 0))) hD
          refine lv_iinc (v := v2 + 1) (lv' := [(2, .int (v2 + 1)), (0, .ref (a 0)), (1, .int v1)]) hx hb d_Model_leaveOut_29 hl (k := 2) rfl rfl (by decide) rfl (fun ls hl => ?_)
          refine lv_goto (tgt := 2) hx hb d_Model_leaveOut_32 (by decide) ?_
          exact ih (uM_seen σ (upd (sM_seen σ) (Int32.toNatClampNeg v2) (vp_nar .boolean 0))) v1 (v2 + 1) y h _ _ ls hP hD hS (lv_sub hl [1, 2, 0] rfl) k0
        · have h := b_f h c4
          refine lv_iconst (v := 1) hx hb d_Model_leaveOut_23 (by decide) ?_
          refine lv_goto (tgt := 28) hx hb d_Model_leaveOut_24 (by decide) ?_
          obtain ⟨hi6, h⟩ := gd h
          refine va_zast (f := sM_seen σ) (n := 64) hx hb hK hP hD hS 10 9 rfl rfl hi6 d_Model_leaveOut_28 (fun H locs hP hD hS => ?_)
          have hP := va_Pe (setM_seen a cs σ (upd (sM_seen σ) (Int32.toNatClampNeg v2) (vp_nar .boolean 1))) hP
          have hD := va_De (setM_seen a cs σ (upd (sM_seen σ) (Int32.toNatClampNeg v2) (vp_nar .boolean 1))) hD
          refine lv_iinc (v := v2 + 1) (lv' := [(2, .int (v2 + 1)), (0, .ref (a 0)), (1, .int v1)]) hx hb d_Model_leaveOut_29 hl (k := 2) rfl rfl (by decide) rfl (fun ls hl => ?_)
          refine lv_goto (tgt := 2) hx hb d_Model_leaveOut_32 (by decide) ?_
          exact ih (uM_seen σ (upd (sM_seen σ) (Int32.toNatClampNeg v2) (vp_nar .boolean 1))) v1 (v2 + 1) y h _ _ ls hP hD hS (lv_sub hl [1, 2, 0] rfl) k0
set_option maxHeartbeats 4000000 in
set_option maxRecDepth 100000 in
theorem lpW_Model_leaveOut_56 {p : Program} {l : Launch} {e : Env} {s : State} {m : MethodId} {args : Array Value} {below : List Frame} {meth : Method} {c : Code} {Q : State → Prop} {dC : Nat → ClassId} {dI : Nat → Nat → Nat} {a : Nat → Nat} {cs : Nat → ClassId} {A : Nat → Prop} (C0 : Cx "BlockRulerModel" b_Model_leaveOut 6 p s m args meth c) (hK : va_K (dC, dI) classes (tyM cs) s) (hN : NW s) (hA : ∀ q : Nat, s.heap.size ≤ q → A q) : ∀ (n : Nat) (σ : SM) (v1 : Int32) (v2 : Int32) (v3 : Int32) (v4 : Int32) (y : Int32 × Int32 × SM), lp_Model_leaveOut_56 n σ v1 v2 v3 v4 = some y → ∀ (H : Heap) (locs : List Loc) (ls : Array Slot), va_P (dC, dI) classes (wsM a cs σ) H → va_D A (wsM a cs σ) → va_S A s.heap H locs → lv_has ls 6 [(0, .ref (a 0)), (1, .int v1), (2, .int v2), (3, .int v3), (4, .int v4)] → (∀ (H : Heap) (locs : List Loc) (ls : Array Slot), va_P (dC, dI) classes (wsM a cs y.2.2) H → va_D A (wsM a cs y.2.2) → va_S A s.heap H locs → lv_has ls 6 [(0, .ref (a 0)), (1, .int v1), (2, .int y.1), (3, .int v3), (4, .int y.2.1)] → W p l e (headSpec w_Model_leaveOut rm_Model_leaveOut).room s m args below meth c H locs 0 0 Q (F0 m 125 ls [])) → W p l e (headSpec w_Model_leaveOut rm_Model_leaveOut).room s m args below meth c H locs 0 0 Q (F0 m 56 ls []) := by
  have C1 := C0
  obtain ⟨hx, hb, hml, hown, hg, hlocks⟩ := C1
  intro n
  induction n with
  | zero => intro σ v1 v2 v3 v4 y h; exact absurd (show (none : Option (Int32 × Int32 × SM)) = some y from h) (fun q => by cases q)
  | succ n ih =>
    intro σ v1 v2 v3 v4 y h H locs ls hP hD hS hl k0
    rw [lp_Model_leaveOut_56_s] at h
    refine lv_iload hx hb d_Model_leaveOut_56 (lv_at hl 4 rfl) ?_
    refine lv_aload_n hx hb d_Model_leaveOut_58 rfl (lv_at hl 0 rfl) ?_
    refine va_get (D := (dC, dI)) (ci := 5) (v := .ref (a 1)) (C := "BlockRulerModel") (T := F_Model) (N := 16) hx hb hg i_Model hown hK hP 0 rfl rfl 2 (by decide) (hg _ wd217) (fun _ h9 => h9) rfl d_Model_leaveOut_59 ?_
    refine lv_iload_n hx hb d_Model_leaveOut_62 rfl (lv_at hl 3 rfl) ?_
    obtain ⟨hi10, h⟩ := gd h
    refine va_iald (f := sM_many σ) (n := 64) hx hb hK hP 1 0 rfl rfl hi10 d_Model_leaveOut_63 ?_
    refine lv_icmp_ge (tgt := 125) hx hb d_Model_leaveOut_64 (by decide) (fun c11 => ?_) (fun c11 => ?_)
    · have h := b_t h c11
      obtain rfl := Option.some.inj h
      exact k0 _ _ ls hP hD hS (lv_sub hl [0, 1, 2, 3, 4] rfl)
    · have h := b_f h c11
      refine lv_aload_n hx hb d_Model_leaveOut_67 rfl (lv_at hl 0 rfl) ?_
      refine va_get (D := (dC, dI)) (ci := 5) (v := .ref (a 10)) (C := "BlockRulerModel") (T := F_Model) (N := 16) hx hb hg i_Model hown hK hP 0 rfl rfl 13 (by decide) (hg _ wd226) (fun _ h9 => h9) rfl d_Model_leaveOut_68 ?_
      refine lv_iload_n hx hb d_Model_leaveOut_71 rfl (lv_at hl 3 rfl) ?_
      refine va_zald (f := sM_seen σ) (n := 64) hx hb hK hP 10 9 rfl rfl hi10 d_Model_leaveOut_72 ?_
      refine lv_if_eq (tgt := 125) hx hb d_Model_leaveOut_73 (by decide) (fun c12 => ?_) (fun c12 => ?_)
      · have h := b_t h c12
        obtain rfl := Option.some.inj h
        exact k0 _ _ ls hP hD hS (lv_sub hl [0, 1, 2, 3, 4] rfl)
      · have h := b_f h c12
        refine lv_aload_n hx hb d_Model_leaveOut_76 rfl (lv_at hl 0 rfl) ?_
        refine va_get (D := (dC, dI)) (ci := 5) (v := .ref (a 2)) (C := "BlockRulerModel") (T := F_Model) (N := 16) hx hb hg i_Model hown hK hP 0 rfl rfl 3 (by decide) (hg _ wd219) (fun _ h9 => h9) rfl d_Model_leaveOut_77 ?_
        refine lv_bipush (v := 8) hx hb d_Model_leaveOut_80 (by decide) ?_
        refine lv_iload_n hx hb d_Model_leaveOut_82 rfl (lv_at hl 3 rfl) ?_
        refine lv_imul hx hb d_Model_leaveOut_83 ?_
        refine lv_iload hx hb d_Model_leaveOut_84 (lv_at hl 4 rfl) ?_
        refine lv_iadd hx hb d_Model_leaveOut_86 ?_
        obtain ⟨hi13, h⟩ := gd h
        refine va_iald (f := sM_ends σ) (n := 512) hx hb hK hP 2 1 rfl rfl hi13 d_Model_leaveOut_87 ?_
        refine lv_topi (fun x14 ex14 => ?_)
        have h := lt_ h x14 ex14
        refine lv_istore (lv' := [(5, .int x14), (0, .ref (a 0)), (1, .int v1), (2, .int v2), (3, .int v3), (4, .int v4)]) hx hb d_Model_leaveOut_88 hl (by decide) rfl (fun ls hl => ?_)
        refine lv_iload hx hb d_Model_leaveOut_90 (lv_at hl 0 rfl) ?_
        refine lv_iload_n hx hb d_Model_leaveOut_92 rfl (lv_at hl 2 rfl) ?_
        refine lv_icmp_eq (tgt := 119) hx hb d_Model_leaveOut_93 (by decide) (fun c15 => ?_) (fun c15 => ?_)
        · have h := b_t h c15
          refine lv_iinc (v := v4 + 1) (lv' := [(4, .int (v4 + 1)), (5, .int x14), (0, .ref (a 0)), (1, .int v1), (2, .int v2), (3, .int v3)]) hx hb d_Model_leaveOut_119 hl (k := 5) rfl rfl (by decide) rfl (fun ls hl => ?_)
          refine lv_goto (tgt := 56) hx hb d_Model_leaveOut_122 (by decide) ?_
          exact ih σ v1 v2 v3 (v4 + 1) y h _ _ ls hP hD hS (lv_sub hl [2, 3, 4, 5, 0] rfl) k0
        · have h := b_f h c15
          refine lv_aload_n hx hb d_Model_leaveOut_96 rfl (lv_at hl 1 rfl) ?_
          refine va_get (D := (dC, dI)) (ci := 5) (v := .ref (a 10)) (C := "BlockRulerModel") (T := F_Model) (N := 16) hx hb hg i_Model hown hK hP 0 rfl rfl 13 (by decide) (hg _ wd226) (fun _ h9 => h9) rfl d_Model_leaveOut_97 ?_
          refine lv_iload hx hb d_Model_leaveOut_100 (lv_at hl 0 rfl) ?_
          obtain ⟨hi16, h⟩ := gd h
          refine va_zald (f := sM_seen σ) (n := 64) hx hb hK hP 10 9 rfl rfl hi16 d_Model_leaveOut_102 ?_
          refine lv_if_eq (tgt := 109) hx hb d_Model_leaveOut_103 (by decide) (fun c17 => ?_) (fun c17 => ?_)
          · have h := b_t h c17
            refine lv_aload_n hx hb d_Model_leaveOut_109 rfl (lv_at hl 1 rfl) ?_
            refine va_get (D := (dC, dI)) (ci := 5) (v := .ref (a 10)) (C := "BlockRulerModel") (T := F_Model) (N := 16) hx hb hg i_Model hown hK hP 0 rfl rfl 13 (by decide) (hg _ wd226) (fun _ h9 => h9) rfl d_Model_leaveOut_110 ?_
            refine lv_iload hx hb d_Model_leaveOut_113 (lv_at hl 0 rfl) ?_
            refine lv_iconst (v := 1) hx hb d_Model_leaveOut_115 (by decide) ?_
            refine va_zast (f := sM_seen σ) (n := 64) hx hb hK hP hD hS 10 9 rfl rfl hi16 d_Model_leaveOut_116 (fun H locs hP hD hS => ?_)
            have hP := va_Pe (setM_seen a cs σ (upd (sM_seen σ) (Int32.toNatClampNeg x14) (vp_nar .boolean 1))) hP
            have hD := va_De (setM_seen a cs σ (upd (sM_seen σ) (Int32.toNatClampNeg x14) (vp_nar .boolean 1))) hD
            refine lv_iconst (v := 1) hx hb d_Model_leaveOut_117 (by decide) ?_
            refine lv_istore_n (lv' := [(2, .int 1), (5, .int x14), (0, .ref (a 0)), (1, .int v1), (3, .int v3), (4, .int v4)]) hx hb d_Model_leaveOut_118 rfl hl (by decide) rfl (fun ls hl => ?_)
            refine lv_iinc (v := v4 + 1) (lv' := [(4, .int (v4 + 1)), (2, .int 1), (5, .int x14), (0, .ref (a 0)), (1, .int v1), (3, .int v3)]) hx hb d_Model_leaveOut_119 hl (k := 5) rfl rfl (by decide) rfl (fun ls hl => ?_)
            refine lv_goto (tgt := 56) hx hb d_Model_leaveOut_122 (by decide) ?_
            exact ih (uM_seen σ (upd (sM_seen σ) (Int32.toNatClampNeg x14) (vp_nar .boolean 1))) v1 1 v3 (v4 + 1) y h _ _ ls hP hD hS (lv_sub hl [3, 4, 1, 5, 0] rfl) k0
          · have h := b_f h c17
            refine lv_goto (tgt := 119) hx hb d_Model_leaveOut_106 (by decide) ?_
            refine lv_iinc (v := v4 + 1) (lv' := [(4, .int (v4 + 1)), (5, .int x14), (0, .ref (a 0)), (1, .int v1), (2, .int v2), (3, .int v3)]) hx hb d_Model_leaveOut_119 hl (k := 5) rfl rfl (by decide) rfl (fun ls hl => ?_)
            refine lv_goto (tgt := 56) hx hb d_Model_leaveOut_122 (by decide) ?_
            exact ih σ v1 v2 v3 (v4 + 1) y h _ _ ls hP hD hS (lv_sub hl [2, 3, 4, 5, 0] rfl) k0
set_option maxHeartbeats 4000000 in
set_option maxRecDepth 100000 in
theorem lpW_Model_leaveOut_45 {p : Program} {l : Launch} {e : Env} {s : State} {m : MethodId} {args : Array Value} {below : List Frame} {meth : Method} {c : Code} {Q : State → Prop} {dC : Nat → ClassId} {dI : Nat → Nat → Nat} {a : Nat → Nat} {cs : Nat → ClassId} {A : Nat → Prop} (C0 : Cx "BlockRulerModel" b_Model_leaveOut 6 p s m args meth c) (hK : va_K (dC, dI) classes (tyM cs) s) (hN : NW s) (hA : ∀ q : Nat, s.heap.size ≤ q → A q) : ∀ (n : Nat) (σ : SM) (v1 : Int32) (v2 : Int32) (v3 : Int32) (y : Int32 × Int32 × SM), lp_Model_leaveOut_45 n σ v1 v2 v3 = some y → ∀ (H : Heap) (locs : List Loc) (ls : Array Slot), va_P (dC, dI) classes (wsM a cs σ) H → va_D A (wsM a cs σ) → va_S A s.heap H locs → lv_has ls 6 [(0, .ref (a 0)), (1, .int v1), (2, .int v2), (3, .int v3)] → (∀ (H : Heap) (locs : List Loc) (ls : Array Slot), va_P (dC, dI) classes (wsM a cs y.2.2) H → va_D A (wsM a cs y.2.2) → va_S A s.heap H locs → lv_has ls 6 [(0, .ref (a 0)), (1, .int v1), (2, .int y.1), (3, .int y.2.1)] → W p l e (headSpec w_Model_leaveOut rm_Model_leaveOut).room s m args below meth c H locs 0 0 Q (F0 m 131 ls [])) → W p l e (headSpec w_Model_leaveOut rm_Model_leaveOut).room s m args below meth c H locs 0 0 Q (F0 m 45 ls []) := by
  have C1 := C0
  obtain ⟨hx, hb, hml, hown, hg, hlocks⟩ := C1
  intro n
  induction n with
  | zero => intro σ v1 v2 v3 y h; exact absurd (show (none : Option (Int32 × Int32 × SM)) = some y from h) (fun q => by cases q)
  | succ n ih =>
    intro σ v1 v2 v3 y h H locs ls hP hD hS hl k0
    rw [lp_Model_leaveOut_45_s] at h
    refine lv_iload_n hx hb d_Model_leaveOut_45 rfl (lv_at hl 3 rfl) ?_
    refine lv_aload_n hx hb d_Model_leaveOut_46 rfl (lv_at hl 0 rfl) ?_
    refine va_get (D := (dC, dI)) (ci := 5) (v := .int (sM_blocks σ)) (C := "BlockRulerModel") (T := F_Model) (N := 16) hx hb hg i_Model hown hK hP 0 rfl rfl 1 (by decide) (hg _ wd211) (fun _ h9 => h9) rfl d_Model_leaveOut_47 ?_
    refine lv_icmp_ge (tgt := 131) hx hb d_Model_leaveOut_50 (by decide) (fun c9 => ?_) (fun c9 => ?_)
    · have h := b_t h c9
      obtain rfl := Option.some.inj h
      exact k0 _ _ ls hP hD hS (lv_sub hl [0, 1, 2, 3] rfl)
    · have h := b_f h c9
      refine lv_iconst (v := 0) hx hb d_Model_leaveOut_53 (by decide) ?_
      refine lv_istore (lv' := [(4, .int 0), (0, .ref (a 0)), (1, .int v1), (2, .int v2), (3, .int v3)]) hx hb d_Model_leaveOut_54 hl (by decide) rfl (fun ls hl => ?_)
      obtain ⟨y18, hy18, h⟩ := bd h
      refine lpW_Model_leaveOut_56 C0 hK hN hA 100 σ v1 v2 v3 0 y18 hy18 _ _ ls hP hD hS (lv_sub hl [1, 2, 3, 4, 0] rfl) (fun H locs ls hP hD hS hl => ?_)
      refine lv_iinc (v := v3 + 1) (lv' := [(3, .int (v3 + 1)), (0, .ref (a 0)), (1, .int v1), (2, .int y18.1), (4, .int y18.2.1)]) hx hb d_Model_leaveOut_125 hl (k := 3) rfl rfl (by decide) rfl (fun ls hl => ?_)
      refine lv_goto (tgt := 45) hx hb d_Model_leaveOut_128 (by decide) ?_
      exact ih y18.2.2 v1 y18.1 (v3 + 1) y h _ _ ls hP hD hS (lv_sub hl [1, 2, 3, 0] rfl) k0
set_option maxHeartbeats 4000000 in
set_option maxRecDepth 100000 in
theorem lpW_Model_leaveOut_37 {p : Program} {l : Launch} {e : Env} {s : State} {m : MethodId} {args : Array Value} {below : List Frame} {meth : Method} {c : Code} {Q : State → Prop} {dC : Nat → ClassId} {dI : Nat → Nat → Nat} {a : Nat → Nat} {cs : Nat → ClassId} {A : Nat → Prop} (C0 : Cx "BlockRulerModel" b_Model_leaveOut 6 p s m args meth c) (hK : va_K (dC, dI) classes (tyM cs) s) (hN : NW s) (hA : ∀ q : Nat, s.heap.size ≤ q → A q) : ∀ (n : Nat) (σ : SM) (v1 : Int32) (v2 : Int32) (y : Int32 × SM), lp_Model_leaveOut_37 n σ v1 v2 = some y → ∀ (H : Heap) (locs : List Loc) (ls : Array Slot), va_P (dC, dI) classes (wsM a cs σ) H → va_D A (wsM a cs σ) → va_S A s.heap H locs → lv_has ls 6 [(0, .ref (a 0)), (1, .int v1), (2, .int v2)] → (∀ (H : Heap) (locs : List Loc) (ls : Array Slot), va_P (dC, dI) classes (wsM a cs y.2) H → va_D A (wsM a cs y.2) → va_S A s.heap H locs → lv_has ls 6 [(0, .ref (a 0)), (1, .int v1), (2, .int y.1)] → W p l e (headSpec w_Model_leaveOut rm_Model_leaveOut).room s m args below meth c H locs 0 0 Q (F0 m 134 ls [])) → W p l e (headSpec w_Model_leaveOut rm_Model_leaveOut).room s m args below meth c H locs 0 0 Q (F0 m 37 ls []) := by
  have C1 := C0
  obtain ⟨hx, hb, hml, hown, hg, hlocks⟩ := C1
  intro n
  induction n with
  | zero => intro σ v1 v2 y h; exact absurd (show (none : Option (Int32 × SM)) = some y from h) (fun q => by cases q)
  | succ n ih =>
    intro σ v1 v2 y h H locs ls hP hD hS hl k0
    rw [lp_Model_leaveOut_37_s] at h
    refine lv_iload_n hx hb d_Model_leaveOut_37 rfl (lv_at hl 2 rfl) ?_
    refine lv_if_eq (tgt := 134) hx hb d_Model_leaveOut_38 (by decide) (fun c8 => ?_) (fun c8 => ?_)
    · have h := b_t h c8
      obtain rfl := Option.some.inj h
      exact k0 _ _ ls hP hD hS (lv_sub hl [0, 1, 2] rfl)
    · have h := b_f h c8
      refine lv_iconst (v := 0) hx hb d_Model_leaveOut_41 (by decide) ?_
      refine lv_istore_n (lv' := [(2, .int 0), (0, .ref (a 0)), (1, .int v1)]) hx hb d_Model_leaveOut_42 rfl hl (by decide) rfl (fun ls hl => ?_)
      refine lv_iconst (v := 0) hx hb d_Model_leaveOut_43 (by decide) ?_
      refine lv_istore_n (lv' := [(3, .int 0), (2, .int 0), (0, .ref (a 0)), (1, .int v1)]) hx hb d_Model_leaveOut_44 rfl hl (by decide) rfl (fun ls hl => ?_)
      obtain ⟨y19, hy19, h⟩ := bd h
      refine lpW_Model_leaveOut_45 C0 hK hN hA 100 σ v1 0 0 y19 hy19 _ _ ls hP hD hS (lv_sub hl [2, 3, 1, 0] rfl) (fun H locs ls hP hD hS hl => ?_)
      refine lv_goto (tgt := 37) hx hb d_Model_leaveOut_131 (by decide) ?_
      exact ih y19.2.2 v1 y19.1 y h _ _ ls hP hD hS (lv_sub hl [0, 1, 2] rfl) k0
set_option maxHeartbeats 4000000 in
set_option maxRecDepth 100000 in
theorem lpW_Model_leaveOut_136 {p : Program} {l : Launch} {e : Env} {s : State} {m : MethodId} {args : Array Value} {below : List Frame} {meth : Method} {c : Code} {Q : State → Prop} {dC : Nat → ClassId} {dI : Nat → Nat → Nat} {a : Nat → Nat} {cs : Nat → ClassId} {A : Nat → Prop} (C0 : Cx "BlockRulerModel" b_Model_leaveOut 6 p s m args meth c) (hK : va_K (dC, dI) classes (tyM cs) s) (hN : NW s) (hA : ∀ q : Nat, s.heap.size ≤ q → A q) : ∀ (n : Nat) (σ : SM) (v1 : Int32) (v3 : Int32) (y : Int32 × SM), lp_Model_leaveOut_136 n σ v1 v3 = some y → ∀ (H : Heap) (locs : List Loc) (ls : Array Slot), va_P (dC, dI) classes (wsM a cs σ) H → va_D A (wsM a cs σ) → va_S A s.heap H locs → lv_has ls 6 [(0, .ref (a 0)), (1, .int v1), (3, .int v3)] → (∀ (H : Heap) (locs : List Loc) (ls : Array Slot), va_P (dC, dI) classes (wsM a cs y.2) H → va_D A (wsM a cs y.2) → va_S A s.heap H locs → lv_has ls 6 [(0, .ref (a 0)), (1, .int v1), (3, .int y.1)] → W p l e (headSpec w_Model_leaveOut rm_Model_leaveOut).room s m args below meth c H locs 0 0 Q (F0 m 193 ls [])) → W p l e (headSpec w_Model_leaveOut rm_Model_leaveOut).room s m args below meth c H locs 0 0 Q (F0 m 136 ls []) := by
  have C1 := C0
  obtain ⟨hx, hb, hml, hown, hg, hlocks⟩ := C1
  intro n
  induction n with
  | zero => intro σ v1 v3 y h; exact absurd (show (none : Option (Int32 × SM)) = some y from h) (fun q => by cases q)
  | succ n ih =>
    intro σ v1 v3 y h H locs ls hP hD hS hl k0
    rw [lp_Model_leaveOut_136_s] at h
    refine lv_iload_n hx hb d_Model_leaveOut_136 rfl (lv_at hl 2 rfl) ?_
    refine lv_aload_n hx hb d_Model_leaveOut_137 rfl (lv_at hl 0 rfl) ?_
    refine va_get (D := (dC, dI)) (ci := 5) (v := .int (sM_blocks σ)) (C := "BlockRulerModel") (T := F_Model) (N := 16) hx hb hg i_Model hown hK hP 0 rfl rfl 1 (by decide) (hg _ wd211) (fun _ h9 => h9) rfl d_Model_leaveOut_138 ?_
    refine lv_icmp_ge (tgt := 193) hx hb d_Model_leaveOut_141 (by decide) (fun c21 => ?_) (fun c21 => ?_)
    · have h := b_t h c21
      obtain rfl := Option.some.inj h
      exact k0 _ _ ls hP hD hS (lv_sub hl [0, 1, 2] rfl)
    · have h := b_f h c21
      refine lv_aload_n hx hb d_Model_leaveOut_144 rfl (lv_at hl 0 rfl) ?_
      refine va_get (D := (dC, dI)) (ci := 5) (v := .ref (a 5)) (C := "BlockRulerModel") (T := F_Model) (N := 16) hx hb hg i_Model hown hK hP 0 rfl rfl 8 (by decide) (hg _ wd225) (fun _ h9 => h9) rfl d_Model_leaveOut_145 ?_
      refine lv_bipush (v := 64) hx hb d_Model_leaveOut_148 (by decide) ?_
      refine lv_iload_n hx hb d_Model_leaveOut_150 rfl (lv_at hl 1 rfl) ?_
      refine lv_imul hx hb d_Model_leaveOut_151 ?_
      refine lv_iload_n hx hb d_Model_leaveOut_152 rfl (lv_at hl 2 rfl) ?_
      refine lv_iadd hx hb d_Model_leaveOut_153 ?_
      refine lv_aload_n hx hb d_Model_leaveOut_154 rfl (lv_at hl 0 rfl) ?_
      refine va_get (D := (dC, dI)) (ci := 5) (v := .ref (a 3)) (C := "BlockRulerModel") (T := F_Model) (N := 16) hx hb hg i_Model hown hK hP 0 rfl rfl 6 (by decide) (hg _ wd224) (fun _ h9 => h9) rfl d_Model_leaveOut_155 ?_
      refine lv_iload_n hx hb d_Model_leaveOut_158 rfl (lv_at hl 1 rfl) ?_
      obtain ⟨hi22, h⟩ := gd h
      refine va_iald (f := sM_order σ) (n := 64) hx hb hK hP 3 2 rfl rfl hi22 d_Model_leaveOut_159 ?_
      refine lv_if_lt (tgt := 185) hx hb d_Model_leaveOut_160 (by decide) (fun c23 => ?_) (fun c23 => ?_)
      · have h := b_t h c23
        refine lv_iconst (v := 0) hx hb d_Model_leaveOut_185 (by decide) ?_
        obtain ⟨hi24, h⟩ := gd h
        refine va_zast (f := sM_rules σ) (n := 4096) hx hb hK hP hD hS 5 4 rfl rfl hi24 d_Model_leaveOut_186 (fun H locs hP hD hS => ?_)
        have hP := va_Pe (setM_rules a cs σ (upd (sM_rules σ) (Int32.toNatClampNeg ((64 * v1) + v3)) (vp_nar .boolean 0))) hP
        have hD := va_De (setM_rules a cs σ (upd (sM_rules σ) (Int32.toNatClampNeg ((64 * v1) + v3)) (vp_nar .boolean 0))) hD
        refine lv_iinc (v := v3 + 1) (lv' := [(3, .int (v3 + 1)), (0, .ref (a 0)), (1, .int v1)]) hx hb d_Model_leaveOut_187 hl (k := 2) rfl rfl (by decide) rfl (fun ls hl => ?_)
        refine lv_goto (tgt := 136) hx hb d_Model_leaveOut_190 (by decide) ?_
        exact ih (uM_rules σ (upd (sM_rules σ) (Int32.toNatClampNeg ((64 * v1) + v3)) (vp_nar .boolean 0))) v1 (v3 + 1) y h _ _ ls hP hD hS (lv_sub hl [1, 2, 0] rfl) k0
      · have h := b_f h c23
        refine lv_aload_n hx hb d_Model_leaveOut_163 rfl (lv_at hl 0 rfl) ?_
        refine va_get (D := (dC, dI)) (ci := 5) (v := .ref (a 3)) (C := "BlockRulerModel") (T := F_Model) (N := 16) hx hb hg i_Model hown hK hP 0 rfl rfl 6 (by decide) (hg _ wd224) (fun _ h9 => h9) rfl d_Model_leaveOut_164 ?_
        refine lv_iload_n hx hb d_Model_leaveOut_167 rfl (lv_at hl 2 rfl) ?_
        obtain ⟨hi25, h⟩ := gd h
        refine va_iald (f := sM_order σ) (n := 64) hx hb hK hP 3 2 rfl rfl hi25 d_Model_leaveOut_168 ?_
        refine lv_if_lt (tgt := 185) hx hb d_Model_leaveOut_169 (by decide) (fun c26 => ?_) (fun c26 => ?_)
        · have h := b_t h c26
          refine lv_iconst (v := 0) hx hb d_Model_leaveOut_185 (by decide) ?_
          obtain ⟨hi27, h⟩ := gd h
          refine va_zast (f := sM_rules σ) (n := 4096) hx hb hK hP hD hS 5 4 rfl rfl hi27 d_Model_leaveOut_186 (fun H locs hP hD hS => ?_)
          have hP := va_Pe (setM_rules a cs σ (upd (sM_rules σ) (Int32.toNatClampNeg ((64 * v1) + v3)) (vp_nar .boolean 0))) hP
          have hD := va_De (setM_rules a cs σ (upd (sM_rules σ) (Int32.toNatClampNeg ((64 * v1) + v3)) (vp_nar .boolean 0))) hD
          refine lv_iinc (v := v3 + 1) (lv' := [(3, .int (v3 + 1)), (0, .ref (a 0)), (1, .int v1)]) hx hb d_Model_leaveOut_187 hl (k := 2) rfl rfl (by decide) rfl (fun ls hl => ?_)
          refine lv_goto (tgt := 136) hx hb d_Model_leaveOut_190 (by decide) ?_
          exact ih (uM_rules σ (upd (sM_rules σ) (Int32.toNatClampNeg ((64 * v1) + v3)) (vp_nar .boolean 0))) v1 (v3 + 1) y h _ _ ls hP hD hS (lv_sub hl [1, 2, 0] rfl) k0
        · have h := b_f h c26
          refine lv_aload_n hx hb d_Model_leaveOut_172 rfl (lv_at hl 0 rfl) ?_
          refine va_get (D := (dC, dI)) (ci := 5) (v := .ref (a 10)) (C := "BlockRulerModel") (T := F_Model) (N := 16) hx hb hg i_Model hown hK hP 0 rfl rfl 13 (by decide) (hg _ wd226) (fun _ h9 => h9) rfl d_Model_leaveOut_173 ?_
          refine lv_iload_n hx hb d_Model_leaveOut_176 rfl (lv_at hl 2 rfl) ?_
          refine va_zald (f := sM_seen σ) (n := 64) hx hb hK hP 10 9 rfl rfl hi25 d_Model_leaveOut_177 ?_
          refine lv_if_ne (tgt := 185) hx hb d_Model_leaveOut_178 (by decide) (fun c28 => ?_) (fun c28 => ?_)
          · have h := b_f h c28
            refine lv_iconst (v := 0) hx hb d_Model_leaveOut_185 (by decide) ?_
            obtain ⟨hi29, h⟩ := gd h
            refine va_zast (f := sM_rules σ) (n := 4096) hx hb hK hP hD hS 5 4 rfl rfl hi29 d_Model_leaveOut_186 (fun H locs hP hD hS => ?_)
            have hP := va_Pe (setM_rules a cs σ (upd (sM_rules σ) (Int32.toNatClampNeg ((64 * v1) + v3)) (vp_nar .boolean 0))) hP
            have hD := va_De (setM_rules a cs σ (upd (sM_rules σ) (Int32.toNatClampNeg ((64 * v1) + v3)) (vp_nar .boolean 0))) hD
            refine lv_iinc (v := v3 + 1) (lv' := [(3, .int (v3 + 1)), (0, .ref (a 0)), (1, .int v1)]) hx hb d_Model_leaveOut_187 hl (k := 2) rfl rfl (by decide) rfl (fun ls hl => ?_)
            refine lv_goto (tgt := 136) hx hb d_Model_leaveOut_190 (by decide) ?_
            exact ih (uM_rules σ (upd (sM_rules σ) (Int32.toNatClampNeg ((64 * v1) + v3)) (vp_nar .boolean 0))) v1 (v3 + 1) y h _ _ ls hP hD hS (lv_sub hl [1, 2, 0] rfl) k0
          · have h := b_t h c28
            refine lv_iconst (v := 1) hx hb d_Model_leaveOut_181 (by decide) ?_
            refine lv_goto (tgt := 186) hx hb d_Model_leaveOut_182 (by decide) ?_
            obtain ⟨hi30, h⟩ := gd h
            refine va_zast (f := sM_rules σ) (n := 4096) hx hb hK hP hD hS 5 4 rfl rfl hi30 d_Model_leaveOut_186 (fun H locs hP hD hS => ?_)
            have hP := va_Pe (setM_rules a cs σ (upd (sM_rules σ) (Int32.toNatClampNeg ((64 * v1) + v3)) (vp_nar .boolean 1))) hP
            have hD := va_De (setM_rules a cs σ (upd (sM_rules σ) (Int32.toNatClampNeg ((64 * v1) + v3)) (vp_nar .boolean 1))) hD
            refine lv_iinc (v := v3 + 1) (lv' := [(3, .int (v3 + 1)), (0, .ref (a 0)), (1, .int v1)]) hx hb d_Model_leaveOut_187 hl (k := 2) rfl rfl (by decide) rfl (fun ls hl => ?_)
            refine lv_goto (tgt := 136) hx hb d_Model_leaveOut_190 (by decide) ?_
            exact ih (uM_rules σ (upd (sM_rules σ) (Int32.toNatClampNeg ((64 * v1) + v3)) (vp_nar .boolean 1))) v1 (v3 + 1) y h _ _ ls hP hD hS (lv_sub hl [1, 2, 0] rfl) k0
set_option maxHeartbeats 4000000 in
set_option maxRecDepth 100000 in
theorem c_Model_leaveOut (l : Launch) (dC : Nat → ClassId) (dI : Nat → Nat → Nat) (a : Nat → Nat) (cs : Nat → ClassId) (sz : Nat) (σ : SM) (v1 : Int32) (r : SM) (h : f_Model_leaveOut σ v1 = some r) : Met l y_Model_leaveOut w_Model_leaveOut rm_Model_leaveOut (va_Pc [.ref (a 0), .int v1] (fun U => U.heap.size = sz ∧ WDM dC dI a cs σ U)) (va_Qv (fun u : SM => u = r) (atM dC dI a cs (va_A (wsM a cs σ) sz)) (va_A (wsM a cs σ) sz)) 0 0 (va_A (wsM a cs σ) sz) := by
  refine Met.ofW (cc := b_Model_leaveOut) (maxL := 6) (ret := none) (by decide) rfl ?_
  intro p e s m args below meth c s₁ B hml hv
  obtain ⟨rfl, hsz, hP, hK, hN, hD0⟩ := hv
  have hx := B.exec
  have hb := B.bytes
  have hr := B.returns
  have hg : ∀ w ∈ G_, w.before _ s = true := fun w hw => atoms_spec (ws := w_Model_leaveOut) B.pre w (List.mem_cons_of_mem _ hw)
  have hown : s.vm.findClass "BlockRulerModel" = some m.cls := findClass_of_methodNamed B.named
  have hlocks := B.notSynchronized
  have C0 : Cx "BlockRulerModel" b_Model_leaveOut 6 p s m _ meth c := ⟨hx, hb, hml, hown, hg, hlocks⟩
  subst hsz
  have hD := hD0.self (sz := s.heap.size)
  generalize hAe : va_A (wsM a cs σ) s.heap.size = A at hD ⊢
  have hA : ∀ q : Nat, s.heap.size ≤ q → A q := fun q h => by rw [← hAe]; exact Or.inr h
  have hS : va_S A s.heap s.heap [] := va_S.rf
  have hl := lv_entry ([.ref (a 0), .int v1]) (n := 6) (Nat.le_of_ble_eq_true rfl)
  rw [lg_entry_eq]
  generalize (lg_sl ([.ref (a 0), .int v1]) ++ List.replicate (6 - (lg_sl ([.ref (a 0), .int v1])).length) Slot.unset).toArray = ls at hl ⊢
  have hl : lv_has ls 6 [(0, .ref (a 0)), (1, .int v1)] := hl
  unfold f_Model_leaveOut at h
  refine lv_iconst (v := 0) hx hb d_Model_leaveOut_0 (by decide) ?_
  refine lv_istore_n (lv' := [(2, .int 0), (0, .ref (a 0)), (1, .int v1)]) hx hb d_Model_leaveOut_1 rfl hl (by decide) rfl (fun ls hl => ?_)
  obtain ⟨y7, hy7, h⟩ := bd h
  refine lpW_Model_leaveOut_2 C0 hK hN hA 100 σ v1 0 y7 hy7 _ _ ls hP hD hS (lv_sub hl [1, 2, 0] rfl) (fun H locs ls hP hD hS hl => ?_)
  refine lv_iconst (v := 1) hx hb d_Model_leaveOut_35 (by decide) ?_
  refine lv_istore_n (lv' := [(2, .int 1), (0, .ref (a 0)), (1, .int v1)]) hx hb d_Model_leaveOut_36 rfl hl (by decide) rfl (fun ls hl => ?_)
  obtain ⟨y20, hy20, h⟩ := bd h
  refine lpW_Model_leaveOut_37 C0 hK hN hA 100 y7.2 v1 1 y20 hy20 _ _ ls hP hD hS (lv_sub hl [1, 2, 0] rfl) (fun H locs ls hP hD hS hl => ?_)
  refine lv_iconst (v := 0) hx hb d_Model_leaveOut_134 (by decide) ?_
  refine lv_istore_n (lv' := [(3, .int 0), (0, .ref (a 0)), (1, .int v1), (2, .int y20.1)]) hx hb d_Model_leaveOut_135 rfl hl (by decide) rfl (fun ls hl => ?_)
  obtain ⟨y31, hy31, h⟩ := bd h
  refine lpW_Model_leaveOut_136 C0 hK hN hA 100 y20.2 v1 0 y31 hy31 _ _ ls hP hD hS (lv_sub hl [1, 2, 0] rfl) (fun H locs ls hP hD hS hl => ?_)
  exact W.vret hx hb hr (fun t ht hW => ⟨⟨y31.2, rfl, Option.some.inj h, by rw [ht]; exact hP, hD⟩, hS.F ht⟩) hS.2.2 d_Model_leaveOut_193
