-- written by wip/gen (blockruler.py)
set_option maxHeartbeats 4000000 in
set_option maxRecDepth 100000 in
theorem lpW_Model_depthOf_4 {p : Program} {l : Launch} {e : Env} {s : State} {m : MethodId} {args : Array Value} {below : List Frame} {meth : Method} {c : Code} {Q : State → Prop} {dC : Nat → ClassId} {dI : Nat → Nat → Nat} {a : Nat → Nat} {cs : Nat → ClassId} {H : Heap} {locs : List Loc} (C0 : Cx "BlockRulerModel" b_Model_depthOf 4 p s m args meth c) (hK : va_K (dC, dI) classes (tyM cs) s) (hN : NW s) : ∀ (n : Nat) (σ : SM) (v1 : Int32) (v2 : Int32) (v3 : Int32) (y : Int32 × Int32), lp_Model_depthOf_4 n σ v1 v2 v3 = some y → va_P (dC, dI) classes (wsM a cs σ) H → ∀ (ls : Array Slot), lv_has ls 4 [(0, .ref (a 0)), (1, .int v1), (2, .int v2), (3, .int v3)] → (∀ (ls : Array Slot), lv_has ls 4 [(0, .ref (a 0)), (1, .int v1), (2, .int y.1), (3, .int y.2)] → W p l e (headSpec w_Model_depthOf rm_Model_depthOf).room s m args below meth c H locs 0 0 Q (F0 m 49 ls [])) → W p l e (headSpec w_Model_depthOf rm_Model_depthOf).room s m args below meth c H locs 0 0 Q (F0 m 4 ls []) := by
  have C1 := C0
  obtain ⟨hx, hb, hml, hown, hg, hlocks⟩ := C1
  intro n
  induction n with
  | zero => intro σ v1 v2 v3 y h; exact absurd (show (none : Option (Int32 × Int32)) = some y from h) (fun q => by cases q)
  | succ n ih =>
    intro σ v1 v2 v3 y h hP ls hl k0
    rw [lp_Model_depthOf_4_s] at h
    refine lv_iload_n hx hb d_Model_depthOf_4 rfl (lv_at hl 3 rfl) ?_
    refine lv_aload_n hx hb d_Model_depthOf_5 rfl (lv_at hl 0 rfl) ?_
    refine va_get (D := (dC, dI)) (ci := 5) (v := .int (sM_blocks σ)) (C := "BlockRulerModel") (T := F_Model) (N := 16) hx hb hg i_Model hown hK hP 0 rfl rfl 1 (by decide) (hg _ wd211) (fun _ h9 => h9) rfl d_Model_depthOf_6 ?_
    refine lv_icmp_ge (tgt := 49) hx hb d_Model_depthOf_9 (by decide) (fun c1 => ?_) (fun c1 => ?_)
    · have h := b_t h c1
      obtain rfl := Option.some.inj h
      exact k0 ls (lv_sub hl [0, 1, 2, 3] rfl)
    · have h := b_f h c1
      refine lv_iload_n hx hb d_Model_depthOf_12 rfl (lv_at hl 2 rfl) ?_
      refine lv_aload_n hx hb d_Model_depthOf_13 rfl (lv_at hl 0 rfl) ?_
      refine va_get (D := (dC, dI)) (ci := 5) (v := .ref (a 7)) (C := "BlockRulerModel") (T := F_Model) (N := 16) hx hb hg i_Model hown hK hP 0 rfl rfl 10 (by decide) (hg _ wd237) (fun _ h9 => h9) rfl d_Model_depthOf_14 ?_
      refine lv_iload_n hx hb d_Model_depthOf_17 rfl (lv_at hl 3 rfl) ?_
      obtain ⟨hi2, h⟩ := gd h
      refine va_zald (f := sM_isHead σ) (n := 64) hx hb hK hP 7 6 rfl rfl hi2 d_Model_depthOf_18 ?_
      refine lv_if_eq (tgt := 40) hx hb d_Model_depthOf_19 (by decide) (fun c3 => ?_) (fun c3 => ?_)
      · have h := b_t h c3
        refine lv_iconst (v := 0) hx hb d_Model_depthOf_40 (by decide) ?_
        refine lv_iadd hx hb d_Model_depthOf_41 ?_
        refine lv_istore_n (lv' := [(2, .int (v2 + 0)), (0, .ref (a 0)), (1, .int v1), (3, .int v3)]) hx hb d_Model_depthOf_42 rfl hl (by decide) rfl (fun ls hl => ?_)
        refine lv_iinc (v := v3 + 1) (lv' := [(3, .int (v3 + 1)), (2, .int (v2 + 0)), (0, .ref (a 0)), (1, .int v1)]) hx hb d_Model_depthOf_43 hl (k := 3) rfl rfl (by decide) rfl (fun ls hl => ?_)
        refine lv_goto (tgt := 4) hx hb d_Model_depthOf_46 (by decide) ?_
        exact ih σ v1 (v2 + 0) (v3 + 1) y h hP ls (lv_sub hl [2, 3, 1, 0] rfl) k0
      · have h := b_f h c3
        refine lv_aload_n hx hb d_Model_depthOf_22 rfl (lv_at hl 0 rfl) ?_
        refine va_get (D := (dC, dI)) (ci := 5) (v := .ref (a 8)) (C := "BlockRulerModel") (T := F_Model) (N := 16) hx hb hg i_Model hown hK hP 0 rfl rfl 11 (by decide) (hg _ wd236) (fun _ h9 => h9) rfl d_Model_depthOf_23 ?_
        refine lv_bipush (v := 64) hx hb d_Model_depthOf_26 (by decide) ?_
        refine lv_iload_n hx hb d_Model_depthOf_28 rfl (lv_at hl 3 rfl) ?_
        refine lv_imul hx hb d_Model_depthOf_29 ?_
        refine lv_iload_n hx hb d_Model_depthOf_30 rfl (lv_at hl 1 rfl) ?_
        refine lv_iadd hx hb d_Model_depthOf_31 ?_
        obtain ⟨hi4, h⟩ := gd h
        refine va_zald (f := sM_loop σ) (n := 4096) hx hb hK hP 8 7 rfl rfl hi4 d_Model_depthOf_32 ?_
        refine lv_if_eq (tgt := 40) hx hb d_Model_depthOf_33 (by decide) (fun c5 => ?_) (fun c5 => ?_)
        · have h := b_t h c5
          refine lv_iconst (v := 0) hx hb d_Model_depthOf_40 (by decide) ?_
          refine lv_iadd hx hb d_Model_depthOf_41 ?_
          refine lv_istore_n (lv' := [(2, .int (v2 + 0)), (0, .ref (a 0)), (1, .int v1), (3, .int v3)]) hx hb d_Model_depthOf_42 rfl hl (by decide) rfl (fun ls hl => ?_)
          refine lv_iinc (v := v3 + 1) (lv' := [(3, .int (v3 + 1)), (2, .int (v2 + 0)), (0, .ref (a 0)), (1, .int v1)]) hx hb d_Model_depthOf_43 hl (k := 3) rfl rfl (by decide) rfl (fun ls hl => ?_)
          refine lv_goto (tgt := 4) hx hb d_Model_depthOf_46 (by decide) ?_
          exact ih σ v1 (v2 + 0) (v3 + 1) y h hP ls (lv_sub hl [2, 3, 1, 0] rfl) k0
        · have h := b_f h c5
          refine lv_iconst (v := 1) hx hb d_Model_depthOf_36 (by decide) ?_
          refine lv_goto (tgt := 41) hx hb d_Model_depthOf_37 (by decide) ?_
          refine lv_iadd hx hb d_Model_depthOf_41 ?_
          refine lv_istore_n (lv' := [(2, .int (v2 + 1)), (0, .ref (a 0)), (1, .int v1), (3, .int v3)]) hx hb d_Model_depthOf_42 rfl hl (by decide) rfl (fun ls hl => ?_)
          refine lv_iinc (v := v3 + 1) (lv' := [(3, .int (v3 + 1)), (2, .int (v2 + 1)), (0, .ref (a 0)), (1, .int v1)]) hx hb d_Model_depthOf_43 hl (k := 3) rfl rfl (by decide) rfl (fun ls hl => ?_)
          refine lv_goto (tgt := 4) hx hb d_Model_depthOf_46 (by decide) ?_
          exact ih σ v1 (v2 + 1) (v3 + 1) y h hP ls (lv_sub hl [2, 3, 1, 0] rfl) k0
set_option maxHeartbeats 4000000 in
set_option maxRecDepth 100000 in
theorem c_Model_depthOf (l : Launch) (dC : Nat → ClassId) (dI : Nat → Nat → Nat) (a : Nat → Nat) (cs : Nat → ClassId) (σ : SM) (v1 : Int32) (r : Int32) (h : f_Model_depthOf σ v1 = some r) : Met l y_Model_depthOf w_Model_depthOf rm_Model_depthOf (va_Pc [.ref (a 0), .int v1] (WBM dC dI a cs σ)) (QcV (.int r)) 0 0 (fun _ => False) := by
  refine Met.ofW (cc := b_Model_depthOf) (maxL := 4) (ret := (some .int)) (by decide) rfl ?_
  intro p e s m args below meth c s₁ B hml hv
  obtain ⟨rfl, hP, hK, hN⟩ := hv
  have hx := B.exec
  have hb := B.bytes
  have hr := B.returns
  have hg : ∀ w ∈ G_, w.before _ s = true := fun w hw => atoms_spec (ws := w_Model_depthOf) B.pre w (List.mem_cons_of_mem _ hw)
  have hown : s.vm.findClass "BlockRulerModel" = some m.cls := findClass_of_methodNamed B.named
  have hlocks := B.notSynchronized
  have C0 : Cx "BlockRulerModel" b_Model_depthOf 4 p s m _ meth c := ⟨hx, hb, hml, hown, hg, hlocks⟩
  have hl := lv_entry ([.ref (a 0), .int v1]) (n := 4) (Nat.le_of_ble_eq_true rfl)
  rw [lg_entry_eq]
  generalize (lg_sl ([.ref (a 0), .int v1]) ++ List.replicate (4 - (lg_sl ([.ref (a 0), .int v1])).length) Slot.unset).toArray = ls at hl ⊢
  have hl : lv_has ls 4 [(0, .ref (a 0)), (1, .int v1)] := hl
  unfold f_Model_depthOf at h
  refine lv_iconst (v := 0) hx hb d_Model_depthOf_0 (by decide) ?_
  refine lv_istore_n (lv' := [(2, .int 0), (0, .ref (a 0)), (1, .int v1)]) hx hb d_Model_depthOf_1 rfl hl (by decide) rfl (fun ls hl => ?_)
  refine lv_iconst (v := 0) hx hb d_Model_depthOf_2 (by decide) ?_
  refine lv_istore_n (lv' := [(3, .int 0), (2, .int 0), (0, .ref (a 0)), (1, .int v1)]) hx hb d_Model_depthOf_3 rfl hl (by decide) rfl (fun ls hl => ?_)
  obtain ⟨y6, hy6, h⟩ := bd h
  refine lpW_Model_depthOf_4 C0 hK hN 100 σ v1 0 0 y6 hy6 hP ls (lv_sub hl [2, 3, 1, 0] rfl) (fun ls hl => ?_)
  refine lv_iload_n hx hb d_Model_depthOf_49 rfl (lv_at hl 2 rfl) ?_
  exact W.iret (v := y6.1) hx hb hr (fun t ht _ => ⟨by rw [Option.some.inj h], ht⟩) (fun q hq => by cases hq) d_Model_depthOf_50
set_option maxHeartbeats 4000000 in
set_option maxRecDepth 100000 in
theorem lpW_Model_innermost_4 {p : Program} {l : Launch} {e : Env} {s : State} {m : MethodId} {args : Array Value} {below : List Frame} {meth : Method} {c : Code} {Q : State → Prop} {dC : Nat → ClassId} {dI : Nat → Nat → Nat} {a : Nat → Nat} {cs : Nat → ClassId} {H : Heap} {locs : List Loc} (C0 : Cx "BlockRulerModel" b_Model_innermost 5 p s m args meth c) (hK : va_K (dC, dI) classes (tyM cs) s) (hN : NW s) : ∀ (n : Nat) (σ : SM) (v1 : Int32) (v2 : Int32) (v3 : Int32) (y : Int32 × Int32), lp_Model_innermost_4 n σ v1 v2 v3 = some y → va_P (dC, dI) classes (wsM a cs σ) H → ∀ (ls : Array Slot), lv_has ls 5 [(0, .ref (a 0)), (1, .int v1), (2, .int v2), (3, .int v3)] → (∀ (ls : Array Slot), lv_has ls 5 [(0, .ref (a 0)), (1, .int v1), (2, .int y.1), (3, .int y.2)] → W p l e (headSpec w_Model_innermost rm_Model_innermost).room s m args below meth c H locs 0 0 Q (F0 m 74 ls [])) → W p l e (headSpec w_Model_innermost rm_Model_innermost).room s m args below meth c H locs 0 0 Q (F0 m 4 ls []) := by
  have C1 := C0
  obtain ⟨hx, hb, hml, hown, hg, hlocks⟩ := C1
  intro n
  induction n with
  | zero => intro σ v1 v2 v3 y h; exact absurd (show (none : Option (Int32 × Int32)) = some y from h) (fun q => by cases q)
  | succ n ih =>
    intro σ v1 v2 v3 y h hP ls hl k0
    rw [lp_Model_innermost_4_s] at h
    refine lv_iload_n hx hb d_Model_innermost_4 rfl (lv_at hl 3 rfl) ?_
    refine lv_aload_n hx hb d_Model_innermost_5 rfl (lv_at hl 0 rfl) ?_
    refine va_get (D := (dC, dI)) (ci := 5) (v := .int (sM_reached σ)) (C := "BlockRulerModel") (T := F_Model) (N := 16) hx hb hg i_Model hown hK hP 0 rfl rfl 5 (by decide) (hg _ wd230) (fun _ h9 => h9) rfl d_Model_innermost_6 ?_
    refine lv_icmp_ge (tgt := 74) hx hb d_Model_innermost_9 (by decide) (fun c1 => ?_) (fun c1 => ?_)
    · have h := b_t h c1
      obtain rfl := Option.some.inj h
      exact k0 ls (lv_sub hl [0, 1, 2, 3] rfl)
    · have h := b_f h c1
      refine lv_aload_n hx hb d_Model_innermost_12 rfl (lv_at hl 0 rfl) ?_
      refine va_get (D := (dC, dI)) (ci := 5) (v := .ref (a 4)) (C := "BlockRulerModel") (T := F_Model) (N := 16) hx hb hg i_Model hown hK hP 0 rfl rfl 7 (by decide) (hg _ wd229) (fun _ h9 => h9) rfl d_Model_innermost_13 ?_
      refine lv_iload_n hx hb d_Model_innermost_16 rfl (lv_at hl 3 rfl) ?_
      obtain ⟨hi2, h⟩ := gd h
      refine va_iald (f := sM_at σ) (n := 64) hx hb hK hP 4 3 rfl rfl hi2 d_Model_innermost_17 ?_
      refine lv_topi (fun x3 ex3 => ?_)
      have h := lt_ h x3 ex3
      refine lv_istore (lv' := [(4, .int x3), (0, .ref (a 0)), (1, .int v1), (2, .int v2), (3, .int v3)]) hx hb d_Model_innermost_18 hl (by decide) rfl (fun ls hl => ?_)
      refine lv_aload_n hx hb d_Model_innermost_20 rfl (lv_at hl 1 rfl) ?_
      refine va_get (D := (dC, dI)) (ci := 5) (v := .ref (a 7)) (C := "BlockRulerModel") (T := F_Model) (N := 16) hx hb hg i_Model hown hK hP 0 rfl rfl 10 (by decide) (hg _ wd237) (fun _ h9 => h9) rfl d_Model_innermost_21 ?_
      refine lv_iload hx hb d_Model_innermost_24 (lv_at hl 0 rfl) ?_
      obtain ⟨hi4, h⟩ := gd h
      refine va_zald (f := sM_isHead σ) (n := 64) hx hb hK hP 7 6 rfl rfl hi4 d_Model_innermost_26 ?_
      refine lv_if_eq (tgt := 68) hx hb d_Model_innermost_27 (by decide) (fun c5 => ?_) (fun c5 => ?_)
      · have h := b_t h c5
        refine lv_iinc (v := v3 + 1) (lv' := [(3, .int (v3 + 1)), (4, .int x3), (0, .ref (a 0)), (1, .int v1), (2, .int v2)]) hx hb d_Model_innermost_68 hl (k := 4) rfl rfl (by decide) rfl (fun ls hl => ?_)
        refine lv_goto (tgt := 4) hx hb d_Model_innermost_71 (by decide) ?_
        exact ih σ v1 v2 (v3 + 1) y h hP ls (lv_sub hl [2, 3, 4, 0] rfl) k0
      · have h := b_f h c5
        refine lv_aload_n hx hb d_Model_innermost_30 rfl (lv_at hl 1 rfl) ?_
        refine va_get (D := (dC, dI)) (ci := 5) (v := .ref (a 8)) (C := "BlockRulerModel") (T := F_Model) (N := 16) hx hb hg i_Model hown hK hP 0 rfl rfl 11 (by decide) (hg _ wd236) (fun _ h9 => h9) rfl d_Model_innermost_31 ?_
        refine lv_bipush (v := 64) hx hb d_Model_innermost_34 (by decide) ?_
        refine lv_iload hx hb d_Model_innermost_36 (lv_at hl 0 rfl) ?_
        refine lv_imul hx hb d_Model_innermost_38 ?_
        refine lv_iload_n hx hb d_Model_innermost_39 rfl (lv_at hl 2 rfl) ?_
        refine lv_iadd hx hb d_Model_innermost_40 ?_
        obtain ⟨hi6, h⟩ := gd h
        refine va_zald (f := sM_loop σ) (n := 4096) hx hb hK hP 8 7 rfl rfl hi6 d_Model_innermost_41 ?_
        refine lv_if_eq (tgt := 68) hx hb d_Model_innermost_42 (by decide) (fun c7 => ?_) (fun c7 => ?_)
        · have h := b_t h c7
          refine lv_iinc (v := v3 + 1) (lv' := [(3, .int (v3 + 1)), (4, .int x3), (0, .ref (a 0)), (1, .int v1), (2, .int v2)]) hx hb d_Model_innermost_68 hl (k := 4) rfl rfl (by decide) rfl (fun ls hl => ?_)
          refine lv_goto (tgt := 4) hx hb d_Model_innermost_71 (by decide) ?_
          exact ih σ v1 v2 (v3 + 1) y h hP ls (lv_sub hl [2, 3, 4, 0] rfl) k0
        · have h := b_f h c7
          refine lv_iload_n hx hb d_Model_innermost_45 rfl (lv_at hl 3 rfl) ?_
          refine lv_if_lt (tgt := 65) hx hb d_Model_innermost_46 (by decide) (fun c8 => ?_) (fun c8 => ?_)
          · have h := b_t h c8
            refine lv_iload hx hb d_Model_innermost_65 (lv_at hl 0 rfl) ?_
            refine lv_istore_n (lv' := [(2, .int x3), (4, .int x3), (0, .ref (a 0)), (1, .int v1), (3, .int v3)]) hx hb d_Model_innermost_67 rfl hl (by decide) rfl (fun ls hl => ?_)
            refine lv_iinc (v := v3 + 1) (lv' := [(3, .int (v3 + 1)), (2, .int x3), (4, .int x3), (0, .ref (a 0)), (1, .int v1)]) hx hb d_Model_innermost_68 hl (k := 4) rfl rfl (by decide) rfl (fun ls hl => ?_)
            refine lv_goto (tgt := 4) hx hb d_Model_innermost_71 (by decide) ?_
            exact ih σ v1 x3 (v3 + 1) y h hP ls (lv_sub hl [3, 4, 1, 0] rfl) k0
          · have h := b_f h c8
            refine lv_aload_n hx hb d_Model_innermost_49 rfl (lv_at hl 1 rfl) ?_
            refine va_get (D := (dC, dI)) (ci := 5) (v := .ref (a 9)) (C := "BlockRulerModel") (T := F_Model) (N := 16) hx hb hg i_Model hown hK hP 0 rfl rfl 12 (by decide) (hg _ wd231) (fun _ h9 => h9) rfl d_Model_innermost_50 ?_
            refine lv_iload hx hb d_Model_innermost_53 (lv_at hl 0 rfl) ?_
            refine va_iald (f := sM_loopSize σ) (n := 64) hx hb hK hP 9 8 rfl rfl hi4 d_Model_innermost_55 ?_
            refine lv_aload_n hx hb d_Model_innermost_56 rfl (lv_at hl 1 rfl) ?_
            refine va_get (D := (dC, dI)) (ci := 5) (v := .ref (a 9)) (C := "BlockRulerModel") (T := F_Model) (N := 16) hx hb hg i_Model hown hK hP 0 rfl rfl 12 (by decide) (hg _ wd231) (fun _ h9 => h9) rfl d_Model_innermost_57 ?_
            refine lv_iload_n hx hb d_Model_innermost_60 rfl (lv_at hl 3 rfl) ?_
            obtain ⟨hi9, h⟩ := gd h
            refine va_iald (f := sM_loopSize σ) (n := 64) hx hb hK hP 9 8 rfl rfl hi9 d_Model_innermost_61 ?_
            refine lv_icmp_gt (tgt := 68) hx hb d_Model_innermost_62 (by decide) (fun c10 => ?_) (fun c10 => ?_)
            · have h := b_t h c10
              refine lv_iinc (v := v3 + 1) (lv' := [(3, .int (v3 + 1)), (4, .int x3), (0, .ref (a 0)), (1, .int v1), (2, .int v2)]) hx hb d_Model_innermost_68 hl (k := 4) rfl rfl (by decide) rfl (fun ls hl => ?_)
              refine lv_goto (tgt := 4) hx hb d_Model_innermost_71 (by decide) ?_
              exact ih σ v1 v2 (v3 + 1) y h hP ls (lv_sub hl [2, 3, 4, 0] rfl) k0
            · have h := b_f h c10
              refine lv_iload hx hb d_Model_innermost_65 (lv_at hl 0 rfl) ?_
              refine lv_istore_n (lv' := [(2, .int x3), (4, .int x3), (0, .ref (a 0)), (1, .int v1), (3, .int v3)]) hx hb d_Model_innermost_67 rfl hl (by decide) rfl (fun ls hl => ?_)
              refine lv_iinc (v := v3 + 1) (lv' := [(3, .int (v3 + 1)), (2, .int x3), (4, .int x3), (0, .ref (a 0)), (1, .int v1)]) hx hb d_Model_innermost_68 hl (k := 4) rfl rfl (by decide) rfl (fun ls hl => ?_)
              refine lv_goto (tgt := 4) hx hb d_Model_innermost_71 (by decide) ?_
              exact ih σ v1 x3 (v3 + 1) y h hP ls (lv_sub hl [3, 4, 1, 0] rfl) k0
set_option maxHeartbeats 4000000 in
set_option maxRecDepth 100000 in
theorem c_Model_innermost (l : Launch) (dC : Nat → ClassId) (dI : Nat → Nat → Nat) (a : Nat → Nat) (cs : Nat → ClassId) (σ : SM) (v1 : Int32) (r : Int32) (h : f_Model_innermost σ v1 = some r) : Met l y_Model_innermost w_Model_innermost rm_Model_innermost (va_Pc [.ref (a 0), .int v1] (WBM dC dI a cs σ)) (QcV (.int r)) 0 0 (fun _ => False) := by
  refine Met.ofW (cc := b_Model_innermost) (maxL := 5) (ret := (some .int)) (by decide) rfl ?_
  intro p e s m args below meth c s₁ B hml hv
  obtain ⟨rfl, hP, hK, hN⟩ := hv
  have hx := B.exec
  have hb := B.bytes
  have hr := B.returns
  have hg : ∀ w ∈ G_, w.before _ s = true := fun w hw => atoms_spec (ws := w_Model_innermost) B.pre w (List.mem_cons_of_mem _ hw)
  have hown : s.vm.findClass "BlockRulerModel" = some m.cls := findClass_of_methodNamed B.named
  have hlocks := B.notSynchronized
  have C0 : Cx "BlockRulerModel" b_Model_innermost 5 p s m _ meth c := ⟨hx, hb, hml, hown, hg, hlocks⟩
  have hl := lv_entry ([.ref (a 0), .int v1]) (n := 5) (Nat.le_of_ble_eq_true rfl)
  rw [lg_entry_eq]
  generalize (lg_sl ([.ref (a 0), .int v1]) ++ List.replicate (5 - (lg_sl ([.ref (a 0), .int v1])).length) Slot.unset).toArray = ls at hl ⊢
  have hl : lv_has ls 5 [(0, .ref (a 0)), (1, .int v1)] := hl
  unfold f_Model_innermost at h
  refine lv_iconst (v := -1) hx hb d_Model_innermost_0 (by decide) ?_
  refine lv_istore_n (lv' := [(2, .int (-1)), (0, .ref (a 0)), (1, .int v1)]) hx hb d_Model_innermost_1 rfl hl (by decide) rfl (fun ls hl => ?_)
  refine lv_iconst (v := 0) hx hb d_Model_innermost_2 (by decide) ?_
  refine lv_istore_n (lv' := [(3, .int 0), (2, .int (-1)), (0, .ref (a 0)), (1, .int v1)]) hx hb d_Model_innermost_3 rfl hl (by decide) rfl (fun ls hl => ?_)
  obtain ⟨y11, hy11, h⟩ := bd h
  refine lpW_Model_innermost_4 C0 hK hN 100 σ v1 (-1) 0 y11 hy11 hP ls (lv_sub hl [2, 3, 1, 0] rfl) (fun ls hl => ?_)
  refine lv_iload_n hx hb d_Model_innermost_74 rfl (lv_at hl 2 rfl) ?_
  exact W.iret (v := y11.1) hx hb hr (fun t ht _ => ⟨by rw [Option.some.inj h], ht⟩) (fun q hq => by cases hq) d_Model_innermost_75
set_option maxHeartbeats 4000000 in
set_option maxRecDepth 100000 in
theorem lpW_Model_look_121 {p : Program} {l : Launch} {e : Env} {s : State} {m : MethodId} {args : Array Value} {below : List Frame} {meth : Method} {c : Code} {Q : State → Prop} {dC : Nat → ClassId} {dI : Nat → Nat → Nat} {a : Nat → Nat} {cs : Nat → ClassId} {H : Heap} {locs : List Loc} (C0 : Cx "BlockRulerModel" b_Model_look 6 p s m args meth c) (hK : va_K (dC, dI) classes (tyM cs) s) (hN : NW s) : ∀ (n : Nat) (σ : SM) (v1 : Int32) (v3 : Int32) (v4 : Int32) (y : Int32 × Int32), lp_Model_look_121 n σ v1 v3 v4 = some y → va_P (dC, dI) classes (wsM a cs σ) H → ∀ (ls : Array Slot), lv_has ls 6 [(0, .ref (a 0)), (1, .int v1), (3, .int v3), (4, .int v4)] → (∀ (ls : Array Slot), lv_has ls 6 [(0, .ref (a 0)), (1, .int v1), (3, .int y.1), (4, .int y.2)] → W p l e (headSpec w_Model_look rm_Model_look).room s m args below meth c H locs 0 0 Q (F0 m 159 ls [])) → W p l e (headSpec w_Model_look rm_Model_look).room s m args below meth c H locs 0 0 Q (F0 m 121 ls []) := by
  have C1 := C0
  obtain ⟨hx, hb, hml, hown, hg, hlocks⟩ := C1
  intro n
  induction n with
  | zero => intro σ v1 v3 v4 y h; exact absurd (show (none : Option (Int32 × Int32)) = some y from h) (fun q => by cases q)
  | succ n ih =>
    intro σ v1 v3 v4 y h hP ls hl k0
    rw [lp_Model_look_121_s] at h
    refine lv_iload hx hb d_Model_look_121 (lv_at hl 3 rfl) ?_
    refine lv_aload_n hx hb d_Model_look_123 rfl (lv_at hl 0 rfl) ?_
    refine va_get (D := (dC, dI)) (ci := 5) (v := .int (sM_blocks σ)) (C := "BlockRulerModel") (T := F_Model) (N := 16) hx hb hg i_Model hown hK hP 0 rfl rfl 1 (by decide) (hg _ wd211) (fun _ h9 => h9) rfl d_Model_look_124 ?_
    refine lv_icmp_ge (tgt := 159) hx hb d_Model_look_127 (by decide) (fun c16 => ?_) (fun c16 => ?_)
    · have h := b_t h c16
      obtain rfl := Option.some.inj h
      exact k0 ls (lv_sub hl [0, 1, 2, 3] rfl)
    · have h := b_f h c16
      refine lv_iload_n hx hb d_Model_look_130 rfl (lv_at hl 2 rfl) ?_
      refine lv_aload_n hx hb d_Model_look_131 rfl (lv_at hl 0 rfl) ?_
      refine va_get (D := (dC, dI)) (ci := 5) (v := .ref (a 5)) (C := "BlockRulerModel") (T := F_Model) (N := 16) hx hb hg i_Model hown hK hP 0 rfl rfl 8 (by decide) (hg _ wd225) (fun _ h9 => h9) rfl d_Model_look_132 ?_
      refine lv_bipush (v := 64) hx hb d_Model_look_135 (by decide) ?_
      refine lv_iload_n hx hb d_Model_look_137 rfl (lv_at hl 1 rfl) ?_
      refine lv_imul hx hb d_Model_look_138 ?_
      refine lv_iload hx hb d_Model_look_139 (lv_at hl 3 rfl) ?_
      refine lv_iadd hx hb d_Model_look_141 ?_
      obtain ⟨hi17, h⟩ := gd h
      refine va_zald (f := sM_rules σ) (n := 4096) hx hb hK hP 5 4 rfl rfl hi17 d_Model_look_142 ?_
      refine lv_if_eq (tgt := 150) hx hb d_Model_look_143 (by decide) (fun c18 => ?_) (fun c18 => ?_)
      · have h := b_t h c18
        refine lv_iconst (v := 0) hx hb d_Model_look_150 (by decide) ?_
        refine lv_iadd hx hb d_Model_look_151 ?_
        refine lv_istore_n (lv' := [(3, .int (v3 + 0)), (0, .ref (a 0)), (1, .int v1), (4, .int v4)]) hx hb d_Model_look_152 rfl hl (by decide) rfl (fun ls hl => ?_)
        refine lv_iinc (v := v4 + 1) (lv' := [(4, .int (v4 + 1)), (3, .int (v3 + 0)), (0, .ref (a 0)), (1, .int v1)]) hx hb d_Model_look_153 hl (k := 3) rfl rfl (by decide) rfl (fun ls hl => ?_)
        refine lv_goto (tgt := 121) hx hb d_Model_look_156 (by decide) ?_
        exact ih σ v1 (v3 + 0) (v4 + 1) y h hP ls (lv_sub hl [2, 3, 1, 0] rfl) k0
      · have h := b_f h c18
        refine lv_iconst (v := 1) hx hb d_Model_look_146 (by decide) ?_
        refine lv_goto (tgt := 151) hx hb d_Model_look_147 (by decide) ?_
        refine lv_iadd hx hb d_Model_look_151 ?_
        refine lv_istore_n (lv' := [(3, .int (v3 + 1)), (0, .ref (a 0)), (1, .int v1), (4, .int v4)]) hx hb d_Model_look_152 rfl hl (by decide) rfl (fun ls hl => ?_)
        refine lv_iinc (v := v4 + 1) (lv' := [(4, .int (v4 + 1)), (3, .int (v3 + 1)), (0, .ref (a 0)), (1, .int v1)]) hx hb d_Model_look_153 hl (k := 3) rfl rfl (by decide) rfl (fun ls hl => ?_)
        refine lv_goto (tgt := 121) hx hb d_Model_look_156 (by decide) ?_
        exact ih σ v1 (v3 + 1) (v4 + 1) y h hP ls (lv_sub hl [2, 3, 1, 0] rfl) k0
set_option maxHeartbeats 4000000 in
set_option maxRecDepth 100000 in
theorem lpW_Model_look_176 {p : Program} {l : Launch} {e : Env} {s : State} {m : MethodId} {args : Array Value} {below : List Frame} {meth : Method} {c : Code} {Q : State → Prop} {dC : Nat → ClassId} {dI : Nat → Nat → Nat} {a : Nat → Nat} {cs : Nat → ClassId} {H : Heap} {locs : List Loc} (C0 : Cx "BlockRulerModel" b_Model_look 6 p s m args meth c) (hK : va_K (dC, dI) classes (tyM cs) s) (hN : NW s) : ∀ (n : Nat) (σ : SM) (v1 : Int32) (v3 : Int32) (v4 : Int32) (v5 : Int32) (y : Int32 × Int32), lp_Model_look_176 n σ v1 v3 v4 v5 = some y → va_P (dC, dI) classes (wsM a cs σ) H → ∀ (ls : Array Slot), lv_has ls 6 [(0, .ref (a 0)), (1, .int v1), (3, .int v3), (4, .int v4), (5, .int v5)] → (∀ (ls : Array Slot), lv_has ls 6 [(0, .ref (a 0)), (1, .int v1), (3, .int y.1), (4, .int v4), (5, .int y.2)] → W p l e (headSpec w_Model_look rm_Model_look).room s m args below meth c H locs 0 0 Q (F0 m 229 ls [])) → W p l e (headSpec w_Model_look rm_Model_look).room s m args below meth c H locs 0 0 Q (F0 m 176 ls []) := by
  have C1 := C0
  obtain ⟨hx, hb, hml, hown, hg, hlocks⟩ := C1
  intro n
  induction n with
  | zero => intro σ v1 v3 v4 v5 y h; exact absurd (show (none : Option (Int32 × Int32)) = some y from h) (fun q => by cases q)
  | succ n ih =>
    intro σ v1 v3 v4 v5 y h hP ls hl k0
    rw [lp_Model_look_176_s] at h
    refine lv_iload hx hb d_Model_look_176 (lv_at hl 4 rfl) ?_
    refine lv_aload_n hx hb d_Model_look_178 rfl (lv_at hl 0 rfl) ?_
    refine va_get (D := (dC, dI)) (ci := 5) (v := .ref (a 1)) (C := "BlockRulerModel") (T := F_Model) (N := 16) hx hb hg i_Model hown hK hP 0 rfl rfl 2 (by decide) (hg _ wd217) (fun _ h9 => h9) rfl d_Model_look_179 ?_
    refine lv_iload hx hb d_Model_look_182 (lv_at hl 3 rfl) ?_
    obtain ⟨hi22, h⟩ := gd h
    refine va_iald (f := sM_many σ) (n := 64) hx hb hK hP 1 0 rfl rfl hi22 d_Model_look_184 ?_
    refine lv_icmp_ge (tgt := 229) hx hb d_Model_look_185 (by decide) (fun c23 => ?_) (fun c23 => ?_)
    · have h := b_t h c23
      obtain rfl := Option.some.inj h
      exact k0 ls (lv_sub hl [0, 1, 2, 3, 4] rfl)
    · have h := b_f h c23
      refine lv_iload_n hx hb d_Model_look_188 rfl (lv_at hl 2 rfl) ?_
      refine lv_aload_n hx hb d_Model_look_189 rfl (lv_at hl 0 rfl) ?_
      refine va_get (D := (dC, dI)) (ci := 5) (v := .ref (a 3)) (C := "BlockRulerModel") (T := F_Model) (N := 16) hx hb hg i_Model hown hK hP 0 rfl rfl 6 (by decide) (hg _ wd224) (fun _ h9 => h9) rfl d_Model_look_190 ?_
      refine lv_iload hx hb d_Model_look_193 (lv_at hl 3 rfl) ?_
      refine va_iald (f := sM_order σ) (n := 64) hx hb hK hP 3 2 rfl rfl hi22 d_Model_look_195 ?_
      refine lv_if_lt (tgt := 220) hx hb d_Model_look_196 (by decide) (fun c24 => ?_) (fun c24 => ?_)
      · have h := b_t h c24
        refine lv_iconst (v := 0) hx hb d_Model_look_220 (by decide) ?_
        refine lv_iadd hx hb d_Model_look_221 ?_
        refine lv_istore_n (lv' := [(3, .int (v3 + 0)), (0, .ref (a 0)), (1, .int v1), (4, .int v4), (5, .int v5)]) hx hb d_Model_look_222 rfl hl (by decide) rfl (fun ls hl => ?_)
        refine lv_iinc (v := v5 + 1) (lv' := [(5, .int (v5 + 1)), (3, .int (v3 + 0)), (0, .ref (a 0)), (1, .int v1), (4, .int v4)]) hx hb d_Model_look_223 hl (k := 4) rfl rfl (by decide) rfl (fun ls hl => ?_)
        refine lv_goto (tgt := 176) hx hb d_Model_look_226 (by decide) ?_
        exact ih σ v1 (v3 + 0) v4 (v5 + 1) y h hP ls (lv_sub hl [2, 3, 1, 4, 0] rfl) k0
      · have h := b_f h c24
        refine lv_aload_n hx hb d_Model_look_199 rfl (lv_at hl 0 rfl) ?_
        refine va_get (D := (dC, dI)) (ci := 5) (v := .ref (a 2)) (C := "BlockRulerModel") (T := F_Model) (N := 16) hx hb hg i_Model hown hK hP 0 rfl rfl 3 (by decide) (hg _ wd219) (fun _ h9 => h9) rfl d_Model_look_200 ?_
        refine lv_bipush (v := 8) hx hb d_Model_look_203 (by decide) ?_
        refine lv_iload hx hb d_Model_look_205 (lv_at hl 3 rfl) ?_
        refine lv_imul hx hb d_Model_look_207 ?_
        refine lv_iload hx hb d_Model_look_208 (lv_at hl 4 rfl) ?_
        refine lv_iadd hx hb d_Model_look_210 ?_
        obtain ⟨hi25, h⟩ := gd h
        refine va_iald (f := sM_ends σ) (n := 512) hx hb hK hP 2 1 rfl rfl hi25 d_Model_look_211 ?_
        refine lv_iload_n hx hb d_Model_look_212 rfl (lv_at hl 1 rfl) ?_
        refine lv_icmp_ne (tgt := 220) hx hb d_Model_look_213 (by decide) (fun c26 => ?_) (fun c26 => ?_)
        · have h := b_f h c26
          refine lv_iconst (v := 0) hx hb d_Model_look_220 (by decide) ?_
          refine lv_iadd hx hb d_Model_look_221 ?_
          refine lv_istore_n (lv' := [(3, .int (v3 + 0)), (0, .ref (a 0)), (1, .int v1), (4, .int v4), (5, .int v5)]) hx hb d_Model_look_222 rfl hl (by decide) rfl (fun ls hl => ?_)
          refine lv_iinc (v := v5 + 1) (lv' := [(5, .int (v5 + 1)), (3, .int (v3 + 0)), (0, .ref (a 0)), (1, .int v1), (4, .int v4)]) hx hb d_Model_look_223 hl (k := 4) rfl rfl (by decide) rfl (fun ls hl => ?_)
          refine lv_goto (tgt := 176) hx hb d_Model_look_226 (by decide) ?_
          exact ih σ v1 (v3 + 0) v4 (v5 + 1) y h hP ls (lv_sub hl [2, 3, 1, 4, 0] rfl) k0
        · have h := b_t h c26
          refine lv_iconst (v := 1) hx hb d_Model_look_216 (by decide) ?_
          refine lv_goto (tgt := 221) hx hb d_Model_look_217 (by decide) ?_
          refine lv_iadd hx hb d_Model_look_221 ?_
          refine lv_istore_n (lv' := [(3, .int (v3 + 1)), (0, .ref (a 0)), (1, .int v1), (4, .int v4), (5, .int v5)]) hx hb d_Model_look_222 rfl hl (by decide) rfl (fun ls hl => ?_)
          refine lv_iinc (v := v5 + 1) (lv' := [(5, .int (v5 + 1)), (3, .int (v3 + 1)), (0, .ref (a 0)), (1, .int v1), (4, .int v4)]) hx hb d_Model_look_223 hl (k := 4) rfl rfl (by decide) rfl (fun ls hl => ?_)
          refine lv_goto (tgt := 176) hx hb d_Model_look_226 (by decide) ?_
          exact ih σ v1 (v3 + 1) v4 (v5 + 1) y h hP ls (lv_sub hl [2, 3, 1, 4, 0] rfl) k0
set_option maxHeartbeats 4000000 in
set_option maxRecDepth 100000 in
theorem lpW_Model_look_164 {p : Program} {l : Launch} {e : Env} {s : State} {m : MethodId} {args : Array Value} {below : List Frame} {meth : Method} {c : Code} {Q : State → Prop} {dC : Nat → ClassId} {dI : Nat → Nat → Nat} {a : Nat → Nat} {cs : Nat → ClassId} {H : Heap} {locs : List Loc} (C0 : Cx "BlockRulerModel" b_Model_look 6 p s m args meth c) (hK : va_K (dC, dI) classes (tyM cs) s) (hN : NW s) : ∀ (n : Nat) (σ : SM) (v1 : Int32) (v3 : Int32) (v4 : Int32) (y : Int32 × Int32), lp_Model_look_164 n σ v1 v3 v4 = some y → va_P (dC, dI) classes (wsM a cs σ) H → ∀ (ls : Array Slot), lv_has ls 6 [(0, .ref (a 0)), (1, .int v1), (3, .int v3), (4, .int v4)] → (∀ (ls : Array Slot), lv_has ls 6 [(0, .ref (a 0)), (1, .int v1), (3, .int y.1), (4, .int y.2)] → W p l e (headSpec w_Model_look rm_Model_look).room s m args below meth c H locs 0 0 Q (F0 m 235 ls [])) → W p l e (headSpec w_Model_look rm_Model_look).room s m args below meth c H locs 0 0 Q (F0 m 164 ls []) := by
  have C1 := C0
  obtain ⟨hx, hb, hml, hown, hg, hlocks⟩ := C1
  intro n
  induction n with
  | zero => intro σ v1 v3 v4 y h; exact absurd (show (none : Option (Int32 × Int32)) = some y from h) (fun q => by cases q)
  | succ n ih =>
    intro σ v1 v3 v4 y h hP ls hl k0
    rw [lp_Model_look_164_s] at h
    refine lv_iload hx hb d_Model_look_164 (lv_at hl 3 rfl) ?_
    refine lv_aload_n hx hb d_Model_look_166 rfl (lv_at hl 0 rfl) ?_
    refine va_get (D := (dC, dI)) (ci := 5) (v := .int (sM_blocks σ)) (C := "BlockRulerModel") (T := F_Model) (N := 16) hx hb hg i_Model hown hK hP 0 rfl rfl 1 (by decide) (hg _ wd211) (fun _ h9 => h9) rfl d_Model_look_167 ?_
    refine lv_icmp_ge (tgt := 235) hx hb d_Model_look_170 (by decide) (fun c21 => ?_) (fun c21 => ?_)
    · have h := b_t h c21
      obtain rfl := Option.some.inj h
      exact k0 ls (lv_sub hl [0, 1, 2, 3] rfl)
    · have h := b_f h c21
      refine lv_iconst (v := 0) hx hb d_Model_look_173 (by decide) ?_
      refine lv_istore (lv' := [(5, .int 0), (0, .ref (a 0)), (1, .int v1), (3, .int v3), (4, .int v4)]) hx hb d_Model_look_174 hl (by decide) rfl (fun ls hl => ?_)
      obtain ⟨y27, hy27, h⟩ := bd h
      refine lpW_Model_look_176 C0 hK hN 100 σ v1 v3 v4 0 y27 hy27 hP ls (lv_sub hl [1, 2, 3, 4, 0] rfl) (fun ls hl => ?_)
      refine lv_iinc (v := v4 + 1) (lv' := [(4, .int (v4 + 1)), (0, .ref (a 0)), (1, .int v1), (3, .int y27.1), (5, .int y27.2)]) hx hb d_Model_look_229 hl (k := 3) rfl rfl (by decide) rfl (fun ls hl => ?_)
      refine lv_goto (tgt := 164) hx hb d_Model_look_232 (by decide) ?_
      exact ih σ v1 y27.1 (v4 + 1) y h hP ls (lv_sub hl [1, 2, 3, 0] rfl) k0
set_option maxHeartbeats 4000000 in
set_option maxRecDepth 100000 in
theorem c_Model_look (l : Launch) (dC : Nat → ClassId) (dI : Nat → Nat → Nat) (a : Nat → Nat) (cs : Nat → ClassId) (sz : Nat) (σ : SM) (v1 : Int32) (v2 : Int32) (r : Int32 × SM) (h : f_Model_look σ v1 v2 = some r) : Met l y_Model_look w_Model_look rm_Model_look (va_Pc [.ref (a 0), .int v1, .int v2] (fun U => U.heap.size = sz ∧ WDM dC dI a cs σ U)) (va_Qi (fun (x : Int32) (u : SM) => (x, u) = r) (atM dC dI a cs (va_A (wsM a cs σ) sz)) (va_A (wsM a cs σ) sz)) 0 0 (va_A (wsM a cs σ) sz) := by
  refine Met.ofW (cc := b_Model_look) (maxL := 6) (ret := (some .int)) (by decide) rfl ?_
  intro p e s m args below meth c s₁ B hml hv
  obtain ⟨rfl, hsz, hP, hK, hN, hD0⟩ := hv
  have hx := B.exec
  have hb := B.bytes
  have hr := B.returns
  have hg : ∀ w ∈ G_, w.before _ s = true := fun w hw => atoms_spec (ws := w_Model_look) B.pre w (List.mem_cons_of_mem _ hw)
  have hown : s.vm.findClass "BlockRulerModel" = some m.cls := findClass_of_methodNamed B.named
  have hlocks := B.notSynchronized
  have C0 : Cx "BlockRulerModel" b_Model_look 6 p s m _ meth c := ⟨hx, hb, hml, hown, hg, hlocks⟩
  subst hsz
  have hD := hD0.self (sz := s.heap.size)
  generalize hAe : va_A (wsM a cs σ) s.heap.size = A at hD ⊢
  have hA : ∀ q : Nat, s.heap.size ≤ q → A q := fun q h => by rw [← hAe]; exact Or.inr h
  have hS : va_S A s.heap s.heap [] := va_S.rf
  have hl := lv_entry ([.ref (a 0), .int v1, .int v2]) (n := 6) (Nat.le_of_ble_eq_true rfl)
  rw [lg_entry_eq]
  generalize (lg_sl ([.ref (a 0), .int v1, .int v2]) ++ List.replicate (6 - (lg_sl ([.ref (a 0), .int v1, .int v2])).length) Slot.unset).toArray = ls at hl ⊢
  have hl : lv_has ls 6 [(0, .ref (a 0)), (1, .int v1), (2, .int v2)] := hl
  unfold f_Model_look at h
  refine lv_aload_n hx hb d_Model_look_0 rfl (lv_at hl 0 rfl) ?_
  refine lv_iconst (v := 0) hx hb d_Model_look_1 (by decide) ?_
  refine va_put (D := (dC, dI)) (ci := 5) (v := .int 0) (ty := .int) (C := "BlockRulerModel") (T := F_Model) (N := 16) hx hb hg i_Model t_Model t_Model_ok n_Model hown hK hP hD hS 0 rfl rfl 0 (by decide) (hg _ wd210) (fun _ h9 => h9) rfl (by decide +kernel) rfl rfl (Nat.le_of_ble_eq_true rfl) d_Model_look_2 (fun H locs hP hD hS => ?_)
  have hP := va_Pe (setM_thrown a cs σ 0) hP
  have hD := va_De (setM_thrown a cs σ 0) hD
  refine lv_aload_n hx hb d_Model_look_5 rfl (lv_at hl 0 rfl) ?_
  obtain ⟨r1, hr1, h⟩ := bd h
  have hFc := va_free (wc := wsM a cs (uM_thrown σ 0)) hD hS hA [0, 1, 2, 3, 4, 5, 6, 7, 8, 9, 10, 11, 12] (allM a cs (uM_thrown σ 0))
  refine va_callv (va_runV (C := "BlockRulerModel") (As := []) (rest := []) ⟨hx, hb, hml, hown, hg⟩ (c_Model_reckon l dC dI a cs _ (uM_thrown σ 0) _ hr1) (cwV 0 hg (gdV wd253 wd252 wd251 wd215 wd254) rfl rfl rfl (by decide +kernel) ⟨Nat.le_of_ble_eq_true rfl, Nat.le_of_ble_eq_true rfl⟩) ⟨wbz_blind, va_recv hK hP (ci := 5) (q0 := 0) rfl rfl, fun U hU hW => ⟨rfl, by rw [hU], wb_preD hU hW hP hK hN hD⟩⟩ rfl rfl hl.1 rfl (lv_room (Nat.le_of_ble_eq_true rfl)) d_Model_look_6 ⟨Nat.zero_le _, Nat.zero_le _⟩) hS (fun q _ h => hFc q h) hFc (fun u t H locs ht hvm hw hB hz1 hk1 hS => ?_)
  obtain rfl : r1 = u := hw.symm
  have hP : va_P (dC, dI) classes (wsM a cs r1) H := by have q := hB.1; rw [ht] at q; exact q
  have hD : va_D A (wsM a cs r1) := hB.2.weaken (fun _ _ _ h => hFc _ h)
  refine lv_aload_n hx hb d_Model_look_9 rfl (lv_at hl 0 rfl) ?_
  refine lv_iload_n hx hb d_Model_look_10 rfl (lv_at hl 1 rfl) ?_
  refine ro_call (v := .int (f_Model_isBlock r1 v1)) (va_runV (C := "BlockRulerModel") (As := [.int v1]) (rest := []) ⟨hx, hb, hml, hown, hg⟩ (c_Model_isBlock l dC dI a cs r1 v1 _ rfl) (cwV 1 hg (gdV wd214 wd213 wd212 wd215 wd216) rfl rfl rfl (by decide +kernel) ⟨Nat.le_of_ble_eq_true rfl, Nat.le_of_ble_eq_true rfl⟩) ⟨wb_blind, va_recv hK hP (ci := 5) (q0 := 0) rfl rfl, fun U hU hW => ⟨rfl, wb_pre hU hW hP hK hN⟩⟩ rfl rfl hl.1 rfl (lv_room (Nat.le_of_ble_eq_true rfl)) d_Model_look_11 ⟨Nat.zero_le _, Nat.zero_le _⟩) ?_
  refine lv_if_ne (tgt := 19) hx hb d_Model_look_14 (by decide) (fun c2 => ?_) (fun c2 => ?_)
  · have h := b_f h c2
    refine lv_iconst (v := 0) hx hb d_Model_look_19 (by decide) ?_
    refine lv_istore_n (lv' := [(3, .int 0), (0, .ref (a 0)), (1, .int v1), (2, .int v2)]) hx hb d_Model_look_20 rfl hl (by decide) rfl (fun ls hl => ?_)
    refine lv_iload_n hx hb d_Model_look_21 rfl (lv_at hl 3 rfl) ?_
    refine lv_topi (fun x3 ex3 => ?_)
    have h := lt_ h x3 ex3
    by_cases c5 : x3 = 0
    · have h := b_t h c5
      refine lv_tableIn (x := x3) (tgt := 64) hx hb d_Model_look_22 (by rw [c5]; decide) (by rw [c5]; decide) (by rw [c5]; rfl) (by decide) ?_
      refine lv_aload_n hx hb d_Model_look_64 rfl (lv_at hl 1 rfl) ?_
      refine va_get (D := (dC, dI)) (ci := 5) (v := .ref (a 1)) (C := "BlockRulerModel") (T := F_Model) (N := 16) hx hb hg i_Model hown hK hP 0 rfl rfl 2 (by decide) (hg _ wd217) (fun _ h9 => h9) rfl d_Model_look_65 ?_
      refine lv_iload_n hx hb d_Model_look_68 rfl (lv_at hl 2 rfl) ?_
      obtain ⟨hi4, h⟩ := gd h
      refine va_iald (f := sM_many r1) (n := 64) hx hb hK hP 1 0 rfl rfl hi4 d_Model_look_69 ?_
      exact W.iret (v := sM_many r1 (Int32.toNatClampNeg v1)) hx hb hr (fun t ht hW => ⟨⟨sM_many r1 (Int32.toNatClampNeg v1), r1, rfl, Option.some.inj h, by rw [ht]; exact hP, hD⟩, hS.F ht⟩) hS.2.2 d_Model_look_70
    have h := b_f h c5
    by_cases c8 : x3 = 1
    · have h := b_t h c8
      refine lv_tableIn (x := x3) (tgt := 71) hx hb d_Model_look_22 (by rw [c8]; decide) (by rw [c8]; decide) (by rw [c8]; rfl) (by decide) ?_
      refine lv_aload_n hx hb d_Model_look_71 rfl (lv_at hl 1 rfl) ?_
      refine va_get (D := (dC, dI)) (ci := 5) (v := .ref (a 7)) (C := "BlockRulerModel") (T := F_Model) (N := 16) hx hb hg i_Model hown hK hP 0 rfl rfl 10 (by decide) (hg _ wd237) (fun _ h9 => h9) rfl d_Model_look_72 ?_
      refine lv_iload_n hx hb d_Model_look_75 rfl (lv_at hl 2 rfl) ?_
      obtain ⟨hi6, h⟩ := gd h
      refine va_zald (f := sM_isHead r1) (n := 64) hx hb hK hP 7 6 rfl rfl hi6 d_Model_look_76 ?_
      refine lv_if_eq (tgt := 84) hx hb d_Model_look_77 (by decide) (fun c7 => ?_) (fun c7 => ?_)
      · have h := b_t h c7
        refine lv_iconst (v := 0) hx hb d_Model_look_84 (by decide) ?_
        exact W.iret (v := 0) hx hb hr (fun t ht hW => ⟨⟨0, r1, rfl, Option.some.inj h, by rw [ht]; exact hP, hD⟩, hS.F ht⟩) hS.2.2 d_Model_look_85
      · have h := b_f h c7
        refine lv_iconst (v := 1) hx hb d_Model_look_80 (by decide) ?_
        refine lv_goto (tgt := 85) hx hb d_Model_look_81 (by decide) ?_
        exact W.iret (v := 1) hx hb hr (fun t ht hW => ⟨⟨1, r1, rfl, Option.some.inj h, by rw [ht]; exact hP, hD⟩, hS.F ht⟩) hS.2.2 d_Model_look_85
    have h := b_f h c8
    by_cases c11 : x3 = 2
    · have h := b_t h c11
      refine lv_tableIn (x := x3) (tgt := 86) hx hb d_Model_look_22 (by rw [c11]; decide) (by rw [c11]; decide) (by rw [c11]; rfl) (by decide) ?_
      refine lv_aload_n hx hb d_Model_look_86 rfl (lv_at hl 1 rfl) ?_
      refine va_get (D := (dC, dI)) (ci := 5) (v := .ref (a 7)) (C := "BlockRulerModel") (T := F_Model) (N := 16) hx hb hg i_Model hown hK hP 0 rfl rfl 10 (by decide) (hg _ wd237) (fun _ h9 => h9) rfl d_Model_look_87 ?_
      refine lv_iload_n hx hb d_Model_look_90 rfl (lv_at hl 2 rfl) ?_
      obtain ⟨hi9, h⟩ := gd h
      refine va_zald (f := sM_isHead r1) (n := 64) hx hb hK hP 7 6 rfl rfl hi9 d_Model_look_91 ?_
      refine lv_if_eq (tgt := 104) hx hb d_Model_look_92 (by decide) (fun c10 => ?_) (fun c10 => ?_)
      · have h := b_t h c10
        refine lv_iconst (v := 0) hx hb d_Model_look_104 (by decide) ?_
        exact W.iret (v := 0) hx hb hr (fun t ht hW => ⟨⟨0, r1, rfl, Option.some.inj h, by rw [ht]; exact hP, hD⟩, hS.F ht⟩) hS.2.2 d_Model_look_105
      · have h := b_f h c10
        refine lv_aload_n hx hb d_Model_look_95 rfl (lv_at hl 1 rfl) ?_
        refine va_get (D := (dC, dI)) (ci := 5) (v := .ref (a 9)) (C := "BlockRulerModel") (T := F_Model) (N := 16) hx hb hg i_Model hown hK hP 0 rfl rfl 12 (by decide) (hg _ wd231) (fun _ h9 => h9) rfl d_Model_look_96 ?_
        refine lv_iload_n hx hb d_Model_look_99 rfl (lv_at hl 2 rfl) ?_
        refine va_iald (f := sM_loopSize r1) (n := 64) hx hb hK hP 9 8 rfl rfl hi9 d_Model_look_100 ?_
        refine lv_goto (tgt := 105) hx hb d_Model_look_101 (by decide) ?_
        exact W.iret (v := sM_loopSize r1 (Int32.toNatClampNeg v1)) hx hb hr (fun t ht hW => ⟨⟨sM_loopSize r1 (Int32.toNatClampNeg v1), r1, rfl, Option.some.inj h, by rw [ht]; exact hP, hD⟩, hS.F ht⟩) hS.2.2 d_Model_look_105
    have h := b_f h c11
    by_cases c13 : x3 = 3
    · have h := b_t h c13
      refine lv_tableIn (x := x3) (tgt := 106) hx hb d_Model_look_22 (by rw [c13]; decide) (by rw [c13]; decide) (by rw [c13]; rfl) (by decide) ?_
      refine lv_aload_n hx hb d_Model_look_106 rfl (lv_at hl 1 rfl) ?_
      refine lv_iload_n hx hb d_Model_look_107 rfl (lv_at hl 2 rfl) ?_
      obtain ⟨r12, hr12, h⟩ := bd h
      refine ro_call (v := .int r12) (va_runV (C := "BlockRulerModel") (As := [.int v1]) (rest := []) ⟨hx, hb, hml, hown, hg⟩ (c_Model_depthOf l dC dI a cs r1 v1 _ hr12) (cwV 1 hg (gdV wd261 wd260 wd259 wd215 wd262) rfl rfl rfl (by decide +kernel) ⟨Nat.le_of_ble_eq_true rfl, Nat.le_of_ble_eq_true rfl⟩) ⟨wb_blind, va_recv hK hP (ci := 5) (q0 := 0) rfl rfl, fun U hU hW => ⟨rfl, wb_pre hU hW hP hK hN⟩⟩ rfl rfl hl.1 rfl (lv_room (Nat.le_of_ble_eq_true rfl)) d_Model_look_108 ⟨Nat.zero_le _, Nat.zero_le _⟩) ?_
      exact W.iret (v := r12) hx hb hr (fun t ht hW => ⟨⟨r12, r1, rfl, Option.some.inj h, by rw [ht]; exact hP, hD⟩, hS.F ht⟩) hS.2.2 d_Model_look_111
    have h := b_f h c13
    by_cases c15 : x3 = 4
    · have h := b_t h c15
      refine lv_tableIn (x := x3) (tgt := 112) hx hb d_Model_look_22 (by rw [c15]; decide) (by rw [c15]; decide) (by rw [c15]; rfl) (by decide) ?_
      refine lv_aload_n hx hb d_Model_look_112 rfl (lv_at hl 1 rfl) ?_
      refine lv_iload_n hx hb d_Model_look_113 rfl (lv_at hl 2 rfl) ?_
      obtain ⟨r14, hr14, h⟩ := bd h
      refine ro_call (v := .int r14) (va_runV (C := "BlockRulerModel") (As := [.int v1]) (rest := []) ⟨hx, hb, hml, hown, hg⟩ (c_Model_innermost l dC dI a cs r1 v1 _ hr14) (cwV 1 hg (gdV wd265 wd264 wd263 wd215 wd266) rfl rfl rfl (by decide +kernel) ⟨Nat.le_of_ble_eq_true rfl, Nat.le_of_ble_eq_true rfl⟩) ⟨wb_blind, va_recv hK hP (ci := 5) (q0 := 0) rfl rfl, fun U hU hW => ⟨rfl, wb_pre hU hW hP hK hN⟩⟩ rfl rfl hl.1 rfl (lv_room (Nat.le_of_ble_eq_true rfl)) d_Model_look_114 ⟨Nat.zero_le _, Nat.zero_le _⟩) ?_
      exact W.iret (v := r14) hx hb hr (fun t ht hW => ⟨⟨r14, r1, rfl, Option.some.inj h, by rw [ht]; exact hP, hD⟩, hS.F ht⟩) hS.2.2 d_Model_look_117
    have h := b_f h c15
    by_cases c20 : x3 = 5
    · have h := b_t h c20
      refine lv_tableIn (x := x3) (tgt := 118) hx hb d_Model_look_22 (by rw [c20]; decide) (by rw [c20]; decide) (by rw [c20]; rfl) (by decide) ?_
      refine lv_iconst (v := 0) hx hb d_Model_look_118 (by decide) ?_
      refine lv_istore (lv' := [(4, .int 0), (3, .int 0), (0, .ref (a 0)), (1, .int v1), (2, .int v2)]) hx hb d_Model_look_119 hl (by decide) rfl (fun ls hl => ?_)
      obtain ⟨y19, hy19, h⟩ := bd h
      refine lpW_Model_look_121 C0 hK hN 100 r1 v1 0 0 y19 hy19 hP ls (lv_sub hl [2, 3, 1, 0] rfl) (fun ls hl => ?_)
      refine lv_iload_n hx hb d_Model_look_159 rfl (lv_at hl 2 rfl) ?_
      exact W.iret (v := y19.1) hx hb hr (fun t ht hW => ⟨⟨y19.1, r1, rfl, Option.some.inj h, by rw [ht]; exact hP, hD⟩, hS.F ht⟩) hS.2.2 d_Model_look_160
    have h := b_f h c20
    by_cases c29 : x3 = 6
    · have h := b_t h c29
      refine lv_tableIn (x := x3) (tgt := 161) hx hb d_Model_look_22 (by rw [c29]; decide) (by rw [c29]; decide) (by rw [c29]; rfl) (by decide) ?_
      refine lv_iconst (v := 0) hx hb d_Model_look_161 (by decide) ?_
      refine lv_istore (lv' := [(4, .int 0), (3, .int 0), (0, .ref (a 0)), (1, .int v1), (2, .int v2)]) hx hb d_Model_look_162 hl (by decide) rfl (fun ls hl => ?_)
      obtain ⟨y28, hy28, h⟩ := bd h
      refine lpW_Model_look_164 C0 hK hN 100 r1 v1 0 0 y28 hy28 hP ls (lv_sub hl [2, 3, 1, 0] rfl) (fun ls hl => ?_)
      refine lv_iload_n hx hb d_Model_look_235 rfl (lv_at hl 2 rfl) ?_
      exact W.iret (v := y28.1) hx hb hr (fun t ht hW => ⟨⟨y28.1, r1, rfl, Option.some.inj h, by rw [ht]; exact hP, hD⟩, hS.F ht⟩) hS.2.2 d_Model_look_236
    have h := b_f h c29
    refine lv_tableOut (x := x3) (tgt := 237) hx hb d_Model_look_22 (tsw7 c5 c8 c11 c13 c15 c20 c29) (by decide) ?_
    refine lv_iconst (v := -1) hx hb d_Model_look_237 (by decide) ?_
    exact W.iret (v := -1) hx hb hr (fun t ht hW => ⟨⟨-1, r1, rfl, Option.some.inj h, by rw [ht]; exact hP, hD⟩, hS.F ht⟩) hS.2.2 d_Model_look_238
  · have h := b_t h c2
    refine lv_iconst (v := -1) hx hb d_Model_look_17 (by decide) ?_
    exact W.iret (v := -1) hx hb hr (fun t ht hW => ⟨⟨-1, r1, rfl, Option.some.inj h, by rw [ht]; exact hP, hD⟩, hS.F ht⟩) hS.2.2 d_Model_look_18
set_option maxHeartbeats 4000000 in
set_option maxRecDepth 100000 in
theorem lpW_Model_isEdge_47 {p : Program} {l : Launch} {e : Env} {s : State} {m : MethodId} {args : Array Value} {below : List Frame} {meth : Method} {c : Code} {Q : State → Prop} {dC : Nat → ClassId} {dI : Nat → Nat → Nat} {a : Nat → Nat} {cs : Nat → ClassId} {H : Heap} {locs : List Loc} (C0 : Cx "BlockRulerModel" b_Model_isEdge 6 p s m args meth c) (hK : va_K (dC, dI) classes (tyM cs) s) (hN : NW s) : ∀ (n : Nat) (σ : SM) (v1 : Int32) (v2 : Int32) (v3 : Int32) (v4 : Int32) (v5 : Int32) (y : Int32 × Int32), lp_Model_isEdge_47 n σ v1 v2 v3 v4 v5 = some y → va_P (dC, dI) classes (wsM a cs σ) H → ∀ (ls : Array Slot), lv_has ls 6 [(0, .ref (a 0)), (1, .int v1), (2, .int v2), (3, .int v3), (4, .int v4), (5, .int v5)] → (∀ (ls : Array Slot), lv_has ls 6 [(0, .ref (a 0)), (1, .int v1), (2, .int v2), (3, .int y.1), (4, .int v4), (5, .int y.2)] → W p l e (headSpec w_Model_isEdge rm_Model_isEdge).room s m args below meth c H locs 0 0 Q (F0 m 107 ls [])) → W p l e (headSpec w_Model_isEdge rm_Model_isEdge).room s m args below meth c H locs 0 0 Q (F0 m 47 ls []) := by
  have C1 := C0
  obtain ⟨hx, hb, hml, hown, hg, hlocks⟩ := C1
  intro n
  induction n with
  | zero => intro σ v1 v2 v3 v4 v5 y h; exact absurd (show (none : Option (Int32 × Int32)) = some y from h) (fun q => by cases q)
  | succ n ih =>
    intro σ v1 v2 v3 v4 v5 y h hP ls hl k0
    rw [lp_Model_isEdge_47_s] at h
    refine lv_iload hx hb d_Model_isEdge_47 (lv_at hl 5 rfl) ?_
    refine lv_aload_n hx hb d_Model_isEdge_49 rfl (lv_at hl 0 rfl) ?_
    refine va_get (D := (dC, dI)) (ci := 5) (v := .ref (a 1)) (C := "BlockRulerModel") (T := F_Model) (N := 16) hx hb hg i_Model hown hK hP 0 rfl rfl 2 (by decide) (hg _ wd217) (fun _ h9 => h9) rfl d_Model_isEdge_50 ?_
    refine lv_iload hx hb d_Model_isEdge_53 (lv_at hl 4 rfl) ?_
    obtain ⟨hi5, h⟩ := gd h
    refine va_iald (f := sM_many σ) (n := 64) hx hb hK hP 1 0 rfl rfl hi5 d_Model_isEdge_55 ?_
    refine lv_icmp_ge (tgt := 107) hx hb d_Model_isEdge_56 (by decide) (fun c6 => ?_) (fun c6 => ?_)
    · have h := b_t h c6
      obtain rfl := Option.some.inj h
      exact k0 ls (lv_sub hl [0, 1, 2, 3, 4, 5] rfl)
    · have h := b_f h c6
      refine lv_iload_n hx hb d_Model_isEdge_59 rfl (lv_at hl 3 rfl) ?_
      refine lv_if_ne (tgt := 95) hx hb d_Model_isEdge_60 (by decide) (fun c7 => ?_) (fun c7 => ?_)
      · have h := b_f h c7
        refine lv_iconst (v := 1) hx hb d_Model_isEdge_95 (by decide) ?_
        refine lv_goto (tgt := 100) hx hb d_Model_isEdge_96 (by decide) ?_
        refine lv_istore_n (lv' := [(3, .int 1), (0, .ref (a 0)), (1, .int v1), (2, .int v2), (4, .int v4), (5, .int v5)]) hx hb d_Model_isEdge_100 rfl hl (by decide) rfl (fun ls hl => ?_)
        refine lv_iinc (v := v5 + 1) (lv' := [(5, .int (v5 + 1)), (3, .int 1), (0, .ref (a 0)), (1, .int v1), (2, .int v2), (4, .int v4)]) hx hb d_Model_isEdge_101 hl (k := 5) rfl rfl (by decide) rfl (fun ls hl => ?_)
        refine lv_goto (tgt := 47) hx hb d_Model_isEdge_104 (by decide) ?_
        exact ih σ v1 v2 1 v4 (v5 + 1) y h hP ls (lv_sub hl [2, 3, 4, 1, 5, 0] rfl) k0
      · have h := b_t h c7
        refine lv_aload_n hx hb d_Model_isEdge_63 rfl (lv_at hl 0 rfl) ?_
        refine va_get (D := (dC, dI)) (ci := 5) (v := .ref (a 5)) (C := "BlockRulerModel") (T := F_Model) (N := 16) hx hb hg i_Model hown hK hP 0 rfl rfl 8 (by decide) (hg _ wd225) (fun _ h9 => h9) rfl d_Model_isEdge_64 ?_
        refine lv_bipush (v := 64) hx hb d_Model_isEdge_67 (by decide) ?_
        refine lv_iload_n hx hb d_Model_isEdge_69 rfl (lv_at hl 1 rfl) ?_
        refine lv_imul hx hb d_Model_isEdge_70 ?_
        refine lv_iload hx hb d_Model_isEdge_71 (lv_at hl 4 rfl) ?_
        refine lv_iadd hx hb d_Model_isEdge_73 ?_
        obtain ⟨hi8, h⟩ := gd h
        refine va_zald (f := sM_rules σ) (n := 4096) hx hb hK hP 5 4 rfl rfl hi8 d_Model_isEdge_74 ?_
        refine lv_if_eq (tgt := 99) hx hb d_Model_isEdge_75 (by decide) (fun c9 => ?_) (fun c9 => ?_)
        · have h := b_t h c9
          refine lv_iconst (v := 0) hx hb d_Model_isEdge_99 (by decide) ?_
          refine lv_istore_n (lv' := [(3, .int 0), (0, .ref (a 0)), (1, .int v1), (2, .int v2), (4, .int v4), (5, .int v5)]) hx hb d_Model_isEdge_100 rfl hl (by decide) rfl (fun ls hl => ?_)
          refine lv_iinc (v := v5 + 1) (lv' := [(5, .int (v5 + 1)), (3, .int 0), (0, .ref (a 0)), (1, .int v1), (2, .int v2), (4, .int v4)]) hx hb d_Model_isEdge_101 hl (k := 5) rfl rfl (by decide) rfl (fun ls hl => ?_)
          refine lv_goto (tgt := 47) hx hb d_Model_isEdge_104 (by decide) ?_
          exact ih σ v1 v2 0 v4 (v5 + 1) y h hP ls (lv_sub hl [2, 3, 4, 1, 5, 0] rfl) k0
        · have h := b_f h c9
          refine lv_aload_n hx hb d_Model_isEdge_78 rfl (lv_at hl 0 rfl) ?_
          refine va_get (D := (dC, dI)) (ci := 5) (v := .ref (a 2)) (C := "BlockRulerModel") (T := F_Model) (N := 16) hx hb hg i_Model hown hK hP 0 rfl rfl 3 (by decide) (hg _ wd219) (fun _ h9 => h9) rfl d_Model_isEdge_79 ?_
          refine lv_bipush (v := 8) hx hb d_Model_isEdge_82 (by decide) ?_
          refine lv_iload hx hb d_Model_isEdge_84 (lv_at hl 4 rfl) ?_
          refine lv_imul hx hb d_Model_isEdge_86 ?_
          refine lv_iload hx hb d_Model_isEdge_87 (lv_at hl 5 rfl) ?_
          refine lv_iadd hx hb d_Model_isEdge_89 ?_
          obtain ⟨hi10, h⟩ := gd h
          refine va_iald (f := sM_ends σ) (n := 512) hx hb hK hP 2 1 rfl rfl hi10 d_Model_isEdge_90 ?_
          refine lv_iload_n hx hb d_Model_isEdge_91 rfl (lv_at hl 2 rfl) ?_
          refine lv_icmp_ne (tgt := 99) hx hb d_Model_isEdge_92 (by decide) (fun c11 => ?_) (fun c11 => ?_)
          · have h := b_f h c11
            refine lv_iconst (v := 0) hx hb d_Model_isEdge_99 (by decide) ?_
            refine lv_istore_n (lv' := [(3, .int 0), (0, .ref (a 0)), (1, .int v1), (2, .int v2), (4, .int v4), (5, .int v5)]) hx hb d_Model_isEdge_100 rfl hl (by decide) rfl (fun ls hl => ?_)
            refine lv_iinc (v := v5 + 1) (lv' := [(5, .int (v5 + 1)), (3, .int 0), (0, .ref (a 0)), (1, .int v1), (2, .int v2), (4, .int v4)]) hx hb d_Model_isEdge_101 hl (k := 5) rfl rfl (by decide) rfl (fun ls hl => ?_)
            refine lv_goto (tgt := 47) hx hb d_Model_isEdge_104 (by decide) ?_
            exact ih σ v1 v2 0 v4 (v5 + 1) y h hP ls (lv_sub hl [2, 3, 4, 1, 5, 0] rfl) k0
          · have h := b_t h c11
            refine lv_iconst (v := 1) hx hb d_Model_isEdge_95 (by decide) ?_
            refine lv_goto (tgt := 100) hx hb d_Model_isEdge_96 (by decide) ?_
            refine lv_istore_n (lv' := [(3, .int 1), (0, .ref (a 0)), (1, .int v1), (2, .int v2), (4, .int v4), (5, .int v5)]) hx hb d_Model_isEdge_100 rfl hl (by decide) rfl (fun ls hl => ?_)
            refine lv_iinc (v := v5 + 1) (lv' := [(5, .int (v5 + 1)), (3, .int 1), (0, .ref (a 0)), (1, .int v1), (2, .int v2), (4, .int v4)]) hx hb d_Model_isEdge_101 hl (k := 5) rfl rfl (by decide) rfl (fun ls hl => ?_)
            refine lv_goto (tgt := 47) hx hb d_Model_isEdge_104 (by decide) ?_
            exact ih σ v1 v2 1 v4 (v5 + 1) y h hP ls (lv_sub hl [2, 3, 4, 1, 5, 0] rfl) k0
set_option maxHeartbeats 4000000 in
set_option maxRecDepth 100000 in
theorem lpW_Model_isEdge_35 {p : Program} {l : Launch} {e : Env} {s : State} {m : MethodId} {args : Array Value} {below : List Frame} {meth : Method} {c : Code} {Q : State → Prop} {dC : Nat → ClassId} {dI : Nat → Nat → Nat} {a : Nat → Nat} {cs : Nat → ClassId} {H : Heap} {locs : List Loc} (C0 : Cx "BlockRulerModel" b_Model_isEdge 6 p s m args meth c) (hK : va_K (dC, dI) classes (tyM cs) s) (hN : NW s) : ∀ (n : Nat) (σ : SM) (v1 : Int32) (v2 : Int32) (v3 : Int32) (v4 : Int32) (y : Int32 × Int32), lp_Model_isEdge_35 n σ v1 v2 v3 v4 = some y → va_P (dC, dI) classes (wsM a cs σ) H → ∀ (ls : Array Slot), lv_has ls 6 [(0, .ref (a 0)), (1, .int v1), (2, .int v2), (3, .int v3), (4, .int v4)] → (∀ (ls : Array Slot), lv_has ls 6 [(0, .ref (a 0)), (1, .int v1), (2, .int v2), (3, .int y.1), (4, .int y.2)] → W p l e (headSpec w_Model_isEdge rm_Model_isEdge).room s m args below meth c H locs 0 0 Q (F0 m 113 ls [])) → W p l e (headSpec w_Model_isEdge rm_Model_isEdge).room s m args below meth c H locs 0 0 Q (F0 m 35 ls []) := by
  have C1 := C0
  obtain ⟨hx, hb, hml, hown, hg, hlocks⟩ := C1
  intro n
  induction n with
  | zero => intro σ v1 v2 v3 v4 y h; exact absurd (show (none : Option (Int32 × Int32)) = some y from h) (fun q => by cases q)
  | succ n ih =>
    intro σ v1 v2 v3 v4 y h hP ls hl k0
    rw [lp_Model_isEdge_35_s] at h
    refine lv_iload hx hb d_Model_isEdge_35 (lv_at hl 4 rfl) ?_
    refine lv_aload_n hx hb d_Model_isEdge_37 rfl (lv_at hl 0 rfl) ?_
    refine va_get (D := (dC, dI)) (ci := 5) (v := .int (sM_blocks σ)) (C := "BlockRulerModel") (T := F_Model) (N := 16) hx hb hg i_Model hown hK hP 0 rfl rfl 1 (by decide) (hg _ wd211) (fun _ h9 => h9) rfl d_Model_isEdge_38 ?_
    refine lv_icmp_ge (tgt := 113) hx hb d_Model_isEdge_41 (by decide) (fun c4 => ?_) (fun c4 => ?_)
    · have h := b_t h c4
      obtain rfl := Option.some.inj h
      exact k0 ls (lv_sub hl [0, 1, 2, 3, 4] rfl)
    · have h := b_f h c4
      refine lv_iconst (v := 0) hx hb d_Model_isEdge_44 (by decide) ?_
      refine lv_istore (lv' := [(5, .int 0), (0, .ref (a 0)), (1, .int v1), (2, .int v2), (3, .int v3), (4, .int v4)]) hx hb d_Model_isEdge_45 hl (by decide) rfl (fun ls hl => ?_)
      obtain ⟨y12, hy12, h⟩ := bd h
      refine lpW_Model_isEdge_47 C0 hK hN 100 σ v1 v2 v3 v4 0 y12 hy12 hP ls (lv_sub hl [1, 2, 3, 4, 5, 0] rfl) (fun ls hl => ?_)
      refine lv_iinc (v := v4 + 1) (lv' := [(4, .int (v4 + 1)), (0, .ref (a 0)), (1, .int v1), (2, .int v2), (3, .int y12.1), (5, .int y12.2)]) hx hb d_Model_isEdge_107 hl (k := 4) rfl rfl (by decide) rfl (fun ls hl => ?_)
      refine lv_goto (tgt := 35) hx hb d_Model_isEdge_110 (by decide) ?_
      exact ih σ v1 v2 y12.1 (v4 + 1) y h hP ls (lv_sub hl [1, 2, 3, 4, 0] rfl) k0
set_option maxHeartbeats 4000000 in
set_option maxRecDepth 100000 in
theorem c_Model_isEdge (l : Launch) (dC : Nat → ClassId) (dI : Nat → Nat → Nat) (a : Nat → Nat) (cs : Nat → ClassId) (σ : SM) (v1 : Int32) (v2 : Int32) (r : Int32) (h : f_Model_isEdge σ v1 v2 = some r) : Met l y_Model_isEdge w_Model_isEdge rm_Model_isEdge (va_Pc [.ref (a 0), .int v1, .int v2] (WBM dC dI a cs σ)) (QcV (.int r)) 0 0 (fun _ => False) := by
  refine Met.ofW (cc := b_Model_isEdge) (maxL := 6) (ret := (some .boolean)) (by decide) rfl ?_
  intro p e s m args below meth c s₁ B hml hv
  obtain ⟨rfl, hP, hK, hN⟩ := hv
  have hx := B.exec
  have hb := B.bytes
  have hr := B.returns
  have hg : ∀ w ∈ G_, w.before _ s = true := fun w hw => atoms_spec (ws := w_Model_isEdge) B.pre w (List.mem_cons_of_mem _ hw)
  have hown : s.vm.findClass "BlockRulerModel" = some m.cls := findClass_of_methodNamed B.named
  have hlocks := B.notSynchronized
  have C0 : Cx "BlockRulerModel" b_Model_isEdge 6 p s m _ meth c := ⟨hx, hb, hml, hown, hg, hlocks⟩
  have hl := lv_entry ([.ref (a 0), .int v1, .int v2]) (n := 6) (Nat.le_of_ble_eq_true rfl)
  rw [lg_entry_eq]
  generalize (lg_sl ([.ref (a 0), .int v1, .int v2]) ++ List.replicate (6 - (lg_sl ([.ref (a 0), .int v1, .int v2])).length) Slot.unset).toArray = ls at hl ⊢
  have hl : lv_has ls 6 [(0, .ref (a 0)), (1, .int v1), (2, .int v2)] := hl
  unfold f_Model_isEdge at h
  refine lv_aload_n hx hb d_Model_isEdge_0 rfl (lv_at hl 0 rfl) ?_
  refine va_get (D := (dC, dI)) (ci := 5) (v := .ref (a 3)) (C := "BlockRulerModel") (T := F_Model) (N := 16) hx hb hg i_Model hown hK hP 0 rfl rfl 6 (by decide) (hg _ wd224) (fun _ h9 => h9) rfl d_Model_isEdge_1 ?_
  refine lv_iload_n hx hb d_Model_isEdge_4 rfl (lv_at hl 2 rfl) ?_
  obtain ⟨hi1, h⟩ := gd h
  refine va_iald (f := sM_order σ) (n := 64) hx hb hK hP 3 2 rfl rfl hi1 d_Model_isEdge_5 ?_
  refine lv_if_lt (tgt := 28) hx hb d_Model_isEdge_6 (by decide) (fun c2 => ?_) (fun c2 => ?_)
  · have h := b_t h c2
    refine lv_iconst (v := 0) hx hb d_Model_isEdge_28 (by decide) ?_
    exact W.zret (v := 0) (ty := .boolean) hx hb hr rfl (fun t ht _ => ⟨by rw [Option.some.inj h], ht⟩) (fun q hq => by cases hq) d_Model_isEdge_29
  · have h := b_f h c2
    refine lv_iload_n hx hb d_Model_isEdge_9 rfl (lv_at hl 2 rfl) ?_
    refine lv_iload_n hx hb d_Model_isEdge_10 rfl (lv_at hl 1 rfl) ?_
    refine lv_icmp_eq (tgt := 30) hx hb d_Model_isEdge_11 (by decide) (fun c3 => ?_) (fun c3 => ?_)
    · have h := b_t h c3
      refine lv_iconst (v := 0) hx hb d_Model_isEdge_30 (by decide) ?_
      refine lv_istore_n (lv' := [(3, .int 0), (0, .ref (a 0)), (1, .int v1), (2, .int v2)]) hx hb d_Model_isEdge_31 rfl hl (by decide) rfl (fun ls hl => ?_)
      refine lv_iconst (v := 0) hx hb d_Model_isEdge_32 (by decide) ?_
      refine lv_istore (lv' := [(4, .int 0), (3, .int 0), (0, .ref (a 0)), (1, .int v1), (2, .int v2)]) hx hb d_Model_isEdge_33 hl (by decide) rfl (fun ls hl => ?_)
      obtain ⟨y13, hy13, h⟩ := bd h
      refine lpW_Model_isEdge_35 C0 hK hN 100 σ v1 v2 0 0 y13 hy13 hP ls (lv_sub hl [2, 3, 4, 1, 0] rfl) (fun ls hl => ?_)
      refine lv_iload_n hx hb d_Model_isEdge_113 rfl (lv_at hl 3 rfl) ?_
      obtain ⟨hz14, h⟩ := gz h
      exact W.zret (v := y13.1) (ty := .boolean) hx hb hr hz14 (fun t ht _ => ⟨by rw [Option.some.inj h], ht⟩) (fun q hq => by cases hq) d_Model_isEdge_114
    · have h := b_f h c3
      refine lv_aload_n hx hb d_Model_isEdge_14 rfl (lv_at hl 0 rfl) ?_
      refine va_get (D := (dC, dI)) (ci := 5) (v := .ref (a 5)) (C := "BlockRulerModel") (T := F_Model) (N := 16) hx hb hg i_Model hown hK hP 0 rfl rfl 8 (by decide) (hg _ wd225) (fun _ h9 => h9) rfl d_Model_isEdge_15 ?_
      refine lv_bipush (v := 64) hx hb d_Model_isEdge_18 (by decide) ?_
      refine lv_iload_n hx hb d_Model_isEdge_20 rfl (lv_at hl 1 rfl) ?_
      refine lv_imul hx hb d_Model_isEdge_21 ?_
      refine lv_iload_n hx hb d_Model_isEdge_22 rfl (lv_at hl 2 rfl) ?_
      refine lv_iadd hx hb d_Model_isEdge_23 ?_
      obtain ⟨hi15, h⟩ := gd h
      refine va_zald (f := sM_rules σ) (n := 4096) hx hb hK hP 5 4 rfl rfl hi15 d_Model_isEdge_24 ?_
      refine lv_if_eq (tgt := 30) hx hb d_Model_isEdge_25 (by decide) (fun c16 => ?_) (fun c16 => ?_)
      · have h := b_t h c16
        refine lv_iconst (v := 0) hx hb d_Model_isEdge_30 (by decide) ?_
        refine lv_istore_n (lv' := [(3, .int 0), (0, .ref (a 0)), (1, .int v1), (2, .int v2)]) hx hb d_Model_isEdge_31 rfl hl (by decide) rfl (fun ls hl => ?_)
        refine lv_iconst (v := 0) hx hb d_Model_isEdge_32 (by decide) ?_
        refine lv_istore (lv' := [(4, .int 0), (3, .int 0), (0, .ref (a 0)), (1, .int v1), (2, .int v2)]) hx hb d_Model_isEdge_33 hl (by decide) rfl (fun ls hl => ?_)
        obtain ⟨y17, hy17, h⟩ := bd h
        refine lpW_Model_isEdge_35 C0 hK hN 100 σ v1 v2 0 0 y17 hy17 hP ls (lv_sub hl [2, 3, 4, 1, 0] rfl) (fun ls hl => ?_)
        refine lv_iload_n hx hb d_Model_isEdge_113 rfl (lv_at hl 3 rfl) ?_
        obtain ⟨hz18, h⟩ := gz h
        exact W.zret (v := y17.1) (ty := .boolean) hx hb hr hz18 (fun t ht _ => ⟨by rw [Option.some.inj h], ht⟩) (fun q hq => by cases hq) d_Model_isEdge_114
      · have h := b_f h c16
        refine lv_iconst (v := 0) hx hb d_Model_isEdge_28 (by decide) ?_
        exact W.zret (v := 0) (ty := .boolean) hx hb hr rfl (fun t ht _ => ⟨by rw [Option.some.inj h], ht⟩) (fun q hq => by cases hq) d_Model_isEdge_29
set_option maxHeartbeats 4000000 in
set_option maxRecDepth 100000 in
theorem lpW_Model_edge_28 {p : Program} {l : Launch} {e : Env} {s : State} {m : MethodId} {args : Array Value} {below : List Frame} {meth : Method} {c : Code} {Q : State → Prop} {dC : Nat → ClassId} {dI : Nat → Nat → Nat} {a : Nat → Nat} {cs : Nat → ClassId} {H : Heap} {locs : List Loc} (C0 : Cx "BlockRulerModel" b_Model_edge 5 p s m args meth c) (hK : va_K (dC, dI) classes (tyM cs) s) (hN : NW s) : ∀ (n : Nat) (σ : SM) (v1 : Int32) (v3 : Int32) (v4 : Int32) (y : Sum (Int32 × Int32) (Int32 × Int32)), lp_Model_edge_28 n σ v1 v3 v4 = some y → va_P (dC, dI) classes (wsM a cs σ) H → ∀ (ls : Array Slot), lv_has ls 5 [(0, .ref (a 0)), (1, .int v1), (3, .int v3), (4, .int v4)] → (∀ (z : Int32 × Int32), y = Sum.inl z → ∀ (ls : Array Slot), lv_has ls 5 [(0, .ref (a 0)), (1, .int v1), (3, .int z.1), (4, .int z.2)] → W p l e (headSpec w_Model_edge rm_Model_edge).room s m args below meth c H locs 0 0 Q (F0 m 66 ls [])) → (∀ (z : Int32 × Int32), y = Sum.inr z → ∀ (ls : Array Slot), lv_has ls 5 [(0, .ref (a 0)), (1, .int v1), (3, .int z.1), (4, .int z.2)] → W p l e (headSpec w_Model_edge rm_Model_edge).room s m args below meth c H locs 0 0 Q (F0 m 54 ls [])) → W p l e (headSpec w_Model_edge rm_Model_edge).room s m args below meth c H locs 0 0 Q (F0 m 28 ls []) := by
  have C1 := C0
  obtain ⟨hx, hb, hml, hown, hg, hlocks⟩ := C1
  intro n
  induction n with
  | zero => intro σ v1 v3 v4 y h; exact absurd (show (none : Option (Sum (Int32 × Int32) (Int32 × Int32))) = some y from h) (fun q => by cases q)
  | succ n ih =>
    intro σ v1 v3 v4 y h hP ls hl k0 k1
    rw [lp_Model_edge_28_s] at h
    refine lv_iload hx hb d_Model_edge_28 (lv_at hl 3 rfl) ?_
    refine lv_aload_n hx hb d_Model_edge_30 rfl (lv_at hl 0 rfl) ?_
    refine va_get (D := (dC, dI)) (ci := 5) (v := .int (sM_blocks σ)) (C := "BlockRulerModel") (T := F_Model) (N := 16) hx hb hg i_Model hown hK hP 0 rfl rfl 1 (by decide) (hg _ wd211) (fun _ h9 => h9) rfl d_Model_edge_31 ?_
    refine lv_icmp_ge (tgt := 66) hx hb d_Model_edge_34 (by decide) (fun c4 => ?_) (fun c4 => ?_)
    · have h := b_t h c4
      obtain rfl := Option.some.inj h
      exact k0 ((v3, v4)) rfl ls (lv_sub hl [0, 1, 2, 3] rfl)
    · have h := b_f h c4
      refine lv_aload_n hx hb d_Model_edge_37 rfl (lv_at hl 0 rfl) ?_
      refine lv_iload_n hx hb d_Model_edge_38 rfl (lv_at hl 1 rfl) ?_
      refine lv_iload hx hb d_Model_edge_39 (lv_at hl 3 rfl) ?_
      obtain ⟨r5, hr5, h⟩ := bd h
      refine ro_call (v := .int r5) (va_runV (C := "BlockRulerModel") (As := [.int v1, .int v4]) (rest := []) ⟨hx, hb, hml, hown, hg⟩ (c_Model_isEdge l dC dI a cs σ v1 v4 _ hr5) (cwV 2 hg (gdV wd269 wd268 wd267 wd215 wd270) rfl rfl rfl (by decide +kernel) ⟨Nat.le_of_ble_eq_true rfl, Nat.le_of_ble_eq_true rfl⟩) ⟨wb_blind, va_recv hK hP (ci := 5) (q0 := 0) rfl rfl, fun U hU hW => ⟨rfl, wb_pre hU hW hP hK hN⟩⟩ rfl rfl hl.1 rfl (lv_room (Nat.le_of_ble_eq_true rfl)) d_Model_edge_41 ⟨Nat.zero_le _, Nat.zero_le _⟩) ?_
      refine lv_if_ne (tgt := 50) hx hb d_Model_edge_44 (by decide) (fun c6 => ?_) (fun c6 => ?_)
      · have h := b_f h c6
        refine lv_iload_n hx hb d_Model_edge_50 rfl (lv_at hl 2 rfl) ?_
        refine lv_if_ne (tgt := 57) hx hb d_Model_edge_51 (by decide) (fun c7 => ?_) (fun c7 => ?_)
        · have h := b_f h c7
          refine lv_iinc (v := v3 + (-1)) (lv' := [(3, .int (v3 + (-1))), (0, .ref (a 0)), (1, .int v1), (4, .int v4)]) hx hb d_Model_edge_57 hl (k := 2) rfl rfl (by decide) rfl (fun ls hl => ?_)
          refine lv_iinc (v := v4 + 1) (lv' := [(4, .int (v4 + 1)), (3, .int (v3 + (-1))), (0, .ref (a 0)), (1, .int v1)]) hx hb d_Model_edge_60 hl (k := 3) rfl rfl (by decide) rfl (fun ls hl => ?_)
          refine lv_goto (tgt := 28) hx hb d_Model_edge_63 (by decide) ?_
          exact ih σ v1 (v3 + (-1)) (v4 + 1) y h hP ls (lv_sub hl [2, 3, 1, 0] rfl) k0 k1
        · have h := b_t h c7
          obtain rfl := Option.some.inj h
          exact k1 ((v3, v4)) rfl ls (lv_sub hl [0, 1, 2, 3] rfl)
      · have h := b_t h c6
        refine lv_goto (tgt := 60) hx hb d_Model_edge_47 (by decide) ?_
        refine lv_iinc (v := v4 + 1) (lv' := [(4, .int (v4 + 1)), (0, .ref (a 0)), (1, .int v1), (3, .int v3)]) hx hb d_Model_edge_60 hl (k := 3) rfl rfl (by decide) rfl (fun ls hl => ?_)
        refine lv_goto (tgt := 28) hx hb d_Model_edge_63 (by decide) ?_
        exact ih σ v1 v3 (v4 + 1) y h hP ls (lv_sub hl [1, 2, 3, 0] rfl) k0 k1
set_option maxHeartbeats 4000000 in
set_option maxRecDepth 100000 in
theorem c_Model_edge (l : Launch) (dC : Nat → ClassId) (dI : Nat → Nat → Nat) (a : Nat → Nat) (cs : Nat → ClassId) (sz : Nat) (σ : SM) (v1 : Int32) (v2 : Int32) (r : Int32 × SM) (h : f_Model_edge σ v1 v2 = some r) : Met l y_Model_edge w_Model_edge rm_Model_edge (va_Pc [.ref (a 0), .int v1, .int v2] (fun U => U.heap.size = sz ∧ WDM dC dI a cs σ U)) (va_Qi (fun (x : Int32) (u : SM) => (x, u) = r) (atM dC dI a cs (va_A (wsM a cs σ) sz)) (va_A (wsM a cs σ) sz)) 0 0 (va_A (wsM a cs σ) sz) := by
  refine Met.ofW (cc := b_Model_edge) (maxL := 5) (ret := (some .int)) (by decide) rfl ?_
  intro p e s m args below meth c s₁ B hml hv
  obtain ⟨rfl, hsz, hP, hK, hN, hD0⟩ := hv
  have hx := B.exec
  have hb := B.bytes
  have hr := B.returns
  have hg : ∀ w ∈ G_, w.before _ s = true := fun w hw => atoms_spec (ws := w_Model_edge) B.pre w (List.mem_cons_of_mem _ hw)
  have hown : s.vm.findClass "BlockRulerModel" = some m.cls := findClass_of_methodNamed B.named
  have hlocks := B.notSynchronized
  have C0 : Cx "BlockRulerModel" b_Model_edge 5 p s m _ meth c := ⟨hx, hb, hml, hown, hg, hlocks⟩
  subst hsz
  have hD := hD0.self (sz := s.heap.size)
  generalize hAe : va_A (wsM a cs σ) s.heap.size = A at hD ⊢
  have hA : ∀ q : Nat, s.heap.size ≤ q → A q := fun q h => by rw [← hAe]; exact Or.inr h
  have hS : va_S A s.heap s.heap [] := va_S.rf
  have hl := lv_entry ([.ref (a 0), .int v1, .int v2]) (n := 5) (Nat.le_of_ble_eq_true rfl)
  rw [lg_entry_eq]
  generalize (lg_sl ([.ref (a 0), .int v1, .int v2]) ++ List.replicate (5 - (lg_sl ([.ref (a 0), .int v1, .int v2])).length) Slot.unset).toArray = ls at hl ⊢
  have hl : lv_has ls 5 [(0, .ref (a 0)), (1, .int v1), (2, .int v2)] := hl
  unfold f_Model_edge at h
  refine lv_aload_n hx hb d_Model_edge_0 rfl (lv_at hl 0 rfl) ?_
  refine lv_iconst (v := 0) hx hb d_Model_edge_1 (by decide) ?_
  refine va_put (D := (dC, dI)) (ci := 5) (v := .int 0) (ty := .int) (C := "BlockRulerModel") (T := F_Model) (N := 16) hx hb hg i_Model t_Model t_Model_ok n_Model hown hK hP hD hS 0 rfl rfl 0 (by decide) (hg _ wd210) (fun _ h9 => h9) rfl (by decide +kernel) rfl rfl (Nat.le_of_ble_eq_true rfl) d_Model_edge_2 (fun H locs hP hD hS => ?_)
  have hP := va_Pe (setM_thrown a cs σ 0) hP
  have hD := va_De (setM_thrown a cs σ 0) hD
  refine lv_aload_n hx hb d_Model_edge_5 rfl (lv_at hl 0 rfl) ?_
  obtain ⟨r1, hr1, h⟩ := bd h
  have hFc := va_free (wc := wsM a cs (uM_thrown σ 0)) hD hS hA [0, 1, 2, 3, 4, 5, 6, 7, 8, 9, 10, 11, 12] (allM a cs (uM_thrown σ 0))
  refine va_callv (va_runV (C := "BlockRulerModel") (As := []) (rest := []) ⟨hx, hb, hml, hown, hg⟩ (c_Model_reckon l dC dI a cs _ (uM_thrown σ 0) _ hr1) (cwV 0 hg (gdV wd253 wd252 wd251 wd215 wd254) rfl rfl rfl (by decide +kernel) ⟨Nat.le_of_ble_eq_true rfl, Nat.le_of_ble_eq_true rfl⟩) ⟨wbz_blind, va_recv hK hP (ci := 5) (q0 := 0) rfl rfl, fun U hU hW => ⟨rfl, by rw [hU], wb_preD hU hW hP hK hN hD⟩⟩ rfl rfl hl.1 rfl (lv_room (Nat.le_of_ble_eq_true rfl)) d_Model_edge_6 ⟨Nat.zero_le _, Nat.zero_le _⟩) hS (fun q _ h => hFc q h) hFc (fun u t H locs ht hvm hw hB hz1 hk1 hS => ?_)
  obtain rfl : r1 = u := hw.symm
  have hP : va_P (dC, dI) classes (wsM a cs r1) H := by have q := hB.1; rw [ht] at q; exact q
  have hD : va_D A (wsM a cs r1) := hB.2.weaken (fun _ _ _ h => hFc _ h)
  refine lv_aload_n hx hb d_Model_edge_9 rfl (lv_at hl 0 rfl) ?_
  refine lv_iload_n hx hb d_Model_edge_10 rfl (lv_at hl 1 rfl) ?_
  refine ro_call (v := .int (f_Model_isBlock r1 v1)) (va_runV (C := "BlockRulerModel") (As := [.int v1]) (rest := []) ⟨hx, hb, hml, hown, hg⟩ (c_Model_isBlock l dC dI a cs r1 v1 _ rfl) (cwV 1 hg (gdV wd214 wd213 wd212 wd215 wd216) rfl rfl rfl (by decide +kernel) ⟨Nat.le_of_ble_eq_true rfl, Nat.le_of_ble_eq_true rfl⟩) ⟨wb_blind, va_recv hK hP (ci := 5) (q0 := 0) rfl rfl, fun U hU hW => ⟨rfl, wb_pre hU hW hP hK hN⟩⟩ rfl rfl hl.1 rfl (lv_room (Nat.le_of_ble_eq_true rfl)) d_Model_edge_11 ⟨Nat.zero_le _, Nat.zero_le _⟩) ?_
  refine lv_if_eq (tgt := 21) hx hb d_Model_edge_14 (by decide) (fun c2 => ?_) (fun c2 => ?_)
  · have h := b_t h c2
    refine lv_iconst (v := -1) hx hb d_Model_edge_21 (by decide) ?_
    exact W.iret (v := -1) hx hb hr (fun t ht hW => ⟨⟨-1, r1, rfl, Option.some.inj h, by rw [ht]; exact hP, hD⟩, hS.F ht⟩) hS.2.2 d_Model_edge_22
  · have h := b_f h c2
    refine lv_iload_n hx hb d_Model_edge_17 rfl (lv_at hl 2 rfl) ?_
    refine lv_if_ge (tgt := 23) hx hb d_Model_edge_18 (by decide) (fun c3 => ?_) (fun c3 => ?_)
    · have h := b_t h c3
      refine lv_iload_n hx hb d_Model_edge_23 rfl (lv_at hl 2 rfl) ?_
      refine lv_istore_n (lv' := [(3, .int v2), (0, .ref (a 0)), (1, .int v1), (2, .int v2)]) hx hb d_Model_edge_24 rfl hl (by decide) rfl (fun ls hl => ?_)
      refine lv_iconst (v := 0) hx hb d_Model_edge_25 (by decide) ?_
      refine lv_istore (lv' := [(4, .int 0), (3, .int v2), (0, .ref (a 0)), (1, .int v1), (2, .int v2)]) hx hb d_Model_edge_26 hl (by decide) rfl (fun ls hl => ?_)
      obtain ⟨y8, hy8, h⟩ := bd h
      refine lpW_Model_edge_28 C0 hK hN 100 r1 v1 v2 0 y8 hy8 hP ls (lv_sub hl [2, 3, 1, 0] rfl) (fun z9 ez9 ls hl => ?_) (fun z10 ez10 ls hl => ?_)
      · subst ez9
        have h := s_l h
        refine lv_iconst (v := -1) hx hb d_Model_edge_66 (by decide) ?_
        exact W.iret (v := -1) hx hb hr (fun t ht hW => ⟨⟨-1, r1, rfl, Option.some.inj h, by rw [ht]; exact hP, hD⟩, hS.F ht⟩) hS.2.2 d_Model_edge_67
      · subst ez10
        have h := s_r h
        refine lv_iload hx hb d_Model_edge_54 (lv_at hl 3 rfl) ?_
        exact W.iret (v := z10.2) hx hb hr (fun t ht hW => ⟨⟨z10.2, r1, rfl, Option.some.inj h, by rw [ht]; exact hP, hD⟩, hS.F ht⟩) hS.2.2 d_Model_edge_56
    · have h := b_f h c3
      refine lv_iconst (v := -1) hx hb d_Model_edge_21 (by decide) ?_
      exact W.iret (v := -1) hx hb hr (fun t ht hW => ⟨⟨-1, r1, rfl, Option.some.inj h, by rw [ht]; exact hP, hD⟩, hS.F ht⟩) hS.2.2 d_Model_edge_22
set_option maxHeartbeats 4000000 in
set_option maxRecDepth 100000 in
theorem lpW_Model_count_89 {p : Program} {l : Launch} {e : Env} {s : State} {m : MethodId} {args : Array Value} {below : List Frame} {meth : Method} {c : Code} {Q : State → Prop} {dC : Nat → ClassId} {dI : Nat → Nat → Nat} {a : Nat → Nat} {cs : Nat → ClassId} {H : Heap} {locs : List Loc} (C0 : Cx "BlockRulerModel" b_Model_count 9 p s m args meth c) (hK : va_K (dC, dI) classes (tyM cs) s) (hN : NW s) : ∀ (n : Nat) (σ : SM) (v1 : Int32) (v2 : Int32) (v3 : Int32) (v4 : Int32) (v5 : Int32) (v6 : Int32) (v7 : Int32) (v8 : Int32) (y : Int32 × Int32 × Int32), lp_Model_count_89 n σ v1 v2 v3 v4 v5 v6 v7 v8 = some y → va_P (dC, dI) classes (wsM a cs σ) H → ∀ (ls : Array Slot), lv_has ls 9 [(0, .ref (a 0)), (1, .int v1), (2, .int v2), (3, .int v3), (4, .int v4), (5, .int v5), (6, .int v6), (7, .int v7), (8, .int v8)] → (∀ (ls : Array Slot), lv_has ls 9 [(0, .ref (a 0)), (1, .int v1), (2, .int v2), (3, .int v3), (4, .int y.1), (5, .int y.2.1), (6, .int v6), (7, .int v7), (8, .int y.2.2)] → W p l e (headSpec w_Model_count rm_Model_count).room s m args below meth c H locs 0 0 Q (F0 m 150 ls [])) → W p l e (headSpec w_Model_count rm_Model_count).room s m args below meth c H locs 0 0 Q (F0 m 89 ls []) := by
  have C1 := C0
  obtain ⟨hx, hb, hml, hown, hg, hlocks⟩ := C1
  intro n
  induction n with
  | zero => intro σ v1 v2 v3 v4 v5 v6 v7 v8 y h; exact absurd (show (none : Option (Int32 × Int32 × Int32)) = some y from h) (fun q => by cases q)
  | succ n ih =>
    intro σ v1 v2 v3 v4 v5 v6 v7 v8 y h hP ls hl k0
    rw [lp_Model_count_89_s] at h
    refine lv_iload hx hb d_Model_count_89 (lv_at hl 8 rfl) ?_
    refine lv_aload_n hx hb d_Model_count_91 rfl (lv_at hl 0 rfl) ?_
    refine va_get (D := (dC, dI)) (ci := 5) (v := .ref (a 1)) (C := "BlockRulerModel") (T := F_Model) (N := 16) hx hb hg i_Model hown hK hP 0 rfl rfl 2 (by decide) (hg _ wd217) (fun _ h9 => h9) rfl d_Model_count_92 ?_
    refine lv_iload hx hb d_Model_count_95 (lv_at hl 7 rfl) ?_
    obtain ⟨hi8, h⟩ := gd h
    refine va_iald (f := sM_many σ) (n := 64) hx hb hK hP 1 0 rfl rfl hi8 d_Model_count_97 ?_
    refine lv_icmp_ge (tgt := 150) hx hb d_Model_count_98 (by decide) (fun c9 => ?_) (fun c9 => ?_)
    · have h := b_t h c9
      obtain rfl := Option.some.inj h
      exact k0 ls (lv_sub hl [0, 1, 2, 3, 4, 5, 6, 7, 8] rfl)
    · have h := b_f h c9
      refine lv_iload hx hb d_Model_count_101 (lv_at hl 4 rfl) ?_
      refine lv_aload_n hx hb d_Model_count_103 rfl (lv_at hl 0 rfl) ?_
      refine lv_iload hx hb d_Model_count_104 (lv_at hl 7 rfl) ?_
      refine lv_iload hx hb d_Model_count_106 (lv_at hl 8 rfl) ?_
      obtain ⟨r10, hr10, h⟩ := bd h
      refine ro_call (v := .int r10) (va_runV (C := "BlockRulerModel") (As := [.int v7, .int v8]) (rest := [.int v4]) ⟨hx, hb, hml, hown, hg⟩ (c_Model_sortOf l dC dI a cs σ v7 v8 _ hr10) (cwV 2 hg (gdV wd234 wd233 wd232 wd215 wd235) rfl rfl rfl (by decide +kernel) ⟨Nat.le_of_ble_eq_true rfl, Nat.le_of_ble_eq_true rfl⟩) ⟨wb_blind, va_recv hK hP (ci := 5) (q0 := 0) rfl rfl, fun U hU hW => ⟨rfl, wb_pre hU hW hP hK hN⟩⟩ rfl rfl hl.1 rfl (lv_room (Nat.le_of_ble_eq_true rfl)) d_Model_count_108 ⟨Nat.zero_le _, Nat.zero_le _⟩) ?_
      refine lv_if_le (tgt := 118) hx hb d_Model_count_111 (by decide) (fun c11 => ?_) (fun c11 => ?_)
      · have h := b_t h c11
        refine lv_iconst (v := 0) hx hb d_Model_count_118 (by decide) ?_
        refine lv_iadd hx hb d_Model_count_119 ?_
        refine lv_istore (lv' := [(4, .int (v4 + 0)), (0, .ref (a 0)), (1, .int v1), (2, .int v2), (3, .int v3), (5, .int v5), (6, .int v6), (7, .int v7), (8, .int v8)]) hx hb d_Model_count_120 hl (by decide) rfl (fun ls hl => ?_)
        refine lv_iload hx hb d_Model_count_122 (lv_at hl 5 rfl) ?_
        refine lv_aload_n hx hb d_Model_count_124 rfl (lv_at hl 1 rfl) ?_
        refine lv_iload hx hb d_Model_count_125 (lv_at hl 7 rfl) ?_
        refine lv_iload hx hb d_Model_count_127 (lv_at hl 8 rfl) ?_
        obtain ⟨r12, hr12, h⟩ := bd h
        refine ro_call (v := .int r12) (va_runV (C := "BlockRulerModel") (As := [.int v7, .int v8]) (rest := [.int v5]) ⟨hx, hb, hml, hown, hg⟩ (c_Model_sortOf l dC dI a cs σ v7 v8 _ hr12) (cwV 2 hg (gdV wd234 wd233 wd232 wd215 wd235) rfl rfl rfl (by decide +kernel) ⟨Nat.le_of_ble_eq_true rfl, Nat.le_of_ble_eq_true rfl⟩) ⟨wb_blind, va_recv hK hP (ci := 5) (q0 := 0) rfl rfl, fun U hU hW => ⟨rfl, wb_pre hU hW hP hK hN⟩⟩ rfl rfl hl.1 rfl (lv_room (Nat.le_of_ble_eq_true rfl)) d_Model_count_129 ⟨Nat.zero_le _, Nat.zero_le _⟩) ?_
        refine lv_iconst (v := 2) hx hb d_Model_count_132 (by decide) ?_
        refine lv_icmp_ne (tgt := 140) hx hb d_Model_count_133 (by decide) (fun c13 => ?_) (fun c13 => ?_)
        · have h := b_f h c13
          refine lv_iconst (v := 0) hx hb d_Model_count_140 (by decide) ?_
          refine lv_iadd hx hb d_Model_count_141 ?_
          refine lv_istore (lv' := [(5, .int (v5 + 0)), (4, .int (v4 + 0)), (0, .ref (a 0)), (1, .int v1), (2, .int v2), (3, .int v3), (6, .int v6), (7, .int v7), (8, .int v8)]) hx hb d_Model_count_142 hl (by decide) rfl (fun ls hl => ?_)
          refine lv_iinc (v := v8 + 1) (lv' := [(8, .int (v8 + 1)), (5, .int (v5 + 0)), (4, .int (v4 + 0)), (0, .ref (a 0)), (1, .int v1), (2, .int v2), (3, .int v3), (6, .int v6), (7, .int v7)]) hx hb d_Model_count_144 hl (k := 8) rfl rfl (by decide) rfl (fun ls hl => ?_)
          refine lv_goto (tgt := 89) hx hb d_Model_count_147 (by decide) ?_
          exact ih σ v1 v2 v3 (v4 + 0) (v5 + 0) v6 v7 (v8 + 1) y h hP ls (lv_sub hl [3, 4, 5, 6, 2, 1, 7, 8, 0] rfl) k0
        · have h := b_t h c13
          refine lv_iconst (v := 1) hx hb d_Model_count_136 (by decide) ?_
          refine lv_goto (tgt := 141) hx hb d_Model_count_137 (by decide) ?_
          refine lv_iadd hx hb d_Model_count_141 ?_
          refine lv_istore (lv' := [(5, .int (v5 + 1)), (4, .int (v4 + 0)), (0, .ref (a 0)), (1, .int v1), (2, .int v2), (3, .int v3), (6, .int v6), (7, .int v7), (8, .int v8)]) hx hb d_Model_count_142 hl (by decide) rfl (fun ls hl => ?_)
          refine lv_iinc (v := v8 + 1) (lv' := [(8, .int (v8 + 1)), (5, .int (v5 + 1)), (4, .int (v4 + 0)), (0, .ref (a 0)), (1, .int v1), (2, .int v2), (3, .int v3), (6, .int v6), (7, .int v7)]) hx hb d_Model_count_144 hl (k := 8) rfl rfl (by decide) rfl (fun ls hl => ?_)
          refine lv_goto (tgt := 89) hx hb d_Model_count_147 (by decide) ?_
          exact ih σ v1 v2 v3 (v4 + 0) (v5 + 1) v6 v7 (v8 + 1) y h hP ls (lv_sub hl [3, 4, 5, 6, 2, 1, 7, 8, 0] rfl) k0
      · have h := b_f h c11
        refine lv_iconst (v := 1) hx hb d_Model_count_114 (by decide) ?_
        refine lv_goto (tgt := 119) hx hb d_Model_count_115 (by decide) ?_
        refine lv_iadd hx hb d_Model_count_119 ?_
        refine lv_istore (lv' := [(4, .int (v4 + 1)), (0, .ref (a 0)), (1, .int v1), (2, .int v2), (3, .int v3), (5, .int v5), (6, .int v6), (7, .int v7), (8, .int v8)]) hx hb d_Model_count_120 hl (by decide) rfl (fun ls hl => ?_)
        refine lv_iload hx hb d_Model_count_122 (lv_at hl 5 rfl) ?_
        refine lv_aload_n hx hb d_Model_count_124 rfl (lv_at hl 1 rfl) ?_
        refine lv_iload hx hb d_Model_count_125 (lv_at hl 7 rfl) ?_
        refine lv_iload hx hb d_Model_count_127 (lv_at hl 8 rfl) ?_
        obtain ⟨r14, hr14, h⟩ := bd h
        refine ro_call (v := .int r14) (va_runV (C := "BlockRulerModel") (As := [.int v7, .int v8]) (rest := [.int v5]) ⟨hx, hb, hml, hown, hg⟩ (c_Model_sortOf l dC dI a cs σ v7 v8 _ hr14) (cwV 2 hg (gdV wd234 wd233 wd232 wd215 wd235) rfl rfl rfl (by decide +kernel) ⟨Nat.le_of_ble_eq_true rfl, Nat.le_of_ble_eq_true rfl⟩) ⟨wb_blind, va_recv hK hP (ci := 5) (q0 := 0) rfl rfl, fun U hU hW => ⟨rfl, wb_pre hU hW hP hK hN⟩⟩ rfl rfl hl.1 rfl (lv_room (Nat.le_of_ble_eq_true rfl)) d_Model_count_129 ⟨Nat.zero_le _, Nat.zero_le _⟩) ?_
        refine lv_iconst (v := 2) hx hb d_Model_count_132 (by decide) ?_
        refine lv_icmp_ne (tgt := 140) hx hb d_Model_count_133 (by decide) (fun c15 => ?_) (fun c15 => ?_)
        · have h := b_f h c15
          refine lv_iconst (v := 0) hx hb d_Model_count_140 (by decide) ?_
          refine lv_iadd hx hb d_Model_count_141 ?_
          refine lv_istore (lv' := [(5, .int (v5 + 0)), (4, .int (v4 + 1)), (0, .ref (a 0)), (1, .int v1), (2, .int v2), (3, .int v3), (6, .int v6), (7, .int v7), (8, .int v8)]) hx hb d_Model_count_142 hl (by decide) rfl (fun ls hl => ?_)
          refine lv_iinc (v := v8 + 1) (lv' := [(8, .int (v8 + 1)), (5, .int (v5 + 0)), (4, .int (v4 + 1)), (0, .ref (a 0)), (1, .int v1), (2, .int v2), (3, .int v3), (6, .int v6), (7, .int v7)]) hx hb d_Model_count_144 hl (k := 8) rfl rfl (by decide) rfl (fun ls hl => ?_)
          refine lv_goto (tgt := 89) hx hb d_Model_count_147 (by decide) ?_
          exact ih σ v1 v2 v3 (v4 + 1) (v5 + 0) v6 v7 (v8 + 1) y h hP ls (lv_sub hl [3, 4, 5, 6, 2, 1, 7, 8, 0] rfl) k0
        · have h := b_t h c15
          refine lv_iconst (v := 1) hx hb d_Model_count_136 (by decide) ?_
          refine lv_goto (tgt := 141) hx hb d_Model_count_137 (by decide) ?_
          refine lv_iadd hx hb d_Model_count_141 ?_
          refine lv_istore (lv' := [(5, .int (v5 + 1)), (4, .int (v4 + 1)), (0, .ref (a 0)), (1, .int v1), (2, .int v2), (3, .int v3), (6, .int v6), (7, .int v7), (8, .int v8)]) hx hb d_Model_count_142 hl (by decide) rfl (fun ls hl => ?_)
          refine lv_iinc (v := v8 + 1) (lv' := [(8, .int (v8 + 1)), (5, .int (v5 + 1)), (4, .int (v4 + 1)), (0, .ref (a 0)), (1, .int v1), (2, .int v2), (3, .int v3), (6, .int v6), (7, .int v7)]) hx hb d_Model_count_144 hl (k := 8) rfl rfl (by decide) rfl (fun ls hl => ?_)
          refine lv_goto (tgt := 89) hx hb d_Model_count_147 (by decide) ?_
          exact ih σ v1 v2 v3 (v4 + 1) (v5 + 1) v6 v7 (v8 + 1) y h hP ls (lv_sub hl [3, 4, 5, 6, 2, 1, 7, 8, 0] rfl) k0
set_option maxHeartbeats 4000000 in
set_option maxRecDepth 100000 in
theorem lpW_Model_count_25 {p : Program} {l : Launch} {e : Env} {s : State} {m : MethodId} {args : Array Value} {below : List Frame} {meth : Method} {c : Code} {Q : State → Prop} {dC : Nat → ClassId} {dI : Nat → Nat → Nat} {a : Nat → Nat} {cs : Nat → ClassId} {H : Heap} {locs : List Loc} (C0 : Cx "BlockRulerModel" b_Model_count 9 p s m args meth c) (hK : va_K (dC, dI) classes (tyM cs) s) (hN : NW s) : ∀ (n : Nat) (σ : SM) (v1 : Int32) (v2 : Int32) (v3 : Int32) (v4 : Int32) (v5 : Int32) (v6 : Int32) (v7 : Int32) (y : Int32 × Int32 × Int32 × Int32 × Int32 × Int32), lp_Model_count_25 n σ v1 v2 v3 v4 v5 v6 v7 = some y → va_P (dC, dI) classes (wsM a cs σ) H → ∀ (ls : Array Slot), lv_has ls 9 [(0, .ref (a 0)), (1, .int v1), (2, .int v2), (3, .int v3), (4, .int v4), (5, .int v5), (6, .int v6), (7, .int v7)] → (∀ (ls : Array Slot), lv_has ls 9 [(0, .ref (a 0)), (1, .int v1), (2, .int y.1), (3, .int y.2.1), (4, .int y.2.2.1), (5, .int y.2.2.2.1), (6, .int y.2.2.2.2.1), (7, .int y.2.2.2.2.2)] → W p l e (headSpec w_Model_count rm_Model_count).room s m args below meth c H locs 0 0 Q (F0 m 156 ls [])) → W p l e (headSpec w_Model_count rm_Model_count).room s m args below meth c H locs 0 0 Q (F0 m 25 ls []) := by
  have C1 := C0
  obtain ⟨hx, hb, hml, hown, hg, hlocks⟩ := C1
  intro n
  induction n with
  | zero => intro σ v1 v2 v3 v4 v5 v6 v7 y h; exact absurd (show (none : Option (Int32 × Int32 × Int32 × Int32 × Int32 × Int32)) = some y from h) (fun q => by cases q)
  | succ n ih =>
    intro σ v1 v2 v3 v4 v5 v6 v7 y h hP ls hl k0
    rw [lp_Model_count_25_s] at h
    refine lv_iload hx hb d_Model_count_25 (lv_at hl 7 rfl) ?_
    refine lv_aload_n hx hb d_Model_count_27 rfl (lv_at hl 0 rfl) ?_
    refine va_get (D := (dC, dI)) (ci := 5) (v := .int (sM_blocks σ)) (C := "BlockRulerModel") (T := F_Model) (N := 16) hx hb hg i_Model hown hK hP 0 rfl rfl 1 (by decide) (hg _ wd211) (fun _ h9 => h9) rfl d_Model_count_28 ?_
    refine lv_icmp_ge (tgt := 156) hx hb d_Model_count_31 (by decide) (fun c2 => ?_) (fun c2 => ?_)
    · have h := b_t h c2
      obtain rfl := Option.some.inj h
      exact k0 ls (lv_sub hl [0, 1, 2, 3, 4, 5, 6, 7] rfl)
    · have h := b_f h c2
      refine lv_iload_n hx hb d_Model_count_34 rfl (lv_at hl 2 rfl) ?_
      refine lv_aload_n hx hb d_Model_count_35 rfl (lv_at hl 0 rfl) ?_
      refine va_get (D := (dC, dI)) (ci := 5) (v := .ref (a 1)) (C := "BlockRulerModel") (T := F_Model) (N := 16) hx hb hg i_Model hown hK hP 0 rfl rfl 2 (by decide) (hg _ wd217) (fun _ h9 => h9) rfl d_Model_count_36 ?_
      refine lv_iload hx hb d_Model_count_39 (lv_at hl 7 rfl) ?_
      obtain ⟨hi3, h⟩ := gd h
      refine va_iald (f := sM_many σ) (n := 64) hx hb hK hP 1 0 rfl rfl hi3 d_Model_count_41 ?_
      refine lv_iadd hx hb d_Model_count_42 ?_
      refine lv_topi (fun x4 ex4 => ?_)
      have h := lt_ h x4 ex4
      refine lv_istore_n (lv' := [(2, .int x4), (0, .ref (a 0)), (1, .int v1), (3, .int v3), (4, .int v4), (5, .int v5), (6, .int v6), (7, .int v7)]) hx hb d_Model_count_43 rfl hl (by decide) rfl (fun ls hl => ?_)
      refine lv_iload_n hx hb d_Model_count_44 rfl (lv_at hl 3 rfl) ?_
      refine lv_aload_n hx hb d_Model_count_45 rfl (lv_at hl 1 rfl) ?_
      refine va_get (D := (dC, dI)) (ci := 5) (v := .ref (a 7)) (C := "BlockRulerModel") (T := F_Model) (N := 16) hx hb hg i_Model hown hK hP 0 rfl rfl 10 (by decide) (hg _ wd237) (fun _ h9 => h9) rfl d_Model_count_46 ?_
      refine lv_iload hx hb d_Model_count_49 (lv_at hl 7 rfl) ?_
      refine va_zald (f := sM_isHead σ) (n := 64) hx hb hK hP 7 6 rfl rfl hi3 d_Model_count_51 ?_
      refine lv_if_eq (tgt := 59) hx hb d_Model_count_52 (by decide) (fun c5 => ?_) (fun c5 => ?_)
      · have h := b_t h c5
        refine lv_iconst (v := 0) hx hb d_Model_count_59 (by decide) ?_
        refine lv_iadd hx hb d_Model_count_60 ?_
        refine lv_istore_n (lv' := [(3, .int (v3 + 0)), (2, .int x4), (0, .ref (a 0)), (1, .int v1), (4, .int v4), (5, .int v5), (6, .int v6), (7, .int v7)]) hx hb d_Model_count_61 rfl hl (by decide) rfl (fun ls hl => ?_)
        refine lv_aload_n hx hb d_Model_count_62 rfl (lv_at hl 2 rfl) ?_
        refine lv_iload hx hb d_Model_count_63 (lv_at hl 7 rfl) ?_
        obtain ⟨r6, hr6, h⟩ := bd h
        refine ro_call (v := .int r6) (va_runV (C := "BlockRulerModel") (As := [.int v7]) (rest := []) ⟨hx, hb, hml, hown, hg⟩ (c_Model_depthOf l dC dI a cs σ v7 _ hr6) (cwV 1 hg (gdV wd261 wd260 wd259 wd215 wd262) rfl rfl rfl (by decide +kernel) ⟨Nat.le_of_ble_eq_true rfl, Nat.le_of_ble_eq_true rfl⟩) ⟨wb_blind, va_recv hK hP (ci := 5) (q0 := 0) rfl rfl, fun U hU hW => ⟨rfl, wb_pre hU hW hP hK hN⟩⟩ rfl rfl hl.1 rfl (lv_room (Nat.le_of_ble_eq_true rfl)) d_Model_count_65 ⟨Nat.zero_le _, Nat.zero_le _⟩) ?_
        refine lv_iload hx hb d_Model_count_68 (lv_at hl 6 rfl) ?_
        refine lv_icmp_le (tgt := 82) hx hb d_Model_count_70 (by decide) (fun c7 => ?_) (fun c7 => ?_)
        · have h := b_t h c7
          refine lv_iload hx hb d_Model_count_82 (lv_at hl 6 rfl) ?_
          refine lv_istore (lv' := [(6, .int v6), (3, .int (v3 + 0)), (2, .int x4), (0, .ref (a 0)), (1, .int v1), (4, .int v4), (5, .int v5), (7, .int v7)]) hx hb d_Model_count_84 hl (by decide) rfl (fun ls hl => ?_)
          refine lv_iconst (v := 0) hx hb d_Model_count_86 (by decide) ?_
          refine lv_istore (lv' := [(8, .int 0), (6, .int v6), (3, .int (v3 + 0)), (2, .int x4), (0, .ref (a 0)), (1, .int v1), (4, .int v4), (5, .int v5), (7, .int v7)]) hx hb d_Model_count_87 hl (by decide) rfl (fun ls hl => ?_)
          obtain ⟨y16, hy16, h⟩ := bd h
          refine lpW_Model_count_89 C0 hK hN 100 σ v1 x4 (v3 + 0) v4 v5 v6 v7 0 y16 hy16 hP ls (lv_sub hl [4, 5, 3, 2, 6, 7, 1, 8, 0] rfl) (fun ls hl => ?_)
          refine lv_iinc (v := v7 + 1) (lv' := [(7, .int (v7 + 1)), (0, .ref (a 0)), (1, .int v1), (2, .int x4), (3, .int (v3 + 0)), (4, .int y16.1), (5, .int y16.2.1), (6, .int v6), (8, .int y16.2.2)]) hx hb d_Model_count_150 hl (k := 7) rfl rfl (by decide) rfl (fun ls hl => ?_)
          refine lv_goto (tgt := 25) hx hb d_Model_count_153 (by decide) ?_
          exact ih σ v1 x4 (v3 + 0) y16.1 y16.2.1 v6 (v7 + 1) y h hP ls (lv_sub hl [1, 2, 3, 4, 5, 6, 7, 0] rfl) k0
        · have h := b_f h c7
          refine lv_aload_n hx hb d_Model_count_73 rfl (lv_at hl 2 rfl) ?_
          refine lv_iload hx hb d_Model_count_74 (lv_at hl 7 rfl) ?_
          obtain ⟨r17, hr17, h⟩ := bd h
          refine ro_call (v := .int r17) (va_runV (C := "BlockRulerModel") (As := [.int v7]) (rest := []) ⟨hx, hb, hml, hown, hg⟩ (c_Model_depthOf l dC dI a cs σ v7 _ hr17) (cwV 1 hg (gdV wd261 wd260 wd259 wd215 wd262) rfl rfl rfl (by decide +kernel) ⟨Nat.le_of_ble_eq_true rfl, Nat.le_of_ble_eq_true rfl⟩) ⟨wb_blind, va_recv hK hP (ci := 5) (q0 := 0) rfl rfl, fun U hU hW => ⟨rfl, wb_pre hU hW hP hK hN⟩⟩ rfl rfl hl.1 rfl (lv_room (Nat.le_of_ble_eq_true rfl)) d_Model_count_76 ⟨Nat.zero_le _, Nat.zero_le _⟩) ?_
          refine lv_goto (tgt := 84) hx hb d_Model_count_79 (by decide) ?_
          refine lv_istore (lv' := [(6, .int r17), (3, .int (v3 + 0)), (2, .int x4), (0, .ref (a 0)), (1, .int v1), (4, .int v4), (5, .int v5), (7, .int v7)]) hx hb d_Model_count_84 hl (by decide) rfl (fun ls hl => ?_)
          refine lv_iconst (v := 0) hx hb d_Model_count_86 (by decide) ?_
          refine lv_istore (lv' := [(8, .int 0), (6, .int r17), (3, .int (v3 + 0)), (2, .int x4), (0, .ref (a 0)), (1, .int v1), (4, .int v4), (5, .int v5), (7, .int v7)]) hx hb d_Model_count_87 hl (by decide) rfl (fun ls hl => ?_)
          obtain ⟨y18, hy18, h⟩ := bd h
          refine lpW_Model_count_89 C0 hK hN 100 σ v1 x4 (v3 + 0) v4 v5 r17 v7 0 y18 hy18 hP ls (lv_sub hl [4, 5, 3, 2, 6, 7, 1, 8, 0] rfl) (fun ls hl => ?_)
          refine lv_iinc (v := v7 + 1) (lv' := [(7, .int (v7 + 1)), (0, .ref (a 0)), (1, .int v1), (2, .int x4), (3, .int (v3 + 0)), (4, .int y18.1), (5, .int y18.2.1), (6, .int r17), (8, .int y18.2.2)]) hx hb d_Model_count_150 hl (k := 7) rfl rfl (by decide) rfl (fun ls hl => ?_)
          refine lv_goto (tgt := 25) hx hb d_Model_count_153 (by decide) ?_
          exact ih σ v1 x4 (v3 + 0) y18.1 y18.2.1 r17 (v7 + 1) y h hP ls (lv_sub hl [1, 2, 3, 4, 5, 6, 7, 0] rfl) k0
      · have h := b_f h c5
        refine lv_iconst (v := 1) hx hb d_Model_count_55 (by decide) ?_
        refine lv_goto (tgt := 60) hx hb d_Model_count_56 (by decide) ?_
        refine lv_iadd hx hb d_Model_count_60 ?_
        refine lv_istore_n (lv' := [(3, .int (v3 + 1)), (2, .int x4), (0, .ref (a 0)), (1, .int v1), (4, .int v4), (5, .int v5), (6, .int v6), (7, .int v7)]) hx hb d_Model_count_61 rfl hl (by decide) rfl (fun ls hl => ?_)
        refine lv_aload_n hx hb d_Model_count_62 rfl (lv_at hl 2 rfl) ?_
        refine lv_iload hx hb d_Model_count_63 (lv_at hl 7 rfl) ?_
        obtain ⟨r19, hr19, h⟩ := bd h
        refine ro_call (v := .int r19) (va_runV (C := "BlockRulerModel") (As := [.int v7]) (rest := []) ⟨hx, hb, hml, hown, hg⟩ (c_Model_depthOf l dC dI a cs σ v7 _ hr19) (cwV 1 hg (gdV wd261 wd260 wd259 wd215 wd262) rfl rfl rfl (by decide +kernel) ⟨Nat.le_of_ble_eq_true rfl, Nat.le_of_ble_eq_true rfl⟩) ⟨wb_blind, va_recv hK hP (ci := 5) (q0 := 0) rfl rfl, fun U hU hW => ⟨rfl, wb_pre hU hW hP hK hN⟩⟩ rfl rfl hl.1 rfl (lv_room (Nat.le_of_ble_eq_true rfl)) d_Model_count_65 ⟨Nat.zero_le _, Nat.zero_le _⟩) ?_
        refine lv_iload hx hb d_Model_count_68 (lv_at hl 6 rfl) ?_
        refine lv_icmp_le (tgt := 82) hx hb d_Model_count_70 (by decide) (fun c20 => ?_) (fun c20 => ?_)
        · have h := b_t h c20
          refine lv_iload hx hb d_Model_count_82 (lv_at hl 6 rfl) ?_
          refine lv_istore (lv' := [(6, .int v6), (3, .int (v3 + 1)), (2, .int x4), (0, .ref (a 0)), (1, .int v1), (4, .int v4), (5, .int v5), (7, .int v7)]) hx hb d_Model_count_84 hl (by decide) rfl (fun ls hl => ?_)
          refine lv_iconst (v := 0) hx hb d_Model_count_86 (by decide) ?_
          refine lv_istore (lv' := [(8, .int 0), (6, .int v6), (3, .int (v3 + 1)), (2, .int x4), (0, .ref (a 0)), (1, .int v1), (4, .int v4), (5, .int v5), (7, .int v7)]) hx hb d_Model_count_87 hl (by decide) rfl (fun ls hl => ?_)
          obtain ⟨y21, hy21, h⟩ := bd h
          refine lpW_Model_count_89 C0 hK hN 100 σ v1 x4 (v3 + 1) v4 v5 v6 v7 0 y21 hy21 hP ls (lv_sub hl [4, 5, 3, 2, 6, 7, 1, 8, 0] rfl) (fun ls hl => ?_)
          refine lv_iinc (v := v7 + 1) (lv' := [(7, .int (v7 + 1)), (0, .ref (a 0)), (1, .int v1), (2, .int x4), (3, .int (v3 + 1)), (4, .int y21.1), (5, .int y21.2.1), (6, .int v6), (8, .int y21.2.2)]) hx hb d_Model_count_150 hl (k := 7) rfl rfl (by decide) rfl (fun ls hl => ?_)
          refine lv_goto (tgt := 25) hx hb d_Model_count_153 (by decide) ?_
          exact ih σ v1 x4 (v3 + 1) y21.1 y21.2.1 v6 (v7 + 1) y h hP ls (lv_sub hl [1, 2, 3, 4, 5, 6, 7, 0] rfl) k0
        · have h := b_f h c20
          refine lv_aload_n hx hb d_Model_count_73 rfl (lv_at hl 2 rfl) ?_
          refine lv_iload hx hb d_Model_count_74 (lv_at hl 7 rfl) ?_
          obtain ⟨r22, hr22, h⟩ := bd h
          refine ro_call (v := .int r22) (va_runV (C := "BlockRulerModel") (As := [.int v7]) (rest := []) ⟨hx, hb, hml, hown, hg⟩ (c_Model_depthOf l dC dI a cs σ v7 _ hr22) (cwV 1 hg (gdV wd261 wd260 wd259 wd215 wd262) rfl rfl rfl (by decide +kernel) ⟨Nat.le_of_ble_eq_true rfl, Nat.le_of_ble_eq_true rfl⟩) ⟨wb_blind, va_recv hK hP (ci := 5) (q0 := 0) rfl rfl, fun U hU hW => ⟨rfl, wb_pre hU hW hP hK hN⟩⟩ rfl rfl hl.1 rfl (lv_room (Nat.le_of_ble_eq_true rfl)) d_Model_count_76 ⟨Nat.zero_le _, Nat.zero_le _⟩) ?_
          refine lv_goto (tgt := 84) hx hb d_Model_count_79 (by decide) ?_
          refine lv_istore (lv' := [(6, .int r22), (3, .int (v3 + 1)), (2, .int x4), (0, .ref (a 0)), (1, .int v1), (4, .int v4), (5, .int v5), (7, .int v7)]) hx hb d_Model_count_84 hl (by decide) rfl (fun ls hl => ?_)
          refine lv_iconst (v := 0) hx hb d_Model_count_86 (by decide) ?_
          refine lv_istore (lv' := [(8, .int 0), (6, .int r22), (3, .int (v3 + 1)), (2, .int x4), (0, .ref (a 0)), (1, .int v1), (4, .int v4), (5, .int v5), (7, .int v7)]) hx hb d_Model_count_87 hl (by decide) rfl (fun ls hl => ?_)
          obtain ⟨y23, hy23, h⟩ := bd h
          refine lpW_Model_count_89 C0 hK hN 100 σ v1 x4 (v3 + 1) v4 v5 r22 v7 0 y23 hy23 hP ls (lv_sub hl [4, 5, 3, 2, 6, 7, 1, 8, 0] rfl) (fun ls hl => ?_)
          refine lv_iinc (v := v7 + 1) (lv' := [(7, .int (v7 + 1)), (0, .ref (a 0)), (1, .int v1), (2, .int x4), (3, .int (v3 + 1)), (4, .int y23.1), (5, .int y23.2.1), (6, .int r22), (8, .int y23.2.2)]) hx hb d_Model_count_150 hl (k := 7) rfl rfl (by decide) rfl (fun ls hl => ?_)
          refine lv_goto (tgt := 25) hx hb d_Model_count_153 (by decide) ?_
          exact ih σ v1 x4 (v3 + 1) y23.1 y23.2.1 r22 (v7 + 1) y h hP ls (lv_sub hl [1, 2, 3, 4, 5, 6, 7, 0] rfl) k0
set_option maxHeartbeats 4000000 in
set_option maxRecDepth 100000 in
theorem c_Model_count (l : Launch) (dC : Nat → ClassId) (dI : Nat → Nat → Nat) (a : Nat → Nat) (cs : Nat → ClassId) (sz : Nat) (σ : SM) (v1 : Int32) (r : Int32 × SM) (h : f_Model_count σ v1 = some r) : Met l y_Model_count w_Model_count rm_Model_count (va_Pc [.ref (a 0), .int v1] (fun U => U.heap.size = sz ∧ WDM dC dI a cs σ U)) (va_Qi (fun (x : Int32) (u : SM) => (x, u) = r) (atM dC dI a cs (va_A (wsM a cs σ) sz)) (va_A (wsM a cs σ) sz)) 0 0 (va_A (wsM a cs σ) sz) := by
  refine Met.ofW (cc := b_Model_count) (maxL := 9) (ret := (some .int)) (by decide) rfl ?_
  intro p e s m args below meth c s₁ B hml hv
  obtain ⟨rfl, hsz, hP, hK, hN, hD0⟩ := hv
  have hx := B.exec
  have hb := B.bytes
  have hr := B.returns
  have hg : ∀ w ∈ G_, w.before _ s = true := fun w hw => atoms_spec (ws := w_Model_count) B.pre w (List.mem_cons_of_mem _ hw)
  have hown : s.vm.findClass "BlockRulerModel" = some m.cls := findClass_of_methodNamed B.named
  have hlocks := B.notSynchronized
  have C0 : Cx "BlockRulerModel" b_Model_count 9 p s m _ meth c := ⟨hx, hb, hml, hown, hg, hlocks⟩
  subst hsz
  have hD := hD0.self (sz := s.heap.size)
  generalize hAe : va_A (wsM a cs σ) s.heap.size = A at hD ⊢
  have hA : ∀ q : Nat, s.heap.size ≤ q → A q := fun q h => by rw [← hAe]; exact Or.inr h
  have hS : va_S A s.heap s.heap [] := va_S.rf
  have hl := lv_entry ([.ref (a 0), .int v1]) (n := 9) (Nat.le_of_ble_eq_true rfl)
  rw [lg_entry_eq]
  generalize (lg_sl ([.ref (a 0), .int v1]) ++ List.replicate (9 - (lg_sl ([.ref (a 0), .int v1])).length) Slot.unset).toArray = ls at hl ⊢
  have hl : lv_has ls 9 [(0, .ref (a 0)), (1, .int v1)] := hl
  unfold f_Model_count at h
  refine lv_aload_n hx hb d_Model_count_0 rfl (lv_at hl 0 rfl) ?_
  refine lv_iconst (v := 0) hx hb d_Model_count_1 (by decide) ?_
  refine va_put (D := (dC, dI)) (ci := 5) (v := .int 0) (ty := .int) (C := "BlockRulerModel") (T := F_Model) (N := 16) hx hb hg i_Model t_Model t_Model_ok n_Model hown hK hP hD hS 0 rfl rfl 0 (by decide) (hg _ wd210) (fun _ h9 => h9) rfl (by decide +kernel) rfl rfl (Nat.le_of_ble_eq_true rfl) d_Model_count_2 (fun H locs hP hD hS => ?_)
  have hP := va_Pe (setM_thrown a cs σ 0) hP
  have hD := va_De (setM_thrown a cs σ 0) hD
  refine lv_aload_n hx hb d_Model_count_5 rfl (lv_at hl 0 rfl) ?_
  obtain ⟨r1, hr1, h⟩ := bd h
  have hFc := va_free (wc := wsM a cs (uM_thrown σ 0)) hD hS hA [0, 1, 2, 3, 4, 5, 6, 7, 8, 9, 10, 11, 12] (allM a cs (uM_thrown σ 0))
  refine va_callv (va_runV (C := "BlockRulerModel") (As := []) (rest := []) ⟨hx, hb, hml, hown, hg⟩ (c_Model_reckon l dC dI a cs _ (uM_thrown σ 0) _ hr1) (cwV 0 hg (gdV wd253 wd252 wd251 wd215 wd254) rfl rfl rfl (by decide +kernel) ⟨Nat.le_of_ble_eq_true rfl, Nat.le_of_ble_eq_true rfl⟩) ⟨wbz_blind, va_recv hK hP (ci := 5) (q0 := 0) rfl rfl, fun U hU hW => ⟨rfl, by rw [hU], wb_preD hU hW hP hK hN hD⟩⟩ rfl rfl hl.1 rfl (lv_room (Nat.le_of_ble_eq_true rfl)) d_Model_count_6 ⟨Nat.zero_le _, Nat.zero_le _⟩) hS (fun q _ h => hFc q h) hFc (fun u t H locs ht hvm hw hB hz1 hk1 hS => ?_)
  obtain rfl : r1 = u := hw.symm
  have hP : va_P (dC, dI) classes (wsM a cs r1) H := by have q := hB.1; rw [ht] at q; exact q
  have hD : va_D A (wsM a cs r1) := hB.2.weaken (fun _ _ _ h => hFc _ h)
  refine lv_iconst (v := 0) hx hb d_Model_count_9 (by decide) ?_
  refine lv_istore_n (lv' := [(2, .int 0), (0, .ref (a 0)), (1, .int v1)]) hx hb d_Model_count_10 rfl hl (by decide) rfl (fun ls hl => ?_)
  refine lv_iconst (v := 0) hx hb d_Model_count_11 (by decide) ?_
  refine lv_istore_n (lv' := [(3, .int 0), (2, .int 0), (0, .ref (a 0)), (1, .int v1)]) hx hb d_Model_count_12 rfl hl (by decide) rfl (fun ls hl => ?_)
  refine lv_iconst (v := 0) hx hb d_Model_count_13 (by decide) ?_
  refine lv_istore (lv' := [(4, .int 0), (3, .int 0), (2, .int 0), (0, .ref (a 0)), (1, .int v1)]) hx hb d_Model_count_14 hl (by decide) rfl (fun ls hl => ?_)
  refine lv_iconst (v := 0) hx hb d_Model_count_16 (by decide) ?_
  refine lv_istore (lv' := [(5, .int 0), (4, .int 0), (3, .int 0), (2, .int 0), (0, .ref (a 0)), (1, .int v1)]) hx hb d_Model_count_17 hl (by decide) rfl (fun ls hl => ?_)
  refine lv_iconst (v := 0) hx hb d_Model_count_19 (by decide) ?_
  refine lv_istore (lv' := [(6, .int 0), (5, .int 0), (4, .int 0), (3, .int 0), (2, .int 0), (0, .ref (a 0)), (1, .int v1)]) hx hb d_Model_count_20 hl (by decide) rfl (fun ls hl => ?_)
  refine lv_iconst (v := 0) hx hb d_Model_count_22 (by decide) ?_
  refine lv_istore (lv' := [(7, .int 0), (6, .int 0), (5, .int 0), (4, .int 0), (3, .int 0), (2, .int 0), (0, .ref (a 0)), (1, .int v1)]) hx hb d_Model_count_23 hl (by decide) rfl (fun ls hl => ?_)
  obtain ⟨y24, hy24, h⟩ := bd h
  refine lpW_Model_count_25 C0 hK hN 100 r1 v1 0 0 0 0 0 0 y24 hy24 hP ls (lv_sub hl [6, 7, 5, 4, 3, 2, 1, 0] rfl) (fun ls hl => ?_)
  refine lv_iload_n hx hb d_Model_count_156 rfl (lv_at hl 1 rfl) ?_
  refine lv_if_ne (tgt := 167) hx hb d_Model_count_157 (by decide) (fun c25 => ?_) (fun c25 => ?_)
  · have h := b_f h c25
    refine lv_iload_n hx hb d_Model_count_167 rfl (lv_at hl 1 rfl) ?_
    refine lv_iconst (v := 1) hx hb d_Model_count_168 (by decide) ?_
    refine lv_icmp_ne (tgt := 176) hx hb d_Model_count_169 (by decide) (fun c26 => ?_) (fun c26 => ?_)
    · have h := b_f h c26
      refine lv_iload_n hx hb d_Model_count_176 rfl (lv_at hl 1 rfl) ?_
      refine lv_iconst (v := 2) hx hb d_Model_count_177 (by decide) ?_
      refine lv_icmp_ne (tgt := 188) hx hb d_Model_count_178 (by decide) (fun c27 => ?_) (fun c27 => ?_)
      · have h := b_f h c27
        refine lv_iload_n hx hb d_Model_count_188 rfl (lv_at hl 1 rfl) ?_
        refine lv_iconst (v := 3) hx hb d_Model_count_189 (by decide) ?_
        refine lv_icmp_ne (tgt := 197) hx hb d_Model_count_190 (by decide) (fun c28 => ?_) (fun c28 => ?_)
        · have h := b_f h c28
          refine lv_iload_n hx hb d_Model_count_197 rfl (lv_at hl 1 rfl) ?_
          refine lv_iconst (v := 4) hx hb d_Model_count_198 (by decide) ?_
          refine lv_icmp_ne (tgt := 207) hx hb d_Model_count_199 (by decide) (fun c29 => ?_) (fun c29 => ?_)
          · have h := b_f h c29
            refine lv_iload_n hx hb d_Model_count_207 rfl (lv_at hl 1 rfl) ?_
            refine lv_iconst (v := 5) hx hb d_Model_count_208 (by decide) ?_
            refine lv_icmp_ne (tgt := 217) hx hb d_Model_count_209 (by decide) (fun c30 => ?_) (fun c30 => ?_)
            · have h := b_f h c30
              refine lv_iload_n hx hb d_Model_count_217 rfl (lv_at hl 1 rfl) ?_
              refine lv_bipush (v := 6) hx hb d_Model_count_218 (by decide) ?_
              refine lv_icmp_ne (tgt := 228) hx hb d_Model_count_220 (by decide) (fun c31 => ?_) (fun c31 => ?_)
              · have h := b_f h c31
                refine lv_iconst (v := -1) hx hb d_Model_count_228 (by decide) ?_
                exact W.iret (v := -1) hx hb hr (fun t ht hW => ⟨⟨-1, r1, rfl, Option.some.inj h, by rw [ht]; exact hP, hD⟩, hS.F ht⟩) hS.2.2 d_Model_count_229
              · have h := b_t h c31
                refine lv_iload hx hb d_Model_count_223 (lv_at hl 6 rfl) ?_
                refine lv_goto (tgt := 229) hx hb d_Model_count_225 (by decide) ?_
                exact W.iret (v := y24.2.2.2.2.1) hx hb hr (fun t ht hW => ⟨⟨y24.2.2.2.2.1, r1, rfl, Option.some.inj h, by rw [ht]; exact hP, hD⟩, hS.F ht⟩) hS.2.2 d_Model_count_229
            · have h := b_t h c30
              refine lv_iload hx hb d_Model_count_212 (lv_at hl 5 rfl) ?_
              refine lv_goto (tgt := 229) hx hb d_Model_count_214 (by decide) ?_
              exact W.iret (v := y24.2.2.2.1) hx hb hr (fun t ht hW => ⟨⟨y24.2.2.2.1, r1, rfl, Option.some.inj h, by rw [ht]; exact hP, hD⟩, hS.F ht⟩) hS.2.2 d_Model_count_229
          · have h := b_t h c29
            refine lv_iload hx hb d_Model_count_202 (lv_at hl 4 rfl) ?_
            refine lv_goto (tgt := 229) hx hb d_Model_count_204 (by decide) ?_
            exact W.iret (v := y24.2.2.1) hx hb hr (fun t ht hW => ⟨⟨y24.2.2.1, r1, rfl, Option.some.inj h, by rw [ht]; exact hP, hD⟩, hS.F ht⟩) hS.2.2 d_Model_count_229
        · have h := b_t h c28
          refine lv_iload_n hx hb d_Model_count_193 rfl (lv_at hl 3 rfl) ?_
          refine lv_goto (tgt := 229) hx hb d_Model_count_194 (by decide) ?_
          exact W.iret (v := y24.2.1) hx hb hr (fun t ht hW => ⟨⟨y24.2.1, r1, rfl, Option.some.inj h, by rw [ht]; exact hP, hD⟩, hS.F ht⟩) hS.2.2 d_Model_count_229
      · have h := b_t h c27
        refine lv_aload_n hx hb d_Model_count_181 rfl (lv_at hl 0 rfl) ?_
        refine va_get (D := (dC, dI)) (ci := 5) (v := .int (sM_reached r1)) (C := "BlockRulerModel") (T := F_Model) (N := 16) hx hb hg i_Model hown hK hP 0 rfl rfl 5 (by decide) (hg _ wd230) (fun _ h9 => h9) rfl d_Model_count_182 ?_
        refine lv_goto (tgt := 229) hx hb d_Model_count_185 (by decide) ?_
        exact W.iret (v := sM_reached r1) hx hb hr (fun t ht hW => ⟨⟨sM_reached r1, r1, rfl, Option.some.inj h, by rw [ht]; exact hP, hD⟩, hS.F ht⟩) hS.2.2 d_Model_count_229
    · have h := b_t h c26
      refine lv_iload_n hx hb d_Model_count_172 rfl (lv_at hl 2 rfl) ?_
      refine lv_goto (tgt := 229) hx hb d_Model_count_173 (by decide) ?_
      exact W.iret (v := y24.1) hx hb hr (fun t ht hW => ⟨⟨y24.1, r1, rfl, Option.some.inj h, by rw [ht]; exact hP, hD⟩, hS.F ht⟩) hS.2.2 d_Model_count_229
  · have h := b_t h c25
    refine lv_aload_n hx hb d_Model_count_160 rfl (lv_at hl 0 rfl) ?_
    refine va_get (D := (dC, dI)) (ci := 5) (v := .int (sM_blocks r1)) (C := "BlockRulerModel") (T := F_Model) (N := 16) hx hb hg i_Model hown hK hP 0 rfl rfl 1 (by decide) (hg _ wd211) (fun _ h9 => h9) rfl d_Model_count_161 ?_
    refine lv_goto (tgt := 229) hx hb d_Model_count_164 (by decide) ?_
    exact W.iret (v := sM_blocks r1) hx hb hr (fun t ht hW => ⟨⟨sM_blocks r1, r1, rfl, Option.some.inj h, by rw [ht]; exact hP, hD⟩, hS.F ht⟩) hS.2.2 d_Model_count_229
