/-- what is left when the machine is gone: the class's and the reference's models answer alike -/
def PureOK (Rel : SB → SM → Prop) : Prop := Rel st0B st0M ∧ ∀ (σ : SB) (τ : SM), Rel σ τ →
  (∃ (r : Int32) (τ' : SM), f_Model_block τ = some (r, τ') ∧ ((∃ σ' : SB, f_BlockRuler_block σ = some (Sum.inr r, σ') ∧ sM_thrown τ' = 0 ∧ Rel σ' τ') ∨ (∃ σ' : SB, f_BlockRuler_block σ = some (Sum.inl 0, σ') ∧ sM_thrown τ' = 1 ∧ Rel σ' τ'))) ∧
  (∀ x y : Int32, ∃ (r : Int32) (τ' : SM), f_Model_way τ x y = some (r, τ') ∧ ((∃ σ' : SB, f_BlockRuler_way σ x y = some (Sum.inr r, σ') ∧ sM_thrown τ' = 0 ∧ Rel σ' τ') ∨ (∃ σ' : SB, f_BlockRuler_way σ x y = some (Sum.inl 1, σ') ∧ sM_thrown τ' = 1 ∧ Rel σ' τ') ∨ (∃ σ' : SB, f_BlockRuler_way σ x y = some (Sum.inl 0, σ') ∧ sM_thrown τ' = 2 ∧ Rel σ' τ'))) ∧
  (∀ x y : Int32, ∃ (r : Int32) (τ' : SM), f_Model_cut τ x y = some (r, τ') ∧ ((∃ σ' : SB, f_BlockRuler_cut σ x y = some (Sum.inr r, σ') ∧ sM_thrown τ' = 0 ∧ Rel σ' τ') ∨ (∃ σ' : SB, f_BlockRuler_cut σ x y = some (Sum.inl 2, σ') ∧ sM_thrown τ' = 1 ∧ Rel σ' τ'))) ∧
  (∀ x y z : Int32, ∃ (r : Int32) (τ' : SM), f_Model_turn τ x y z = some (r, τ') ∧ ((∃ σ' : SB, f_BlockRuler_turn σ x y z = some (Sum.inr r, σ') ∧ sM_thrown τ' = 0 ∧ Rel σ' τ') ∨ (∃ σ' : SB, f_BlockRuler_turn σ x y z = some (Sum.inl 2, σ') ∧ sM_thrown τ' = 1 ∧ Rel σ' τ') ∨ (∃ σ' : SB, f_BlockRuler_turn σ x y z = some (Sum.inl 1, σ') ∧ sM_thrown τ' = 2 ∧ Rel σ' τ'))) ∧
  (∀ x y : Int32, ∃ (r : Int32) (τ' : SM), f_BlockRuler_end σ x y = some r ∧ f_Model_end τ x y = some (r, τ') ∧ Rel σ τ') ∧
  (∀ x : Int32, ∃ (r : Int32) (σ' : SB) (τ' : SM), f_BlockRuler_order σ x = some (r, σ') ∧ f_Model_order τ x = some (r, τ') ∧ Rel σ' τ') ∧
  (∀ x : Int32, ∃ (r : Int32) (σ' : SB) (τ' : SM), f_BlockRuler_at σ x = some (r, σ') ∧ f_Model_at τ x = some (r, τ') ∧ Rel σ' τ') ∧
  (∀ x : Int32, ∃ (r : Int32) (σ' : SB) (τ' : SM), f_BlockRuler_parent σ x = some (r, σ') ∧ f_Model_parent τ x = some (r, τ') ∧ Rel σ' τ') ∧
  (∀ x y : Int32, ∃ (r : Int32) (σ' : SB) (τ' : SM), f_BlockRuler_rules σ x y = some (r, σ') ∧ f_Model_rules τ x y = some (r, τ') ∧ Rel σ' τ') ∧
  (∀ x y : Int32, ∃ (r : Int32) (τ' : SM), f_Model_common τ x y = some (r, τ') ∧ ((∃ σ' : SB, f_BlockRuler_common σ x y = some (Sum.inr r, σ') ∧ sM_thrown τ' = 0 ∧ Rel σ' τ') ∨ (∃ σ' : SB, f_BlockRuler_common σ x y = some (Sum.inl 1, σ') ∧ sM_thrown τ' = 1 ∧ Rel σ' τ'))) ∧
  (∀ x y : Int32, ∃ (r : Int32) (σ' : SB) (τ' : SM), f_BlockRuler_sort σ x y = some (r, σ') ∧ f_Model_sort τ x y = some (r, τ') ∧ Rel σ' τ') ∧
  (∀ x y : Int32, ∃ (r : Int32) (σ' : SB) (τ' : SM), f_BlockRuler_inLoop σ x y = some (r, σ') ∧ f_Model_inLoop τ x y = some (r, τ') ∧ Rel σ' τ') ∧
  (∀ x y : Int32, ∃ (r : Int32) (σ' : SB) (τ' : SM), f_BlockRuler_look σ x y = some (r, σ') ∧ f_Model_look τ x y = some (r, τ') ∧ Rel σ' τ') ∧
  (∀ x y : Int32, ∃ (r : Int32) (σ' : SB) (τ' : SM), f_BlockRuler_edge σ x y = some (r, σ') ∧ f_Model_edge τ x y = some (r, τ') ∧ Rel σ' τ') ∧
  (∀ x : Int32, ∃ (r : Int32) (σ' : SB) (τ' : SM), f_BlockRuler_count σ x = some (r, σ') ∧ f_Model_count τ x = some (r, τ') ∧ Rel σ' τ')
theorem tsw15 {x : Int32} (h0 : ¬ x = 0) (h1 : ¬ x = 1) (h2 : ¬ x = 2) (h3 : ¬ x = 3) (h4 : ¬ x = 4) (h5 : ¬ x = 5) (h6 : ¬ x = 6) (h7 : ¬ x = 7) (h8 : ¬ x = 8) (h9 : ¬ x = 9) (h10 : ¬ x = 10) (h11 : ¬ x = 11) (h12 : ¬ x = 12) (h13 : ¬ x = 13) (h14 : ¬ x = 14) : x.toInt < 0 ∨ 14 < x.toInt := by
  have a0 := tswN (n := 0) h0 (by decide)
  have a1 := tswN (n := 1) h1 (by decide)
  have a2 := tswN (n := 2) h2 (by decide)
  have a3 := tswN (n := 3) h3 (by decide)
  have a4 := tswN (n := 4) h4 (by decide)
  have a5 := tswN (n := 5) h5 (by decide)
  have a6 := tswN (n := 6) h6 (by decide)
  have a7 := tswN (n := 7) h7 (by decide)
  have a8 := tswN (n := 8) h8 (by decide)
  have a9 := tswN (n := 9) h9 (by decide)
  have a10 := tswN (n := 10) h10 (by decide)
  have a11 := tswN (n := 11) h11 (by decide)
  have a12 := tswN (n := 12) h12 (by decide)
  have a13 := tswN (n := 13) h13 (by decide)
  have a14 := tswN (n := 14) h14 (by decide)
  omega
theorem ll_bound {L j : Nat} (hL : L ≤ 2048) (hj : j ≤ 512) (h : ¬ Int32.ofNat L - 4 < nI (4 * j)) : 4 * j + 4 ≤ L := by
  have e : (Int32.ofNat L - 4).toInt = (L : Int) - 4 := pk_sub_toInt (a := L) (b := 4) (by omega) (by omega)
  rw [Int32.lt_iff_toInt_lt, e, nI_toInt (by omega)] at h
  omega
theorem ll_in {L j : Nat} (k : Nat) (hL : L ≤ 2048) (h : 4 * j + k < L) (x : Int32) (hx : x = nI k) : vp_in (nI (4 * j) + x) L := by
  rw [hx, nI_add]
  exact vp_in_nI h (by omega)
set_option maxHeartbeats 4000000 in
set_option maxRecDepth 100000 in
/-- THE LAW'S LOOP: j calls done -/
theorem law_loop {p : Program} {l : Launch} {e : Env} {s : State} {m : MethodId} {below : List Frame} {meth : Method} {c : Code} {b0 L : Nat} {xs : Nat → Int32} {dC : Nat → ClassId} {dI : Nat → Nat → Nat} {a : Nat → Nat} {cs : Nat → ClassId} {b : Nat → Nat} {ds : Nat → ClassId} {o : Nat} {cO : ClassId} {Rel : SB → SM → Prop} (hp : PureOK Rel) (hL : L ≤ 2048) (C0 : lw_At p s m meth c b0 L xs) (C1 : LCx l s dC dI a cs b ds o cO) :
    ∀ (n j : Nat), n + j = 513 → 4 * j ≤ L ∨ j = 0 → ∀ (σ : SB) (τ : SM) (f : Nat → Int64) (H : Heap) (locs : List Loc) (ls : Array Slot), Rel σ τ → LSt s dC dI a cs b ds o cO σ τ f H locs → lv_has ls 7 [(0, .ref b0), (1, .ref (a 0)), (2, .ref (b 0)), (3, .ref o), (4, .int (nI (4 * j)))] → W p l e room_1 s m #[Value.ref b0] below meth c H locs (29 + j) (10412 + 6 * j) (lw_Z below #[Value.ref b0] s) (F0 m 23 ls []) := by
  obtain ⟨hx, hb, hr, hml, hown, hts, hX, hbl, hlocks, hgv⟩ := C0
  have hg : ∀ w ∈ G_, w.before #[Value.ref b0] s = true := fun w hw => hts w (List.mem_filter.mp hw).1
  intro n
  induction n with
  | zero =>
    intro j hj hj2
    exact absurd hj2 (by omega)
  | succ n ih =>
    intro j hj hj2 σ τ f H locs ls hR S0 hl
    refine lv_iload hx hb d_Law_law_23 (lv_at hl 4 rfl) ?_
    refine lv_aload_n hx hb d_Law_law_25 rfl (lv_at hl 0 rfl) ?_
    refine va_slen hx hb hX hbl (A := fun q => s.heap.size ≤ q) (Nat.not_le.mpr hbl) S0.2.2.2.2.2 d_Law_law_26 ?_
    refine lv_iconst (v := 4) hx hb d_Law_law_27 (by decide) ?_
    refine lv_isub hx hb d_Law_law_28 ?_
    refine lv_icmp_gt (tgt := 768) hx hb d_Law_law_29 (by decide) (fun c1 => ?_) (fun c1 => ?_)
    · refine lv_iconst (v := 1) hx hb d_Law_law_768 (by decide) ?_
      refine va_forget (fun q hq => S0.2.2.2.2.2.2.2 q hq) ?_
      refine W.widen (k := 1060) (n := 18646) (by omega) (by omega) ?_
      exact lw_ret hx hb hr hlocks d_Law_law_769
    · have hlt := ll_bound hL (by omega) c1
      have h0 : vp_in (nI (4 * j)) L := vp_in_nI (by omega) (by omega)
      have h1 : vp_in (nI (4 * j) + 1) L := ll_in 1 hL (by omega) 1 rfl
      have h2 : vp_in (nI (4 * j) + 2) L := ll_in 2 hL (by omega) 2 rfl
      have h3 : vp_in (nI (4 * j) + 3) L := ll_in 3 hL (by omega) 3 rfl
      have hf : 29 + j + 1 ≤ room_1.cells ∧ 10412 + 6 * j + 6 ≤ room_1.slots := by
        show 29 + j + 1 ≤ 1060 ∧ 10412 + 6 * j + 6 ≤ 18646
        omega
      have kk : ∀ (σ' : SB) (τ' : SM) (f' : Nat → Int64) (H : Heap) (locs : List Loc) (ls : Array Slot), Rel σ' τ' → LSt s dC dI a cs b ds o cO σ' τ' f' H locs → lv_has ls 7 [(0, .ref b0), (1, .ref (a 0)), (2, .ref (b 0)), (3, .ref o), (4, .int (nI (4 * j)))] → W p l e room_1 s m #[Value.ref b0] below meth c H locs (29 + j + 1) (10412 + 6 * j + 6) (lw_Z below #[Value.ref b0] s) (F0 m 762 ls []) := by
        intro σ' τ' f' H locs ls hR S0 hl
        refine lv_iinc (v := nI (4 * (j + 1))) (lv' := [(4, .int (nI (4 * (j + 1)))), (0, .ref b0), (1, .ref (a 0)), (2, .ref (b 0)), (3, .ref o)]) hx hb d_Law_law_762 hl (k := 4) rfl (nI_add (4 * j) 4) (by decide) rfl (fun ls hl => ?_)
        refine lv_goto (tgt := 23) hx hb d_Law_law_765 (by decide) ?_
        exact ih (j + 1) (by omega) (by omega) σ' τ' f' H locs ls hR S0 (lv_sub hl [1, 2, 3, 4, 0] rfl)
      obtain ⟨-, hp⟩ := hp
      obtain ⟨p_block, p_way, p_cut, p_turn, p_end, p_order, p_at, p_parent, p_rules, p_common, p_sort, p_inLoop, p_look, p_edge, p_count⟩ := hp σ τ hR
      refine lv_aload_n hx hb d_Law_law_32 rfl (lv_at hl 0 rfl) ?_
      refine lv_iload hx hb d_Law_law_33 (lv_at hl 4 rfl) ?_
      refine va_sld hx hb hX hbl (A := fun q => s.heap.size ≤ q) (Nat.not_le.mpr hbl) S0.2.2.2.2.2 h0 d_Law_law_35 ?_
      refine lv_bipush (v := 15) hx hb d_Law_law_36 (by decide) ?_
      refine lv_iand hx hb d_Law_law_38 ?_
      refine lv_topi (fun v ev => ?_)
      by_cases c_0 : v = 0
      · refine lv_tableIn (x := v) (tgt := 112) hx hb d_Law_law_39 (by rw [c_0]; decide) (by rw [c_0]; decide) (by rw [c_0]; rfl) (by decide) ?_
        exact law_block hx hb hml hown hg hX hbl C1 S0 h1 h2 h3 hl hf p_block kk
      by_cases c_1 : v = 1
      · refine lv_tableIn (x := v) (tgt := 156) hx hb d_Law_law_39 (by rw [c_1]; decide) (by rw [c_1]; decide) (by rw [c_1]; rfl) (by decide) ?_
        exact law_way hx hb hml hown hg hX hbl C1 S0 h1 h2 h3 hl hf (p_way _ _) kk
      by_cases c_2 : v = 2
      · refine lv_tableIn (x := v) (tgt := 224) hx hb d_Law_law_39 (by rw [c_2]; decide) (by rw [c_2]; decide) (by rw [c_2]; rfl) (by decide) ?_
        exact law_cut hx hb hml hown hg hX hbl C1 S0 h1 h2 h3 hl hf (p_cut _ _) kk
      by_cases c_3 : v = 3
      · refine lv_tableIn (x := v) (tgt := 292) hx hb d_Law_law_39 (by rw [c_3]; decide) (by rw [c_3]; decide) (by rw [c_3]; rfl) (by decide) ?_
        exact law_turn hx hb hml hown hg hX hbl C1 S0 h1 h2 h3 hl hf (p_turn _ _ _) kk
      by_cases c_4 : v = 4
      · refine lv_tableIn (x := v) (tgt := 372) hx hb d_Law_law_39 (by rw [c_4]; decide) (by rw [c_4]; decide) (by rw [c_4]; rfl) (by decide) ?_
        exact law_end hx hb hml hown hg hX hbl C1 S0 h1 h2 h3 hl hf (p_end _ _) kk
      by_cases c_5 : v = 5
      · refine lv_tableIn (x := v) (tgt := 409) hx hb d_Law_law_39 (by rw [c_5]; decide) (by rw [c_5]; decide) (by rw [c_5]; rfl) (by decide) ?_
        exact law_order hx hb hml hown hg hX hbl C1 S0 h1 h2 h3 hl hf (p_order _) kk
      by_cases c_6 : v = 6
      · refine lv_tableIn (x := v) (tgt := 434) hx hb d_Law_law_39 (by rw [c_6]; decide) (by rw [c_6]; decide) (by rw [c_6]; rfl) (by decide) ?_
        exact law_at hx hb hml hown hg hX hbl C1 S0 h1 h2 h3 hl hf (p_at _) kk
      by_cases c_7 : v = 7
      · refine lv_tableIn (x := v) (tgt := 459) hx hb d_Law_law_39 (by rw [c_7]; decide) (by rw [c_7]; decide) (by rw [c_7]; rfl) (by decide) ?_
        exact law_parent hx hb hml hown hg hX hbl C1 S0 h1 h2 h3 hl hf (p_parent _) kk
      by_cases c_8 : v = 8
      · refine lv_tableIn (x := v) (tgt := 484) hx hb d_Law_law_39 (by rw [c_8]; decide) (by rw [c_8]; decide) (by rw [c_8]; rfl) (by decide) ?_
        exact law_rules hx hb hml hown hg hX hbl C1 S0 h1 h2 h3 hl hf (p_rules _ _) kk
      by_cases c_9 : v = 9
      · refine lv_tableIn (x := v) (tgt := 521) hx hb d_Law_law_39 (by rw [c_9]; decide) (by rw [c_9]; decide) (by rw [c_9]; rfl) (by decide) ?_
        exact law_common hx hb hml hown hg hX hbl C1 S0 h1 h2 h3 hl hf (p_common _ _) kk
      by_cases c_10 : v = 10
      · refine lv_tableIn (x := v) (tgt := 589) hx hb d_Law_law_39 (by rw [c_10]; decide) (by rw [c_10]; decide) (by rw [c_10]; rfl) (by decide) ?_
        exact law_sort hx hb hml hown hg hX hbl C1 S0 h1 h2 h3 hl hf (p_sort _ _) kk
      by_cases c_11 : v = 11
      · refine lv_tableIn (x := v) (tgt := 626) hx hb d_Law_law_39 (by rw [c_11]; decide) (by rw [c_11]; decide) (by rw [c_11]; rfl) (by decide) ?_
        exact law_inLoop hx hb hml hown hg hX hbl C1 S0 h1 h2 h3 hl hf (p_inLoop _ _) kk
      by_cases c_12 : v = 12
      · refine lv_tableIn (x := v) (tgt := 663) hx hb d_Law_law_39 (by rw [c_12]; decide) (by rw [c_12]; decide) (by rw [c_12]; rfl) (by decide) ?_
        exact law_look hx hb hml hown hg hX hbl C1 S0 h1 h2 h3 hl hf (p_look _ _) kk
      by_cases c_13 : v = 13
      · refine lv_tableIn (x := v) (tgt := 700) hx hb d_Law_law_39 (by rw [c_13]; decide) (by rw [c_13]; decide) (by rw [c_13]; rfl) (by decide) ?_
        exact law_edge hx hb hml hown hg hX hbl C1 S0 h1 h2 h3 hl hf (p_edge _ _) kk
      by_cases c_14 : v = 14
      · refine lv_tableIn (x := v) (tgt := 737) hx hb d_Law_law_39 (by rw [c_14]; decide) (by rw [c_14]; decide) (by rw [c_14]; rfl) (by decide) ?_
        exact law_count hx hb hml hown hg hX hbl C1 S0 h1 h2 h3 hl hf (p_count _) kk
      refine lv_tableOut (x := v) (tgt := 762) hx hb d_Law_law_39 (tsw15 c_0 c_1 c_2 c_3 c_4 c_5 c_6 c_7 c_8 c_9 c_10 c_11 c_12 c_13 c_14) (by decide) ?_
      refine W.widen (k := 29 + j + 1) (n := 10412 + 6 * j + 6) (Nat.le_add_right _ _) (Nat.le_add_right _ _) ?_
      exact kk σ τ f H locs ls hR S0 hl
