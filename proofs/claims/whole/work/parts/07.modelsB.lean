-- written by wip/gen (blockruler.py)
def f_Long_bitCount (v0 : Int64) : Int32 :=
  Lt (v0 - ((jushr v0 1) &&& 6148914691236517205)) (fun x1 : Int64 => Lt ((x1 &&& 3689348814741910323) + ((jushr x1 2) &&& 3689348814741910323)) (fun x2 : Int64 => Lt ((x2 + (jushr x2 4)) &&& 1085102592571150095) (fun x3 : Int64 => Lt ((x3 + (jushr x3 8)) + (jushr (x3 + (jushr x3 8)) 16)) (fun x4 : Int64 => (Int64.toInt32 (x4 + (jushr x4 32))) &&& 127))))
def rm_Long_bitCount : Room := { frames := 0, cells := 0, slots := 0, locals := 0 }
def f_Web_hasBlock (σ : SB) (v1 : Int32) : Int32 :=
  if v1 < 0 then (0) else (if (sB_blocks σ) ≤ v1 then (0) else (1))
def rm_Web_hasBlock : Room := { frames := 0, cells := 0, slots := 0, locals := 0 }
theorem nb_Web_hasBlock (σ : SB) (x0 : Int32) : narrow .boolean (.int (f_Web_hasBlock σ x0)) = .int (f_Web_hasBlock σ x0) := by
  unfold f_Web_hasBlock
  repeat' split
  all_goals rfl
def f_Web_hasWay (σ : SB) (v1 : Int32) (v2 : Int32) : Option (Int32) :=
  if (f_Web_hasBlock σ v1) = 0 then (some 0) else (if v2 < 0 then (some 0) else (if v1 < 0 ∨ 64 ≤ Int32.toNatClampNeg v1 then none else (if (sB_deg σ (Int32.toNatClampNeg v1)) ≤ v2 then (some 0) else (some 1))))
def rm_Web_hasWay : Room := { frames := 1, cells := 0, slots := 0, locals := 21 }
def f_Web_endOf (σ : SB) (v1 : Int32) (v2 : Int32) : Option (Int32) :=
  if (v1 * 8) + v2 < 0 ∨ 512 ≤ Int32.toNatClampNeg ((v1 * 8) + v2) then none else (some (sB_ends σ (Int32.toNatClampNeg ((v1 * 8) + v2))))
def rm_Web_endOf : Room := { frames := 0, cells := 0, slots := 0, locals := 0 }
def f_Web_addBlock (σ : SB) : Int32 × SB :=
  (sB_blocks σ, uB_blocks σ ((sB_blocks σ) + 1))
def rm_Web_addBlock : Room := { frames := 0, cells := 0, slots := 0, locals := 0 }
def f_Web_addWay (σ : SB) (v1 : Int32) (v2 : Int32) : Option (Int32 × SB) :=
  if v1 < 0 ∨ 64 ≤ Int32.toNatClampNeg v1 then none else (Lt (sB_deg σ (Int32.toNatClampNeg v1)) (fun x2 : Int32 => if (v1 * 8) + x2 < 0 ∨ 512 ≤ Int32.toNatClampNeg ((v1 * 8) + x2) then none else (some (x2, uB_ways (uB_deg (uB_ends σ (upd (sB_ends σ) (Int32.toNatClampNeg ((v1 * 8) + x2)) v2)) (upd (sB_deg σ) (Int32.toNatClampNeg v1) ((sB_deg σ (Int32.toNatClampNeg v1)) + 1))) ((sB_ways σ) + 1)))))
def rm_Web_addWay : Room := { frames := 0, cells := 0, slots := 0, locals := 0 }
def lp_Web_removeWay_18 : Nat → SB → Int32 → Int32 → Int32 → Int32 → Option (Int32 × SB)
  | 0, _, _, _, _, _ => none
  | n + 1, σ, v1, v3, v4, v5 => if v1 < 0 ∨ 64 ≤ Int32.toNatClampNeg v1 then none else (if (sB_deg σ (Int32.toNatClampNeg v1)) ≤ v5 then (some (v5, σ)) else (if v4 + v5 < 0 ∨ 512 ≤ Int32.toNatClampNeg (v4 + v5) then none else (if (v4 + v5) - 1 < 0 ∨ 512 ≤ Int32.toNatClampNeg ((v4 + v5) - 1) then none else (lp_Web_removeWay_18 n (uB_ends σ (upd (sB_ends σ) (Int32.toNatClampNeg ((v4 + v5) - 1)) (sB_ends σ (Int32.toNatClampNeg (v4 + v5))))) v1 v3 v4 (v5 + 1)))))
theorem lp_Web_removeWay_18_s (n : Nat) (σ : SB) (v1 : Int32) (v3 : Int32) (v4 : Int32) (v5 : Int32) : lp_Web_removeWay_18 (n + 1) σ v1 v3 v4 v5 = (if v1 < 0 ∨ 64 ≤ Int32.toNatClampNeg v1 then none else (if (sB_deg σ (Int32.toNatClampNeg v1)) ≤ v5 then (some (v5, σ)) else (if v4 + v5 < 0 ∨ 512 ≤ Int32.toNatClampNeg (v4 + v5) then none else (if (v4 + v5) - 1 < 0 ∨ 512 ≤ Int32.toNatClampNeg ((v4 + v5) - 1) then none else (lp_Web_removeWay_18 n (uB_ends σ (upd (sB_ends σ) (Int32.toNatClampNeg ((v4 + v5) - 1)) (sB_ends σ (Int32.toNatClampNeg (v4 + v5))))) v1 v3 v4 (v5 + 1)))))) := rfl
def f_Web_removeWay (σ : SB) (v1 : Int32) (v2 : Int32) : Option (Int32 × SB) :=
  (f_Web_endOf σ v1 v2).bind (fun r1 => (lp_Web_removeWay_18 100 σ v1 r1 (v1 * 8) (v2 + 1)).bind (fun y6 => if v1 < 0 ∨ 64 ≤ Int32.toNatClampNeg v1 then none else (some (r1, uB_ways (uB_deg y6.2 (upd (sB_deg y6.2) (Int32.toNatClampNeg v1) ((sB_deg y6.2 (Int32.toNatClampNeg v1)) - 1))) ((sB_ways y6.2) - 1)))))
def rm_Web_removeWay : Room := { frames := 1, cells := 0, slots := 0, locals := 22 }
def f_Web_moveWay (σ : SB) (v1 : Int32) (v2 : Int32) (v3 : Int32) : Option (Int32 × SB) :=
  (f_Web_endOf σ v1 v2).bind (fun r1 => if (v1 * 8) + v2 < 0 ∨ 512 ≤ Int32.toNatClampNeg ((v1 * 8) + v2) then none else (some (r1, uB_ends σ (upd (sB_ends σ) (Int32.toNatClampNeg ((v1 * 8) + v2)) v3))))
def rm_Web_moveWay : Room := { frames := 1, cells := 0, slots := 0, locals := 22 }
def f_BlockRuler_only (v0 : Int32) : Int64 :=
  jshl 1 v0
def rm_BlockRuler_only : Room := { frames := 0, cells := 0, slots := 0, locals := 0 }
def f_BlockRuler_holds (v0 : Int64) (v2 : Int32) : Int32 :=
  if (lg_cmp ((jushr v0 v2) &&& 1) 0) = 0 then (0) else (1)
def rm_BlockRuler_holds : Room := { frames := 0, cells := 0, slots := 0, locals := 0 }
theorem nb_BlockRuler_holds (x0 : Int64) (x1 : Int32) : narrow .boolean (.int (f_BlockRuler_holds x0 x1)) = .int (f_BlockRuler_holds x0 x1) := by
  unfold f_BlockRuler_holds
  repeat' split
  all_goals rfl
def f_BlockRuler_least (v0 : Int64) : Int32 :=
  f_Long_bitCount ((v0 &&& (-v0)) - 1)
def rm_BlockRuler_least : Room := { frames := 1, cells := 0, slots := 0, locals := 21 }
def f_BlockRuler_withoutLeast (v0 : Int64) : Int64 :=
  v0 &&& (v0 - 1)
def rm_BlockRuler_withoutLeast : Room := { frames := 0, cells := 0, slots := 0, locals := 0 }
def lp_BlockRuler_nth_19 : Nat → Int32 → Int64 → Int32 → Option (Int64 × Int32)
  | 0, _, _, _ => none
  | n + 1, v2, v3, v5 => if v2 ≤ v5 then (some (v3, v5)) else (Lt (f_BlockRuler_withoutLeast v3) (fun x4 : Int64 => lp_BlockRuler_nth_19 n v2 x4 (v5 + 1)))
theorem lp_BlockRuler_nth_19_s (n : Nat) (v2 : Int32) (v3 : Int64) (v5 : Int32) : lp_BlockRuler_nth_19 (n + 1) v2 v3 v5 = (if v2 ≤ v5 then (some (v3, v5)) else (Lt (f_BlockRuler_withoutLeast v3) (fun x4 : Int64 => lp_BlockRuler_nth_19 n v2 x4 (v5 + 1)))) := rfl
def f_BlockRuler_nth (v0 : Int64) (v2 : Int32) : Option (Int32) :=
  if v2 < 0 then (some (-1)) else (if v2 < (f_Long_bitCount v0) then ((lp_BlockRuler_nth_19 100 v2 v0 0).bind (fun y5 => some (f_BlockRuler_least y5.1))) else (some (-1)))
def rm_BlockRuler_nth : Room := { frames := 2, cells := 0, slots := 0, locals := 42 }
def f_Walk_blockAt (σ : SB) (v1 : Int32) : Option (Int32) :=
  if ((sB_reached σ) - 1) - v1 < 0 ∨ 64 ≤ Int32.toNatClampNeg (((sB_reached σ) - 1) - v1) then none else (some (sB_left σ (Int32.toNatClampNeg (((sB_reached σ) - 1) - v1))))
def rm_Walk_blockAt : Room := { frames := 0, cells := 0, slots := 0, locals := 0 }
def lp_Walk_lastOf_2 : Nat → SB → Int64 → Int32 → Option (Sum (Int32) (Int32))
  | 0, _, _, _ => none
  | n + 1, σ, v1, v3 => if (sB_reached σ) ≤ v3 then (some (Sum.inl v3)) else (if v3 < 0 ∨ 64 ≤ Int32.toNatClampNeg v3 then none else (if (f_BlockRuler_holds v1 (sB_left σ (Int32.toNatClampNeg v3))) = 0 then (lp_Walk_lastOf_2 n σ v1 (v3 + 1)) else (some (Sum.inr v3))))
theorem lp_Walk_lastOf_2_s (n : Nat) (σ : SB) (v1 : Int64) (v3 : Int32) : lp_Walk_lastOf_2 (n + 1) σ v1 v3 = (if (sB_reached σ) ≤ v3 then (some (Sum.inl v3)) else (if v3 < 0 ∨ 64 ≤ Int32.toNatClampNeg v3 then none else (if (f_BlockRuler_holds v1 (sB_left σ (Int32.toNatClampNeg v3))) = 0 then (lp_Walk_lastOf_2 n σ v1 (v3 + 1)) else (some (Sum.inr v3))))) := rfl
def f_Walk_lastOf (σ : SB) (v1 : Int64) : Option (Int32) :=
  (lp_Walk_lastOf_2 100 σ v1 0).bind (Sum.elim (fun z5 => some (-1)) (fun z6 => if z6 < 0 ∨ 64 ≤ Int32.toNatClampNeg z6 then none else (some (sB_left σ (Int32.toNatClampNeg z6)))))
def rm_Walk_lastOf : Room := { frames := 1, cells := 0, slots := 0, locals := 22 }
def lp_Walk_clear_7 : Nat → SB → Int32 → Option (Int32 × SB)
  | 0, _, _ => none
  | n + 1, σ, v1 => if 64 ≤ v1 then (some (v1, σ)) else (if v1 < 0 ∨ 64 ≤ Int32.toNatClampNeg v1 then none else (lp_Walk_clear_7 n (uB_comings (uB_comers (uB_taken (uB_orders σ (upd (sB_orders σ) (Int32.toNatClampNeg v1) (-1))) (upd (sB_taken σ) (Int32.toNatClampNeg v1) 0)) (vp_updL (sB_comers σ) (Int32.toNatClampNeg v1) 0)) (upd (sB_comings σ) (Int32.toNatClampNeg v1) 0)) (v1 + 1)))
theorem lp_Walk_clear_7_s (n : Nat) (σ : SB) (v1 : Int32) : lp_Walk_clear_7 (n + 1) σ v1 = (if 64 ≤ v1 then (some (v1, σ)) else (if v1 < 0 ∨ 64 ≤ Int32.toNatClampNeg v1 then none else (lp_Walk_clear_7 n (uB_comings (uB_comers (uB_taken (uB_orders σ (upd (sB_orders σ) (Int32.toNatClampNeg v1) (-1))) (upd (sB_taken σ) (Int32.toNatClampNeg v1) 0)) (vp_updL (sB_comers σ) (Int32.toNatClampNeg v1) 0)) (upd (sB_comings σ) (Int32.toNatClampNeg v1) 0)) (v1 + 1)))) := rfl
def f_Walk_clear (σ : SB) : Option (SB) :=
  (lp_Walk_clear_7 100 (uB_reached σ 0) 0).bind (fun y3 => some y3.2)
def rm_Walk_clear : Room := { frames := 0, cells := 0, slots := 0, locals := 0 }
def lp_Walk_goDeep_19 : Nat → SB → Int32 → Int32 → Option (Int32 × Int32 × SB)
  | 0, _, _, _ => none
  | n + 1, σ, v1, v2 => if 576 ≤ v2 then (some (v1, v2, σ)) else (if v1 ≤ 0 then (some (v1, v2, σ)) else (if v1 - 1 < 0 ∨ 64 ≤ Int32.toNatClampNeg (v1 - 1) then none else (Lt (sB_open σ (Int32.toNatClampNeg (v1 - 1))) (fun x5 : Int32 => if x5 < 0 ∨ 64 ≤ Int32.toNatClampNeg x5 then none else (if (sB_taken σ (Int32.toNatClampNeg x5)) < (sB_deg σ (Int32.toNatClampNeg x5)) then ((f_Web_endOf σ x5 (sB_taken σ (Int32.toNatClampNeg x5))).bind (fun r8 => if (f_BlockRuler_holds (sB_rset σ) r8) = 0 then (if v1 < 0 ∨ 64 ≤ Int32.toNatClampNeg v1 then none else (lp_Walk_goDeep_19 n (uB_open (uB_rset (uB_taken σ (upd (sB_taken σ) (Int32.toNatClampNeg x5) ((sB_taken σ (Int32.toNatClampNeg x5)) + 1))) ((sB_rset σ) ||| (f_BlockRuler_only r8))) (upd (sB_open σ) (Int32.toNatClampNeg v1) r8)) (v1 + 1) (v2 + 1))) else (lp_Walk_goDeep_19 n (uB_taken σ (upd (sB_taken σ) (Int32.toNatClampNeg x5) ((sB_taken σ (Int32.toNatClampNeg x5)) + 1))) v1 (v2 + 1)))) else (if sB_reached σ < 0 ∨ 64 ≤ Int32.toNatClampNeg (sB_reached σ) then none else (lp_Walk_goDeep_19 n (uB_reached (uB_left σ (upd (sB_left σ) (Int32.toNatClampNeg (sB_reached σ)) x5)) ((sB_reached σ) + 1)) (v1 + (-1)) (v2 + 1))))))))
theorem lp_Walk_goDeep_19_s (n : Nat) (σ : SB) (v1 : Int32) (v2 : Int32) : lp_Walk_goDeep_19 (n + 1) σ v1 v2 = (if 576 ≤ v2 then (some (v1, v2, σ)) else (if v1 ≤ 0 then (some (v1, v2, σ)) else (if v1 - 1 < 0 ∨ 64 ≤ Int32.toNatClampNeg (v1 - 1) then none else (Lt (sB_open σ (Int32.toNatClampNeg (v1 - 1))) (fun x5 : Int32 => if x5 < 0 ∨ 64 ≤ Int32.toNatClampNeg x5 then none else (if (sB_taken σ (Int32.toNatClampNeg x5)) < (sB_deg σ (Int32.toNatClampNeg x5)) then ((f_Web_endOf σ x5 (sB_taken σ (Int32.toNatClampNeg x5))).bind (fun r8 => if (f_BlockRuler_holds (sB_rset σ) r8) = 0 then (if v1 < 0 ∨ 64 ≤ Int32.toNatClampNeg v1 then none else (lp_Walk_goDeep_19 n (uB_open (uB_rset (uB_taken σ (upd (sB_taken σ) (Int32.toNatClampNeg x5) ((sB_taken σ (Int32.toNatClampNeg x5)) + 1))) ((sB_rset σ) ||| (f_BlockRuler_only r8))) (upd (sB_open σ) (Int32.toNatClampNeg v1) r8)) (v1 + 1) (v2 + 1))) else (lp_Walk_goDeep_19 n (uB_taken σ (upd (sB_taken σ) (Int32.toNatClampNeg x5) ((sB_taken σ (Int32.toNatClampNeg x5)) + 1))) v1 (v2 + 1)))) else (if sB_reached σ < 0 ∨ 64 ≤ Int32.toNatClampNeg (sB_reached σ) then none else (lp_Walk_goDeep_19 n (uB_reached (uB_left σ (upd (sB_left σ) (Int32.toNatClampNeg (sB_reached σ)) x5)) ((sB_reached σ) + 1)) (v1 + (-1)) (v2 + 1))))))))) := rfl
def f_Walk_goDeep (σ : SB) : Option (SB) :=
  if (0 : Int32) < 0 ∨ 64 ≤ Int32.toNatClampNeg 0 then none else ((lp_Walk_goDeep_19 600 (uB_open (uB_rset σ (f_BlockRuler_only 0)) (upd (sB_open σ) (Int32.toNatClampNeg 0) 0)) 1 0).bind (fun y12 => some y12.2.2))
def rm_Walk_goDeep : Room := { frames := 1, cells := 0, slots := 0, locals := 22 }
def lp_Walk_markEndsOf_2 : Nat → SB → Int32 → Int32 → Option (Int32 × SB)
  | 0, _, _, _ => none
  | n + 1, σ, v1, v2 => if v1 < 0 ∨ 64 ≤ Int32.toNatClampNeg v1 then none else (if (sB_deg σ (Int32.toNatClampNeg v1)) ≤ v2 then (some (v2, σ)) else ((f_Web_endOf σ v1 v2).bind (fun r3 => if r3 < 0 ∨ 64 ≤ Int32.toNatClampNeg r3 then none else (lp_Walk_markEndsOf_2 n (uB_comings (uB_comers σ (vp_updL (sB_comers σ) (Int32.toNatClampNeg r3) ((sB_comers σ (Int32.toNatClampNeg r3)) ||| (f_BlockRuler_only v1)))) (upd (sB_comings σ) (Int32.toNatClampNeg r3) ((sB_comings σ (Int32.toNatClampNeg r3)) + 1))) v1 (v2 + 1)))))
theorem lp_Walk_markEndsOf_2_s (n : Nat) (σ : SB) (v1 : Int32) (v2 : Int32) : lp_Walk_markEndsOf_2 (n + 1) σ v1 v2 = (if v1 < 0 ∨ 64 ≤ Int32.toNatClampNeg v1 then none else (if (sB_deg σ (Int32.toNatClampNeg v1)) ≤ v2 then (some (v2, σ)) else ((f_Web_endOf σ v1 v2).bind (fun r3 => if r3 < 0 ∨ 64 ≤ Int32.toNatClampNeg r3 then none else (lp_Walk_markEndsOf_2 n (uB_comings (uB_comers σ (vp_updL (sB_comers σ) (Int32.toNatClampNeg r3) ((sB_comers σ (Int32.toNatClampNeg r3)) ||| (f_BlockRuler_only v1)))) (upd (sB_comings σ) (Int32.toNatClampNeg r3) ((sB_comings σ (Int32.toNatClampNeg r3)) + 1))) v1 (v2 + 1)))))) := rfl
def f_Walk_markEndsOf (σ : SB) (v1 : Int32) : Option (SB) :=
  (lp_Walk_markEndsOf_2 100 σ v1 0).bind (fun y5 => some y5.2)
def rm_Walk_markEndsOf : Room := { frames := 1, cells := 0, slots := 0, locals := 22 }
def lp_Walk_make_10 : Nat → SB → Int32 → Option (Int32 × SB)
  | 0, _, _ => none
  | n + 1, σ, v1 => if (sB_reached σ) ≤ v1 then (some (v1, σ)) else ((f_Walk_blockAt σ v1).bind (fun r4 => if r4 < 0 ∨ 64 ≤ Int32.toNatClampNeg r4 then none else ((f_Walk_markEndsOf (uB_orders σ (upd (sB_orders σ) (Int32.toNatClampNeg r4) v1)) r4).bind (fun r6 => lp_Walk_make_10 n r6 (v1 + 1)))))
theorem lp_Walk_make_10_s (n : Nat) (σ : SB) (v1 : Int32) : lp_Walk_make_10 (n + 1) σ v1 = (if (sB_reached σ) ≤ v1 then (some (v1, σ)) else ((f_Walk_blockAt σ v1).bind (fun r4 => if r4 < 0 ∨ 64 ≤ Int32.toNatClampNeg r4 then none else ((f_Walk_markEndsOf (uB_orders σ (upd (sB_orders σ) (Int32.toNatClampNeg r4) v1)) r4).bind (fun r6 => lp_Walk_make_10 n r6 (v1 + 1)))))) := rfl
def f_Walk_make (σ : SB) : Option (SB) :=
  (f_Walk_clear σ).bind (fun r1 => (f_Walk_goDeep r1).bind (fun r2 => (lp_Walk_make_10 100 r2 0).bind (fun y7 => some y7.2)))
def rm_Walk_make : Room := { frames := 2, cells := 0, slots := 0, locals := 46 }
def f_Rulers_isRuled (σ : SB) (v1 : Int32) (v2 : Int32) : Option (Int32) :=
  if v2 < 0 ∨ 64 ≤ Int32.toNatClampNeg v2 then none else (some (f_BlockRuler_holds (sB_rof σ (Int32.toNatClampNeg v2)) v1))
def rm_Rulers_isRuled : Room := { frames := 1, cells := 0, slots := 0, locals := 22 }
def lp_Rulers_realmOf_5 : Nat → SB → Int32 → Int64 → Int32 → Option (Int64 × Int32)
  | 0, _, _, _, _ => none
  | n + 1, σ, v1, v2, v4 => if 64 ≤ v4 then (some (v2, v4)) else ((f_Rulers_isRuled σ v1 v4).bind (fun r2 => if r2 = 0 then (lp_Rulers_realmOf_5 n σ v1 v2 (v4 + 1)) else (Lt (v2 ||| (f_BlockRuler_only v4)) (fun x4 : Int64 => lp_Rulers_realmOf_5 n σ v1 x4 (v4 + 1)))))
theorem lp_Rulers_realmOf_5_s (n : Nat) (σ : SB) (v1 : Int32) (v2 : Int64) (v4 : Int32) : lp_Rulers_realmOf_5 (n + 1) σ v1 v2 v4 = (if 64 ≤ v4 then (some (v2, v4)) else ((f_Rulers_isRuled σ v1 v4).bind (fun r2 => if r2 = 0 then (lp_Rulers_realmOf_5 n σ v1 v2 (v4 + 1)) else (Lt (v2 ||| (f_BlockRuler_only v4)) (fun x4 : Int64 => lp_Rulers_realmOf_5 n σ v1 x4 (v4 + 1)))))) := rfl
def f_Rulers_realmOf (σ : SB) (v1 : Int32) : Option (Int64) :=
  (lp_Rulers_realmOf_5 100 σ v1 0 0).bind (fun y5 => some y5.1)
def rm_Rulers_realmOf : Room := { frames := 2, cells := 0, slots := 0, locals := 44 }
def lp_Rulers_edgeOf_24 : Nat → SB → Int64 → Int64 → Int64 → Int32 → Option (Int64 × Int32)
  | 0, _, _, _, _, _ => none
  | n + 1, σ, v2, v4, v6, v8 => if 64 ≤ v8 then (some (v6, v8)) else (if v8 < 0 ∨ 64 ≤ Int32.toNatClampNeg v8 then none else (if (lg_cmp ((sB_comers σ (Int32.toNatClampNeg v8)) &&& v2) 0) = 0 then (lp_Rulers_edgeOf_24 n σ v2 v4 v6 (v8 + 1)) else (if (f_BlockRuler_holds v4 v8) = 0 then (Lt (v6 ||| (f_BlockRuler_only v8)) (fun x7 : Int64 => lp_Rulers_edgeOf_24 n σ v2 v4 x7 (v8 + 1))) else (lp_Rulers_edgeOf_24 n σ v2 v4 v6 (v8 + 1)))))
theorem lp_Rulers_edgeOf_24_s (n : Nat) (σ : SB) (v2 : Int64) (v4 : Int64) (v6 : Int64) (v8 : Int32) : lp_Rulers_edgeOf_24 (n + 1) σ v2 v4 v6 v8 = (if 64 ≤ v8 then (some (v6, v8)) else (if v8 < 0 ∨ 64 ≤ Int32.toNatClampNeg v8 then none else (if (lg_cmp ((sB_comers σ (Int32.toNatClampNeg v8)) &&& v2) 0) = 0 then (lp_Rulers_edgeOf_24 n σ v2 v4 v6 (v8 + 1)) else (if (f_BlockRuler_holds v4 v8) = 0 then (Lt (v6 ||| (f_BlockRuler_only v8)) (fun x7 : Int64 => lp_Rulers_edgeOf_24 n σ v2 v4 x7 (v8 + 1))) else (lp_Rulers_edgeOf_24 n σ v2 v4 v6 (v8 + 1)))))) := rfl
def f_Rulers_edgeOf (σ : SB) (v1 : Int32) : Option (Int64) :=
  (f_Rulers_realmOf σ v1).bind (fun r1 => Lt (r1 &&& ((f_BlockRuler_only v1) ^^^ (-1))) (fun x2 : Int64 => (lp_Rulers_edgeOf_24 100 σ r1 x2 0 0).bind (fun y8 => some y8.1)))
def rm_Rulers_edgeOf : Room := { frames := 3, cells := 0, slots := 0, locals := 68 }
def lp_Rulers_sharedBy_20 : Nat → SB → Int64 → Int64 → Int32 → Int32 → Option (Int64 × Int64 × Int32)
  | 0, _, _, _, _, _ => none
  | n + 1, σ, v3, v5, v7, v8 => if v7 ≤ v8 then (some (v3, v5, v8)) else (if f_BlockRuler_least v5 < 0 ∨ 64 ≤ Int32.toNatClampNeg (f_BlockRuler_least v5) then none else (Lt (v3 &&& (sB_rof σ (Int32.toNatClampNeg (f_BlockRuler_least v5)))) (fun x3 : Int64 => Lt (f_BlockRuler_withoutLeast v5) (fun x4 : Int64 => lp_Rulers_sharedBy_20 n σ x3 x4 v7 (v8 + 1)))))
theorem lp_Rulers_sharedBy_20_s (n : Nat) (σ : SB) (v3 : Int64) (v5 : Int64) (v7 : Int32) (v8 : Int32) : lp_Rulers_sharedBy_20 (n + 1) σ v3 v5 v7 v8 = (if v7 ≤ v8 then (some (v3, v5, v8)) else (if f_BlockRuler_least v5 < 0 ∨ 64 ≤ Int32.toNatClampNeg (f_BlockRuler_least v5) then none else (Lt (v3 &&& (sB_rof σ (Int32.toNatClampNeg (f_BlockRuler_least v5)))) (fun x3 : Int64 => Lt (f_BlockRuler_withoutLeast v5) (fun x4 : Int64 => lp_Rulers_sharedBy_20 n σ x3 x4 v7 (v8 + 1)))))) := rfl
def f_Rulers_sharedBy (σ : SB) (v1 : Int64) : Option (Int64) :=
  (lp_Rulers_sharedBy_20 100 σ (sB_rset σ) v1 (f_Long_bitCount v1) 0).bind (fun y5 => some y5.1)
def rm_Rulers_sharedBy : Room := { frames := 2, cells := 0, slots := 0, locals := 42 }
def lp_Rulers_narrow_4 : Nat → SB → Int32 → Int32 → Option (Int32 × Int32 × SB)
  | 0, _, _, _ => none
  | n + 1, σ, v1, v2 => if (sB_reached σ) ≤ v2 then (some (v1, v2, σ)) else ((f_Walk_blockAt σ v2).bind (fun r2 => if r2 < 0 ∨ 64 ≤ Int32.toNatClampNeg r2 then none else ((f_Rulers_sharedBy σ (sB_comers σ (Int32.toNatClampNeg r2))).bind (fun r4 => Lt (r4 ||| (f_BlockRuler_only r2)) (fun x5 : Int64 => if (lg_cmp x5 (sB_rof σ (Int32.toNatClampNeg r2))) = 0 then (lp_Rulers_narrow_4 n σ v1 (v2 + 1)) else (lp_Rulers_narrow_4 n (uB_rof σ (vp_updL (sB_rof σ) (Int32.toNatClampNeg r2) x5)) 1 (v2 + 1)))))))
theorem lp_Rulers_narrow_4_s (n : Nat) (σ : SB) (v1 : Int32) (v2 : Int32) : lp_Rulers_narrow_4 (n + 1) σ v1 v2 = (if (sB_reached σ) ≤ v2 then (some (v1, v2, σ)) else ((f_Walk_blockAt σ v2).bind (fun r2 => if r2 < 0 ∨ 64 ≤ Int32.toNatClampNeg r2 then none else ((f_Rulers_sharedBy σ (sB_comers σ (Int32.toNatClampNeg r2))).bind (fun r4 => Lt (r4 ||| (f_BlockRuler_only r2)) (fun x5 : Int64 => if (lg_cmp x5 (sB_rof σ (Int32.toNatClampNeg r2))) = 0 then (lp_Rulers_narrow_4 n σ v1 (v2 + 1)) else (lp_Rulers_narrow_4 n (uB_rof σ (vp_updL (sB_rof σ) (Int32.toNatClampNeg r2) x5)) 1 (v2 + 1)))))))) := rfl
def f_Rulers_narrow (σ : SB) : Option (Int32 × SB) :=
  (lp_Rulers_narrow_4 100 σ 0 1).bind (fun y7 => if y7.1 = 0 ∨ y7.1 = 1 then (some (y7.1, y7.2.2)) else none)
def rm_Rulers_narrow : Room := { frames := 3, cells := 0, slots := 0, locals := 70 }
def lp_Rulers_make_2 : Nat → SB → Int32 → Option (Int32 × SB)
  | 0, _, _ => none
  | n + 1, σ, v1 => if 64 ≤ v1 then (some (v1, σ)) else (if (f_BlockRuler_holds (sB_rset σ) v1) = 0 then (if v1 < 0 ∨ 64 ≤ Int32.toNatClampNeg v1 then none else (lp_Rulers_make_2 n (uB_rof σ (vp_updL (sB_rof σ) (Int32.toNatClampNeg v1) 0)) (v1 + 1))) else (if v1 < 0 ∨ 64 ≤ Int32.toNatClampNeg v1 then none else (lp_Rulers_make_2 n (uB_rof σ (vp_updL (sB_rof σ) (Int32.toNatClampNeg v1) (sB_rset σ))) (v1 + 1))))
theorem lp_Rulers_make_2_s (n : Nat) (σ : SB) (v1 : Int32) : lp_Rulers_make_2 (n + 1) σ v1 = (if 64 ≤ v1 then (some (v1, σ)) else (if (f_BlockRuler_holds (sB_rset σ) v1) = 0 then (if v1 < 0 ∨ 64 ≤ Int32.toNatClampNeg v1 then none else (lp_Rulers_make_2 n (uB_rof σ (vp_updL (sB_rof σ) (Int32.toNatClampNeg v1) 0)) (v1 + 1))) else (if v1 < 0 ∨ 64 ≤ Int32.toNatClampNeg v1 then none else (lp_Rulers_make_2 n (uB_rof σ (vp_updL (sB_rof σ) (Int32.toNatClampNeg v1) (sB_rset σ))) (v1 + 1))))) := rfl
def lp_Rulers_make_59 : Nat → SB → Int32 → Int32 → Option (Int32 × Int32 × SB)
  | 0, _, _, _ => none
  | n + 1, σ, v1, v2 => if 4097 ≤ v2 then (some (v1, v2, σ)) else (if v1 = 0 then (some (v1, v2, σ)) else ((f_Rulers_narrow σ).bind (fun r9 => lp_Rulers_make_59 n r9.2 r9.1 (v2 + 1))))
theorem lp_Rulers_make_59_s (n : Nat) (σ : SB) (v1 : Int32) (v2 : Int32) : lp_Rulers_make_59 (n + 1) σ v1 v2 = (if 4097 ≤ v2 then (some (v1, v2, σ)) else (if v1 = 0 then (some (v1, v2, σ)) else ((f_Rulers_narrow σ).bind (fun r9 => lp_Rulers_make_59 n r9.2 r9.1 (v2 + 1))))) := rfl
def f_Rulers_make (σ : SB) : Option (SB) :=
  (lp_Rulers_make_2 5000 σ 0).bind (fun y5 => if (0 : Int32) < 0 ∨ 64 ≤ Int32.toNatClampNeg 0 then none else ((lp_Rulers_make_59 5000 (uB_rof y5.2 (vp_updL (sB_rof y5.2) (Int32.toNatClampNeg 0) (f_BlockRuler_only 0))) 1 0).bind (fun y10 => some y10.2.2)))
def rm_Rulers_make : Room := { frames := 4, cells := 0, slots := 0, locals := 95 }
def f_Loops_kindOf (σ : SB) (v1 : Int32) (v2 : Int32) : Option (Int32) :=
  (f_Web_endOf σ v1 v2).bind (fun r1 => if r1 < 0 ∨ 64 ≤ Int32.toNatClampNeg r1 then none else (if v1 < 0 ∨ 64 ≤ Int32.toNatClampNeg v1 then none else (if (sB_orders σ (Int32.toNatClampNeg r1)) ≤ (sB_orders σ (Int32.toNatClampNeg v1)) then ((f_Rulers_isRuled σ r1 v1).bind (fun r5 => if r5 = 0 then (some 2) else (some 1))) else (some 0))))
def rm_Loops_kindOf : Room := { frames := 2, cells := 0, slots := 0, locals := 44 }
def lp_Loops_depthOf_4 : Nat → SB → Int32 → Int32 → Int32 → Option (Int32 × Int32)
  | 0, _, _, _, _ => none
  | n + 1, σ, v1, v2, v3 => if 64 ≤ v3 then (some (v2, v3)) else (if v3 < 0 ∨ 64 ≤ Int32.toNatClampNeg v3 then none else (if (f_BlockRuler_holds (sB_lof σ (Int32.toNatClampNeg v3)) v1) = 0 then (lp_Loops_depthOf_4 n σ v1 v2 (v3 + 1)) else (lp_Loops_depthOf_4 n σ v1 (v2 + 1) (v3 + 1))))
theorem lp_Loops_depthOf_4_s (n : Nat) (σ : SB) (v1 : Int32) (v2 : Int32) (v3 : Int32) : lp_Loops_depthOf_4 (n + 1) σ v1 v2 v3 = (if 64 ≤ v3 then (some (v2, v3)) else (if v3 < 0 ∨ 64 ≤ Int32.toNatClampNeg v3 then none else (if (f_BlockRuler_holds (sB_lof σ (Int32.toNatClampNeg v3)) v1) = 0 then (lp_Loops_depthOf_4 n σ v1 v2 (v3 + 1)) else (lp_Loops_depthOf_4 n σ v1 (v2 + 1) (v3 + 1))))) := rfl
def f_Loops_depthOf (σ : SB) (v1 : Int32) : Option (Int32) :=
  (lp_Loops_depthOf_4 100 σ v1 0 0).bind (fun y4 => some y4.1)
def rm_Loops_depthOf : Room := { frames := 1, cells := 0, slots := 0, locals := 22 }
def lp_Loops_greatestDepth_4 : Nat → SB → Int32 → Int32 → Option (Int32 × Int32)
  | 0, _, _, _ => none
  | n + 1, σ, v1, v2 => if 64 ≤ v2 then (some (v1, v2)) else ((f_Loops_depthOf σ v2).bind (fun r2 => Lt (if v1 < r2 then r2 else v1) (fun x3 : Int32 => lp_Loops_greatestDepth_4 n σ x3 (v2 + 1))))
theorem lp_Loops_greatestDepth_4_s (n : Nat) (σ : SB) (v1 : Int32) (v2 : Int32) : lp_Loops_greatestDepth_4 (n + 1) σ v1 v2 = (if 64 ≤ v2 then (some (v1, v2)) else ((f_Loops_depthOf σ v2).bind (fun r2 => Lt (if v1 < r2 then r2 else v1) (fun x3 : Int32 => lp_Loops_greatestDepth_4 n σ x3 (v2 + 1))))) := rfl
def f_Loops_greatestDepth (σ : SB) : Option (Int32) :=
  (lp_Loops_greatestDepth_4 100 σ 0 0).bind (fun y4 => some y4.1)
def rm_Loops_greatestDepth : Room := { frames := 2, cells := 0, slots := 0, locals := 45 }
def lp_Loops_innermostOf_16 : Nat → SB → Int32 → Int32 → Int32 → Int32 → Option (Int32 × Int32 × Int32)
  | 0, _, _, _, _, _ => none
  | n + 1, σ, v1, v2, v3, v4 => if v4 < 0 then (some (v2, v3, v4)) else ((f_Walk_blockAt σ v4).bind (fun r2 => if r2 < 0 ∨ 64 ≤ Int32.toNatClampNeg r2 then none else (Lt (f_Long_bitCount (sB_lof σ (Int32.toNatClampNeg r2))) (fun x4 : Int32 => if (f_BlockRuler_holds (sB_lof σ (Int32.toNatClampNeg r2)) v1) = 0 then (lp_Loops_innermostOf_16 n σ v1 v2 v3 (v4 + (-1))) else (if v3 ≤ x4 then (lp_Loops_innermostOf_16 n σ v1 v2 v3 (v4 + (-1))) else (lp_Loops_innermostOf_16 n σ v1 r2 x4 (v4 + (-1))))))))
theorem lp_Loops_innermostOf_16_s (n : Nat) (σ : SB) (v1 : Int32) (v2 : Int32) (v3 : Int32) (v4 : Int32) : lp_Loops_innermostOf_16 (n + 1) σ v1 v2 v3 v4 = (if v4 < 0 then (some (v2, v3, v4)) else ((f_Walk_blockAt σ v4).bind (fun r2 => if r2 < 0 ∨ 64 ≤ Int32.toNatClampNeg r2 then none else (Lt (f_Long_bitCount (sB_lof σ (Int32.toNatClampNeg r2))) (fun x4 : Int32 => if (f_BlockRuler_holds (sB_lof σ (Int32.toNatClampNeg r2)) v1) = 0 then (lp_Loops_innermostOf_16 n σ v1 v2 v3 (v4 + (-1))) else (if v3 ≤ x4 then (lp_Loops_innermostOf_16 n σ v1 v2 v3 (v4 + (-1))) else (lp_Loops_innermostOf_16 n σ v1 r2 x4 (v4 + (-1))))))))) := rfl
def f_Loops_innermostOf (σ : SB) (v1 : Int32) : Option (Int32) :=
  (lp_Loops_innermostOf_16 100 σ v1 (-1) 65 ((sB_reached σ) - 1)).bind (fun y7 => some y7.1)
def rm_Loops_innermostOf : Room := { frames := 1, cells := 0, slots := 0, locals := 22 }
def lp_Loops_clear_17 : Nat → SB → Int32 → Option (Int32 × SB)
  | 0, _, _ => none
  | n + 1, σ, v1 => if 64 ≤ v1 then (some (v1, σ)) else (if v1 < 0 ∨ 64 ≤ Int32.toNatClampNeg v1 then none else (lp_Loops_clear_17 n (uB_lof σ (vp_updL (sB_lof σ) (Int32.toNatClampNeg v1) 0)) (v1 + 1)))
theorem lp_Loops_clear_17_s (n : Nat) (σ : SB) (v1 : Int32) : lp_Loops_clear_17 (n + 1) σ v1 = (if 64 ≤ v1 then (some (v1, σ)) else (if v1 < 0 ∨ 64 ≤ Int32.toNatClampNeg v1 then none else (lp_Loops_clear_17 n (uB_lof σ (vp_updL (sB_lof σ) (Int32.toNatClampNeg v1) 0)) (v1 + 1)))) := rfl
def f_Loops_clear (σ : SB) : Option (SB) :=
  (lp_Loops_clear_17 100 (uB_knots (uB_backs (uB_heads σ 0) 0) 0) 0).bind (fun y3 => some y3.2)
def rm_Loops_clear : Room := { frames := 0, cells := 0, slots := 0, locals := 0 }
def lp_Loops_markWaysOf_2 : Nat → SB → Int32 → Int32 → Option (Int32 × SB)
  | 0, _, _, _ => none
  | n + 1, σ, v1, v2 => if v1 < 0 ∨ 64 ≤ Int32.toNatClampNeg v1 then none else (if (sB_deg σ (Int32.toNatClampNeg v1)) ≤ v2 then (some (v2, σ)) else ((f_Loops_kindOf σ v1 v2).bind (fun r3 => if r3 = 0 then (if r3 = 2 then (if r3 = 1 then ((f_Web_endOf (uB_knots σ ((sB_knots σ) + 1)) v1 v2).bind (fun r10 => if r10 < 0 ∨ 64 ≤ Int32.toNatClampNeg r10 then none else (lp_Loops_markWaysOf_2 n (uB_lof (uB_knots σ ((sB_knots σ) + 1)) (vp_updL (sB_lof σ) (Int32.toNatClampNeg r10) ((sB_lof σ (Int32.toNatClampNeg r10)) ||| (f_BlockRuler_only v1)))) v1 (v2 + 1)))) else (lp_Loops_markWaysOf_2 n (uB_knots σ ((sB_knots σ) + 1)) v1 (v2 + 1))) else (if r3 = 1 then ((f_Web_endOf σ v1 v2).bind (fun r7 => if r7 < 0 ∨ 64 ≤ Int32.toNatClampNeg r7 then none else (lp_Loops_markWaysOf_2 n (uB_lof σ (vp_updL (sB_lof σ) (Int32.toNatClampNeg r7) ((sB_lof σ (Int32.toNatClampNeg r7)) ||| (f_BlockRuler_only v1)))) v1 (v2 + 1)))) else (lp_Loops_markWaysOf_2 n σ v1 (v2 + 1)))) else (if r3 = 2 then (if r3 = 1 then ((f_Web_endOf (uB_knots (uB_backs σ ((sB_backs σ) + 1)) ((sB_knots σ) + 1)) v1 v2).bind (fun r17 => if r17 < 0 ∨ 64 ≤ Int32.toNatClampNeg r17 then none else (lp_Loops_markWaysOf_2 n (uB_lof (uB_knots (uB_backs σ ((sB_backs σ) + 1)) ((sB_knots σ) + 1)) (vp_updL (sB_lof σ) (Int32.toNatClampNeg r17) ((sB_lof σ (Int32.toNatClampNeg r17)) ||| (f_BlockRuler_only v1)))) v1 (v2 + 1)))) else (lp_Loops_markWaysOf_2 n (uB_knots (uB_backs σ ((sB_backs σ) + 1)) ((sB_knots σ) + 1)) v1 (v2 + 1))) else (if r3 = 1 then ((f_Web_endOf (uB_backs σ ((sB_backs σ) + 1)) v1 v2).bind (fun r14 => if r14 < 0 ∨ 64 ≤ Int32.toNatClampNeg r14 then none else (lp_Loops_markWaysOf_2 n (uB_lof (uB_backs σ ((sB_backs σ) + 1)) (vp_updL (sB_lof σ) (Int32.toNatClampNeg r14) ((sB_lof σ (Int32.toNatClampNeg r14)) ||| (f_BlockRuler_only v1)))) v1 (v2 + 1)))) else (lp_Loops_markWaysOf_2 n (uB_backs σ ((sB_backs σ) + 1)) v1 (v2 + 1)))))))
theorem lp_Loops_markWaysOf_2_s (n : Nat) (σ : SB) (v1 : Int32) (v2 : Int32) : lp_Loops_markWaysOf_2 (n + 1) σ v1 v2 = (if v1 < 0 ∨ 64 ≤ Int32.toNatClampNeg v1 then none else (if (sB_deg σ (Int32.toNatClampNeg v1)) ≤ v2 then (some (v2, σ)) else ((f_Loops_kindOf σ v1 v2).bind (fun r3 => if r3 = 0 then (if r3 = 2 then (if r3 = 1 then ((f_Web_endOf (uB_knots σ ((sB_knots σ) + 1)) v1 v2).bind (fun r10 => if r10 < 0 ∨ 64 ≤ Int32.toNatClampNeg r10 then none else (lp_Loops_markWaysOf_2 n (uB_lof (uB_knots σ ((sB_knots σ) + 1)) (vp_updL (sB_lof σ) (Int32.toNatClampNeg r10) ((sB_lof σ (Int32.toNatClampNeg r10)) ||| (f_BlockRuler_only v1)))) v1 (v2 + 1)))) else (lp_Loops_markWaysOf_2 n (uB_knots σ ((sB_knots σ) + 1)) v1 (v2 + 1))) else (if r3 = 1 then ((f_Web_endOf σ v1 v2).bind (fun r7 => if r7 < 0 ∨ 64 ≤ Int32.toNatClampNeg r7 then none else (lp_Loops_markWaysOf_2 n (uB_lof σ (vp_updL (sB_lof σ) (Int32.toNatClampNeg r7) ((sB_lof σ (Int32.toNatClampNeg r7)) ||| (f_BlockRuler_only v1)))) v1 (v2 + 1)))) else (lp_Loops_markWaysOf_2 n σ v1 (v2 + 1)))) else (if r3 = 2 then (if r3 = 1 then ((f_Web_endOf (uB_knots (uB_backs σ ((sB_backs σ) + 1)) ((sB_knots σ) + 1)) v1 v2).bind (fun r17 => if r17 < 0 ∨ 64 ≤ Int32.toNatClampNeg r17 then none else (lp_Loops_markWaysOf_2 n (uB_lof (uB_knots (uB_backs σ ((sB_backs σ) + 1)) ((sB_knots σ) + 1)) (vp_updL (sB_lof σ) (Int32.toNatClampNeg r17) ((sB_lof σ (Int32.toNatClampNeg r17)) ||| (f_BlockRuler_only v1)))) v1 (v2 + 1)))) else (lp_Loops_markWaysOf_2 n (uB_knots (uB_backs σ ((sB_backs σ) + 1)) ((sB_knots σ) + 1)) v1 (v2 + 1))) else (if r3 = 1 then ((f_Web_endOf (uB_backs σ ((sB_backs σ) + 1)) v1 v2).bind (fun r14 => if r14 < 0 ∨ 64 ≤ Int32.toNatClampNeg r14 then none else (lp_Loops_markWaysOf_2 n (uB_lof (uB_backs σ ((sB_backs σ) + 1)) (vp_updL (sB_lof σ) (Int32.toNatClampNeg r14) ((sB_lof σ (Int32.toNatClampNeg r14)) ||| (f_BlockRuler_only v1)))) v1 (v2 + 1)))) else (lp_Loops_markWaysOf_2 n (uB_backs σ ((sB_backs σ) + 1)) v1 (v2 + 1)))))))) := rfl
def f_Loops_markWaysOf (σ : SB) (v1 : Int32) : Option (SB) :=
  (lp_Loops_markWaysOf_2 100 σ v1 0).bind (fun y19 => some y19.2)
def rm_Loops_markWaysOf : Room := { frames := 3, cells := 0, slots := 0, locals := 67 }
def lp_Loops_grown_23 : Nat → SB → Int64 → Int64 → Int32 → Option (Int64 × Int64 × Int32)
  | 0, _, _, _, _ => none
  | n + 1, σ, v4, v6, v8 => if 64 ≤ v8 then (some (v4, v6, v8)) else (if (lg_cmp v6 0) = 0 then (some (v4, v6, v8)) else (if f_BlockRuler_least v6 < 0 ∨ 64 ≤ Int32.toNatClampNeg (f_BlockRuler_least v6) then none else (Lt ((sB_comers σ (Int32.toNatClampNeg (f_BlockRuler_least v6))) &&& (v4 ^^^ (-1))) (fun x6 : Int64 => Lt ((f_BlockRuler_withoutLeast v6) ||| x6) (fun x7 : Int64 => lp_Loops_grown_23 n σ (v4 ||| x6) x7 (v8 + 1))))))
theorem lp_Loops_grown_23_s (n : Nat) (σ : SB) (v4 : Int64) (v6 : Int64) (v8 : Int32) : lp_Loops_grown_23 (n + 1) σ v4 v6 v8 = (if 64 ≤ v8 then (some (v4, v6, v8)) else (if (lg_cmp v6 0) = 0 then (some (v4, v6, v8)) else (if f_BlockRuler_least v6 < 0 ∨ 64 ≤ Int32.toNatClampNeg (f_BlockRuler_least v6) then none else (Lt ((sB_comers σ (Int32.toNatClampNeg (f_BlockRuler_least v6))) &&& (v4 ^^^ (-1))) (fun x6 : Int64 => Lt ((f_BlockRuler_withoutLeast v6) ||| x6) (fun x7 : Int64 => lp_Loops_grown_23 n σ (v4 ||| x6) x7 (v8 + 1))))))) := rfl
def f_Loops_grown (σ : SB) (v1 : Int32) (v2 : Int64) : Option (Int64) :=
  Lt (v2 ||| (f_BlockRuler_only v1)) (fun x1 : Int64 => Lt (v2 &&& ((f_BlockRuler_only v1) ^^^ (-1))) (fun x2 : Int64 => (lp_Loops_grown_23 100 σ x1 x2 0).bind (fun y8 => some y8.1)))
def rm_Loops_grown : Room := { frames := 2, cells := 0, slots := 0, locals := 42 }
def lp_Loops_make_6 : Nat → SB → Int32 → Option (Int32 × SB)
  | 0, _, _ => none
  | n + 1, σ, v1 => if (sB_reached σ) ≤ v1 then (some (v1, σ)) else ((f_Walk_blockAt σ v1).bind (fun r3 => (f_Loops_markWaysOf σ r3).bind (fun r4 => lp_Loops_make_6 n r4 (v1 + 1))))
theorem lp_Loops_make_6_s (n : Nat) (σ : SB) (v1 : Int32) : lp_Loops_make_6 (n + 1) σ v1 = (if (sB_reached σ) ≤ v1 then (some (v1, σ)) else ((f_Walk_blockAt σ v1).bind (fun r3 => (f_Loops_markWaysOf σ r3).bind (fun r4 => lp_Loops_make_6 n r4 (v1 + 1))))) := rfl
def lp_Loops_make_37 : Nat → SB → Int32 → Option (Int32 × SB)
  | 0, _, _ => none
  | n + 1, σ, v1 => if 64 ≤ v1 then (some (v1, σ)) else (if v1 < 0 ∨ 64 ≤ Int32.toNatClampNeg v1 then none else (if (lg_cmp (sB_lof σ (Int32.toNatClampNeg v1)) 0) = 0 then (lp_Loops_make_37 n σ (v1 + 1)) else ((f_Loops_grown (uB_heads σ ((sB_heads σ) + 1)) v1 (sB_lof σ (Int32.toNatClampNeg v1))).bind (fun r9 => lp_Loops_make_37 n (uB_lof (uB_heads σ ((sB_heads σ) + 1)) (vp_updL (sB_lof σ) (Int32.toNatClampNeg v1) r9)) (v1 + 1)))))
theorem lp_Loops_make_37_s (n : Nat) (σ : SB) (v1 : Int32) : lp_Loops_make_37 (n + 1) σ v1 = (if 64 ≤ v1 then (some (v1, σ)) else (if v1 < 0 ∨ 64 ≤ Int32.toNatClampNeg v1 then none else (if (lg_cmp (sB_lof σ (Int32.toNatClampNeg v1)) 0) = 0 then (lp_Loops_make_37 n σ (v1 + 1)) else ((f_Loops_grown (uB_heads σ ((sB_heads σ) + 1)) v1 (sB_lof σ (Int32.toNatClampNeg v1))).bind (fun r9 => lp_Loops_make_37 n (uB_lof (uB_heads σ ((sB_heads σ) + 1)) (vp_updL (sB_lof σ) (Int32.toNatClampNeg v1) r9)) (v1 + 1)))))) := rfl
def f_Loops_make (σ : SB) : Option (SB) :=
  (f_Loops_clear σ).bind (fun r1 => (lp_Loops_make_6 100 r1 0).bind (fun y5 => (lp_Loops_make_37 100 y5.2 0).bind (fun y10 => some y10.2)))
def rm_Loops_make : Room := { frames := 4, cells := 0, slots := 0, locals := 90 }
def f_BlockRuler_refresh (σ : SB) : Option (SB) :=
  if (sB_stale σ) = 0 then (some σ) else ((f_Walk_make σ).bind (fun r2 => (f_Rulers_make r2).bind (fun r3 => (f_Loops_make r3).bind (fun r4 => some (uB_stale r4 0)))))
def rm_BlockRuler_refresh : Room := { frames := 5, cells := 0, slots := 0, locals := 117 }
def f_BlockRuler_isReached (σ : SB) (v1 : Int32) : Option (Int32) :=
  if (f_Web_hasBlock σ v1) = 0 then (some 0) else (if v1 < 0 ∨ 64 ≤ Int32.toNatClampNeg v1 then none else (if (sB_orders σ (Int32.toNatClampNeg v1)) = (-1) then (some 0) else (some 1)))
def rm_BlockRuler_isReached : Room := { frames := 1, cells := 0, slots := 0, locals := 21 }
def f_BlockRuler_block (σ : SB) : Option ((Sum Nat Int32) × SB) :=
  if (sB_blocks σ) < 64 then (some (Sum.inr ((f_Web_addBlock (uB_stale σ 1)).1), (f_Web_addBlock (uB_stale σ 1)).2)) else (some (Sum.inl 0, σ))
def rm_BlockRuler_block : Room := { frames := 1, cells := 0, slots := 0, locals := 21 }
def f_BlockRuler_way (σ : SB) (v1 : Int32) (v2 : Int32) : Option ((Sum Nat Int32) × SB) :=
  if (f_Web_hasBlock σ v1) = 0 then (some (Sum.inl 1, σ)) else (if (f_Web_hasBlock σ v2) = 0 then (some (Sum.inl 1, σ)) else (if v1 < 0 ∨ 64 ≤ Int32.toNatClampNeg v1 then none else (if (sB_deg σ (Int32.toNatClampNeg v1)) < 8 then ((f_Web_addWay (uB_stale σ 1) v1 v2).bind (fun r5 => some (Sum.inr r5.1, r5.2))) else (some (Sum.inl 0, σ)))))
def rm_BlockRuler_way : Room := { frames := 1, cells := 0, slots := 0, locals := 23 }
def f_BlockRuler_cut (σ : SB) (v1 : Int32) (v2 : Int32) : Option ((Sum Nat Int32) × SB) :=
  (f_Web_hasWay σ v1 v2).bind (fun r1 => if r1 = 0 then (some (Sum.inl 2, σ)) else ((f_Web_removeWay (uB_stale σ 1) v1 v2).bind (fun r3 => some (Sum.inr r3.1, r3.2))))
def rm_BlockRuler_cut : Room := { frames := 2, cells := 0, slots := 0, locals := 47 }
def f_BlockRuler_turn (σ : SB) (v1 : Int32) (v2 : Int32) (v3 : Int32) : Option ((Sum Nat Int32) × SB) :=
  (f_Web_hasWay σ v1 v2).bind (fun r1 => if r1 = 0 then (some (Sum.inl 2, σ)) else (if (f_Web_hasBlock σ v3) = 0 then (some (Sum.inl 1, σ)) else ((f_Web_moveWay (uB_stale σ 1) v1 v2 v3).bind (fun r4 => some (Sum.inr r4.1, r4.2)))))
def rm_BlockRuler_turn : Room := { frames := 2, cells := 0, slots := 0, locals := 46 }
def f_BlockRuler_common (σ : SB) (v1 : Int32) (v2 : Int32) : Option ((Sum Nat Int32) × SB) :=
  (f_BlockRuler_refresh σ).bind (fun r1 => (f_BlockRuler_isReached r1 v1).bind (fun r2 => if r2 = 0 then (some (Sum.inl 1, r1)) else ((f_BlockRuler_isReached r1 v2).bind (fun r4 => if r4 = 0 then (some (Sum.inl 1, r1)) else (if v1 < 0 ∨ 64 ≤ Int32.toNatClampNeg v1 then none else (if v2 < 0 ∨ 64 ≤ Int32.toNatClampNeg v2 then none else ((f_Walk_lastOf r1 ((sB_rof r1 (Int32.toNatClampNeg v1)) &&& (sB_rof r1 (Int32.toNatClampNeg v2)))).bind (fun r8 => some (Sum.inr r8, r1)))))))))
def rm_BlockRuler_common : Room := { frames := 6, cells := 0, slots := 0, locals := 137 }
def f_BlockRuler_end (σ : SB) (v1 : Int32) (v2 : Int32) : Option (Int32) :=
  (f_Web_hasWay σ v1 v2).bind (fun r1 => if r1 = 0 then (some (-1)) else ((f_Web_endOf σ v1 v2).bind (fun r3 => some r3)))
def rm_BlockRuler_end : Room := { frames := 2, cells := 0, slots := 0, locals := 43 }
def f_BlockRuler_order (σ : SB) (v1 : Int32) : Option (Int32 × SB) :=
  (f_BlockRuler_refresh σ).bind (fun r1 => if (f_Web_hasBlock r1 v1) = 0 then (some (-1, r1)) else (if v1 < 0 ∨ 64 ≤ Int32.toNatClampNeg v1 then none else (some (sB_orders r1 (Int32.toNatClampNeg v1), r1))))
def rm_BlockRuler_order : Room := { frames := 6, cells := 0, slots := 0, locals := 137 }
def f_BlockRuler_at (σ : SB) (v1 : Int32) : Option (Int32 × SB) :=
  (f_BlockRuler_refresh σ).bind (fun r1 => if v1 < 0 then (some (-1, r1)) else (if (sB_reached r1) ≤ v1 then (some (-1, r1)) else ((f_Walk_blockAt r1 v1).bind (fun r4 => some (r4, r1)))))
def rm_BlockRuler_at : Room := { frames := 6, cells := 0, slots := 0, locals := 137 }
def f_BlockRuler_parent (σ : SB) (v1 : Int32) : Option (Int32 × SB) :=
  (f_BlockRuler_refresh σ).bind (fun r1 => if (f_Web_hasBlock r1 v1) = 0 then (some (-1, r1)) else (if v1 < 0 ∨ 64 ≤ Int32.toNatClampNeg v1 then none else ((f_Walk_lastOf r1 ((sB_rof r1 (Int32.toNatClampNeg v1)) &&& ((f_BlockRuler_only v1) ^^^ (-1)))).bind (fun r4 => some (r4, r1)))))
def rm_BlockRuler_parent : Room := { frames := 6, cells := 0, slots := 0, locals := 137 }
def f_BlockRuler_rules (σ : SB) (v1 : Int32) (v2 : Int32) : Option (Int32 × SB) :=
  (f_BlockRuler_refresh σ).bind (fun r1 => if (f_Web_hasBlock r1 v1) = 0 then (some (0, r1)) else (if (f_Web_hasBlock r1 v2) = 0 then (some (0, r1)) else ((f_Rulers_isRuled r1 v1 v2).bind (fun r4 => if r4 = 0 then (some (0, r1)) else (some (1, r1))))))
def rm_BlockRuler_rules : Room := { frames := 6, cells := 0, slots := 0, locals := 137 }
def f_BlockRuler_sort (σ : SB) (v1 : Int32) (v2 : Int32) : Option (Int32 × SB) :=
  (f_BlockRuler_refresh σ).bind (fun r1 => (f_BlockRuler_isReached r1 v1).bind (fun r2 => if r2 = 0 then (some (-1, r1)) else ((f_Web_hasWay r1 v1 v2).bind (fun r4 => if r4 = 0 then (some (-1, r1)) else ((f_Loops_kindOf r1 v1 v2).bind (fun r6 => some (r6, r1)))))))
def rm_BlockRuler_sort : Room := { frames := 6, cells := 0, slots := 0, locals := 137 }
def f_BlockRuler_inLoop (σ : SB) (v1 : Int32) (v2 : Int32) : Option (Int32 × SB) :=
  (f_BlockRuler_refresh σ).bind (fun r1 => if (f_Web_hasBlock r1 v1) = 0 then (some (0, r1)) else (if (f_Web_hasBlock r1 v2) = 0 then (some (0, r1)) else (if v1 < 0 ∨ 64 ≤ Int32.toNatClampNeg v1 then none else (if (f_BlockRuler_holds (sB_lof r1 (Int32.toNatClampNeg v1)) v2) = 0 then (some (0, r1)) else (some (1, r1))))))
def rm_BlockRuler_inLoop : Room := { frames := 6, cells := 0, slots := 0, locals := 137 }
def f_BlockRuler_look (σ : SB) (v1 : Int32) (v2 : Int32) : Option (Int32 × SB) :=
  (f_BlockRuler_refresh σ).bind (fun r1 => if (f_Web_hasBlock r1 v1) = 0 then (some (-1, r1)) else (Lt (v2) (fun x3 : Int32 => if x3 = 0 then (if v1 < 0 ∨ 64 ≤ Int32.toNatClampNeg v1 then none else (some (sB_deg r1 (Int32.toNatClampNeg v1), r1))) else (if x3 = 1 then (if v1 < 0 ∨ 64 ≤ Int32.toNatClampNeg v1 then none else (if (lg_cmp (sB_lof r1 (Int32.toNatClampNeg v1)) 0) = 0 then (some (0, r1)) else (some (1, r1)))) else (if x3 = 2 then (if v1 < 0 ∨ 64 ≤ Int32.toNatClampNeg v1 then none else (some (f_Long_bitCount (sB_lof r1 (Int32.toNatClampNeg v1)), r1))) else (if x3 = 3 then ((f_Loops_depthOf r1 v1).bind (fun r11 => some (r11, r1))) else (if x3 = 4 then ((f_Loops_innermostOf r1 v1).bind (fun r13 => some (r13, r1))) else (if x3 = 5 then ((f_Rulers_realmOf r1 v1).bind (fun r15 => some (f_Long_bitCount r15, r1))) else (if x3 = 6 then (if v1 < 0 ∨ 64 ≤ Int32.toNatClampNeg v1 then none else (some (sB_comings r1 (Int32.toNatClampNeg v1), r1))) else (some (-1, r1)))))))))))
def rm_BlockRuler_look : Room := { frames := 6, cells := 0, slots := 0, locals := 137 }
def f_BlockRuler_edge (σ : SB) (v1 : Int32) (v2 : Int32) : Option (Int32 × SB) :=
  (f_BlockRuler_refresh σ).bind (fun r1 => if (f_Web_hasBlock r1 v1) = 0 then (some (-1, r1)) else ((f_Rulers_edgeOf r1 v1).bind (fun r3 => (f_BlockRuler_nth r3 v2).bind (fun r4 => some (r4, r1)))))
def rm_BlockRuler_edge : Room := { frames := 6, cells := 0, slots := 0, locals := 137 }
def f_BlockRuler_count (σ : SB) (v1 : Int32) : Option (Int32 × SB) :=
  (f_BlockRuler_refresh σ).bind (fun r1 => Lt (v1) (fun x2 : Int32 => if x2 = 0 then (some (sB_blocks r1, r1)) else (if x2 = 1 then (some (sB_ways r1, r1)) else (if x2 = 2 then (some (sB_reached r1, r1)) else (if x2 = 3 then (some (sB_heads r1, r1)) else (if x2 = 4 then (some (sB_backs r1, r1)) else (if x2 = 5 then (some (sB_knots r1, r1)) else (if x2 = 6 then ((f_Loops_greatestDepth r1).bind (fun r9 => some (r9, r1))) else (some (-1, r1))))))))))
def rm_BlockRuler_count : Room := { frames := 6, cells := 0, slots := 0, locals := 137 }
