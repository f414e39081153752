section
-- ===== PART A: goes FIRST, ahead of the names: the tables' words, and 'selects' of the private methods out of them =====
/-- a private method of a class that the tables say can be made, by its rows of tables_1 -/
def lw_okq (q : MethodName × Nat) : Prop := (q.1.cls ≠ "java/lang/invoke/MethodHandle" ∧ q.1.cls ≠ "java/lang/invoke/VarHandle") ∧ Cond.instantiable q.1.cls q.2 ∈ tables_1 ∧ Cond.privateMethod q.1 ∈ tables_1 ∧ Cond.instanceMethod q.1 ∈ tables_1
theorem lw_p0 : lw_okq (⟨"BlockRuler", "refresh", "()V"⟩, 5) := ⟨⟨by decide +kernel, by decide +kernel⟩, List.mem_of_getElem? (i := 16) (by decide +kernel), List.mem_of_getElem? (i := 175) (by decide +kernel), List.mem_of_getElem? (i := 176) (by decide +kernel)⟩
theorem lw_p1 : lw_okq (⟨"BlockRuler$Walk", "clear", "()V"⟩, 9) := ⟨⟨by decide +kernel, by decide +kernel⟩, List.mem_of_getElem? (i := 49) (by decide +kernel), List.mem_of_getElem? (i := 183) (by decide +kernel), List.mem_of_getElem? (i := 184) (by decide +kernel)⟩
theorem lw_p2 : lw_okq (⟨"BlockRuler$Walk", "goDeep", "()V"⟩, 9) := ⟨⟨by decide +kernel, by decide +kernel⟩, List.mem_of_getElem? (i := 49) (by decide +kernel), List.mem_of_getElem? (i := 187) (by decide +kernel), List.mem_of_getElem? (i := 188) (by decide +kernel)⟩
theorem lw_p3 : lw_okq (⟨"BlockRuler$Walk", "markEndsOf", "(I)V"⟩, 9) := ⟨⟨by decide +kernel, by decide +kernel⟩, List.mem_of_getElem? (i := 49) (by decide +kernel), List.mem_of_getElem? (i := 202) (by decide +kernel), List.mem_of_getElem? (i := 203) (by decide +kernel)⟩
theorem lw_p4 : lw_okq (⟨"BlockRuler$Rulers", "narrow", "()Z"⟩, 2) := ⟨⟨by decide +kernel, by decide +kernel⟩, List.mem_of_getElem? (i := 93) (by decide +kernel), List.mem_of_getElem? (i := 212) (by decide +kernel), List.mem_of_getElem? (i := 213) (by decide +kernel)⟩
theorem lw_p5 : lw_okq (⟨"BlockRuler$Rulers", "sharedBy", "(J)J"⟩, 2) := ⟨⟨by decide +kernel, by decide +kernel⟩, List.mem_of_getElem? (i := 93) (by decide +kernel), List.mem_of_getElem? (i := 217) (by decide +kernel), List.mem_of_getElem? (i := 218) (by decide +kernel)⟩
theorem lw_p6 : lw_okq (⟨"BlockRuler$Loops", "clear", "()V"⟩, 7) := ⟨⟨by decide +kernel, by decide +kernel⟩, List.mem_of_getElem? (i := 107) (by decide +kernel), List.mem_of_getElem? (i := 238) (by decide +kernel), List.mem_of_getElem? (i := 239) (by decide +kernel)⟩
theorem lw_p7 : lw_okq (⟨"BlockRuler$Loops", "markWaysOf", "(I)V"⟩, 7) := ⟨⟨by decide +kernel, by decide +kernel⟩, List.mem_of_getElem? (i := 107) (by decide +kernel), List.mem_of_getElem? (i := 243) (by decide +kernel), List.mem_of_getElem? (i := 244) (by decide +kernel)⟩
theorem lw_p8 : lw_okq (⟨"BlockRuler$Loops", "grown", "(IJ)J"⟩, 7) := ⟨⟨by decide +kernel, by decide +kernel⟩, List.mem_of_getElem? (i := 107) (by decide +kernel), List.mem_of_getElem? (i := 257) (by decide +kernel), List.mem_of_getElem? (i := 258) (by decide +kernel)⟩
theorem lw_p9 : lw_okq (⟨"BlockRuler", "isReached", "(I)Z"⟩, 5) := ⟨⟨by decide +kernel, by decide +kernel⟩, List.mem_of_getElem? (i := 16) (by decide +kernel), List.mem_of_getElem? (i := 289) (by decide +kernel), List.mem_of_getElem? (i := 290) (by decide +kernel)⟩
theorem lw_p10 : lw_okq (⟨"java/lang/Throwable", "fillInStackTrace", "(I)Ljava/lang/Throwable;"⟩, 6) := ⟨⟨by decide +kernel, by decide +kernel⟩, List.mem_of_getElem? (i := 391) (by decide +kernel), List.mem_of_getElem? (i := 389) (by decide +kernel), List.mem_of_getElem? (i := 390) (by decide +kernel)⟩
theorem lw_p11 : lw_okq (⟨"BlockRulerModel", "isBlock", "(I)Z"⟩, 16) := ⟨⟨by decide +kernel, by decide +kernel⟩, List.mem_of_getElem? (i := 502) (by decide +kernel), List.mem_of_getElem? (i := 570) (by decide +kernel), List.mem_of_getElem? (i := 571) (by decide +kernel)⟩
theorem lw_p12 : lw_okq (⟨"BlockRulerModel", "isWay", "(II)Z"⟩, 16) := ⟨⟨by decide +kernel, by decide +kernel⟩, List.mem_of_getElem? (i := 502) (by decide +kernel), List.mem_of_getElem? (i := 578) (by decide +kernel), List.mem_of_getElem? (i := 579) (by decide +kernel)⟩
theorem lw_p13 : lw_okq (⟨"BlockRulerModel", "reckon", "()V"⟩, 16) := ⟨⟨by decide +kernel, by decide +kernel⟩, List.mem_of_getElem? (i := 502) (by decide +kernel), List.mem_of_getElem? (i := 594) (by decide +kernel), List.mem_of_getElem? (i := 595) (by decide +kernel)⟩
theorem lw_p14 : lw_okq (⟨"BlockRulerModel", "orders", "()V"⟩, 16) := ⟨⟨by decide +kernel, by decide +kernel⟩, List.mem_of_getElem? (i := 502) (by decide +kernel), List.mem_of_getElem? (i := 598) (by decide +kernel), List.mem_of_getElem? (i := 599) (by decide +kernel)⟩
theorem lw_p15 : lw_okq (⟨"BlockRulerModel", "leaveOut", "(I)V"⟩, 16) := ⟨⟨by decide +kernel, by decide +kernel⟩, List.mem_of_getElem? (i := 502) (by decide +kernel), List.mem_of_getElem? (i := 602) (by decide +kernel), List.mem_of_getElem? (i := 603) (by decide +kernel)⟩
def lw_privs_1 : List (MethodName × Nat) := [(⟨"BlockRuler", "refresh", "()V"⟩, 5), (⟨"BlockRuler$Walk", "clear", "()V"⟩, 9), (⟨"BlockRuler$Walk", "goDeep", "()V"⟩, 9), (⟨"BlockRuler$Walk", "markEndsOf", "(I)V"⟩, 9), (⟨"BlockRuler$Rulers", "narrow", "()Z"⟩, 2), (⟨"BlockRuler$Rulers", "sharedBy", "(J)J"⟩, 2), (⟨"BlockRuler$Loops", "clear", "()V"⟩, 7), (⟨"BlockRuler$Loops", "markWaysOf", "(I)V"⟩, 7), (⟨"BlockRuler$Loops", "grown", "(IJ)J"⟩, 7), (⟨"BlockRuler", "isReached", "(I)Z"⟩, 5), (⟨"java/lang/Throwable", "fillInStackTrace", "(I)Ljava/lang/Throwable;"⟩, 6), (⟨"BlockRulerModel", "isBlock", "(I)Z"⟩, 16), (⟨"BlockRulerModel", "isWay", "(II)Z"⟩, 16), (⟨"BlockRulerModel", "reckon", "()V"⟩, 16), (⟨"BlockRulerModel", "orders", "()V"⟩, 16), (⟨"BlockRulerModel", "leaveOut", "(I)V"⟩, 16)]
theorem lw_r1 : ∀ q ∈ lw_privs_1, lw_okq q := List.forall_mem_cons.mpr ⟨lw_p0, List.forall_mem_cons.mpr ⟨lw_p1, List.forall_mem_cons.mpr ⟨lw_p2, List.forall_mem_cons.mpr ⟨lw_p3, List.forall_mem_cons.mpr ⟨lw_p4, List.forall_mem_cons.mpr ⟨lw_p5, List.forall_mem_cons.mpr ⟨lw_p6, List.forall_mem_cons.mpr ⟨lw_p7, List.forall_mem_cons.mpr ⟨lw_p8, List.forall_mem_cons.mpr ⟨lw_p9, List.forall_mem_cons.mpr ⟨lw_p10, List.forall_mem_cons.mpr ⟨lw_p11, List.forall_mem_cons.mpr ⟨lw_p12, List.forall_mem_cons.mpr ⟨lw_p13, List.forall_mem_cons.mpr ⟨lw_p14, List.forall_mem_cons.mpr ⟨lw_p15, fun _ h => absurd h List.not_mem_nil⟩⟩⟩⟩⟩⟩⟩⟩⟩⟩⟩⟩⟩⟩⟩⟩
theorem lw_p16 : lw_okq (⟨"BlockRulerModel", "sortOf", "(II)I"⟩, 16) := ⟨⟨by decide +kernel, by decide +kernel⟩, List.mem_of_getElem? (i := 502) (by decide +kernel), List.mem_of_getElem? (i := 606) (by decide +kernel), List.mem_of_getElem? (i := 607) (by decide +kernel)⟩
theorem lw_p17 : lw_okq (⟨"BlockRulerModel", "loops", "(I)V"⟩, 16) := ⟨⟨by decide +kernel, by decide +kernel⟩, List.mem_of_getElem? (i := 502) (by decide +kernel), List.mem_of_getElem? (i := 610) (by decide +kernel), List.mem_of_getElem? (i := 611) (by decide +kernel)⟩
theorem lw_p18 : lw_okq (⟨"BlockRulerModel", "isReached", "(I)Z"⟩, 16) := ⟨⟨by decide +kernel, by decide +kernel⟩, List.mem_of_getElem? (i := 502) (by decide +kernel), List.mem_of_getElem? (i := 630) (by decide +kernel), List.mem_of_getElem? (i := 631) (by decide +kernel)⟩
theorem lw_p19 : lw_okq (⟨"BlockRulerModel", "depthOf", "(I)I"⟩, 16) := ⟨⟨by decide +kernel, by decide +kernel⟩, List.mem_of_getElem? (i := 502) (by decide +kernel), List.mem_of_getElem? (i := 646) (by decide +kernel), List.mem_of_getElem? (i := 647) (by decide +kernel)⟩
theorem lw_p20 : lw_okq (⟨"BlockRulerModel", "innermost", "(I)I"⟩, 16) := ⟨⟨by decide +kernel, by decide +kernel⟩, List.mem_of_getElem? (i := 502) (by decide +kernel), List.mem_of_getElem? (i := 650) (by decide +kernel), List.mem_of_getElem? (i := 651) (by decide +kernel)⟩
theorem lw_p21 : lw_okq (⟨"BlockRulerModel", "isEdge", "(II)Z"⟩, 16) := ⟨⟨by decide +kernel, by decide +kernel⟩, List.mem_of_getElem? (i := 502) (by decide +kernel), List.mem_of_getElem? (i := 658) (by decide +kernel), List.mem_of_getElem? (i := 659) (by decide +kernel)⟩
def lw_privs_2 : List (MethodName × Nat) := [(⟨"BlockRulerModel", "sortOf", "(II)I"⟩, 16), (⟨"BlockRulerModel", "loops", "(I)V"⟩, 16), (⟨"BlockRulerModel", "isReached", "(I)Z"⟩, 16), (⟨"BlockRulerModel", "depthOf", "(I)I"⟩, 16), (⟨"BlockRulerModel", "innermost", "(I)I"⟩, 16), (⟨"BlockRulerModel", "isEdge", "(II)Z"⟩, 16)]
theorem lw_r2 : ∀ q ∈ lw_privs_2, lw_okq q := List.forall_mem_cons.mpr ⟨lw_p16, List.forall_mem_cons.mpr ⟨lw_p17, List.forall_mem_cons.mpr ⟨lw_p18, List.forall_mem_cons.mpr ⟨lw_p19, List.forall_mem_cons.mpr ⟨lw_p20, List.forall_mem_cons.mpr ⟨lw_p21, fun _ h => absurd h List.not_mem_nil⟩⟩⟩⟩⟩⟩
def lw_privs : List (MethodName × Nat) := lw_privs_1 ++ (lw_privs_2)
def lw_tbl : List Cond := k2_sels lw_privs ++ tables_1
theorem lw_privs_ok : ∀ q ∈ lw_privs, lw_okq q := by
  show ∀ q ∈ lw_privs_1 ++ (lw_privs_2), lw_okq q
  exact List.forall_mem_append.mpr ⟨lw_r1, lw_r2⟩
end
section
/-- the words that every method here has: those of the tables that any walk keeps -/
def G_ : List Cond := lw_tbl.filter goodWord
theorem g_in {w : Cond} (h : w ∈ lw_tbl) (hg : goodWord w = true) : w ∈ G_ := List.mem_filter.mpr ⟨h, hg⟩
theorem g_all {ws : List Cond} (h : (ws.all fun w => decide (w ∈ lw_tbl)) = true) (hg : ws.all goodWord = true) : ∀ w ∈ ws, w ∈ G_ := fun w hw => g_in (of_decide_eq_true (List.all_eq_true.mp h w hw)) (List.all_eq_true.mp hg w hw)
theorem good_G : GoodIn G_ G_ := fun w h => ⟨h, good_of_word (List.mem_filter.mp h).2⟩
theorem gdC {w : Cond} (h : w ∈ G_) : GoodIn G_ (w :: G_) := fun x hx => by
  rcases List.mem_cons.mp hx with rfl | hx
  · exact good_G _ h
  · exact good_G _ hx
theorem gdV {own : String} {idx : Nat} {C : String} {y : MethodName} {w : Cond} (h1 : Cond.methodLink own idx y ∈ G_) (h2 : Cond.instanceMethod y ∈ G_) (h3 : Cond.selects C y y ∈ G_) (h4 : Cond.initialized C ∈ G_) (h5 : w ∈ G_) : GoodIn G_ (wsV own idx C y (w :: G_)) := fun x hx => by
  rcases List.mem_append.mp hx with hx | hx
  · simp only [List.mem_cons, List.not_mem_nil, or_false] at hx
    rcases hx with rfl | rfl | rfl | rfl
    · exact good_G _ h1
    · exact good_G _ h2
    · exact good_G _ h3
    · exact good_G _ h4
  · exact gdC h5 x hx
theorem gdS {own : String} {idx : Nat} {y : MethodName} {w : Cond} (h1 : Cond.methodLink own idx y ∈ G_) (h2 : Cond.static y ∈ G_) (h4 : Cond.initialized own ∈ G_) (h5 : w ∈ G_) : GoodIn G_ (wsS own idx y (w :: G_)) := fun x hx => by
  rcases List.mem_append.mp hx with hx | hx
  · simp only [List.mem_cons, List.not_mem_nil, or_false] at hx
    rcases hx with rfl | rfl | rfl
    · exact good_G _ h1
    · exact good_G _ h2
    · exact good_G _ h4
  · exact gdC h5 x hx
theorem gdSX {own : String} {idx : Nat} {y : MethodName} {w : Cond} (h1 : Cond.methodLink own idx y ∈ G_) (h2 : Cond.static y ∈ G_) (h4 : Cond.initialized y.cls ∈ G_) (h5 : w ∈ G_) : GoodIn G_ (va_wsS own idx y (w :: G_)) := fun x hx => by
  rcases List.mem_append.mp hx with hx | hx
  · simp only [List.mem_cons, List.not_mem_nil, or_false] at hx
    rcases hx with rfl | rfl | rfl
    · exact good_G _ h1
    · exact good_G _ h2
    · exact good_G _ h4
  · exact gdC h5 x hx
-- steps through a model
def Lt {α β : Type} (e : α) (f : α → β) : β := f e
theorem lt_ {α β : Type} {e : α} {f : α → β} {r : β} (h : Lt e f = r) (x : α) (hx : x = e) : f x = r := by
  subst hx
  exact h
theorem gd {α : Type} {i : Int32} {n : Nat} {t : Option α} {r : α} (h : (if i < 0 ∨ n ≤ Int32.toNatClampNeg i then none else t) = some r) : vp_in i n ∧ t = some r := by
  by_cases hc : i < 0 ∨ n ≤ Int32.toNatClampNeg i
  · rw [if_pos hc] at h
    cases h
  · rw [if_neg hc] at h
    exact ⟨hc, h⟩
theorem gz {α : Type} {x : Int32} {t : Option α} {r : α} (h : (if x = 0 ∨ x = 1 then t else none) = some r) : narrow .boolean (.int x) = .int x ∧ t = some r := by
  by_cases hc : x = 0 ∨ x = 1
  · rw [if_pos hc] at h
    refine ⟨?_, h⟩
    rcases hc with rfl | rfl <;> rfl
  · rw [if_neg hc] at h
    cases h
theorem b_t {α : Type} {c : Prop} [Decidable c] {x y r : α} (h : (if c then x else y) = r) (hc : c) : x = r := by
  rw [if_pos hc] at h
  exact h
theorem b_f {α : Type} {c : Prop} [Decidable c] {x y r : α} (h : (if c then x else y) = r) (hc : ¬ c) : y = r := by
  rw [if_neg hc] at h
  exact h
theorem bd {α β : Type} {x : Option α} {f : α → Option β} {r : β} (h : x.bind f = some r) : ∃ y, x = some y ∧ f y = some r := by
  cases x with
  | none => cases h
  | some y => exact ⟨y, rfl, h⟩
theorem s_l {α β γ : Type} {f : α → γ} {g : β → γ} {z : α} {r : γ} (h : Sum.elim f g (Sum.inl z) = r) : f z = r := h
theorem s_r {α β γ : Type} {f : α → γ} {g : β → γ} {z : β} {r : γ} (h : Sum.elim f g (Sum.inr z) = r) : g z = r := h
def jushr (x : Int64) (y : Int32) : Int64 := (x.toUInt64 >>> (y.toInt64.toUInt64 &&& Int64.toUInt64 63)).toInt64
def jshl (x : Int64) (y : Int32) : Int64 := x <<< (y.toInt64 &&& 63)
def jshr (x : Int64) (y : Int32) : Int64 := x >>> (y.toInt64 &&& 63)
def wushr (x y : Int32) : Int32 := (x.toUInt32 >>> (y.toUInt32 &&& Int32.toUInt32 31)).toInt32
theorem tswN {x : Int32} {k : Int32} {n : Int} (h : ¬ x = k) (hk : k.toInt = n) : x.toInt ≠ n := fun q => h (Int32.toInt_inj.mp (q.trans hk.symm))
theorem tsw7 {x : Int32} (h0 : ¬ x = 0) (h1 : ¬ x = 1) (h2 : ¬ x = 2) (h3 : ¬ x = 3) (h4 : ¬ x = 4) (h5 : ¬ x = 5) (h6 : ¬ x = 6) : x.toInt < 0 ∨ 6 < x.toInt := by
  have a0 := tswN (n := 0) h0 (by decide)
  have a1 := tswN (n := 1) h1 (by decide)
  have a2 := tswN (n := 2) h2 (by decide)
  have a3 := tswN (n := 3) h3 (by decide)
  have a4 := tswN (n := 4) h4 (by decide)
  have a5 := tswN (n := 5) h5 (by decide)
  have a6 := tswN (n := 6) h6 (by decide)
  omega
-- what a method's walk has at hand
abbrev Cx (own : String) (cc : ByteArray) (nL : Nat) (p : Program) (s : State) (m : MethodId) (args : Array Value) (meth : Method) (c : Code) : Prop :=
  p.tables.exec = Jvm.exec ∧ c.code = cc ∧ c.maxLocals = nL ∧ s.vm.findClass own = some m.cls ∧ (∀ w ∈ G_, w.before args s = true) ∧ meth.locks = false
/-- the end of a method that only reads -/
def QcV (v : Value) : Array Value → State → Outcome → State → Prop := fun _ st o t => o = .returned (some v) ∧ t.heap = st.heap
section RO
variable {p : Program} {l : Launch} {e : Env} {R : Room} {s : State} {m : MethodId} {args : Array Value} {below : List Frame} {meth : Method} {c : Code} {H : Heap} {locs : List Loc} {cells slots : Nat} {Q : State → Prop} {pc : Nat} {ls : Array Slot} {rest st0 : List Value} {a : Array Value}
theorem ro_call {v : Value} (hr : va_Run p l e R s m args below meth c H locs cells slots 0 0 (F0 m pc ls st0) rest (QcV v a) (fun _ => False)) (kk : W p l e R s m args below meth c H locs cells slots Q (F0 m (pc + 3) ls (v :: rest))) : W p l e R s m args below meth c H locs cells slots Q (F0 m pc ls st0) := by
  intro T hT X
  obtain ⟨v', st₀, t, T', L, h0, X', hL, e1, e2, ⟨hv, hh⟩, st⟩ := hr T hT X
  cases hv
  obtain ⟨t2, a1, b1⟩ := kk T' (by rw [e1, hh, h0]) (Stand.forget X' (fun q h => (hL q h).elim))
  exact ⟨t2, st t2 a1, b1⟩
end RO
theorem va_blind0 {av : List Value} : FrameBlind (va_Pc av (fun _ => True)) := fun _ _ _ _ h => h
end
section
-- written by wip/gen (blockruler.py)
def F_BlockRuler : u_T := fun k => match k with
  | 0 => ("BlockRuler", "web", "LBlockRuler$Web;", true)
  | 1 => ("BlockRuler", "walk", "LBlockRuler$Walk;", true)
  | 2 => ("BlockRuler", "rulers", "LBlockRuler$Rulers;", true)
  | 3 => ("BlockRuler", "loops", "LBlockRuler$Loops;", true)
  | _ => ("BlockRuler", "stale", "Z", false)
def t_BlockRuler : Nat → FieldType := fun k => match k with
  | 0 => .object "BlockRuler$Web"
  | 1 => .object "BlockRuler$Walk"
  | 2 => .object "BlockRuler$Rulers"
  | 3 => .object "BlockRuler$Loops"
  | _ => .boolean
theorem n_BlockRuler : ∀ a, a < 5 → ∀ b, b < 5 → a ≠ b → (F_BlockRuler a).2.1 ≠ (F_BlockRuler b).2.1 := by decide +kernel
theorem t_BlockRuler_ok : ∀ k, k < 5 → parseFieldDescriptor (F_BlockRuler k).2.2.1 = some (t_BlockRuler k) := by decide +kernel
theorem i_BlockRuler : ∀ w ∈ u_ws "BlockRuler" F_BlockRuler 5, w ∈ G_ := g_all (by decide +kernel) (by decide +kernel)
def F_Web : u_T := fun k => match k with
  | 0 => ("BlockRuler$Web", "degrees", "[I", true)
  | 1 => ("BlockRuler$Web", "ends", "[I", true)
  | 2 => ("BlockRuler$Web", "blocks", "I", false)
  | _ => ("BlockRuler$Web", "ways", "I", false)
def t_Web : Nat → FieldType := fun k => match k with
  | 0 => .array .int
  | 1 => .array .int
  | 2 => .int
  | _ => .int
theorem n_Web : ∀ a, a < 4 → ∀ b, b < 4 → a ≠ b → (F_Web a).2.1 ≠ (F_Web b).2.1 := by decide +kernel
theorem t_Web_ok : ∀ k, k < 4 → parseFieldDescriptor (F_Web k).2.2.1 = some (t_Web k) := by decide +kernel
theorem i_Web : ∀ w ∈ u_ws "BlockRuler$Web" F_Web 4, w ∈ G_ := g_all (by decide +kernel) (by decide +kernel)
def F_Walk : u_T := fun k => match k with
  | 0 => ("BlockRuler$Walk", "web", "LBlockRuler$Web;", true)
  | 1 => ("BlockRuler$Walk", "orders", "[I", true)
  | 2 => ("BlockRuler$Walk", "left", "[I", true)
  | 3 => ("BlockRuler$Walk", "open", "[I", true)
  | 4 => ("BlockRuler$Walk", "taken", "[I", true)
  | 5 => ("BlockRuler$Walk", "comers", "[J", true)
  | 6 => ("BlockRuler$Walk", "comings", "[I", true)
  | 7 => ("BlockRuler$Walk", "reached", "I", false)
  | _ => ("BlockRuler$Walk", "reachedSet", "J", false)
def t_Walk : Nat → FieldType := fun k => match k with
  | 0 => .object "BlockRuler$Web"
  | 1 => .array .int
  | 2 => .array .int
  | 3 => .array .int
  | 4 => .array .int
  | 5 => .array .long
  | 6 => .array .int
  | 7 => .int
  | _ => .long
theorem n_Walk : ∀ a, a < 9 → ∀ b, b < 9 → a ≠ b → (F_Walk a).2.1 ≠ (F_Walk b).2.1 := by decide +kernel
theorem t_Walk_ok : ∀ k, k < 9 → parseFieldDescriptor (F_Walk k).2.2.1 = some (t_Walk k) := by decide +kernel
theorem i_Walk : ∀ w ∈ u_ws "BlockRuler$Walk" F_Walk 9, w ∈ G_ := g_all (by decide +kernel) (by decide +kernel)
def F_Rulers : u_T := fun k => match k with
  | 0 => ("BlockRuler$Rulers", "walk", "LBlockRuler$Walk;", true)
  | _ => ("BlockRuler$Rulers", "of", "[J", true)
def t_Rulers : Nat → FieldType := fun k => match k with
  | 0 => .object "BlockRuler$Walk"
  | _ => .array .long
theorem n_Rulers : ∀ a, a < 2 → ∀ b, b < 2 → a ≠ b → (F_Rulers a).2.1 ≠ (F_Rulers b).2.1 := by decide +kernel
theorem t_Rulers_ok : ∀ k, k < 2 → parseFieldDescriptor (F_Rulers k).2.2.1 = some (t_Rulers k) := by decide +kernel
theorem i_Rulers : ∀ w ∈ u_ws "BlockRuler$Rulers" F_Rulers 2, w ∈ G_ := g_all (by decide +kernel) (by decide +kernel)
def F_Loops : u_T := fun k => match k with
  | 0 => ("BlockRuler$Loops", "web", "LBlockRuler$Web;", true)
  | 1 => ("BlockRuler$Loops", "walk", "LBlockRuler$Walk;", true)
  | 2 => ("BlockRuler$Loops", "rulers", "LBlockRuler$Rulers;", true)
  | 3 => ("BlockRuler$Loops", "of", "[J", true)
  | 4 => ("BlockRuler$Loops", "heads", "I", false)
  | 5 => ("BlockRuler$Loops", "backs", "I", false)
  | _ => ("BlockRuler$Loops", "knots", "I", false)
def t_Loops : Nat → FieldType := fun k => match k with
  | 0 => .object "BlockRuler$Web"
  | 1 => .object "BlockRuler$Walk"
  | 2 => .object "BlockRuler$Rulers"
  | 3 => .array .long
  | 4 => .int
  | 5 => .int
  | _ => .int
theorem n_Loops : ∀ a, a < 7 → ∀ b, b < 7 → a ≠ b → (F_Loops a).2.1 ≠ (F_Loops b).2.1 := by decide +kernel
theorem t_Loops_ok : ∀ k, k < 7 → parseFieldDescriptor (F_Loops k).2.2.1 = some (t_Loops k) := by decide +kernel
theorem i_Loops : ∀ w ∈ u_ws "BlockRuler$Loops" F_Loops 7, w ∈ G_ := g_all (by decide +kernel) (by decide +kernel)
def F_Model : u_T := fun k => match k with
  | 0 => ("BlockRulerModel", "thrown", "I", false)
  | 1 => ("BlockRulerModel", "blocks", "I", false)
  | 2 => ("BlockRulerModel", "many", "[I", true)
  | 3 => ("BlockRulerModel", "ends", "[I", true)
  | 4 => ("BlockRulerModel", "isDone", "Z", false)
  | 5 => ("BlockRulerModel", "reached", "I", false)
  | 6 => ("BlockRulerModel", "order", "[I", true)
  | 7 => ("BlockRulerModel", "at", "[I", true)
  | 8 => ("BlockRulerModel", "rules", "[Z", true)
  | 9 => ("BlockRulerModel", "parent", "[I", true)
  | 10 => ("BlockRulerModel", "isHead", "[Z", true)
  | 11 => ("BlockRulerModel", "loop", "[Z", true)
  | 12 => ("BlockRulerModel", "loopSize", "[I", true)
  | 13 => ("BlockRulerModel", "seen", "[Z", true)
  | 14 => ("BlockRulerModel", "pile", "[I", true)
  | _ => ("BlockRulerModel", "next", "[I", true)
def t_Model : Nat → FieldType := fun k => match k with
  | 0 => .int
  | 1 => .int
  | 2 => .array .int
  | 3 => .array .int
  | 4 => .boolean
  | 5 => .int
  | 6 => .array .int
  | 7 => .array .int
  | 8 => .array .boolean
  | 9 => .array .int
  | 10 => .array .boolean
  | 11 => .array .boolean
  | 12 => .array .int
  | 13 => .array .boolean
  | 14 => .array .int
  | _ => .array .int
theorem n_Model : ∀ a, a < 16 → ∀ b, b < 16 → a ≠ b → (F_Model a).2.1 ≠ (F_Model b).2.1 := by decide +kernel
theorem t_Model_ok : ∀ k, k < 16 → parseFieldDescriptor (F_Model k).2.2.1 = some (t_Model k) := by decide +kernel
theorem i_Model : ∀ w ∈ u_ws "BlockRulerModel" F_Model 16, w ∈ G_ := g_all (by decide +kernel) (by decide +kernel)
abbrev classes : List vw_C := [("BlockRuler", F_BlockRuler, 5), ("BlockRuler$Web", F_Web, 4), ("BlockRuler$Walk", F_Walk, 9), ("BlockRuler$Rulers", F_Rulers, 2), ("BlockRuler$Loops", F_Loops, 7), ("BlockRulerModel", F_Model, 16)]
abbrev b_Long_bitCount : ByteArray := prog_12_method_50_code
def y_Long_bitCount : MethodName := ⟨"java/lang/Long", "bitCount", "(J)I"⟩
abbrev b_BlockRuler_init : ByteArray := prog_1_method_1_code
def y_BlockRuler_init : MethodName := ⟨"BlockRuler", "<init>", "()V"⟩
abbrev b_BlockRuler_block : ByteArray := prog_1_method_2_code
def y_BlockRuler_block : MethodName := ⟨"BlockRuler", "block", "()I"⟩
abbrev b_BlockRuler_way : ByteArray := prog_1_method_3_code
def y_BlockRuler_way : MethodName := ⟨"BlockRuler", "way", "(II)I"⟩
abbrev b_BlockRuler_cut : ByteArray := prog_1_method_4_code
def y_BlockRuler_cut : MethodName := ⟨"BlockRuler", "cut", "(II)I"⟩
abbrev b_BlockRuler_turn : ByteArray := prog_1_method_5_code
def y_BlockRuler_turn : MethodName := ⟨"BlockRuler", "turn", "(III)I"⟩
abbrev b_BlockRuler_end : ByteArray := prog_1_method_6_code
def y_BlockRuler_end : MethodName := ⟨"BlockRuler", "end", "(II)I"⟩
abbrev b_BlockRuler_order : ByteArray := prog_1_method_7_code
def y_BlockRuler_order : MethodName := ⟨"BlockRuler", "order", "(I)I"⟩
abbrev b_BlockRuler_at : ByteArray := prog_1_method_8_code
def y_BlockRuler_at : MethodName := ⟨"BlockRuler", "at", "(I)I"⟩
abbrev b_BlockRuler_parent : ByteArray := prog_1_method_9_code
def y_BlockRuler_parent : MethodName := ⟨"BlockRuler", "parent", "(I)I"⟩
abbrev b_BlockRuler_rules : ByteArray := prog_1_method_10_code
def y_BlockRuler_rules : MethodName := ⟨"BlockRuler", "rules", "(II)Z"⟩
abbrev b_BlockRuler_common : ByteArray := prog_1_method_11_code
def y_BlockRuler_common : MethodName := ⟨"BlockRuler", "common", "(II)I"⟩
abbrev b_BlockRuler_sort : ByteArray := prog_1_method_12_code
def y_BlockRuler_sort : MethodName := ⟨"BlockRuler", "sort", "(II)I"⟩
abbrev b_BlockRuler_inLoop : ByteArray := prog_1_method_13_code
def y_BlockRuler_inLoop : MethodName := ⟨"BlockRuler", "inLoop", "(II)Z"⟩
abbrev b_BlockRuler_look : ByteArray := prog_1_method_14_code
def y_BlockRuler_look : MethodName := ⟨"BlockRuler", "look", "(II)I"⟩
abbrev b_BlockRuler_edge : ByteArray := prog_1_method_15_code
def y_BlockRuler_edge : MethodName := ⟨"BlockRuler", "edge", "(II)I"⟩
abbrev b_BlockRuler_count : ByteArray := prog_1_method_16_code
def y_BlockRuler_count : MethodName := ⟨"BlockRuler", "count", "(I)I"⟩
abbrev b_BlockRuler_refresh : ByteArray := prog_1_method_17_code
def y_BlockRuler_refresh : MethodName := ⟨"BlockRuler", "refresh", "()V"⟩
abbrev b_BlockRuler_isReached : ByteArray := prog_1_method_18_code
def y_BlockRuler_isReached : MethodName := ⟨"BlockRuler", "isReached", "(I)Z"⟩
abbrev b_BlockRuler_only : ByteArray := prog_1_method_19_code
def y_BlockRuler_only : MethodName := ⟨"BlockRuler", "only", "(I)J"⟩
abbrev b_BlockRuler_holds : ByteArray := prog_1_method_20_code
def y_BlockRuler_holds : MethodName := ⟨"BlockRuler", "holds", "(JI)Z"⟩
abbrev b_BlockRuler_least : ByteArray := prog_1_method_21_code
def y_BlockRuler_least : MethodName := ⟨"BlockRuler", "least", "(J)I"⟩
abbrev b_BlockRuler_withoutLeast : ByteArray := prog_1_method_22_code
def y_BlockRuler_withoutLeast : MethodName := ⟨"BlockRuler", "withoutLeast", "(J)J"⟩
abbrev b_BlockRuler_nth : ByteArray := prog_1_method_23_code
def y_BlockRuler_nth : MethodName := ⟨"BlockRuler", "nth", "(JI)I"⟩
abbrev b_Model_init : ByteArray := prog_7_method_1_code
def y_Model_init : MethodName := ⟨"BlockRulerModel", "<init>", "()V"⟩
abbrev b_Model_thrown : ByteArray := prog_7_method_2_code
def y_Model_thrown : MethodName := ⟨"BlockRulerModel", "thrown", "()I"⟩
abbrev b_Model_isBlock : ByteArray := prog_7_method_3_code
def y_Model_isBlock : MethodName := ⟨"BlockRulerModel", "isBlock", "(I)Z"⟩
abbrev b_Model_isWay : ByteArray := prog_7_method_4_code
def y_Model_isWay : MethodName := ⟨"BlockRulerModel", "isWay", "(II)Z"⟩
abbrev b_Model_block : ByteArray := prog_7_method_5_code
def y_Model_block : MethodName := ⟨"BlockRulerModel", "block", "()I"⟩
abbrev b_Model_way : ByteArray := prog_7_method_6_code
def y_Model_way : MethodName := ⟨"BlockRulerModel", "way", "(II)I"⟩
abbrev b_Model_cut : ByteArray := prog_7_method_7_code
def y_Model_cut : MethodName := ⟨"BlockRulerModel", "cut", "(II)I"⟩
abbrev b_Model_turn : ByteArray := prog_7_method_8_code
def y_Model_turn : MethodName := ⟨"BlockRulerModel", "turn", "(III)I"⟩
abbrev b_Model_reckon : ByteArray := prog_7_method_9_code
def y_Model_reckon : MethodName := ⟨"BlockRulerModel", "reckon", "()V"⟩
abbrev b_Model_orders : ByteArray := prog_7_method_10_code
def y_Model_orders : MethodName := ⟨"BlockRulerModel", "orders", "()V"⟩
abbrev b_Model_leaveOut : ByteArray := prog_7_method_11_code
def y_Model_leaveOut : MethodName := ⟨"BlockRulerModel", "leaveOut", "(I)V"⟩
abbrev b_Model_sortOf : ByteArray := prog_7_method_12_code
def y_Model_sortOf : MethodName := ⟨"BlockRulerModel", "sortOf", "(II)I"⟩
abbrev b_Model_loops : ByteArray := prog_7_method_13_code
def y_Model_loops : MethodName := ⟨"BlockRulerModel", "loops", "(I)V"⟩
abbrev b_Model_end : ByteArray := prog_7_method_14_code
def y_Model_end : MethodName := ⟨"BlockRulerModel", "end", "(II)I"⟩
abbrev b_Model_order : ByteArray := prog_7_method_15_code
def y_Model_order : MethodName := ⟨"BlockRulerModel", "order", "(I)I"⟩
abbrev b_Model_at : ByteArray := prog_7_method_16_code
def y_Model_at : MethodName := ⟨"BlockRulerModel", "at", "(I)I"⟩
abbrev b_Model_parent : ByteArray := prog_7_method_17_code
def y_Model_parent : MethodName := ⟨"BlockRulerModel", "parent", "(I)I"⟩
abbrev b_Model_rules : ByteArray := prog_7_method_18_code
def y_Model_rules : MethodName := ⟨"BlockRulerModel", "rules", "(II)Z"⟩
abbrev b_Model_isReached : ByteArray := prog_7_method_19_code
def y_Model_isReached : MethodName := ⟨"BlockRulerModel", "isReached", "(I)Z"⟩
abbrev b_Model_common : ByteArray := prog_7_method_20_code
def y_Model_common : MethodName := ⟨"BlockRulerModel", "common", "(II)I"⟩
abbrev b_Model_sort : ByteArray := prog_7_method_21_code
def y_Model_sort : MethodName := ⟨"BlockRulerModel", "sort", "(II)I"⟩
abbrev b_Model_inLoop : ByteArray := prog_7_method_22_code
def y_Model_inLoop : MethodName := ⟨"BlockRulerModel", "inLoop", "(II)Z"⟩
abbrev b_Model_depthOf : ByteArray := prog_7_method_23_code
def y_Model_depthOf : MethodName := ⟨"BlockRulerModel", "depthOf", "(I)I"⟩
abbrev b_Model_innermost : ByteArray := prog_7_method_24_code
def y_Model_innermost : MethodName := ⟨"BlockRulerModel", "innermost", "(I)I"⟩
abbrev b_Model_look : ByteArray := prog_7_method_25_code
def y_Model_look : MethodName := ⟨"BlockRulerModel", "look", "(II)I"⟩
abbrev b_Model_isEdge : ByteArray := prog_7_method_26_code
def y_Model_isEdge : MethodName := ⟨"BlockRulerModel", "isEdge", "(II)Z"⟩
abbrev b_Model_edge : ByteArray := prog_7_method_27_code
def y_Model_edge : MethodName := ⟨"BlockRulerModel", "edge", "(II)I"⟩
abbrev b_Model_count : ByteArray := prog_7_method_28_code
def y_Model_count : MethodName := ⟨"BlockRulerModel", "count", "(I)I"⟩
abbrev b_Loops_init : ByteArray := prog_2_method_1_code
def y_Loops_init : MethodName := ⟨"BlockRuler$Loops", "<init>", "(LBlockRuler$Web;LBlockRuler$Walk;LBlockRuler$Rulers;)V"⟩
abbrev b_Loops_make : ByteArray := prog_2_method_2_code
def y_Loops_make : MethodName := ⟨"BlockRuler$Loops", "make", "()V"⟩
abbrev b_Loops_kindOf : ByteArray := prog_2_method_3_code
def y_Loops_kindOf : MethodName := ⟨"BlockRuler$Loops", "kindOf", "(II)I"⟩
abbrev b_Loops_depthOf : ByteArray := prog_2_method_4_code
def y_Loops_depthOf : MethodName := ⟨"BlockRuler$Loops", "depthOf", "(I)I"⟩
abbrev b_Loops_greatestDepth : ByteArray := prog_2_method_5_code
def y_Loops_greatestDepth : MethodName := ⟨"BlockRuler$Loops", "greatestDepth", "()I"⟩
abbrev b_Loops_innermostOf : ByteArray := prog_2_method_6_code
def y_Loops_innermostOf : MethodName := ⟨"BlockRuler$Loops", "innermostOf", "(I)I"⟩
abbrev b_Loops_clear : ByteArray := prog_2_method_7_code
def y_Loops_clear : MethodName := ⟨"BlockRuler$Loops", "clear", "()V"⟩
abbrev b_Loops_markWaysOf : ByteArray := prog_2_method_8_code
def y_Loops_markWaysOf : MethodName := ⟨"BlockRuler$Loops", "markWaysOf", "(I)V"⟩
abbrev b_Loops_grown : ByteArray := prog_2_method_9_code
def y_Loops_grown : MethodName := ⟨"BlockRuler$Loops", "grown", "(IJ)J"⟩
abbrev b_Rulers_init : ByteArray := prog_3_method_1_code
def y_Rulers_init : MethodName := ⟨"BlockRuler$Rulers", "<init>", "(LBlockRuler$Walk;)V"⟩
abbrev b_Rulers_make : ByteArray := prog_3_method_2_code
def y_Rulers_make : MethodName := ⟨"BlockRuler$Rulers", "make", "()V"⟩
abbrev b_Rulers_isRuled : ByteArray := prog_3_method_3_code
def y_Rulers_isRuled : MethodName := ⟨"BlockRuler$Rulers", "isRuled", "(II)Z"⟩
abbrev b_Rulers_realmOf : ByteArray := prog_3_method_4_code
def y_Rulers_realmOf : MethodName := ⟨"BlockRuler$Rulers", "realmOf", "(I)J"⟩
abbrev b_Rulers_edgeOf : ByteArray := prog_3_method_5_code
def y_Rulers_edgeOf : MethodName := ⟨"BlockRuler$Rulers", "edgeOf", "(I)J"⟩
abbrev b_Rulers_narrow : ByteArray := prog_3_method_6_code
def y_Rulers_narrow : MethodName := ⟨"BlockRuler$Rulers", "narrow", "()Z"⟩
abbrev b_Rulers_sharedBy : ByteArray := prog_3_method_7_code
def y_Rulers_sharedBy : MethodName := ⟨"BlockRuler$Rulers", "sharedBy", "(J)J"⟩
abbrev b_Walk_init : ByteArray := prog_4_method_1_code
def y_Walk_init : MethodName := ⟨"BlockRuler$Walk", "<init>", "(LBlockRuler$Web;)V"⟩
abbrev b_Walk_make : ByteArray := prog_4_method_2_code
def y_Walk_make : MethodName := ⟨"BlockRuler$Walk", "make", "()V"⟩
abbrev b_Walk_blockAt : ByteArray := prog_4_method_3_code
def y_Walk_blockAt : MethodName := ⟨"BlockRuler$Walk", "blockAt", "(I)I"⟩
abbrev b_Walk_lastOf : ByteArray := prog_4_method_4_code
def y_Walk_lastOf : MethodName := ⟨"BlockRuler$Walk", "lastOf", "(J)I"⟩
abbrev b_Walk_clear : ByteArray := prog_4_method_5_code
def y_Walk_clear : MethodName := ⟨"BlockRuler$Walk", "clear", "()V"⟩
abbrev b_Walk_goDeep : ByteArray := prog_4_method_6_code
def y_Walk_goDeep : MethodName := ⟨"BlockRuler$Walk", "goDeep", "()V"⟩
abbrev b_Walk_markEndsOf : ByteArray := prog_4_method_7_code
def y_Walk_markEndsOf : MethodName := ⟨"BlockRuler$Walk", "markEndsOf", "(I)V"⟩
abbrev b_Web_init : ByteArray := prog_5_method_1_code
def y_Web_init : MethodName := ⟨"BlockRuler$Web", "<init>", "()V"⟩
abbrev b_Web_hasBlock : ByteArray := prog_5_method_2_code
def y_Web_hasBlock : MethodName := ⟨"BlockRuler$Web", "hasBlock", "(I)Z"⟩
abbrev b_Web_hasWay : ByteArray := prog_5_method_3_code
def y_Web_hasWay : MethodName := ⟨"BlockRuler$Web", "hasWay", "(II)Z"⟩
abbrev b_Web_endOf : ByteArray := prog_5_method_4_code
def y_Web_endOf : MethodName := ⟨"BlockRuler$Web", "endOf", "(II)I"⟩
abbrev b_Web_addBlock : ByteArray := prog_5_method_5_code
def y_Web_addBlock : MethodName := ⟨"BlockRuler$Web", "addBlock", "()I"⟩
abbrev b_Web_addWay : ByteArray := prog_5_method_6_code
def y_Web_addWay : MethodName := ⟨"BlockRuler$Web", "addWay", "(II)I"⟩
abbrev b_Web_removeWay : ByteArray := prog_5_method_7_code
def y_Web_removeWay : MethodName := ⟨"BlockRuler$Web", "removeWay", "(II)I"⟩
abbrev b_Web_moveWay : ByteArray := prog_5_method_8_code
def y_Web_moveWay : MethodName := ⟨"BlockRuler$Web", "moveWay", "(III)I"⟩
abbrev b_Law_block : ByteArray := method_3_code
def y_Law_block : MethodName := ⟨"BlockRulerLaw", "block", "(LBlockRuler;[J)I"⟩
abbrev b_Law_way : ByteArray := method_4_code
def y_Law_way : MethodName := ⟨"BlockRulerLaw", "way", "(LBlockRuler;II[J)I"⟩
abbrev b_Law_cut : ByteArray := method_5_code
def y_Law_cut : MethodName := ⟨"BlockRulerLaw", "cut", "(LBlockRuler;II[J)I"⟩
abbrev b_Law_turn : ByteArray := method_6_code
def y_Law_turn : MethodName := ⟨"BlockRulerLaw", "turn", "(LBlockRuler;III[J)I"⟩
abbrev b_Law_common : ByteArray := method_7_code
def y_Law_common : MethodName := ⟨"BlockRulerLaw", "common", "(LBlockRuler;II[J)I"⟩
abbrev b_Law_law : ByteArray := code
abbrev w_Long_bitCount : List Cond := Cond.code y_Long_bitCount b_Long_bitCount 2 (some .int) :: G_
abbrev w_Web_hasBlock : List Cond := Cond.code y_Web_hasBlock b_Web_hasBlock 2 (some .boolean) :: G_
abbrev w_Web_hasWay : List Cond := Cond.code y_Web_hasWay b_Web_hasWay 3 (some .boolean) :: G_
abbrev w_Web_endOf : List Cond := Cond.code y_Web_endOf b_Web_endOf 3 (some .int) :: G_
abbrev w_Web_addBlock : List Cond := Cond.code y_Web_addBlock b_Web_addBlock 2 (some .int) :: G_
abbrev w_Web_addWay : List Cond := Cond.code y_Web_addWay b_Web_addWay 4 (some .int) :: G_
abbrev w_Web_removeWay : List Cond := Cond.code y_Web_removeWay b_Web_removeWay 6 (some .int) :: G_
abbrev w_Web_moveWay : List Cond := Cond.code y_Web_moveWay b_Web_moveWay 5 (some .int) :: G_
abbrev w_BlockRuler_only : List Cond := Cond.code y_BlockRuler_only b_BlockRuler_only 1 (some .long) :: G_
abbrev w_BlockRuler_holds : List Cond := Cond.code y_BlockRuler_holds b_BlockRuler_holds 3 (some .boolean) :: G_
abbrev w_BlockRuler_least : List Cond := Cond.code y_BlockRuler_least b_BlockRuler_least 2 (some .int) :: G_
abbrev w_BlockRuler_withoutLeast : List Cond := Cond.code y_BlockRuler_withoutLeast b_BlockRuler_withoutLeast 2 (some .long) :: G_
abbrev w_BlockRuler_nth : List Cond := Cond.code y_BlockRuler_nth b_BlockRuler_nth 6 (some .int) :: G_
abbrev w_Walk_blockAt : List Cond := Cond.code y_Walk_blockAt b_Walk_blockAt 2 (some .int) :: G_
abbrev w_Walk_lastOf : List Cond := Cond.code y_Walk_lastOf b_Walk_lastOf 4 (some .int) :: G_
abbrev w_Walk_clear : List Cond := Cond.code y_Walk_clear b_Walk_clear 2 none :: G_
abbrev w_Walk_goDeep : List Cond := Cond.code y_Walk_goDeep b_Walk_goDeep 5 none :: G_
abbrev w_Walk_markEndsOf : List Cond := Cond.code y_Walk_markEndsOf b_Walk_markEndsOf 4 none :: G_
abbrev w_Walk_make : List Cond := Cond.code y_Walk_make b_Walk_make 3 none :: G_
abbrev w_Rulers_isRuled : List Cond := Cond.code y_Rulers_isRuled b_Rulers_isRuled 3 (some .boolean) :: G_
abbrev w_Rulers_realmOf : List Cond := Cond.code y_Rulers_realmOf b_Rulers_realmOf 5 (some .long) :: G_
abbrev w_Rulers_edgeOf : List Cond := Cond.code y_Rulers_edgeOf b_Rulers_edgeOf 9 (some .long) :: G_
abbrev w_Rulers_sharedBy : List Cond := Cond.code y_Rulers_sharedBy b_Rulers_sharedBy 9 (some .long) :: G_
abbrev w_Rulers_narrow : List Cond := Cond.code y_Rulers_narrow b_Rulers_narrow 6 (some .boolean) :: G_
abbrev w_Rulers_make : List Cond := Cond.code y_Rulers_make b_Rulers_make 3 none :: G_
abbrev w_Loops_kindOf : List Cond := Cond.code y_Loops_kindOf b_Loops_kindOf 4 (some .int) :: G_
abbrev w_Loops_depthOf : List Cond := Cond.code y_Loops_depthOf b_Loops_depthOf 4 (some .int) :: G_
abbrev w_Loops_greatestDepth : List Cond := Cond.code y_Loops_greatestDepth b_Loops_greatestDepth 3 (some .int) :: G_
abbrev w_Loops_innermostOf : List Cond := Cond.code y_Loops_innermostOf b_Loops_innermostOf 7 (some .int) :: G_
abbrev w_Loops_clear : List Cond := Cond.code y_Loops_clear b_Loops_clear 2 none :: G_
abbrev w_Loops_markWaysOf : List Cond := Cond.code y_Loops_markWaysOf b_Loops_markWaysOf 4 none :: G_
abbrev w_Loops_grown : List Cond := Cond.code y_Loops_grown b_Loops_grown 11 (some .long) :: G_
abbrev w_Loops_make : List Cond := Cond.code y_Loops_make b_Loops_make 2 none :: G_
abbrev w_BlockRuler_refresh : List Cond := Cond.code y_BlockRuler_refresh b_BlockRuler_refresh 1 none :: G_
abbrev w_BlockRuler_isReached : List Cond := Cond.code y_BlockRuler_isReached b_BlockRuler_isReached 2 (some .boolean) :: G_
abbrev w_BlockRuler_block : List Cond := Cond.code y_BlockRuler_block b_BlockRuler_block 1 (some .int) :: G_
abbrev w_BlockRuler_way : List Cond := Cond.code y_BlockRuler_way b_BlockRuler_way 3 (some .int) :: G_
abbrev w_BlockRuler_cut : List Cond := Cond.code y_BlockRuler_cut b_BlockRuler_cut 3 (some .int) :: G_
abbrev w_BlockRuler_turn : List Cond := Cond.code y_BlockRuler_turn b_BlockRuler_turn 4 (some .int) :: G_
abbrev w_BlockRuler_common : List Cond := Cond.code y_BlockRuler_common b_BlockRuler_common 3 (some .int) :: G_
abbrev w_BlockRuler_end : List Cond := Cond.code y_BlockRuler_end b_BlockRuler_end 3 (some .int) :: G_
abbrev w_BlockRuler_order : List Cond := Cond.code y_BlockRuler_order b_BlockRuler_order 2 (some .int) :: G_
abbrev w_BlockRuler_at : List Cond := Cond.code y_BlockRuler_at b_BlockRuler_at 2 (some .int) :: G_
abbrev w_BlockRuler_parent : List Cond := Cond.code y_BlockRuler_parent b_BlockRuler_parent 2 (some .int) :: G_
abbrev w_BlockRuler_rules : List Cond := Cond.code y_BlockRuler_rules b_BlockRuler_rules 3 (some .boolean) :: G_
abbrev w_BlockRuler_sort : List Cond := Cond.code y_BlockRuler_sort b_BlockRuler_sort 3 (some .int) :: G_
abbrev w_BlockRuler_inLoop : List Cond := Cond.code y_BlockRuler_inLoop b_BlockRuler_inLoop 3 (some .boolean) :: G_
abbrev w_BlockRuler_look : List Cond := Cond.code y_BlockRuler_look b_BlockRuler_look 3 (some .int) :: G_
abbrev w_BlockRuler_edge : List Cond := Cond.code y_BlockRuler_edge b_BlockRuler_edge 3 (some .int) :: G_
abbrev w_BlockRuler_count : List Cond := Cond.code y_BlockRuler_count b_BlockRuler_count 2 (some .int) :: G_
abbrev w_Model_thrown : List Cond := Cond.code y_Model_thrown b_Model_thrown 1 (some .int) :: G_
abbrev w_Model_isBlock : List Cond := Cond.code y_Model_isBlock b_Model_isBlock 2 (some .boolean) :: G_
abbrev w_Model_isWay : List Cond := Cond.code y_Model_isWay b_Model_isWay 3 (some .boolean) :: G_
abbrev w_Model_block : List Cond := Cond.code y_Model_block b_Model_block 1 (some .int) :: G_
abbrev w_Model_way : List Cond := Cond.code y_Model_way b_Model_way 3 (some .int) :: G_
abbrev w_Model_cut : List Cond := Cond.code y_Model_cut b_Model_cut 5 (some .int) :: G_
abbrev w_Model_turn : List Cond := Cond.code y_Model_turn b_Model_turn 5 (some .int) :: G_
abbrev w_Model_sortOf : List Cond := Cond.code y_Model_sortOf b_Model_sortOf 4 (some .int) :: G_
abbrev w_Model_orders : List Cond := Cond.code y_Model_orders b_Model_orders 5 none :: G_
abbrev w_Model_leaveOut : List Cond := Cond.code y_Model_leaveOut b_Model_leaveOut 6 none :: G_
abbrev w_Model_loops : List Cond := Cond.code y_Model_loops b_Model_loops 6 none :: G_
abbrev w_Model_reckon : List Cond := Cond.code y_Model_reckon b_Model_reckon 3 none :: G_
abbrev w_Model_end : List Cond := Cond.code y_Model_end b_Model_end 3 (some .int) :: G_
abbrev w_Model_order : List Cond := Cond.code y_Model_order b_Model_order 2 (some .int) :: G_
abbrev w_Model_at : List Cond := Cond.code y_Model_at b_Model_at 2 (some .int) :: G_
abbrev w_Model_parent : List Cond := Cond.code y_Model_parent b_Model_parent 2 (some .int) :: G_
abbrev w_Model_rules : List Cond := Cond.code y_Model_rules b_Model_rules 3 (some .boolean) :: G_
abbrev w_Model_isReached : List Cond := Cond.code y_Model_isReached b_Model_isReached 2 (some .boolean) :: G_
abbrev w_Model_common : List Cond := Cond.code y_Model_common b_Model_common 6 (some .int) :: G_
abbrev w_Model_sort : List Cond := Cond.code y_Model_sort b_Model_sort 3 (some .int) :: G_
abbrev w_Model_inLoop : List Cond := Cond.code y_Model_inLoop b_Model_inLoop 3 (some .boolean) :: G_
abbrev w_Model_depthOf : List Cond := Cond.code y_Model_depthOf b_Model_depthOf 4 (some .int) :: G_
abbrev w_Model_innermost : List Cond := Cond.code y_Model_innermost b_Model_innermost 5 (some .int) :: G_
abbrev w_Model_look : List Cond := Cond.code y_Model_look b_Model_look 6 (some .int) :: G_
abbrev w_Model_isEdge : List Cond := Cond.code y_Model_isEdge b_Model_isEdge 6 (some .boolean) :: G_
abbrev w_Model_edge : List Cond := Cond.code y_Model_edge b_Model_edge 5 (some .int) :: G_
abbrev w_Model_count : List Cond := Cond.code y_Model_count b_Model_count 9 (some .int) :: G_
end
section
-- written by wip/gen (blockruler.py)
abbrev SB : Type := (Int32) × (Nat → Int32) × (Nat → Int32) × (Int32) × (Int32) × (Nat → Int32) × (Nat → Int32) × (Nat → Int32) × (Nat → Int32) × (Nat → Int64) × (Nat → Int32) × (Int32) × (Int64) × (Nat → Int64) × (Nat → Int64) × (Int32) × (Int32) × (Int32)
def sB_stale (σ : SB) : Int32 := σ.1
def sB_deg (σ : SB) : Nat → Int32 := σ.2.1
def sB_ends (σ : SB) : Nat → Int32 := σ.2.2.1
def sB_blocks (σ : SB) : Int32 := σ.2.2.2.1
def sB_ways (σ : SB) : Int32 := σ.2.2.2.2.1
def sB_orders (σ : SB) : Nat → Int32 := σ.2.2.2.2.2.1
def sB_left (σ : SB) : Nat → Int32 := σ.2.2.2.2.2.2.1
def sB_open (σ : SB) : Nat → Int32 := σ.2.2.2.2.2.2.2.1
def sB_taken (σ : SB) : Nat → Int32 := σ.2.2.2.2.2.2.2.2.1
def sB_comers (σ : SB) : Nat → Int64 := σ.2.2.2.2.2.2.2.2.2.1
def sB_comings (σ : SB) : Nat → Int32 := σ.2.2.2.2.2.2.2.2.2.2.1
def sB_reached (σ : SB) : Int32 := σ.2.2.2.2.2.2.2.2.2.2.2.1
def sB_rset (σ : SB) : Int64 := σ.2.2.2.2.2.2.2.2.2.2.2.2.1
def sB_rof (σ : SB) : Nat → Int64 := σ.2.2.2.2.2.2.2.2.2.2.2.2.2.1
def sB_lof (σ : SB) : Nat → Int64 := σ.2.2.2.2.2.2.2.2.2.2.2.2.2.2.1
def sB_heads (σ : SB) : Int32 := σ.2.2.2.2.2.2.2.2.2.2.2.2.2.2.2.1
def sB_backs (σ : SB) : Int32 := σ.2.2.2.2.2.2.2.2.2.2.2.2.2.2.2.2.1
def sB_knots (σ : SB) : Int32 := σ.2.2.2.2.2.2.2.2.2.2.2.2.2.2.2.2.2
def uB_stale (σ : SB) (x : Int32) : SB := (x, σ.2.1, σ.2.2.1, σ.2.2.2.1, σ.2.2.2.2.1, σ.2.2.2.2.2.1, σ.2.2.2.2.2.2.1, σ.2.2.2.2.2.2.2.1, σ.2.2.2.2.2.2.2.2.1, σ.2.2.2.2.2.2.2.2.2.1, σ.2.2.2.2.2.2.2.2.2.2.1, σ.2.2.2.2.2.2.2.2.2.2.2.1, σ.2.2.2.2.2.2.2.2.2.2.2.2.1, σ.2.2.2.2.2.2.2.2.2.2.2.2.2.1, σ.2.2.2.2.2.2.2.2.2.2.2.2.2.2.1, σ.2.2.2.2.2.2.2.2.2.2.2.2.2.2.2.1, σ.2.2.2.2.2.2.2.2.2.2.2.2.2.2.2.2.1, σ.2.2.2.2.2.2.2.2.2.2.2.2.2.2.2.2.2)
def uB_deg (σ : SB) (x : Nat → Int32) : SB := (σ.1, x, σ.2.2.1, σ.2.2.2.1, σ.2.2.2.2.1, σ.2.2.2.2.2.1, σ.2.2.2.2.2.2.1, σ.2.2.2.2.2.2.2.1, σ.2.2.2.2.2.2.2.2.1, σ.2.2.2.2.2.2.2.2.2.1, σ.2.2.2.2.2.2.2.2.2.2.1, σ.2.2.2.2.2.2.2.2.2.2.2.1, σ.2.2.2.2.2.2.2.2.2.2.2.2.1, σ.2.2.2.2.2.2.2.2.2.2.2.2.2.1, σ.2.2.2.2.2.2.2.2.2.2.2.2.2.2.1, σ.2.2.2.2.2.2.2.2.2.2.2.2.2.2.2.1, σ.2.2.2.2.2.2.2.2.2.2.2.2.2.2.2.2.1, σ.2.2.2.2.2.2.2.2.2.2.2.2.2.2.2.2.2)
def uB_ends (σ : SB) (x : Nat → Int32) : SB := (σ.1, σ.2.1, x, σ.2.2.2.1, σ.2.2.2.2.1, σ.2.2.2.2.2.1, σ.2.2.2.2.2.2.1, σ.2.2.2.2.2.2.2.1, σ.2.2.2.2.2.2.2.2.1, σ.2.2.2.2.2.2.2.2.2.1, σ.2.2.2.2.2.2.2.2.2.2.1, σ.2.2.2.2.2.2.2.2.2.2.2.1, σ.2.2.2.2.2.2.2.2.2.2.2.2.1, σ.2.2.2.2.2.2.2.2.2.2.2.2.2.1, σ.2.2.2.2.2.2.2.2.2.2.2.2.2.2.1, σ.2.2.2.2.2.2.2.2.2.2.2.2.2.2.2.1, σ.2.2.2.2.2.2.2.2.2.2.2.2.2.2.2.2.1, σ.2.2.2.2.2.2.2.2.2.2.2.2.2.2.2.2.2)
def uB_blocks (σ : SB) (x : Int32) : SB := (σ.1, σ.2.1, σ.2.2.1, x, σ.2.2.2.2.1, σ.2.2.2.2.2.1, σ.2.2.2.2.2.2.1, σ.2.2.2.2.2.2.2.1, σ.2.2.2.2.2.2.2.2.1, σ.2.2.2.2.2.2.2.2.2.1, σ.2.2.2.2.2.2.2.2.2.2.1, σ.2.2.2.2.2.2.2.2.2.2.2.1, σ.2.2.2.2.2.2.2.2.2.2.2.2.1, σ.2.2.2.2.2.2.2.2.2.2.2.2.2.1, σ.2.2.2.2.2.2.2.2.2.2.2.2.2.2.1, σ.2.2.2.2.2.2.2.2.2.2.2.2.2.2.2.1, σ.2.2.2.2.2.2.2.2.2.2.2.2.2.2.2.2.1, σ.2.2.2.2.2.2.2.2.2.2.2.2.2.2.2.2.2)
def uB_ways (σ : SB) (x : Int32) : SB := (σ.1, σ.2.1, σ.2.2.1, σ.2.2.2.1, x, σ.2.2.2.2.2.1, σ.2.2.2.2.2.2.1, σ.2.2.2.2.2.2.2.1, σ.2.2.2.2.2.2.2.2.1, σ.2.2.2.2.2.2.2.2.2.1, σ.2.2.2.2.2.2.2.2.2.2.1, σ.2.2.2.2.2.2.2.2.2.2.2.1, σ.2.2.2.2.2.2.2.2.2.2.2.2.1, σ.2.2.2.2.2.2.2.2.2.2.2.2.2.1, σ.2.2.2.2.2.2.2.2.2.2.2.2.2.2.1, σ.2.2.2.2.2.2.2.2.2.2.2.2.2.2.2.1, σ.2.2.2.2.2.2.2.2.2.2.2.2.2.2.2.2.1, σ.2.2.2.2.2.2.2.2.2.2.2.2.2.2.2.2.2)
def uB_orders (σ : SB) (x : Nat → Int32) : SB := (σ.1, σ.2.1, σ.2.2.1, σ.2.2.2.1, σ.2.2.2.2.1, x, σ.2.2.2.2.2.2.1, σ.2.2.2.2.2.2.2.1, σ.2.2.2.2.2.2.2.2.1, σ.2.2.2.2.2.2.2.2.2.1, σ.2.2.2.2.2.2.2.2.2.2.1, σ.2.2.2.2.2.2.2.2.2.2.2.1, σ.2.2.2.2.2.2.2.2.2.2.2.2.1, σ.2.2.2.2.2.2.2.2.2.2.2.2.2.1, σ.2.2.2.2.2.2.2.2.2.2.2.2.2.2.1, σ.2.2.2.2.2.2.2.2.2.2.2.2.2.2.2.1, σ.2.2.2.2.2.2.2.2.2.2.2.2.2.2.2.2.1, σ.2.2.2.2.2.2.2.2.2.2.2.2.2.2.2.2.2)
def uB_left (σ : SB) (x : Nat → Int32) : SB := (σ.1, σ.2.1, σ.2.2.1, σ.2.2.2.1, σ.2.2.2.2.1, σ.2.2.2.2.2.1, x, σ.2.2.2.2.2.2.2.1, σ.2.2.2.2.2.2.2.2.1, σ.2.2.2.2.2.2.2.2.2.1, σ.2.2.2.2.2.2.2.2.2.2.1, σ.2.2.2.2.2.2.2.2.2.2.2.1, σ.2.2.2.2.2.2.2.2.2.2.2.2.1, σ.2.2.2.2.2.2.2.2.2.2.2.2.2.1, σ.2.2.2.2.2.2.2.2.2.2.2.2.2.2.1, σ.2.2.2.2.2.2.2.2.2.2.2.2.2.2.2.1, σ.2.2.2.2.2.2.2.2.2.2.2.2.2.2.2.2.1, σ.2.2.2.2.2.2.2.2.2.2.2.2.2.2.2.2.2)
def uB_open (σ : SB) (x : Nat → Int32) : SB := (σ.1, σ.2.1, σ.2.2.1, σ.2.2.2.1, σ.2.2.2.2.1, σ.2.2.2.2.2.1, σ.2.2.2.2.2.2.1, x, σ.2.2.2.2.2.2.2.2.1, σ.2.2.2.2.2.2.2.2.2.1, σ.2.2.2.2.2.2.2.2.2.2.1, σ.2.2.2.2.2.2.2.2.2.2.2.1, σ.2.2.2.2.2.2.2.2.2.2.2.2.1, σ.2.2.2.2.2.2.2.2.2.2.2.2.2.1, σ.2.2.2.2.2.2.2.2.2.2.2.2.2.2.1, σ.2.2.2.2.2.2.2.2.2.2.2.2.2.2.2.1, σ.2.2.2.2.2.2.2.2.2.2.2.2.2.2.2.2.1, σ.2.2.2.2.2.2.2.2.2.2.2.2.2.2.2.2.2)
def uB_taken (σ : SB) (x : Nat → Int32) : SB := (σ.1, σ.2.1, σ.2.2.1, σ.2.2.2.1, σ.2.2.2.2.1, σ.2.2.2.2.2.1, σ.2.2.2.2.2.2.1, σ.2.2.2.2.2.2.2.1, x, σ.2.2.2.2.2.2.2.2.2.1, σ.2.2.2.2.2.2.2.2.2.2.1, σ.2.2.2.2.2.2.2.2.2.2.2.1, σ.2.2.2.2.2.2.2.2.2.2.2.2.1, σ.2.2.2.2.2.2.2.2.2.2.2.2.2.1, σ.2.2.2.2.2.2.2.2.2.2.2.2.2.2.1, σ.2.2.2.2.2.2.2.2.2.2.2.2.2.2.2.1, σ.2.2.2.2.2.2.2.2.2.2.2.2.2.2.2.2.1, σ.2.2.2.2.2.2.2.2.2.2.2.2.2.2.2.2.2)
def uB_comers (σ : SB) (x : Nat → Int64) : SB := (σ.1, σ.2.1, σ.2.2.1, σ.2.2.2.1, σ.2.2.2.2.1, σ.2.2.2.2.2.1, σ.2.2.2.2.2.2.1, σ.2.2.2.2.2.2.2.1, σ.2.2.2.2.2.2.2.2.1, x, σ.2.2.2.2.2.2.2.2.2.2.1, σ.2.2.2.2.2.2.2.2.2.2.2.1, σ.2.2.2.2.2.2.2.2.2.2.2.2.1, σ.2.2.2.2.2.2.2.2.2.2.2.2.2.1, σ.2.2.2.2.2.2.2.2.2.2.2.2.2.2.1, σ.2.2.2.2.2.2.2.2.2.2.2.2.2.2.2.1, σ.2.2.2.2.2.2.2.2.2.2.2.2.2.2.2.2.1, σ.2.2.2.2.2.2.2.2.2.2.2.2.2.2.2.2.2)
def uB_comings (σ : SB) (x : Nat → Int32) : SB := (σ.1, σ.2.1, σ.2.2.1, σ.2.2.2.1, σ.2.2.2.2.1, σ.2.2.2.2.2.1, σ.2.2.2.2.2.2.1, σ.2.2.2.2.2.2.2.1, σ.2.2.2.2.2.2.2.2.1, σ.2.2.2.2.2.2.2.2.2.1, x, σ.2.2.2.2.2.2.2.2.2.2.2.1, σ.2.2.2.2.2.2.2.2.2.2.2.2.1, σ.2.2.2.2.2.2.2.2.2.2.2.2.2.1, σ.2.2.2.2.2.2.2.2.2.2.2.2.2.2.1, σ.2.2.2.2.2.2.2.2.2.2.2.2.2.2.2.1, σ.2.2.2.2.2.2.2.2.2.2.2.2.2.2.2.2.1, σ.2.2.2.2.2.2.2.2.2.2.2.2.2.2.2.2.2)
def uB_reached (σ : SB) (x : Int32) : SB := (σ.1, σ.2.1, σ.2.2.1, σ.2.2.2.1, σ.2.2.2.2.1, σ.2.2.2.2.2.1, σ.2.2.2.2.2.2.1, σ.2.2.2.2.2.2.2.1, σ.2.2.2.2.2.2.2.2.1, σ.2.2.2.2.2.2.2.2.2.1, σ.2.2.2.2.2.2.2.2.2.2.1, x, σ.2.2.2.2.2.2.2.2.2.2.2.2.1, σ.2.2.2.2.2.2.2.2.2.2.2.2.2.1, σ.2.2.2.2.2.2.2.2.2.2.2.2.2.2.1, σ.2.2.2.2.2.2.2.2.2.2.2.2.2.2.2.1, σ.2.2.2.2.2.2.2.2.2.2.2.2.2.2.2.2.1, σ.2.2.2.2.2.2.2.2.2.2.2.2.2.2.2.2.2)
def uB_rset (σ : SB) (x : Int64) : SB := (σ.1, σ.2.1, σ.2.2.1, σ.2.2.2.1, σ.2.2.2.2.1, σ.2.2.2.2.2.1, σ.2.2.2.2.2.2.1, σ.2.2.2.2.2.2.2.1, σ.2.2.2.2.2.2.2.2.1, σ.2.2.2.2.2.2.2.2.2.1, σ.2.2.2.2.2.2.2.2.2.2.1, σ.2.2.2.2.2.2.2.2.2.2.2.1, x, σ.2.2.2.2.2.2.2.2.2.2.2.2.2.1, σ.2.2.2.2.2.2.2.2.2.2.2.2.2.2.1, σ.2.2.2.2.2.2.2.2.2.2.2.2.2.2.2.1, σ.2.2.2.2.2.2.2.2.2.2.2.2.2.2.2.2.1, σ.2.2.2.2.2.2.2.2.2.2.2.2.2.2.2.2.2)
def uB_rof (σ : SB) (x : Nat → Int64) : SB := (σ.1, σ.2.1, σ.2.2.1, σ.2.2.2.1, σ.2.2.2.2.1, σ.2.2.2.2.2.1, σ.2.2.2.2.2.2.1, σ.2.2.2.2.2.2.2.1, σ.2.2.2.2.2.2.2.2.1, σ.2.2.2.2.2.2.2.2.2.1, σ.2.2.2.2.2.2.2.2.2.2.1, σ.2.2.2.2.2.2.2.2.2.2.2.1, σ.2.2.2.2.2.2.2.2.2.2.2.2.1, x, σ.2.2.2.2.2.2.2.2.2.2.2.2.2.2.1, σ.2.2.2.2.2.2.2.2.2.2.2.2.2.2.2.1, σ.2.2.2.2.2.2.2.2.2.2.2.2.2.2.2.2.1, σ.2.2.2.2.2.2.2.2.2.2.2.2.2.2.2.2.2)
def uB_lof (σ : SB) (x : Nat → Int64) : SB := (σ.1, σ.2.1, σ.2.2.1, σ.2.2.2.1, σ.2.2.2.2.1, σ.2.2.2.2.2.1, σ.2.2.2.2.2.2.1, σ.2.2.2.2.2.2.2.1, σ.2.2.2.2.2.2.2.2.1, σ.2.2.2.2.2.2.2.2.2.1, σ.2.2.2.2.2.2.2.2.2.2.1, σ.2.2.2.2.2.2.2.2.2.2.2.1, σ.2.2.2.2.2.2.2.2.2.2.2.2.1, σ.2.2.2.2.2.2.2.2.2.2.2.2.2.1, x, σ.2.2.2.2.2.2.2.2.2.2.2.2.2.2.2.1, σ.2.2.2.2.2.2.2.2.2.2.2.2.2.2.2.2.1, σ.2.2.2.2.2.2.2.2.2.2.2.2.2.2.2.2.2)
def uB_heads (σ : SB) (x : Int32) : SB := (σ.1, σ.2.1, σ.2.2.1, σ.2.2.2.1, σ.2.2.2.2.1, σ.2.2.2.2.2.1, σ.2.2.2.2.2.2.1, σ.2.2.2.2.2.2.2.1, σ.2.2.2.2.2.2.2.2.1, σ.2.2.2.2.2.2.2.2.2.1, σ.2.2.2.2.2.2.2.2.2.2.1, σ.2.2.2.2.2.2.2.2.2.2.2.1, σ.2.2.2.2.2.2.2.2.2.2.2.2.1, σ.2.2.2.2.2.2.2.2.2.2.2.2.2.1, σ.2.2.2.2.2.2.2.2.2.2.2.2.2.2.1, x, σ.2.2.2.2.2.2.2.2.2.2.2.2.2.2.2.2.1, σ.2.2.2.2.2.2.2.2.2.2.2.2.2.2.2.2.2)
def uB_backs (σ : SB) (x : Int32) : SB := (σ.1, σ.2.1, σ.2.2.1, σ.2.2.2.1, σ.2.2.2.2.1, σ.2.2.2.2.2.1, σ.2.2.2.2.2.2.1, σ.2.2.2.2.2.2.2.1, σ.2.2.2.2.2.2.2.2.1, σ.2.2.2.2.2.2.2.2.2.1, σ.2.2.2.2.2.2.2.2.2.2.1, σ.2.2.2.2.2.2.2.2.2.2.2.1, σ.2.2.2.2.2.2.2.2.2.2.2.2.1, σ.2.2.2.2.2.2.2.2.2.2.2.2.2.1, σ.2.2.2.2.2.2.2.2.2.2.2.2.2.2.1, σ.2.2.2.2.2.2.2.2.2.2.2.2.2.2.2.1, x, σ.2.2.2.2.2.2.2.2.2.2.2.2.2.2.2.2.2)
def uB_knots (σ : SB) (x : Int32) : SB := (σ.1, σ.2.1, σ.2.2.1, σ.2.2.2.1, σ.2.2.2.2.1, σ.2.2.2.2.2.1, σ.2.2.2.2.2.2.1, σ.2.2.2.2.2.2.2.1, σ.2.2.2.2.2.2.2.2.1, σ.2.2.2.2.2.2.2.2.2.1, σ.2.2.2.2.2.2.2.2.2.2.1, σ.2.2.2.2.2.2.2.2.2.2.2.1, σ.2.2.2.2.2.2.2.2.2.2.2.2.1, σ.2.2.2.2.2.2.2.2.2.2.2.2.2.1, σ.2.2.2.2.2.2.2.2.2.2.2.2.2.2.1, σ.2.2.2.2.2.2.2.2.2.2.2.2.2.2.2.1, σ.2.2.2.2.2.2.2.2.2.2.2.2.2.2.2.2.1, x)
def wsB (a : Nat → Nat) (cs : Nat → ClassId) (σ : SB) : va_W := [(a 0, .inr (0, [.ref (a 1), .ref (a 2), .ref (a 3), .ref (a 4), .int (sB_stale σ)])), (a 1, .inr (1, [.ref (a 5), .ref (a 6), .int (sB_blocks σ), .int (sB_ways σ)])), (a 2, .inr (2, [.ref (a 1), .ref (a 7), .ref (a 8), .ref (a 9), .ref (a 10), .ref (a 11), .ref (a 12), .int (sB_reached σ), .long (sB_rset σ)])), (a 3, .inr (3, [.ref (a 2), .ref (a 13)])), (a 4, .inr (4, [.ref (a 1), .ref (a 2), .ref (a 3), .ref (a 14), .int (sB_heads σ), .int (sB_backs σ), .int (sB_knots σ)])), (a 5, .inl (cs 0, 64, .inl (sB_deg σ))), (a 6, .inl (cs 1, 512, .inl (sB_ends σ))), (a 7, .inl (cs 2, 64, .inl (sB_orders σ))), (a 8, .inl (cs 3, 64, .inl (sB_left σ))), (a 9, .inl (cs 4, 64, .inl (sB_open σ))), (a 10, .inl (cs 5, 64, .inl (sB_taken σ))), (a 11, .inl (cs 6, 64, .inr (.inl (sB_comers σ)))), (a 12, .inl (cs 7, 64, .inl (sB_comings σ))), (a 13, .inl (cs 8, 64, .inr (.inl (sB_rof σ)))), (a 14, .inl (cs 9, 64, .inr (.inl (sB_lof σ))))]
def tyB (cs : Nat → ClassId) : List (ClassId × FieldType) := [(cs 0, .int), (cs 1, .int), (cs 2, .int), (cs 3, .int), (cs 4, .int), (cs 5, .int), (cs 6, .long), (cs 7, .int), (cs 8, .long), (cs 9, .long)]
abbrev SM : Type := (Int32) × (Int32) × (Nat → Int32) × (Nat → Int32) × (Int32) × (Int32) × (Nat → Int32) × (Nat → Int32) × (Nat → Int32) × (Nat → Int32) × (Nat → Int32) × (Nat → Int32) × (Nat → Int32) × (Nat → Int32) × (Nat → Int32) × (Nat → Int32)
def sM_thrown (σ : SM) : Int32 := σ.1
def sM_blocks (σ : SM) : Int32 := σ.2.1
def sM_many (σ : SM) : Nat → Int32 := σ.2.2.1
def sM_ends (σ : SM) : Nat → Int32 := σ.2.2.2.1
def sM_isDone (σ : SM) : Int32 := σ.2.2.2.2.1
def sM_reached (σ : SM) : Int32 := σ.2.2.2.2.2.1
def sM_order (σ : SM) : Nat → Int32 := σ.2.2.2.2.2.2.1
def sM_at (σ : SM) : Nat → Int32 := σ.2.2.2.2.2.2.2.1
def sM_rules (σ : SM) : Nat → Int32 := σ.2.2.2.2.2.2.2.2.1
def sM_parent (σ : SM) : Nat → Int32 := σ.2.2.2.2.2.2.2.2.2.1
def sM_isHead (σ : SM) : Nat → Int32 := σ.2.2.2.2.2.2.2.2.2.2.1
def sM_loop (σ : SM) : Nat → Int32 := σ.2.2.2.2.2.2.2.2.2.2.2.1
def sM_loopSize (σ : SM) : Nat → Int32 := σ.2.2.2.2.2.2.2.2.2.2.2.2.1
def sM_seen (σ : SM) : Nat → Int32 := σ.2.2.2.2.2.2.2.2.2.2.2.2.2.1
def sM_pile (σ : SM) : Nat → Int32 := σ.2.2.2.2.2.2.2.2.2.2.2.2.2.2.1
def sM_next (σ : SM) : Nat → Int32 := σ.2.2.2.2.2.2.2.2.2.2.2.2.2.2.2
def uM_thrown (σ : SM) (x : Int32) : SM := (x, σ.2.1, σ.2.2.1, σ.2.2.2.1, σ.2.2.2.2.1, σ.2.2.2.2.2.1, σ.2.2.2.2.2.2.1, σ.2.2.2.2.2.2.2.1, σ.2.2.2.2.2.2.2.2.1, σ.2.2.2.2.2.2.2.2.2.1, σ.2.2.2.2.2.2.2.2.2.2.1, σ.2.2.2.2.2.2.2.2.2.2.2.1, σ.2.2.2.2.2.2.2.2.2.2.2.2.1, σ.2.2.2.2.2.2.2.2.2.2.2.2.2.1, σ.2.2.2.2.2.2.2.2.2.2.2.2.2.2.1, σ.2.2.2.2.2.2.2.2.2.2.2.2.2.2.2)
def uM_blocks (σ : SM) (x : Int32) : SM := (σ.1, x, σ.2.2.1, σ.2.2.2.1, σ.2.2.2.2.1, σ.2.2.2.2.2.1, σ.2.2.2.2.2.2.1, σ.2.2.2.2.2.2.2.1, σ.2.2.2.2.2.2.2.2.1, σ.2.2.2.2.2.2.2.2.2.1, σ.2.2.2.2.2.2.2.2.2.2.1, σ.2.2.2.2.2.2.2.2.2.2.2.1, σ.2.2.2.2.2.2.2.2.2.2.2.2.1, σ.2.2.2.2.2.2.2.2.2.2.2.2.2.1, σ.2.2.2.2.2.2.2.2.2.2.2.2.2.2.1, σ.2.2.2.2.2.2.2.2.2.2.2.2.2.2.2)
def uM_many (σ : SM) (x : Nat → Int32) : SM := (σ.1, σ.2.1, x, σ.2.2.2.1, σ.2.2.2.2.1, σ.2.2.2.2.2.1, σ.2.2.2.2.2.2.1, σ.2.2.2.2.2.2.2.1, σ.2.2.2.2.2.2.2.2.1, σ.2.2.2.2.2.2.2.2.2.1, σ.2.2.2.2.2.2.2.2.2.2.1, σ.2.2.2.2.2.2.2.2.2.2.2.1, σ.2.2.2.2.2.2.2.2.2.2.2.2.1, σ.2.2.2.2.2.2.2.2.2.2.2.2.2.1, σ.2.2.2.2.2.2.2.2.2.2.2.2.2.2.1, σ.2.2.2.2.2.2.2.2.2.2.2.2.2.2.2)
def uM_ends (σ : SM) (x : Nat → Int32) : SM := (σ.1, σ.2.1, σ.2.2.1, x, σ.2.2.2.2.1, σ.2.2.2.2.2.1, σ.2.2.2.2.2.2.1, σ.2.2.2.2.2.2.2.1, σ.2.2.2.2.2.2.2.2.1, σ.2.2.2.2.2.2.2.2.2.1, σ.2.2.2.2.2.2.2.2.2.2.1, σ.2.2.2.2.2.2.2.2.2.2.2.1, σ.2.2.2.2.2.2.2.2.2.2.2.2.1, σ.2.2.2.2.2.2.2.2.2.2.2.2.2.1, σ.2.2.2.2.2.2.2.2.2.2.2.2.2.2.1, σ.2.2.2.2.2.2.2.2.2.2.2.2.2.2.2)
def uM_isDone (σ : SM) (x : Int32) : SM := (σ.1, σ.2.1, σ.2.2.1, σ.2.2.2.1, x, σ.2.2.2.2.2.1, σ.2.2.2.2.2.2.1, σ.2.2.2.2.2.2.2.1, σ.2.2.2.2.2.2.2.2.1, σ.2.2.2.2.2.2.2.2.2.1, σ.2.2.2.2.2.2.2.2.2.2.1, σ.2.2.2.2.2.2.2.2.2.2.2.1, σ.2.2.2.2.2.2.2.2.2.2.2.2.1, σ.2.2.2.2.2.2.2.2.2.2.2.2.2.1, σ.2.2.2.2.2.2.2.2.2.2.2.2.2.2.1, σ.2.2.2.2.2.2.2.2.2.2.2.2.2.2.2)
def uM_reached (σ : SM) (x : Int32) : SM := (σ.1, σ.2.1, σ.2.2.1, σ.2.2.2.1, σ.2.2.2.2.1, x, σ.2.2.2.2.2.2.1, σ.2.2.2.2.2.2.2.1, σ.2.2.2.2.2.2.2.2.1, σ.2.2.2.2.2.2.2.2.2.1, σ.2.2.2.2.2.2.2.2.2.2.1, σ.2.2.2.2.2.2.2.2.2.2.2.1, σ.2.2.2.2.2.2.2.2.2.2.2.2.1, σ.2.2.2.2.2.2.2.2.2.2.2.2.2.1, σ.2.2.2.2.2.2.2.2.2.2.2.2.2.2.1, σ.2.2.2.2.2.2.2.2.2.2.2.2.2.2.2)
def uM_order (σ : SM) (x : Nat → Int32) : SM := (σ.1, σ.2.1, σ.2.2.1, σ.2.2.2.1, σ.2.2.2.2.1, σ.2.2.2.2.2.1, x, σ.2.2.2.2.2.2.2.1, σ.2.2.2.2.2.2.2.2.1, σ.2.2.2.2.2.2.2.2.2.1, σ.2.2.2.2.2.2.2.2.2.2.1, σ.2.2.2.2.2.2.2.2.2.2.2.1, σ.2.2.2.2.2.2.2.2.2.2.2.2.1, σ.2.2.2.2.2.2.2.2.2.2.2.2.2.1, σ.2.2.2.2.2.2.2.2.2.2.2.2.2.2.1, σ.2.2.2.2.2.2.2.2.2.2.2.2.2.2.2)
def uM_at (σ : SM) (x : Nat → Int32) : SM := (σ.1, σ.2.1, σ.2.2.1, σ.2.2.2.1, σ.2.2.2.2.1, σ.2.2.2.2.2.1, σ.2.2.2.2.2.2.1, x, σ.2.2.2.2.2.2.2.2.1, σ.2.2.2.2.2.2.2.2.2.1, σ.2.2.2.2.2.2.2.2.2.2.1, σ.2.2.2.2.2.2.2.2.2.2.2.1, σ.2.2.2.2.2.2.2.2.2.2.2.2.1, σ.2.2.2.2.2.2.2.2.2.2.2.2.2.1, σ.2.2.2.2.2.2.2.2.2.2.2.2.2.2.1, σ.2.2.2.2.2.2.2.2.2.2.2.2.2.2.2)
def uM_rules (σ : SM) (x : Nat → Int32) : SM := (σ.1, σ.2.1, σ.2.2.1, σ.2.2.2.1, σ.2.2.2.2.1, σ.2.2.2.2.2.1, σ.2.2.2.2.2.2.1, σ.2.2.2.2.2.2.2.1, x, σ.2.2.2.2.2.2.2.2.2.1, σ.2.2.2.2.2.2.2.2.2.2.1, σ.2.2.2.2.2.2.2.2.2.2.2.1, σ.2.2.2.2.2.2.2.2.2.2.2.2.1, σ.2.2.2.2.2.2.2.2.2.2.2.2.2.1, σ.2.2.2.2.2.2.2.2.2.2.2.2.2.2.1, σ.2.2.2.2.2.2.2.2.2.2.2.2.2.2.2)
def uM_parent (σ : SM) (x : Nat → Int32) : SM := (σ.1, σ.2.1, σ.2.2.1, σ.2.2.2.1, σ.2.2.2.2.1, σ.2.2.2.2.2.1, σ.2.2.2.2.2.2.1, σ.2.2.2.2.2.2.2.1, σ.2.2.2.2.2.2.2.2.1, x, σ.2.2.2.2.2.2.2.2.2.2.1, σ.2.2.2.2.2.2.2.2.2.2.2.1, σ.2.2.2.2.2.2.2.2.2.2.2.2.1, σ.2.2.2.2.2.2.2.2.2.2.2.2.2.1, σ.2.2.2.2.2.2.2.2.2.2.2.2.2.2.1, σ.2.2.2.2.2.2.2.2.2.2.2.2.2.2.2)
def uM_isHead (σ : SM) (x : Nat → Int32) : SM := (σ.1, σ.2.1, σ.2.2.1, σ.2.2.2.1, σ.2.2.2.2.1, σ.2.2.2.2.2.1, σ.2.2.2.2.2.2.1, σ.2.2.2.2.2.2.2.1, σ.2.2.2.2.2.2.2.2.1, σ.2.2.2.2.2.2.2.2.2.1, x, σ.2.2.2.2.2.2.2.2.2.2.2.1, σ.2.2.2.2.2.2.2.2.2.2.2.2.1, σ.2.2.2.2.2.2.2.2.2.2.2.2.2.1, σ.2.2.2.2.2.2.2.2.2.2.2.2.2.2.1, σ.2.2.2.2.2.2.2.2.2.2.2.2.2.2.2)
def uM_loop (σ : SM) (x : Nat → Int32) : SM := (σ.1, σ.2.1, σ.2.2.1, σ.2.2.2.1, σ.2.2.2.2.1, σ.2.2.2.2.2.1, σ.2.2.2.2.2.2.1, σ.2.2.2.2.2.2.2.1, σ.2.2.2.2.2.2.2.2.1, σ.2.2.2.2.2.2.2.2.2.1, σ.2.2.2.2.2.2.2.2.2.2.1, x, σ.2.2.2.2.2.2.2.2.2.2.2.2.1, σ.2.2.2.2.2.2.2.2.2.2.2.2.2.1, σ.2.2.2.2.2.2.2.2.2.2.2.2.2.2.1, σ.2.2.2.2.2.2.2.2.2.2.2.2.2.2.2)
def uM_loopSize (σ : SM) (x : Nat → Int32) : SM := (σ.1, σ.2.1, σ.2.2.1, σ.2.2.2.1, σ.2.2.2.2.1, σ.2.2.2.2.2.1, σ.2.2.2.2.2.2.1, σ.2.2.2.2.2.2.2.1, σ.2.2.2.2.2.2.2.2.1, σ.2.2.2.2.2.2.2.2.2.1, σ.2.2.2.2.2.2.2.2.2.2.1, σ.2.2.2.2.2.2.2.2.2.2.2.1, x, σ.2.2.2.2.2.2.2.2.2.2.2.2.2.1, σ.2.2.2.2.2.2.2.2.2.2.2.2.2.2.1, σ.2.2.2.2.2.2.2.2.2.2.2.2.2.2.2)
def uM_seen (σ : SM) (x : Nat → Int32) : SM := (σ.1, σ.2.1, σ.2.2.1, σ.2.2.2.1, σ.2.2.2.2.1, σ.2.2.2.2.2.1, σ.2.2.2.2.2.2.1, σ.2.2.2.2.2.2.2.1, σ.2.2.2.2.2.2.2.2.1, σ.2.2.2.2.2.2.2.2.2.1, σ.2.2.2.2.2.2.2.2.2.2.1, σ.2.2.2.2.2.2.2.2.2.2.2.1, σ.2.2.2.2.2.2.2.2.2.2.2.2.1, x, σ.2.2.2.2.2.2.2.2.2.2.2.2.2.2.1, σ.2.2.2.2.2.2.2.2.2.2.2.2.2.2.2)
def uM_pile (σ : SM) (x : Nat → Int32) : SM := (σ.1, σ.2.1, σ.2.2.1, σ.2.2.2.1, σ.2.2.2.2.1, σ.2.2.2.2.2.1, σ.2.2.2.2.2.2.1, σ.2.2.2.2.2.2.2.1, σ.2.2.2.2.2.2.2.2.1, σ.2.2.2.2.2.2.2.2.2.1, σ.2.2.2.2.2.2.2.2.2.2.1, σ.2.2.2.2.2.2.2.2.2.2.2.1, σ.2.2.2.2.2.2.2.2.2.2.2.2.1, σ.2.2.2.2.2.2.2.2.2.2.2.2.2.1, x, σ.2.2.2.2.2.2.2.2.2.2.2.2.2.2.2)
def uM_next (σ : SM) (x : Nat → Int32) : SM := (σ.1, σ.2.1, σ.2.2.1, σ.2.2.2.1, σ.2.2.2.2.1, σ.2.2.2.2.2.1, σ.2.2.2.2.2.2.1, σ.2.2.2.2.2.2.2.1, σ.2.2.2.2.2.2.2.2.1, σ.2.2.2.2.2.2.2.2.2.1, σ.2.2.2.2.2.2.2.2.2.2.1, σ.2.2.2.2.2.2.2.2.2.2.2.1, σ.2.2.2.2.2.2.2.2.2.2.2.2.1, σ.2.2.2.2.2.2.2.2.2.2.2.2.2.1, σ.2.2.2.2.2.2.2.2.2.2.2.2.2.2.1, x)
def wsM (a : Nat → Nat) (cs : Nat → ClassId) (σ : SM) : va_W := [(a 0, .inr (5, [.int (sM_thrown σ), .int (sM_blocks σ), .ref (a 1), .ref (a 2), .int (sM_isDone σ), .int (sM_reached σ), .ref (a 3), .ref (a 4), .ref (a 5), .ref (a 6), .ref (a 7), .ref (a 8), .ref (a 9), .ref (a 10), .ref (a 11), .ref (a 12)])), (a 1, .inl (cs 0, 64, .inl (sM_many σ))), (a 2, .inl (cs 1, 512, .inl (sM_ends σ))), (a 3, .inl (cs 2, 64, .inl (sM_order σ))), (a 4, .inl (cs 3, 64, .inl (sM_at σ))), (a 5, .inl (cs 4, 4096, .inl (sM_rules σ))), (a 6, .inl (cs 5, 64, .inl (sM_parent σ))), (a 7, .inl (cs 6, 64, .inl (sM_isHead σ))), (a 8, .inl (cs 7, 4096, .inl (sM_loop σ))), (a 9, .inl (cs 8, 64, .inl (sM_loopSize σ))), (a 10, .inl (cs 9, 64, .inl (sM_seen σ))), (a 11, .inl (cs 10, 64, .inl (sM_pile σ))), (a 12, .inl (cs 11, 64, .inl (sM_next σ)))]
def tyM (cs : Nat → ClassId) : List (ClassId × FieldType) := [(cs 0, .int), (cs 1, .int), (cs 2, .int), (cs 3, .int), (cs 4, .boolean), (cs 5, .int), (cs 6, .boolean), (cs 7, .boolean), (cs 8, .int), (cs 9, .boolean), (cs 10, .int), (cs 11, .int)]
def nestWs : List Cond := [Cond.methodLinkNest "BlockRuler$Walk" 57 y_BlockRuler_holds "BlockRuler", Cond.methodLinkNest "BlockRuler$Walk" 61 y_BlockRuler_only "BlockRuler", Cond.methodLinkNest "BlockRuler$Rulers" 25 y_BlockRuler_holds "BlockRuler", Cond.methodLinkNest "BlockRuler$Rulers" 29 y_BlockRuler_only "BlockRuler", Cond.methodLinkNest "BlockRuler$Rulers" 67 y_BlockRuler_least "BlockRuler", Cond.methodLinkNest "BlockRuler$Rulers" 70 y_BlockRuler_withoutLeast "BlockRuler", Cond.methodLinkNest "BlockRuler$Loops" 73 y_BlockRuler_holds "BlockRuler", Cond.methodLinkNest "BlockRuler$Loops" 97 y_BlockRuler_only "BlockRuler", Cond.methodLinkNest "BlockRuler$Loops" 106 y_BlockRuler_least "BlockRuler", Cond.methodLinkNest "BlockRuler$Loops" 109 y_BlockRuler_withoutLeast "BlockRuler"]
theorem nw0 : Cond.methodLinkNest "BlockRuler$Walk" 57 y_BlockRuler_holds "BlockRuler" ∈ nestWs := by decide +kernel
theorem nw1 : Cond.methodLinkNest "BlockRuler$Walk" 61 y_BlockRuler_only "BlockRuler" ∈ nestWs := by decide +kernel
theorem nw2 : Cond.methodLinkNest "BlockRuler$Rulers" 25 y_BlockRuler_holds "BlockRuler" ∈ nestWs := by decide +kernel
theorem nw3 : Cond.methodLinkNest "BlockRuler$Rulers" 29 y_BlockRuler_only "BlockRuler" ∈ nestWs := by decide +kernel
theorem nw4 : Cond.methodLinkNest "BlockRuler$Rulers" 67 y_BlockRuler_least "BlockRuler" ∈ nestWs := by decide +kernel
theorem nw5 : Cond.methodLinkNest "BlockRuler$Rulers" 70 y_BlockRuler_withoutLeast "BlockRuler" ∈ nestWs := by decide +kernel
theorem nw6 : Cond.methodLinkNest "BlockRuler$Loops" 73 y_BlockRuler_holds "BlockRuler" ∈ nestWs := by decide +kernel
theorem nw7 : Cond.methodLinkNest "BlockRuler$Loops" 97 y_BlockRuler_only "BlockRuler" ∈ nestWs := by decide +kernel
theorem nw8 : Cond.methodLinkNest "BlockRuler$Loops" 106 y_BlockRuler_least "BlockRuler" ∈ nestWs := by decide +kernel
theorem nw9 : Cond.methodLinkNest "BlockRuler$Loops" 109 y_BlockRuler_withoutLeast "BlockRuler" ∈ nestWs := by decide +kernel
/-- the links to private members of nest mates, which no walk loses -/
def NW (U : State) : Prop := ∀ w ∈ nestWs, va_Nw w U
theorem NW.warm {s U : State} (hW : s.WarmedH U.vm) (h : NW s) : NW U := fun w hw => by
  have q := h w hw
  simp only [nestWs, List.mem_cons, List.not_mem_nil, or_false] at hw
  rcases hw with rfl | rfl | rfl | rfl | rfl | rfl | rfl | rfl | rfl | rfl <;> exact va_Nw.warmM hW q
theorem NW.call {U : State} {g : JFrame} {mk : MethodId} {a : Array Value} (h : NW U) : NW (U.calling g mk a) := NW.warm (U := U.calling g mk a) (State.WarmedH.refl U) h
-- the class's world, and the reference's
abbrev WBB (dC : Nat → ClassId) (dI : Nat → Nat → Nat) (a : Nat → Nat) (cs : Nat → ClassId) (σ : SB) (U : State) : Prop := va_P (dC, dI) classes (wsB a cs σ) U.heap ∧ va_K (dC, dI) classes (tyB cs) U ∧ NW U
abbrev WDB (dC : Nat → ClassId) (dI : Nat → Nat → Nat) (a : Nat → Nat) (cs : Nat → ClassId) (σ : SB) (U : State) : Prop := va_P (dC, dI) classes (wsB a cs σ) U.heap ∧ va_K (dC, dI) classes (tyB cs) U ∧ NW U ∧ va_D (fun _ => True) (wsB a cs σ)
abbrev atB (dC : Nat → ClassId) (dI : Nat → Nat → Nat) (a : Nat → Nat) (cs : Nat → ClassId) (A : Nat → Prop) (u : SB) (t : State) : Prop := va_P (dC, dI) classes (wsB a cs u) t.heap ∧ va_D A (wsB a cs u)
abbrev WBM (dC : Nat → ClassId) (dI : Nat → Nat → Nat) (a : Nat → Nat) (cs : Nat → ClassId) (σ : SM) (U : State) : Prop := va_P (dC, dI) classes (wsM a cs σ) U.heap ∧ va_K (dC, dI) classes (tyM cs) U ∧ NW U
abbrev WDM (dC : Nat → ClassId) (dI : Nat → Nat → Nat) (a : Nat → Nat) (cs : Nat → ClassId) (σ : SM) (U : State) : Prop := va_P (dC, dI) classes (wsM a cs σ) U.heap ∧ va_K (dC, dI) classes (tyM cs) U ∧ NW U ∧ va_D (fun _ => True) (wsM a cs σ)
abbrev atM (dC : Nat → ClassId) (dI : Nat → Nat → Nat) (a : Nat → Nat) (cs : Nat → ClassId) (A : Nat → Prop) (u : SM) (t : State) : Prop := va_P (dC, dI) classes (wsM a cs u) t.heap ∧ va_D A (wsM a cs u)
theorem wb_blind {av : List Value} {D : va_G} {cl : List vw_C} {ws : va_W} {tys : List (ClassId × FieldType)} : FrameBlind (va_Pc av (fun U => va_P D cl ws U.heap ∧ va_K D cl tys U ∧ NW U)) := fun a U g mk h =>
  ⟨h.1, h.2.1, va_K.moved (u := U) (U := U.calling g mk a) (Vm.Alike.refl U.vm) h.2.2.1, h.2.2.2.call⟩
theorem wbz_blind {av : List Value} {D : va_G} {cl : List vw_C} {ws : va_W} {tys : List (ClassId × FieldType)} {sz : Nat} : FrameBlind (va_Pc av (fun U => U.heap.size = sz ∧ va_P D cl ws U.heap ∧ va_K D cl tys U ∧ NW U ∧ va_D (fun _ => True) ws)) := fun a U g mk h =>
  ⟨h.1, h.2.1, h.2.2.1, va_K.moved (u := U) (U := U.calling g mk a) (Vm.Alike.refl U.vm) h.2.2.2.1, h.2.2.2.2.1.call, h.2.2.2.2.2⟩
theorem wb_pre {s U : State} {H : Heap} {D : va_G} {cl : List vw_C} {ws : va_W} {tys : List (ClassId × FieldType)} (hU : U.heap = H) (hW : s.WarmedH U.vm) (hP : va_P D cl ws H) (hK : va_K D cl tys s) (hN : NW s) : va_P D cl ws U.heap ∧ va_K D cl tys U ∧ NW U :=
  ⟨by rw [hU]; exact hP, va_K.moved hW.alike hK, hN.warm hW⟩
theorem wb_preD {s U : State} {H : Heap} {D : va_G} {cl : List vw_C} {ws : va_W} {tys : List (ClassId × FieldType)} {A : Nat → Prop} (hU : U.heap = H) (hW : s.WarmedH U.vm) (hP : va_P D cl ws H) (hK : va_K D cl tys s) (hN : NW s) (hD : va_D A ws) : va_P D cl ws U.heap ∧ va_K D cl tys U ∧ NW U ∧ va_D (fun _ => True) ws :=
  ⟨by rw [hU]; exact hP, va_K.moved hW.alike hK, hN.warm hW, hD.weaken (fun _ _ _ _ => trivial)⟩
end
