section
-- ===== PART A: goes FIRST, ahead of the names: the tables' words, and 'selects' of the private methods out of them =====
/-- a private method of a class that the tables say can be made, by its rows of tables_1 -/
def lw_okq (q : MethodName × Nat) : Prop := (q.1.cls ≠ "java/lang/invoke/MethodHandle" ∧ q.1.cls ≠ "java/lang/invoke/VarHandle") ∧ Cond.instantiable q.1.cls q.2 ∈ tables_1 ∧ Cond.privateMethod q.1 ∈ tables_1 ∧ Cond.instanceMethod q.1 ∈ tables_1
theorem lw_p0 : lw_okq (⟨"BlockRuler", "refresh", "()V"⟩, 5) := ⟨⟨by decide +kernel, by decide +kernel⟩, List.mem_of_getElem? (i := 16) (by decide +kernel), List.mem_of_getElem? (i := 175) (by decide +kernel), List.mem_of_getElem? (i := 176) (by decide +kernel)⟩
theorem lw_p1 : lw_okq (⟨"BlockRuler$Walk", "clear", "()V"⟩, 9) := ⟨⟨by decide +kernel, by decide +kernel⟩, List.mem_of_getElem? (i := 49) (by decide +kernel), List.mem_of_getElem? (i := 183) (by decide +kernel), List.mem_of_getElem? (i := 184) (by decide +kernel)⟩
theorem lw_p2 : lw_okq (⟨"BlockRuler$Walk", "goDeep", "()V"⟩, 9) := ⟨⟨by decide +kernel, by decide +kernel⟩, List.mem_of_getElem? (i := 49) (by decide +kernel), List.mem_of_getElem? (i := 187) (by decide +kernel), List.mem_of_getElem? (i := 188) (by decide +kernel)⟩
theorem lw_p3 : lw_okq (⟨"BlockRuler$Walk", "markEndsOf", "(I)V"⟩, 9) := ⟨⟨by decide +kernel, by decide +kernel⟩, List.mem_of_getElem? (i := 49) (by decide +kernel), List.mem_of_getElem? (i := 202) (by decide +kernel), List.mem_of_getElem? (i := 203) (by decide +kernel)⟩
theorem lw_p4 : lw_okq (⟨"BlockRuler$Rulers", "narrow", "()Z"⟩, 2) := ⟨⟨by decide +kernel, by decide +kernel⟩, List.mem_of_getElem? (i := 93) (by decide +kernel), List.mem_of_getElem? (i := 212) (by decide +kernel), List.mem_of_getElem? (i := 213) (by decide +kernel)⟩
theorem lw_p5 : lw_okq (⟨"BlockRuler$Rulers", "sharedBy", "(J)J"⟩, 2) := ⟨⟨by decide +kernel, by decide +kernel⟩, List.mem_of_getElem? (i := 93) (by decide +kernel), List.mem_of_getElem? (i := 217) (by decide +kernel), List.mem_of_getElem? (i := 218) (by decide +kernel)⟩
theorem lw_p6 : lw_okq (⟨"BlockRuler$Loops", "clear", "()V"⟩, 7) := ⟨⟨by decide +kernel, by decide +kernel⟩, List.mem_of_getElem? (i := 107) (by decide +kernel), List.mem_of_getElem? (i := 238) (by decide +kernel), List.mem_of_getElem? (i := 239) (by decide +kernel)⟩
theorem lw_p7 : lw_okq (⟨"BlockRuler$Loops", "markWaysOf", "(I)V"⟩, 7) := ⟨⟨by decide +kernel, by decide +kernel⟩, List.mem_of_getElem? (i := 107) (by decide +kernel), List.mem_of_getElem? (i := 243) (by decide +kernel), List.mem_of_getElem? (i := 244) (by decide +kernel)⟩
theorem lw_p8 : lw_okq (⟨"BlockRuler$Loops", "grown", "(IJ)J"⟩, 7) := ⟨⟨by decide +kernel, by decide +kernel⟩, List.mem_of_getElem? (i := 107) (by decide +kernel), List.mem_of_getElem? (i := 257) (by decide +kernel), List.mem_of_getElem? (i := 258) (by decide +kernel)⟩
theorem lw_p9 : lw_okq (⟨"BlockRuler", "isReached", "(I)Z"⟩, 5) := ⟨⟨by decide +kernel, by decide +kernel⟩, List.mem_of_getElem? (i := 16) (by decide +kernel), List.mem_of_getElem? (i := 289) (by decide +kernel), List.mem_of_getElem? (i := 290) (by decide +kernel)⟩
theorem lw_p10 : lw_okq (⟨"java/lang/Throwable", "fillInStackTrace", "(I)Ljava/lang/Throwable;"⟩, 6) := ⟨⟨by decide +kernel, by decide +kernel⟩, List.mem_of_getElem? (i := 391) (by decide +kernel), List.mem_of_getElem? (i := 389) (by decide +kernel), List.mem_of_getElem? (i := 390) (by decide +kernel)⟩
theorem lw_p11 : lw_okq (⟨"BlockRulerModel", "isBlock", "(I)Z"⟩, 16) := ⟨⟨by decide +kernel, by decide +kernel⟩, List.mem_of_getElem? (i := 502) (by decide +kernel), List.mem_of_getElem? (i := 570) (by decide +kernel), List.mem_of_getElem? (i := 571) (by decide +kernel)⟩
theorem lw_p12 : lw_okq (⟨"BlockRulerModel", "isWay", "(II)Z"⟩, 16) := ⟨⟨by decide +kernel, by decide +kernel⟩, List.mem_of_getElem? (i := 502) (by decide +kernel), List.mem_of_getElem? (i := 578) (by decide +kernel), List.mem_of_getElem? (i := 579) (by decide +kernel)⟩
theorem lw_p13 : lw_okq (⟨"BlockRulerModel", "reckon", "()V"⟩, 16) := ⟨⟨by decide +kernel, by decide +kernel⟩, List.mem_of_getElem? (i := 502) (by decide +kernel), List.mem_of_getElem? (i := 594) (by decide +kernel), List.mem_of_getElem? (i := 595) (by decide +kernel)⟩
theorem lw_p14 : lw_okq (⟨"BlockRulerModel", "orders", "()V"⟩, 16) := ⟨⟨by decide +kernel, by decide +kernel⟩, List.mem_of_getElem? (i := 502) (by decide +kernel), List.mem_of_getElem? (i := 598) (by decide +kernel), List.mem_of_getElem? (i := 599) (by decide +kernel)⟩
theorem lw_p15 : lw_okq (⟨"BlockRulerModel", "leaveOut", "(I)V"⟩, 16) := ⟨⟨by decide +kernel, by decide +kernel⟩, List.mem_of_getElem? (i := 502) (by decide +kernel), List.mem_of_getElem? (i := 602) (by decide +kernel), List.mem_of_getElem? (i := 603) (by decide +kernel)⟩
def lw_privs_1 : List (MethodName × Nat) := [(⟨"BlockRuler", "refresh", "()V"⟩, 5), (⟨"BlockRuler$Walk", "clear", "()V"⟩, 9), (⟨"BlockRuler$Walk", "goDeep", "()V"⟩, 9), (⟨"BlockRuler$Walk", "markEndsOf", "(I)V"⟩, 9), (⟨"BlockRuler$Rulers", "narrow", "()Z"⟩, 2), (⟨"BlockRuler$Rulers", "sharedBy", "(J)J"⟩, 2), (⟨"BlockRuler$Loops", "clear", "()V"⟩, 7), (⟨"BlockRuler$Loops", "markWaysOf", "(I)V"⟩, 7), (⟨"BlockRuler$Loops", "grown", "(IJ)J"⟩, 7), (⟨"BlockRuler", "isReached", "(I)Z"⟩, 5), (⟨"java/lang/Throwable", "fillInStackTrace", "(I)Ljava/lang/Throwable;"⟩, 6), (⟨"BlockRulerModel", "isBlock", "(I)Z"⟩, 16), (⟨"BlockRulerModel", "isWay", "(II)Z"⟩, 16), (⟨"BlockRulerModel", "reckon", "()V"⟩, 16), (⟨"BlockRulerModel", "orders", "()V"⟩, 16), (⟨"BlockRulerModel", "leaveOut", "(I)V"⟩, 16)]
theorem lw_r1 : ∀ q ∈ lw_privs_1, lw_okq q := List.forall_mem_cons.mpr ⟨lw_p0, List.forall_mem_cons.mpr ⟨lw_p1, List.forall_mem_cons.mpr ⟨lw_p2, List.forall_mem_cons.mpr ⟨lw_p3, List.forall_mem_cons.mpr ⟨lw_p4, List.forall_mem_cons.mpr ⟨lw_p5, List.forall_mem_cons.mpr ⟨lw_p6, List.forall_mem_cons.mpr ⟨lw_p7, List.forall_mem_cons.mpr ⟨lw_p8, List.forall_mem_cons.mpr ⟨lw_p9, List.forall_mem_cons.mpr ⟨lw_p10, List.forall_mem_cons.mpr ⟨lw_p11, List.forall_mem_cons.mpr ⟨lw_p12, List.forall_mem_cons.mpr ⟨lw_p13, List.forall_mem_cons.mpr ⟨lw_p14, List.forall_mem_cons.mpr ⟨lw_p15, fun _ h => absurd h List.not_mem_nil⟩⟩⟩⟩⟩⟩⟩⟩⟩⟩⟩⟩⟩⟩⟩⟩
theorem lw_p16 : lw_okq (⟨"BlockRulerModel", "sortOf", "(II)I"⟩, 16) := ⟨⟨by decide +kernel, by decide +kernel⟩, List.mem_of_getElem? (i := 502) (by decide +kernel), List.mem_of_getElem? (i := 606) (by decide +kernel), List.mem_of_getElem? (i := 607) (by decide +kernel)⟩
theorem lw_p17 : lw_okq (⟨"BlockRulerModel", "loops", "(I)V"⟩, 16) := ⟨⟨by decide +kernel, by decide +kernel⟩, List.mem_of_getElem? (i := 502) (by decide +kernel), List.mem_of_getElem? (i := 610) (by decide +kernel), List.mem_of_getElem? (i := 611) (by decide +kernel)⟩
theorem lw_p18 : lw_okq (⟨"BlockRulerModel", "isReached", "(I)Z"⟩, 16) := ⟨⟨by decide +kernel, by decide +kernel⟩, List.mem_of_getElem? (i := 502) (by decide +kernel), List.mem_of_getElem? (i := 630) (by decide +kernel), List.mem_of_getElem? (i := 631) (by decide +kernel)⟩
theorem lw_p19 : lw_okq (⟨"BlockRulerModel", "depthOf", "(I)I"⟩, 16) := ⟨⟨by decide +kernel, by decide +kernel⟩, List.mem_of_getElem? (i := 502) (by decide +kernel), List.mem_of_getElem? (i := 646) (by decide +kernel), List.mem_of_getElem? (i := 647) (by decide +kernel)⟩
theorem lw_p20 : lw_okq (⟨"BlockRulerModel", "innermost", "(I)I"⟩, 16) := ⟨⟨by decide +kernel, by decide +kernel⟩, List.mem_of_getElem? (i := 502) (by decide +kernel), List.mem_of_getElem? (i := 650) (by decide +kernel), List.mem_of_getElem? (i := 651) (by decide +kernel)⟩
theorem lw_p21 : lw_okq (⟨"BlockRulerModel", "isEdge", "(II)Z"⟩, 16) := ⟨⟨by decide +kernel, by decide +kernel⟩, List.mem_of_getElem? (i := 502) (by decide +kernel), List.mem_of_getElem? (i := 658) (by decide +kernel), List.mem_of_getElem? (i := 659) (by decide +kernel)⟩
def lw_privs_2 : List (MethodName × Nat) := [(⟨"BlockRulerModel", "sortOf", "(II)I"⟩, 16), (⟨"BlockRulerModel", "loops", "(I)V"⟩, 16), (⟨"BlockRulerModel", "isReached", "(I)Z"⟩, 16), (⟨"BlockRulerModel", "depthOf", "(I)I"⟩, 16), (⟨"BlockRulerModel", "innermost", "(I)I"⟩, 16), (⟨"BlockRulerModel", "isEdge", "(II)Z"⟩, 16)]
theorem lw_r2 : ∀ q ∈ lw_privs_2, lw_okq q := List.forall_mem_cons.mpr ⟨lw_p16, List.forall_mem_cons.mpr ⟨lw_p17, List.forall_mem_cons.mpr ⟨lw_p18, List.forall_mem_cons.mpr ⟨lw_p19, List.forall_mem_cons.mpr ⟨lw_p20, List.forall_mem_cons.mpr ⟨lw_p21, fun _ h => absurd h List.not_mem_nil⟩⟩⟩⟩⟩⟩
def lw_privs : List (MethodName × Nat) := lw_privs_1 ++ (lw_privs_2)
def lw_tbl : List Cond := k2_sels lw_privs ++ tables_1
theorem lw_privs_ok : ∀ q ∈ lw_privs, lw_okq q := by
  show ∀ q ∈ lw_privs_1 ++ (lw_privs_2), lw_okq q
  exact List.forall_mem_append.mpr ⟨lw_r1, lw_r2⟩
end
section
/-- the words that every method here has: those of the tables that any walk keeps -/
def G_ : List Cond := lw_tbl.filter goodWord
theorem g_in {w : Cond} (h : w ∈ lw_tbl) (hg : goodWord w = true) : w ∈ G_ := List.mem_filter.mpr ⟨h, hg⟩
theorem g_all {ws : List Cond} (h : (ws.all fun w => decide (w ∈ lw_tbl)) = true) (hg : ws.all goodWord = true) : ∀ w ∈ ws, w ∈ G_ := fun w hw => g_in (of_decide_eq_true (List.all_eq_true.mp h w hw)) (List.all_eq_true.mp hg w hw)
theorem good_G : GoodIn G_ G_ := fun w h => ⟨h, good_of_word (List.mem_filter.mp h).2⟩
theorem gdC {w : Cond} (h : w ∈ G_) : GoodIn G_ (w :: G_) := fun x hx => by
  rcases List.mem_cons.mp hx with rfl | hx
  · exact good_G _ h
  · exact good_G _ hx
theorem gdV {own : String} {idx : Nat} {C : String} {y : MethodName} {w : Cond} (h1 : Cond.methodLink own idx y ∈ G_) (h2 : Cond.instanceMethod y ∈ G_) (h3 : Cond.selects C y y ∈ G_) (h4 : Cond.initialized C ∈ G_) (h5 : w ∈ G_) : GoodIn G_ (wsV own idx C y (w :: G_)) := fun x hx => by
  rcases List.mem_append.mp hx with hx | hx
  · simp only [List.mem_cons, List.not_mem_nil, or_false] at hx
    rcases hx with rfl | rfl | rfl | rfl
    · exact good_G _ h1
    · exact good_G _ h2
    · exact good_G _ h3
    · exact good_G _ h4
  · exact gdC h5 x hx
theorem gdS {own : String} {idx : Nat} {y : MethodName} {w : Cond} (h1 : Cond.methodLink own idx y ∈ G_) (h2 : Cond.static y ∈ G_) (h4 : Cond.initialized own ∈ G_) (h5 : w ∈ G_) : GoodIn G_ (wsS own idx y (w :: G_)) := fun x hx => by
  rcases List.mem_append.mp hx with hx | hx
  · simp only [List.mem_cons, List.not_mem_nil, or_false] at hx
    rcases hx with rfl | rfl | rfl
    · exact good_G _ h1
    · exact good_G _ h2
    · exact good_G _ h4
  · exact gdC h5 x hx
theorem gdSX {own : String} {idx : Nat} {y : MethodName} {w : Cond} (h1 : Cond.methodLink own idx y ∈ G_) (h2 : Cond.static y ∈ G_) (h4 : Cond.initialized y.cls ∈ G_) (h5 : w ∈ G_) : GoodIn G_ (va_wsS own idx y (w :: G_)) := fun x hx => by
  rcases List.mem_append.mp hx with hx | hx
  · simp only [List.mem_cons, List.not_mem_nil, or_false] at hx
    rcases hx with rfl | rfl | rfl
    · exact good_G _ h1
    · exact good_G _ h2
    · exact good_G _ h4
  · exact gdC h5 x hx
-- steps through a model
def Lt {α β : Type} (e : α) (f : α → β) : β := f e
theorem lt_ {α β : Type} {e : α} {f : α → β} {r : β} (h : Lt e f = r) (x : α) (hx : x = e) : f x = r := by
  subst hx
  exact h
theorem gd {α : Type} {i : Int32} {n : Nat} {t : Option α} {r : α} (h : (if i < 0 ∨ n ≤ Int32.toNatClampNeg i then none else t) = some r) : vp_in i n ∧ t = some r := by
  by_cases hc : i < 0 ∨ n ≤ Int32.toNatClampNeg i
  · rw [if_pos hc] at h
    cases h
  · rw [if_neg hc] at h
    exact ⟨hc, h⟩
theorem gz {α : Type} {x : Int32} {t : Option α} {r : α} (h : (if x = 0 ∨ x = 1 then t else none) = some r) : narrow .boolean (.int x) = .int x ∧ t = some r := by
  by_cases hc : x = 0 ∨ x = 1
  · rw [if_pos hc] at h
    refine ⟨?_, h⟩
    rcases hc with rfl | rfl <;> rfl
  · rw [if_neg hc] at h
    cases h
theorem b_t {α : Type} {c : Prop} [Decidable c] {x y r : α} (h : (if c then x else y) = r) (hc : c) : x = r := by
  rw [if_pos hc] at h
  exact h
theorem b_f {α : Type} {c : Prop} [Decidable c] {x y r : α} (h : (if c then x else y) = r) (hc : ¬ c) : y = r := by
  rw [if_neg hc] at h
  exact h
theorem bd {α β : Type} {x : Option α} {f : α → Option β} {r : β} (h : x.bind f = some r) : ∃ y, x = some y ∧ f y = some r := by
  cases x with
  | none => cases h
  | some y => exact ⟨y, rfl, h⟩
theorem s_l {α β γ : Type} {f : α → γ} {g : β → γ} {z : α} {r : γ} (h : Sum.elim f g (Sum.inl z) = r) : f z = r := h
theorem s_r {α β γ : Type} {f : α → γ} {g : β → γ} {z : β} {r : γ} (h : Sum.elim f g (Sum.inr z) = r) : g z = r := h
def jushr (x : Int64) (y : Int32) : Int64 := (x.toUInt64 >>> (y.toInt64.toUInt64 &&& Int64.toUInt64 63)).toInt64
def jshl (x : Int64) (y : Int32) : Int64 := x <<< (y.toInt64 &&& 63)
def jshr (x : Int64) (y : Int32) : Int64 := x >>> (y.toInt64 &&& 63)
def wushr (x y : Int32) : Int32 := (x.toUInt32 >>> (y.toUInt32 &&& Int32.toUInt32 31)).toInt32
theorem tswN {x : Int32} {k : Int32} {n : Int} (h : ¬ x = k) (hk : k.toInt = n) : x.toInt ≠ n := fun q => h (Int32.toInt_inj.mp (q.trans hk.symm))
theorem tsw7 {x : Int32} (h0 : ¬ x = 0) (h1 : ¬ x = 1) (h2 : ¬ x = 2) (h3 : ¬ x = 3) (h4 : ¬ x = 4) (h5 : ¬ x = 5) (h6 : ¬ x = 6) : x.toInt < 0 ∨ 6 < x.toInt := by
  have a0 := tswN (n := 0) h0 (by decide)
  have a1 := tswN (n := 1) h1 (by decide)
  have a2 := tswN (n := 2) h2 (by decide)
  have a3 := tswN (n := 3) h3 (by decide)
  have a4 := tswN (n := 4) h4 (by decide)
  have a5 := tswN (n := 5) h5 (by decide)
  have a6 := tswN (n := 6) h6 (by decide)
  omega
-- what a method's walk has at hand
abbrev Cx (own : String) (cc : ByteArray) (nL : Nat) (p : Program) (s : State) (m : MethodId) (args : Array Value) (meth : Method) (c : Code) : Prop :=
  p.tables.exec = Jvm.exec ∧ c.code = cc ∧ c.maxLocals = nL ∧ s.vm.findClass own = some m.cls ∧ (∀ w ∈ G_, w.before args s = true) ∧ meth.locks = false
/-- the end of a method that only reads -/
def QcV (v : Value) : Array Value → State → Outcome → State → Prop := fun _ st o t => o = .returned (some v) ∧ t.heap = st.heap
section RO
variable {p : Program} {l : Launch} {e : Env} {R : Room} {s : State} {m : MethodId} {args : Array Value} {below : List Frame} {meth : Method} {c : Code} {H : Heap} {locs : List Loc} {cells slots : Nat} {Q : State → Prop} {pc : Nat} {ls : Array Slot} {rest st0 : List Value} {a : Array Value}
theorem ro_call {v : Value} (hr : va_Run p l e R s m args below meth c H locs cells slots 0 0 (F0 m pc ls st0) rest (QcV v a) (fun _ => False)) (kk : W p l e R s m args below meth c H locs cells slots Q (F0 m (pc + 3) ls (v :: rest))) : W p l e R s m args below meth c H locs cells slots Q (F0 m pc ls st0) := by
  intro T hT X
  obtain ⟨v', st₀, t, T', L, h0, X', hL, e1, e2, ⟨hv, hh⟩, st⟩ := hr T hT X
  cases hv
  obtain ⟨t2, a1, b1⟩ := kk T' (by rw [e1, hh, h0]) (Stand.forget X' (fun q h => (hL q h).elim))
  exact ⟨t2, st t2 a1, b1⟩
end RO
theorem va_blind0 {av : List Value} : FrameBlind (va_Pc av (fun _ => True)) := fun _ _ _ _ h => h
theorem va_Pe {D : va_G} {cl : List vw_C} {ws ws' : va_W} {H : Heap} (e : ws = ws') (h : va_P D cl ws H) : va_P D cl ws' H := e ▸ h
theorem va_De {A : Nat → Prop} {ws ws' : va_W} (e : ws = ws') (h : va_D A ws) : va_D A ws' := e ▸ h
theorem th_r {α : Type} {a : Int32} {s : α} {r : Int32 × α} (h : (some (Sum.inr a, s) : Option (Sum Nat Int32 × α)) = some (Sum.inr r.1, r.2)) : (a, s) = r := by
  obtain ⟨x, u⟩ := r
  injection h with h
  injection h with h1 h2
  injection h1 with h1
  subst h1
  subst h2
  rfl
theorem th_k {α : Type} {a b : Nat} {s t : α} (h : (some (Sum.inl a, s) : Option (Sum Nat Int32 × α)) = some (Sum.inl b, t)) : a = b := by
  injection h with h
  injection h with h1 h2
  injection h1
theorem th_s {α : Type} {a b : Nat} {s t : α} (h : (some (Sum.inl a, s) : Option (Sum Nat Int32 × α)) = some (Sum.inl b, t)) : s = t := by
  injection h with h
  injection h with h1 h2
end
section
-- written by wip/gen (blockruler.py)
def F_BlockRuler : u_T := fun k => match k with
  | 0 => ("BlockRuler", "web", "LBlockRuler$Web;", true)
  | 1 => ("BlockRuler", "walk", "LBlockRuler$Walk;", true)
  | 2 => ("BlockRuler", "rulers", "LBlockRuler$Rulers;", true)
  | 3 => ("BlockRuler", "loops", "LBlockRuler$Loops;", true)
  | _ => ("BlockRuler", "stale", "Z", false)
def t_BlockRuler : Nat → FieldType := fun k => match k with
  | 0 => .object "BlockRuler$Web"
  | 1 => .object "BlockRuler$Walk"
  | 2 => .object "BlockRuler$Rulers"
  | 3 => .object "BlockRuler$Loops"
  | _ => .boolean
theorem n_BlockRuler : ∀ a, a < 5 → ∀ b, b < 5 → a ≠ b → (F_BlockRuler a).2.1 ≠ (F_BlockRuler b).2.1 := by decide +kernel
theorem t_BlockRuler_ok : ∀ k, k < 5 → parseFieldDescriptor (F_BlockRuler k).2.2.1 = some (t_BlockRuler k) := by decide +kernel
theorem i_BlockRuler : ∀ w ∈ u_ws "BlockRuler" F_BlockRuler 5, w ∈ G_ := g_all (by decide +kernel) (by decide +kernel)
def F_Web : u_T := fun k => match k with
  | 0 => ("BlockRuler$Web", "degrees", "[I", true)
  | 1 => ("BlockRuler$Web", "ends", "[I", true)
  | 2 => ("BlockRuler$Web", "blocks", "I", false)
  | _ => ("BlockRuler$Web", "ways", "I", false)
def t_Web : Nat → FieldType := fun k => match k with
  | 0 => .array .int
  | 1 => .array .int
  | 2 => .int
  | _ => .int
theorem n_Web : ∀ a, a < 4 → ∀ b, b < 4 → a ≠ b → (F_Web a).2.1 ≠ (F_Web b).2.1 := by decide +kernel
theorem t_Web_ok : ∀ k, k < 4 → parseFieldDescriptor (F_Web k).2.2.1 = some (t_Web k) := by decide +kernel
theorem i_Web : ∀ w ∈ u_ws "BlockRuler$Web" F_Web 4, w ∈ G_ := g_all (by decide +kernel) (by decide +kernel)
def F_Walk : u_T := fun k => match k with
  | 0 => ("BlockRuler$Walk", "web", "LBlockRuler$Web;", true)
  | 1 => ("BlockRuler$Walk", "orders", "[I", true)
  | 2 => ("BlockRuler$Walk", "left", "[I", true)
  | 3 => ("BlockRuler$Walk", "open", "[I", true)
  | 4 => ("BlockRuler$Walk", "taken", "[I", true)
  | 5 => ("BlockRuler$Walk", "comers", "[J", true)
  | 6 => ("BlockRuler$Walk", "comings", "[I", true)
  | 7 => ("BlockRuler$Walk", "reached", "I", false)
  | _ => ("BlockRuler$Walk", "reachedSet", "J", false)
def t_Walk : Nat → FieldType := fun k => match k with
  | 0 => .object "BlockRuler$Web"
  | 1 => .array .int
  | 2 => .array .int
  | 3 => .array .int
  | 4 => .array .int
  | 5 => .array .long
  | 6 => .array .int
  | 7 => .int
  | _ => .long
theorem n_Walk : ∀ a, a < 9 → ∀ b, b < 9 → a ≠ b → (F_Walk a).2.1 ≠ (F_Walk b).2.1 := by decide +kernel
theorem t_Walk_ok : ∀ k, k < 9 → parseFieldDescriptor (F_Walk k).2.2.1 = some (t_Walk k) := by decide +kernel
theorem i_Walk : ∀ w ∈ u_ws "BlockRuler$Walk" F_Walk 9, w ∈ G_ := g_all (by decide +kernel) (by decide +kernel)
def F_Rulers : u_T := fun k => match k with
  | 0 => ("BlockRuler$Rulers", "walk", "LBlockRuler$Walk;", true)
  | _ => ("BlockRuler$Rulers", "of", "[J", true)
def t_Rulers : Nat → FieldType := fun k => match k with
  | 0 => .object "BlockRuler$Walk"
  | _ => .array .long
theorem n_Rulers : ∀ a, a < 2 → ∀ b, b < 2 → a ≠ b → (F_Rulers a).2.1 ≠ (F_Rulers b).2.1 := by decide +kernel
theorem t_Rulers_ok : ∀ k, k < 2 → parseFieldDescriptor (F_Rulers k).2.2.1 = some (t_Rulers k) := by decide +kernel
theorem i_Rulers : ∀ w ∈ u_ws "BlockRuler$Rulers" F_Rulers 2, w ∈ G_ := g_all (by decide +kernel) (by decide +kernel)
def F_Loops : u_T := fun k => match k with
  | 0 => ("BlockRuler$Loops", "web", "LBlockRuler$Web;", true)
  | 1 => ("BlockRuler$Loops", "walk", "LBlockRuler$Walk;", true)
  | 2 => ("BlockRuler$Loops", "rulers", "LBlockRuler$Rulers;", true)
  | 3 => ("BlockRuler$Loops", "of", "[J", true)
  | 4 => ("BlockRuler$Loops", "heads", "I", false)
  | 5 => ("BlockRuler$Loops", "backs", "I", false)
  | _ => ("BlockRuler$Loops", "knots", "I", false)
def t_Loops : Nat → FieldType := fun k => match k with
  | 0 => .object "BlockRuler$Web"
  | 1 => .object "BlockRuler$Walk"
  | 2 => .object "BlockRuler$Rulers"
  | 3 => .array .long
  | 4 => .int
  | 5 => .int
  | _ => .int
theorem n_Loops : ∀ a, a < 7 → ∀ b, b < 7 → a ≠ b → (F_Loops a).2.1 ≠ (F_Loops b).2.1 := by decide +kernel
theorem t_Loops_ok : ∀ k, k < 7 → parseFieldDescriptor (F_Loops k).2.2.1 = some (t_Loops k) := by decide +kernel
theorem i_Loops : ∀ w ∈ u_ws "BlockRuler$Loops" F_Loops 7, w ∈ G_ := g_all (by decide +kernel) (by decide +kernel)
def F_Model : u_T := fun k => match k with
  | 0 => ("BlockRulerModel", "thrown", "I", false)
  | 1 => ("BlockRulerModel", "blocks", "I", false)
  | 2 => ("BlockRulerModel", "many", "[I", true)
  | 3 => ("BlockRulerModel", "ends", "[I", true)
  | 4 => ("BlockRulerModel", "isDone", "Z", false)
  | 5 => ("BlockRulerModel", "reached", "I", false)
  | 6 => ("BlockRulerModel", "order", "[I", true)
  | 7 => ("BlockRulerModel", "at", "[I", true)
  | 8 => ("BlockRulerModel", "rules", "[Z", true)
  | 9 => ("BlockRulerModel", "parent", "[I", true)
  | 10 => ("BlockRulerModel", "isHead", "[Z", true)
  | 11 => ("BlockRulerModel", "loop", "[Z", true)
  | 12 => ("BlockRulerModel", "loopSize", "[I", true)
  | 13 => ("BlockRulerModel", "seen", "[Z", true)
  | 14 => ("BlockRulerModel", "pile", "[I", true)
  | _ => ("BlockRulerModel", "next", "[I", true)
def t_Model : Nat → FieldType := fun k => match k with
  | 0 => .int
  | 1 => .int
  | 2 => .array .int
  | 3 => .array .int
  | 4 => .boolean
  | 5 => .int
  | 6 => .array .int
  | 7 => .array .int
  | 8 => .array .boolean
  | 9 => .array .int
  | 10 => .array .boolean
  | 11 => .array .boolean
  | 12 => .array .int
  | 13 => .array .boolean
  | 14 => .array .int
  | _ => .array .int
theorem n_Model : ∀ a, a < 16 → ∀ b, b < 16 → a ≠ b → (F_Model a).2.1 ≠ (F_Model b).2.1 := by decide +kernel
theorem t_Model_ok : ∀ k, k < 16 → parseFieldDescriptor (F_Model k).2.2.1 = some (t_Model k) := by decide +kernel
theorem i_Model : ∀ w ∈ u_ws "BlockRulerModel" F_Model 16, w ∈ G_ := g_all (by decide +kernel) (by decide +kernel)
abbrev classes : List vw_C := [("BlockRuler", F_BlockRuler, 5), ("BlockRuler$Web", F_Web, 4), ("BlockRuler$Walk", F_Walk, 9), ("BlockRuler$Rulers", F_Rulers, 2), ("BlockRuler$Loops", F_Loops, 7), ("BlockRulerModel", F_Model, 16)]
abbrev b_Long_bitCount : ByteArray := prog_12_method_50_code
def y_Long_bitCount : MethodName := ⟨"java/lang/Long", "bitCount", "(J)I"⟩
abbrev b_BlockRuler_init : ByteArray := prog_1_method_1_code
def y_BlockRuler_init : MethodName := ⟨"BlockRuler", "<init>", "()V"⟩
abbrev b_BlockRuler_block : ByteArray := prog_1_method_2_code
def y_BlockRuler_block : MethodName := ⟨"BlockRuler", "block", "()I"⟩
abbrev b_BlockRuler_way : ByteArray := prog_1_method_3_code
def y_BlockRuler_way : MethodName := ⟨"BlockRuler", "way", "(II)I"⟩
abbrev b_BlockRuler_cut : ByteArray := prog_1_method_4_code
def y_BlockRuler_cut : MethodName := ⟨"BlockRuler", "cut", "(II)I"⟩
abbrev b_BlockRuler_turn : ByteArray := prog_1_method_5_code
def y_BlockRuler_turn : MethodName := ⟨"BlockRuler", "turn", "(III)I"⟩
abbrev b_BlockRuler_end : ByteArray := prog_1_method_6_code
def y_BlockRuler_end : MethodName := ⟨"BlockRuler", "end", "(II)I"⟩
abbrev b_BlockRuler_order : ByteArray := prog_1_method_7_code
def y_BlockRuler_order : MethodName := ⟨"BlockRuler", "order", "(I)I"⟩
abbrev b_BlockRuler_at : ByteArray := prog_1_method_8_code
def y_BlockRuler_at : MethodName := ⟨"BlockRuler", "at", "(I)I"⟩
abbrev b_BlockRuler_parent : ByteArray := prog_1_method_9_code
def y_BlockRuler_parent : MethodName := ⟨"BlockRuler", "parent", "(I)I"⟩
abbrev b_BlockRuler_rules : ByteArray := prog_1_method_10_code
def y_BlockRuler_rules : MethodName := ⟨"BlockRuler", "rules", "(II)Z"⟩
abbrev b_BlockRuler_common : ByteArray := prog_1_method_11_code
def y_BlockRuler_common : MethodName := ⟨"BlockRuler", "common", "(II)I"⟩
abbrev b_BlockRuler_sort : ByteArray := prog_1_method_12_code
def y_BlockRuler_sort : MethodName := ⟨"BlockRuler", "sort", "(II)I"⟩
abbrev b_BlockRuler_inLoop : ByteArray := prog_1_method_13_code
def y_BlockRuler_inLoop : MethodName := ⟨"BlockRuler", "inLoop", "(II)Z"⟩
abbrev b_BlockRuler_look : ByteArray := prog_1_method_14_code
def y_BlockRuler_look : MethodName := ⟨"BlockRuler", "look", "(II)I"⟩
abbrev b_BlockRuler_edge : ByteArray := prog_1_method_15_code
def y_BlockRuler_edge : MethodName := ⟨"BlockRuler", "edge", "(II)I"⟩
abbrev b_BlockRuler_count : ByteArray := prog_1_method_16_code
def y_BlockRuler_count : MethodName := ⟨"BlockRuler", "count", "(I)I"⟩
abbrev b_BlockRuler_refresh : ByteArray := prog_1_method_17_code
def y_BlockRuler_refresh : MethodName := ⟨"BlockRuler", "refresh", "()V"⟩
abbrev b_BlockRuler_isReached : ByteArray := prog_1_method_18_code
def y_BlockRuler_isReached : MethodName := ⟨"BlockRuler", "isReached", "(I)Z"⟩
abbrev b_BlockRuler_only : ByteArray := prog_1_method_19_code
def y_BlockRuler_only : MethodName := ⟨"BlockRuler", "only", "(I)J"⟩
abbrev b_BlockRuler_holds : ByteArray := prog_1_method_20_code
def y_BlockRuler_holds : MethodName := ⟨"BlockRuler", "holds", "(JI)Z"⟩
abbrev b_BlockRuler_least : ByteArray := prog_1_method_21_code
def y_BlockRuler_least : MethodName := ⟨"BlockRuler", "least", "(J)I"⟩
abbrev b_BlockRuler_withoutLeast : ByteArray := prog_1_method_22_code
def y_BlockRuler_withoutLeast : MethodName := ⟨"BlockRuler", "withoutLeast", "(J)J"⟩
abbrev b_BlockRuler_nth : ByteArray := prog_1_method_23_code
def y_BlockRuler_nth : MethodName := ⟨"BlockRuler", "nth", "(JI)I"⟩
abbrev b_Model_init : ByteArray := prog_7_method_1_code
def y_Model_init : MethodName := ⟨"BlockRulerModel", "<init>", "()V"⟩
abbrev b_Model_thrown : ByteArray := prog_7_method_2_code
def y_Model_thrown : MethodName := ⟨"BlockRulerModel", "thrown", "()I"⟩
abbrev b_Model_isBlock : ByteArray := prog_7_method_3_code
def y_Model_isBlock : MethodName := ⟨"BlockRulerModel", "isBlock", "(I)Z"⟩
abbrev b_Model_isWay : ByteArray := prog_7_method_4_code
def y_Model_isWay : MethodName := ⟨"BlockRulerModel", "isWay", "(II)Z"⟩
abbrev b_Model_block : ByteArray := prog_7_method_5_code
def y_Model_block : MethodName := ⟨"BlockRulerModel", "block", "()I"⟩
abbrev b_Model_way : ByteArray := prog_7_method_6_code
def y_Model_way : MethodName := ⟨"BlockRulerModel", "way", "(II)I"⟩
abbrev b_Model_cut : ByteArray := prog_7_method_7_code
def y_Model_cut : MethodName := ⟨"BlockRulerModel", "cut", "(II)I"⟩
abbrev b_Model_turn : ByteArray := prog_7_method_8_code
def y_Model_turn : MethodName := ⟨"BlockRulerModel", "turn", "(III)I"⟩
abbrev b_Model_reckon : ByteArray := prog_7_method_9_code
def y_Model_reckon : MethodName := ⟨"BlockRulerModel", "reckon", "()V"⟩
abbrev b_Model_orders : ByteArray := prog_7_method_10_code
def y_Model_orders : MethodName := ⟨"BlockRulerModel", "orders", "()V"⟩
abbrev b_Model_leaveOut : ByteArray := prog_7_method_11_code
def y_Model_leaveOut : MethodName := ⟨"BlockRulerModel", "leaveOut", "(I)V"⟩
abbrev b_Model_sortOf : ByteArray := prog_7_method_12_code
def y_Model_sortOf : MethodName := ⟨"BlockRulerModel", "sortOf", "(II)I"⟩
abbrev b_Model_loops : ByteArray := prog_7_method_13_code
def y_Model_loops : MethodName := ⟨"BlockRulerModel", "loops", "(I)V"⟩
abbrev b_Model_end : ByteArray := prog_7_method_14_code
def y_Model_end : MethodName := ⟨"BlockRulerModel", "end", "(II)I"⟩
abbrev b_Model_order : ByteArray := prog_7_method_15_code
def y_Model_order : MethodName := ⟨"BlockRulerModel", "order", "(I)I"⟩
abbrev b_Model_at : ByteArray := prog_7_method_16_code
def y_Model_at : MethodName := ⟨"BlockRulerModel", "at", "(I)I"⟩
abbrev b_Model_parent : ByteArray := prog_7_method_17_code
def y_Model_parent : MethodName := ⟨"BlockRulerModel", "parent", "(I)I"⟩
abbrev b_Model_rules : ByteArray := prog_7_method_18_code
def y_Model_rules : MethodName := ⟨"BlockRulerModel", "rules", "(II)Z"⟩
abbrev b_Model_isReached : ByteArray := prog_7_method_19_code
def y_Model_isReached : MethodName := ⟨"BlockRulerModel", "isReached", "(I)Z"⟩
abbrev b_Model_common : ByteArray := prog_7_method_20_code
def y_Model_common : MethodName := ⟨"BlockRulerModel", "common", "(II)I"⟩
abbrev b_Model_sort : ByteArray := prog_7_method_21_code
def y_Model_sort : MethodName := ⟨"BlockRulerModel", "sort", "(II)I"⟩
abbrev b_Model_inLoop : ByteArray := prog_7_method_22_code
def y_Model_inLoop : MethodName := ⟨"BlockRulerModel", "inLoop", "(II)Z"⟩
abbrev b_Model_depthOf : ByteArray := prog_7_method_23_code
def y_Model_depthOf : MethodName := ⟨"BlockRulerModel", "depthOf", "(I)I"⟩
abbrev b_Model_innermost : ByteArray := prog_7_method_24_code
def y_Model_innermost : MethodName := ⟨"BlockRulerModel", "innermost", "(I)I"⟩
abbrev b_Model_look : ByteArray := prog_7_method_25_code
def y_Model_look : MethodName := ⟨"BlockRulerModel", "look", "(II)I"⟩
abbrev b_Model_isEdge : ByteArray := prog_7_method_26_code
def y_Model_isEdge : MethodName := ⟨"BlockRulerModel", "isEdge", "(II)Z"⟩
abbrev b_Model_edge : ByteArray := prog_7_method_27_code
def y_Model_edge : MethodName := ⟨"BlockRulerModel", "edge", "(II)I"⟩
abbrev b_Model_count : ByteArray := prog_7_method_28_code
def y_Model_count : MethodName := ⟨"BlockRulerModel", "count", "(I)I"⟩
abbrev b_Loops_init : ByteArray := prog_2_method_1_code
def y_Loops_init : MethodName := ⟨"BlockRuler$Loops", "<init>", "(LBlockRuler$Web;LBlockRuler$Walk;LBlockRuler$Rulers;)V"⟩
abbrev b_Loops_make : ByteArray := prog_2_method_2_code
def y_Loops_make : MethodName := ⟨"BlockRuler$Loops", "make", "()V"⟩
abbrev b_Loops_kindOf : ByteArray := prog_2_method_3_code
def y_Loops_kindOf : MethodName := ⟨"BlockRuler$Loops", "kindOf", "(II)I"⟩
abbrev b_Loops_depthOf : ByteArray := prog_2_method_4_code
def y_Loops_depthOf : MethodName := ⟨"BlockRuler$Loops", "depthOf", "(I)I"⟩
abbrev b_Loops_greatestDepth : ByteArray := prog_2_method_5_code
def y_Loops_greatestDepth : MethodName := ⟨"BlockRuler$Loops", "greatestDepth", "()I"⟩
abbrev b_Loops_innermostOf : ByteArray := prog_2_method_6_code
def y_Loops_innermostOf : MethodName := ⟨"BlockRuler$Loops", "innermostOf", "(I)I"⟩
abbrev b_Loops_clear : ByteArray := prog_2_method_7_code
def y_Loops_clear : MethodName := ⟨"BlockRuler$Loops", "clear", "()V"⟩
abbrev b_Loops_markWaysOf : ByteArray := prog_2_method_8_code
def y_Loops_markWaysOf : MethodName := ⟨"BlockRuler$Loops", "markWaysOf", "(I)V"⟩
abbrev b_Loops_grown : ByteArray := prog_2_method_9_code
def y_Loops_grown : MethodName := ⟨"BlockRuler$Loops", "grown", "(IJ)J"⟩
abbrev b_Rulers_init : ByteArray := prog_3_method_1_code
def y_Rulers_init : MethodName := ⟨"BlockRuler$Rulers", "<init>", "(LBlockRuler$Walk;)V"⟩
abbrev b_Rulers_make : ByteArray := prog_3_method_2_code
def y_Rulers_make : MethodName := ⟨"BlockRuler$Rulers", "make", "()V"⟩
abbrev b_Rulers_isRuled : ByteArray := prog_3_method_3_code
def y_Rulers_isRuled : MethodName := ⟨"BlockRuler$Rulers", "isRuled", "(II)Z"⟩
abbrev b_Rulers_realmOf : ByteArray := prog_3_method_4_code
def y_Rulers_realmOf : MethodName := ⟨"BlockRuler$Rulers", "realmOf", "(I)J"⟩
abbrev b_Rulers_edgeOf : ByteArray := prog_3_method_5_code
def y_Rulers_edgeOf : MethodName := ⟨"BlockRuler$Rulers", "edgeOf", "(I)J"⟩
abbrev b_Rulers_narrow : ByteArray := prog_3_method_6_code
def y_Rulers_narrow : MethodName := ⟨"BlockRuler$Rulers", "narrow", "()Z"⟩
abbrev b_Rulers_sharedBy : ByteArray := prog_3_method_7_code
def y_Rulers_sharedBy : MethodName := ⟨"BlockRuler$Rulers", "sharedBy", "(J)J"⟩
abbrev b_Walk_init : ByteArray := prog_4_method_1_code
def y_Walk_init : MethodName := ⟨"BlockRuler$Walk", "<init>", "(LBlockRuler$Web;)V"⟩
abbrev b_Walk_make : ByteArray := prog_4_method_2_code
def y_Walk_make : MethodName := ⟨"BlockRuler$Walk", "make", "()V"⟩
abbrev b_Walk_blockAt : ByteArray := prog_4_method_3_code
def y_Walk_blockAt : MethodName := ⟨"BlockRuler$Walk", "blockAt", "(I)I"⟩
abbrev b_Walk_lastOf : ByteArray := prog_4_method_4_code
def y_Walk_lastOf : MethodName := ⟨"BlockRuler$Walk", "lastOf", "(J)I"⟩
abbrev b_Walk_clear : ByteArray := prog_4_method_5_code
def y_Walk_clear : MethodName := ⟨"BlockRuler$Walk", "clear", "()V"⟩
abbrev b_Walk_goDeep : ByteArray := prog_4_method_6_code
def y_Walk_goDeep : MethodName := ⟨"BlockRuler$Walk", "goDeep", "()V"⟩
abbrev b_Walk_markEndsOf : ByteArray := prog_4_method_7_code
def y_Walk_markEndsOf : MethodName := ⟨"BlockRuler$Walk", "markEndsOf", "(I)V"⟩
abbrev b_Web_init : ByteArray := prog_5_method_1_code
def y_Web_init : MethodName := ⟨"BlockRuler$Web", "<init>", "()V"⟩
abbrev b_Web_hasBlock : ByteArray := prog_5_method_2_code
def y_Web_hasBlock : MethodName := ⟨"BlockRuler$Web", "hasBlock", "(I)Z"⟩
abbrev b_Web_hasWay : ByteArray := prog_5_method_3_code
def y_Web_hasWay : MethodName := ⟨"BlockRuler$Web", "hasWay", "(II)Z"⟩
abbrev b_Web_endOf : ByteArray := prog_5_method_4_code
def y_Web_endOf : MethodName := ⟨"BlockRuler$Web", "endOf", "(II)I"⟩
abbrev b_Web_addBlock : ByteArray := prog_5_method_5_code
def y_Web_addBlock : MethodName := ⟨"BlockRuler$Web", "addBlock", "()I"⟩
abbrev b_Web_addWay : ByteArray := prog_5_method_6_code
def y_Web_addWay : MethodName := ⟨"BlockRuler$Web", "addWay", "(II)I"⟩
abbrev b_Web_removeWay : ByteArray := prog_5_method_7_code
def y_Web_removeWay : MethodName := ⟨"BlockRuler$Web", "removeWay", "(II)I"⟩
abbrev b_Web_moveWay : ByteArray := prog_5_method_8_code
def y_Web_moveWay : MethodName := ⟨"BlockRuler$Web", "moveWay", "(III)I"⟩
abbrev b_Law_block : ByteArray := method_3_code
def y_Law_block : MethodName := ⟨"BlockRulerLaw", "block", "(LBlockRuler;[J)I"⟩
abbrev b_Law_way : ByteArray := method_4_code
def y_Law_way : MethodName := ⟨"BlockRulerLaw", "way", "(LBlockRuler;II[J)I"⟩
abbrev b_Law_cut : ByteArray := method_5_code
def y_Law_cut : MethodName := ⟨"BlockRulerLaw", "cut", "(LBlockRuler;II[J)I"⟩
abbrev b_Law_turn : ByteArray := method_6_code
def y_Law_turn : MethodName := ⟨"BlockRulerLaw", "turn", "(LBlockRuler;III[J)I"⟩
abbrev b_Law_common : ByteArray := method_7_code
def y_Law_common : MethodName := ⟨"BlockRulerLaw", "common", "(LBlockRuler;II[J)I"⟩
abbrev b_Law_law : ByteArray := code
abbrev w_Long_bitCount : List Cond := Cond.code y_Long_bitCount b_Long_bitCount 2 (some .int) :: G_
abbrev w_Web_hasBlock : List Cond := Cond.code y_Web_hasBlock b_Web_hasBlock 2 (some .boolean) :: G_
abbrev w_Web_hasWay : List Cond := Cond.code y_Web_hasWay b_Web_hasWay 3 (some .boolean) :: G_
abbrev w_Web_endOf : List Cond := Cond.code y_Web_endOf b_Web_endOf 3 (some .int) :: G_
abbrev w_Web_addBlock : List Cond := Cond.code y_Web_addBlock b_Web_addBlock 2 (some .int) :: G_
abbrev w_Web_addWay : List Cond := Cond.code y_Web_addWay b_Web_addWay 4 (some .int) :: G_
abbrev w_Web_removeWay : List Cond := Cond.code y_Web_removeWay b_Web_removeWay 6 (some .int) :: G_
abbrev w_Web_moveWay : List Cond := Cond.code y_Web_moveWay b_Web_moveWay 5 (some .int) :: G_
abbrev w_BlockRuler_only : List Cond := Cond.code y_BlockRuler_only b_BlockRuler_only 1 (some .long) :: G_
abbrev w_BlockRuler_holds : List Cond := Cond.code y_BlockRuler_holds b_BlockRuler_holds 3 (some .boolean) :: G_
abbrev w_BlockRuler_least : List Cond := Cond.code y_BlockRuler_least b_BlockRuler_least 2 (some .int) :: G_
abbrev w_BlockRuler_withoutLeast : List Cond := Cond.code y_BlockRuler_withoutLeast b_BlockRuler_withoutLeast 2 (some .long) :: G_
abbrev w_BlockRuler_nth : List Cond := Cond.code y_BlockRuler_nth b_BlockRuler_nth 6 (some .int) :: G_
abbrev w_Walk_blockAt : List Cond := Cond.code y_Walk_blockAt b_Walk_blockAt 2 (some .int) :: G_
abbrev w_Walk_lastOf : List Cond := Cond.code y_Walk_lastOf b_Walk_lastOf 4 (some .int) :: G_
abbrev w_Walk_clear : List Cond := Cond.code y_Walk_clear b_Walk_clear 2 none :: G_
abbrev w_Walk_goDeep : List Cond := Cond.code y_Walk_goDeep b_Walk_goDeep 5 none :: G_
abbrev w_Walk_markEndsOf : List Cond := Cond.code y_Walk_markEndsOf b_Walk_markEndsOf 4 none :: G_
abbrev w_Walk_make : List Cond := Cond.code y_Walk_make b_Walk_make 3 none :: G_
abbrev w_Rulers_isRuled : List Cond := Cond.code y_Rulers_isRuled b_Rulers_isRuled 3 (some .boolean) :: G_
abbrev w_Rulers_realmOf : List Cond := Cond.code y_Rulers_realmOf b_Rulers_realmOf 5 (some .long) :: G_
abbrev w_Rulers_edgeOf : List Cond := Cond.code y_Rulers_edgeOf b_Rulers_edgeOf 9 (some .long) :: G_
abbrev w_Rulers_sharedBy : List Cond := Cond.code y_Rulers_sharedBy b_Rulers_sharedBy 9 (some .long) :: G_
abbrev w_Rulers_narrow : List Cond := Cond.code y_Rulers_narrow b_Rulers_narrow 6 (some .boolean) :: G_
abbrev w_Rulers_make : List Cond := Cond.code y_Rulers_make b_Rulers_make 3 none :: G_
abbrev w_Loops_kindOf : List Cond := Cond.code y_Loops_kindOf b_Loops_kindOf 4 (some .int) :: G_
abbrev w_Loops_depthOf : List Cond := Cond.code y_Loops_depthOf b_Loops_depthOf 4 (some .int) :: G_
abbrev w_Loops_greatestDepth : List Cond := Cond.code y_Loops_greatestDepth b_Loops_greatestDepth 3 (some .int) :: G_
abbrev w_Loops_innermostOf : List Cond := Cond.code y_Loops_innermostOf b_Loops_innermostOf 7 (some .int) :: G_
abbrev w_Loops_clear : List Cond := Cond.code y_Loops_clear b_Loops_clear 2 none :: G_
abbrev w_Loops_markWaysOf : List Cond := Cond.code y_Loops_markWaysOf b_Loops_markWaysOf 4 none :: G_
abbrev w_Loops_grown : List Cond := Cond.code y_Loops_grown b_Loops_grown 11 (some .long) :: G_
abbrev w_Loops_make : List Cond := Cond.code y_Loops_make b_Loops_make 2 none :: G_
abbrev w_BlockRuler_refresh : List Cond := Cond.code y_BlockRuler_refresh b_BlockRuler_refresh 1 none :: G_
abbrev w_BlockRuler_isReached : List Cond := Cond.code y_BlockRuler_isReached b_BlockRuler_isReached 2 (some .boolean) :: G_
abbrev w_BlockRuler_block : List Cond := Cond.code y_BlockRuler_block b_BlockRuler_block 1 (some .int) :: G_
abbrev w_BlockRuler_way : List Cond := Cond.code y_BlockRuler_way b_BlockRuler_way 3 (some .int) :: G_
abbrev w_BlockRuler_cut : List Cond := Cond.code y_BlockRuler_cut b_BlockRuler_cut 3 (some .int) :: G_
abbrev w_BlockRuler_turn : List Cond := Cond.code y_BlockRuler_turn b_BlockRuler_turn 4 (some .int) :: G_
abbrev w_BlockRuler_common : List Cond := Cond.code y_BlockRuler_common b_BlockRuler_common 3 (some .int) :: G_
abbrev w_BlockRuler_end : List Cond := Cond.code y_BlockRuler_end b_BlockRuler_end 3 (some .int) :: G_
abbrev w_BlockRuler_order : List Cond := Cond.code y_BlockRuler_order b_BlockRuler_order 2 (some .int) :: G_
abbrev w_BlockRuler_at : List Cond := Cond.code y_BlockRuler_at b_BlockRuler_at 2 (some .int) :: G_
abbrev w_BlockRuler_parent : List Cond := Cond.code y_BlockRuler_parent b_BlockRuler_parent 2 (some .int) :: G_
abbrev w_BlockRuler_rules : List Cond := Cond.code y_BlockRuler_rules b_BlockRuler_rules 3 (some .boolean) :: G_
abbrev w_BlockRuler_sort : List Cond := Cond.code y_BlockRuler_sort b_BlockRuler_sort 3 (some .int) :: G_
abbrev w_BlockRuler_inLoop : List Cond := Cond.code y_BlockRuler_inLoop b_BlockRuler_inLoop 3 (some .boolean) :: G_
abbrev w_BlockRuler_look : List Cond := Cond.code y_BlockRuler_look b_BlockRuler_look 3 (some .int) :: G_
abbrev w_BlockRuler_edge : List Cond := Cond.code y_BlockRuler_edge b_BlockRuler_edge 3 (some .int) :: G_
abbrev w_BlockRuler_count : List Cond := Cond.code y_BlockRuler_count b_BlockRuler_count 2 (some .int) :: G_
abbrev w_Model_thrown : List Cond := Cond.code y_Model_thrown b_Model_thrown 1 (some .int) :: G_
abbrev w_Model_isBlock : List Cond := Cond.code y_Model_isBlock b_Model_isBlock 2 (some .boolean) :: G_
abbrev w_Model_isWay : List Cond := Cond.code y_Model_isWay b_Model_isWay 3 (some .boolean) :: G_
abbrev w_Model_block : List Cond := Cond.code y_Model_block b_Model_block 1 (some .int) :: G_
abbrev w_Model_way : List Cond := Cond.code y_Model_way b_Model_way 3 (some .int) :: G_
abbrev w_Model_cut : List Cond := Cond.code y_Model_cut b_Model_cut 5 (some .int) :: G_
abbrev w_Model_turn : List Cond := Cond.code y_Model_turn b_Model_turn 5 (some .int) :: G_
abbrev w_Model_sortOf : List Cond := Cond.code y_Model_sortOf b_Model_sortOf 4 (some .int) :: G_
abbrev w_Model_orders : List Cond := Cond.code y_Model_orders b_Model_orders 5 none :: G_
abbrev w_Model_leaveOut : List Cond := Cond.code y_Model_leaveOut b_Model_leaveOut 6 none :: G_
abbrev w_Model_loops : List Cond := Cond.code y_Model_loops b_Model_loops 6 none :: G_
abbrev w_Model_reckon : List Cond := Cond.code y_Model_reckon b_Model_reckon 3 none :: G_
abbrev w_Model_end : List Cond := Cond.code y_Model_end b_Model_end 3 (some .int) :: G_
abbrev w_Model_order : List Cond := Cond.code y_Model_order b_Model_order 2 (some .int) :: G_
abbrev w_Model_at : List Cond := Cond.code y_Model_at b_Model_at 2 (some .int) :: G_
abbrev w_Model_parent : List Cond := Cond.code y_Model_parent b_Model_parent 2 (some .int) :: G_
abbrev w_Model_rules : List Cond := Cond.code y_Model_rules b_Model_rules 3 (some .boolean) :: G_
abbrev w_Model_isReached : List Cond := Cond.code y_Model_isReached b_Model_isReached 2 (some .boolean) :: G_
abbrev w_Model_common : List Cond := Cond.code y_Model_common b_Model_common 6 (some .int) :: G_
abbrev w_Model_sort : List Cond := Cond.code y_Model_sort b_Model_sort 3 (some .int) :: G_
abbrev w_Model_inLoop : List Cond := Cond.code y_Model_inLoop b_Model_inLoop 3 (some .boolean) :: G_
abbrev w_Model_depthOf : List Cond := Cond.code y_Model_depthOf b_Model_depthOf 4 (some .int) :: G_
abbrev w_Model_innermost : List Cond := Cond.code y_Model_innermost b_Model_innermost 5 (some .int) :: G_
abbrev w_Model_look : List Cond := Cond.code y_Model_look b_Model_look 6 (some .int) :: G_
abbrev w_Model_isEdge : List Cond := Cond.code y_Model_isEdge b_Model_isEdge 6 (some .boolean) :: G_
abbrev w_Model_edge : List Cond := Cond.code y_Model_edge b_Model_edge 5 (some .int) :: G_
abbrev w_Model_count : List Cond := Cond.code y_Model_count b_Model_count 9 (some .int) :: G_
end
section
-- written by wip/gen (blockruler.py)
abbrev SB : Type := (Int32) × (Nat → Int32) × (Nat → Int32) × (Int32) × (Int32) × (Nat → Int32) × (Nat → Int32) × (Nat → Int32) × (Nat → Int32) × (Nat → Int64) × (Nat → Int32) × (Int32) × (Int64) × (Nat → Int64) × (Nat → Int64) × (Int32) × (Int32) × (Int32)
def sB_stale (σ : SB) : Int32 := σ.1
def sB_deg (σ : SB) : Nat → Int32 := σ.2.1
def sB_ends (σ : SB) : Nat → Int32 := σ.2.2.1
def sB_blocks (σ : SB) : Int32 := σ.2.2.2.1
def sB_ways (σ : SB) : Int32 := σ.2.2.2.2.1
def sB_orders (σ : SB) : Nat → Int32 := σ.2.2.2.2.2.1
def sB_left (σ : SB) : Nat → Int32 := σ.2.2.2.2.2.2.1
def sB_open (σ : SB) : Nat → Int32 := σ.2.2.2.2.2.2.2.1
def sB_taken (σ : SB) : Nat → Int32 := σ.2.2.2.2.2.2.2.2.1
def sB_comers (σ : SB) : Nat → Int64 := σ.2.2.2.2.2.2.2.2.2.1
def sB_comings (σ : SB) : Nat → Int32 := σ.2.2.2.2.2.2.2.2.2.2.1
def sB_reached (σ : SB) : Int32 := σ.2.2.2.2.2.2.2.2.2.2.2.1
def sB_rset (σ : SB) : Int64 := σ.2.2.2.2.2.2.2.2.2.2.2.2.1
def sB_rof (σ : SB) : Nat → Int64 := σ.2.2.2.2.2.2.2.2.2.2.2.2.2.1
def sB_lof (σ : SB) : Nat → Int64 := σ.2.2.2.2.2.2.2.2.2.2.2.2.2.2.1
def sB_heads (σ : SB) : Int32 := σ.2.2.2.2.2.2.2.2.2.2.2.2.2.2.2.1
def sB_backs (σ : SB) : Int32 := σ.2.2.2.2.2.2.2.2.2.2.2.2.2.2.2.2.1
def sB_knots (σ : SB) : Int32 := σ.2.2.2.2.2.2.2.2.2.2.2.2.2.2.2.2.2
def uB_stale (σ : SB) (x : Int32) : SB := (x, σ.2.1, σ.2.2.1, σ.2.2.2.1, σ.2.2.2.2.1, σ.2.2.2.2.2.1, σ.2.2.2.2.2.2.1, σ.2.2.2.2.2.2.2.1, σ.2.2.2.2.2.2.2.2.1, σ.2.2.2.2.2.2.2.2.2.1, σ.2.2.2.2.2.2.2.2.2.2.1, σ.2.2.2.2.2.2.2.2.2.2.2.1, σ.2.2.2.2.2.2.2.2.2.2.2.2.1, σ.2.2.2.2.2.2.2.2.2.2.2.2.2.1, σ.2.2.2.2.2.2.2.2.2.2.2.2.2.2.1, σ.2.2.2.2.2.2.2.2.2.2.2.2.2.2.2.1, σ.2.2.2.2.2.2.2.2.2.2.2.2.2.2.2.2.1, σ.2.2.2.2.2.2.2.2.2.2.2.2.2.2.2.2.2)
def uB_deg (σ : SB) (x : Nat → Int32) : SB := (σ.1, x, σ.2.2.1, σ.2.2.2.1, σ.2.2.2.2.1, σ.2.2.2.2.2.1, σ.2.2.2.2.2.2.1, σ.2.2.2.2.2.2.2.1, σ.2.2.2.2.2.2.2.2.1, σ.2.2.2.2.2.2.2.2.2.1, σ.2.2.2.2.2.2.2.2.2.2.1, σ.2.2.2.2.2.2.2.2.2.2.2.1, σ.2.2.2.2.2.2.2.2.2.2.2.2.1, σ.2.2.2.2.2.2.2.2.2.2.2.2.2.1, σ.2.2.2.2.2.2.2.2.2.2.2.2.2.2.1, σ.2.2.2.2.2.2.2.2.2.2.2.2.2.2.2.1, σ.2.2.2.2.2.2.2.2.2.2.2.2.2.2.2.2.1, σ.2.2.2.2.2.2.2.2.2.2.2.2.2.2.2.2.2)
def uB_ends (σ : SB) (x : Nat → Int32) : SB := (σ.1, σ.2.1, x, σ.2.2.2.1, σ.2.2.2.2.1, σ.2.2.2.2.2.1, σ.2.2.2.2.2.2.1, σ.2.2.2.2.2.2.2.1, σ.2.2.2.2.2.2.2.2.1, σ.2.2.2.2.2.2.2.2.2.1, σ.2.2.2.2.2.2.2.2.2.2.1, σ.2.2.2.2.2.2.2.2.2.2.2.1, σ.2.2.2.2.2.2.2.2.2.2.2.2.1, σ.2.2.2.2.2.2.2.2.2.2.2.2.2.1, σ.2.2.2.2.2.2.2.2.2.2.2.2.2.2.1, σ.2.2.2.2.2.2.2.2.2.2.2.2.2.2.2.1, σ.2.2.2.2.2.2.2.2.2.2.2.2.2.2.2.2.1, σ.2.2.2.2.2.2.2.2.2.2.2.2.2.2.2.2.2)
def uB_blocks (σ : SB) (x : Int32) : SB := (σ.1, σ.2.1, σ.2.2.1, x, σ.2.2.2.2.1, σ.2.2.2.2.2.1, σ.2.2.2.2.2.2.1, σ.2.2.2.2.2.2.2.1, σ.2.2.2.2.2.2.2.2.1, σ.2.2.2.2.2.2.2.2.2.1, σ.2.2.2.2.2.2.2.2.2.2.1, σ.2.2.2.2.2.2.2.2.2.2.2.1, σ.2.2.2.2.2.2.2.2.2.2.2.2.1, σ.2.2.2.2.2.2.2.2.2.2.2.2.2.1, σ.2.2.2.2.2.2.2.2.2.2.2.2.2.2.1, σ.2.2.2.2.2.2.2.2.2.2.2.2.2.2.2.1, σ.2.2.2.2.2.2.2.2.2.2.2.2.2.2.2.2.1, σ.2.2.2.2.2.2.2.2.2.2.2.2.2.2.2.2.2)
def uB_ways (σ : SB) (x : Int32) : SB := (σ.1, σ.2.1, σ.2.2.1, σ.2.2.2.1, x, σ.2.2.2.2.2.1, σ.2.2.2.2.2.2.1, σ.2.2.2.2.2.2.2.1, σ.2.2.2.2.2.2.2.2.1, σ.2.2.2.2.2.2.2.2.2.1, σ.2.2.2.2.2.2.2.2.2.2.1, σ.2.2.2.2.2.2.2.2.2.2.2.1, σ.2.2.2.2.2.2.2.2.2.2.2.2.1, σ.2.2.2.2.2.2.2.2.2.2.2.2.2.1, σ.2.2.2.2.2.2.2.2.2.2.2.2.2.2.1, σ.2.2.2.2.2.2.2.2.2.2.2.2.2.2.2.1, σ.2.2.2.2.2.2.2.2.2.2.2.2.2.2.2.2.1, σ.2.2.2.2.2.2.2.2.2.2.2.2.2.2.2.2.2)
def uB_orders (σ : SB) (x : Nat → Int32) : SB := (σ.1, σ.2.1, σ.2.2.1, σ.2.2.2.1, σ.2.2.2.2.1, x, σ.2.2.2.2.2.2.1, σ.2.2.2.2.2.2.2.1, σ.2.2.2.2.2.2.2.2.1, σ.2.2.2.2.2.2.2.2.2.1, σ.2.2.2.2.2.2.2.2.2.2.1, σ.2.2.2.2.2.2.2.2.2.2.2.1, σ.2.2.2.2.2.2.2.2.2.2.2.2.1, σ.2.2.2.2.2.2.2.2.2.2.2.2.2.1, σ.2.2.2.2.2.2.2.2.2.2.2.2.2.2.1, σ.2.2.2.2.2.2.2.2.2.2.2.2.2.2.2.1, σ.2.2.2.2.2.2.2.2.2.2.2.2.2.2.2.2.1, σ.2.2.2.2.2.2.2.2.2.2.2.2.2.2.2.2.2)
def uB_left (σ : SB) (x : Nat → Int32) : SB := (σ.1, σ.2.1, σ.2.2.1, σ.2.2.2.1, σ.2.2.2.2.1, σ.2.2.2.2.2.1, x, σ.2.2.2.2.2.2.2.1, σ.2.2.2.2.2.2.2.2.1, σ.2.2.2.2.2.2.2.2.2.1, σ.2.2.2.2.2.2.2.2.2.2.1, σ.2.2.2.2.2.2.2.2.2.2.2.1, σ.2.2.2.2.2.2.2.2.2.2.2.2.1, σ.2.2.2.2.2.2.2.2.2.2.2.2.2.1, σ.2.2.2.2.2.2.2.2.2.2.2.2.2.2.1, σ.2.2.2.2.2.2.2.2.2.2.2.2.2.2.2.1, σ.2.2.2.2.2.2.2.2.2.2.2.2.2.2.2.2.1, σ.2.2.2.2.2.2.2.2.2.2.2.2.2.2.2.2.2)
def uB_open (σ : SB) (x : Nat → Int32) : SB := (σ.1, σ.2.1, σ.2.2.1, σ.2.2.2.1, σ.2.2.2.2.1, σ.2.2.2.2.2.1, σ.2.2.2.2.2.2.1, x, σ.2.2.2.2.2.2.2.2.1, σ.2.2.2.2.2.2.2.2.2.1, σ.2.2.2.2.2.2.2.2.2.2.1, σ.2.2.2.2.2.2.2.2.2.2.2.1, σ.2.2.2.2.2.2.2.2.2.2.2.2.1, σ.2.2.2.2.2.2.2.2.2.2.2.2.2.1, σ.2.2.2.2.2.2.2.2.2.2.2.2.2.2.1, σ.2.2.2.2.2.2.2.2.2.2.2.2.2.2.2.1, σ.2.2.2.2.2.2.2.2.2.2.2.2.2.2.2.2.1, σ.2.2.2.2.2.2.2.2.2.2.2.2.2.2.2.2.2)
def uB_taken (σ : SB) (x : Nat → Int32) : SB := (σ.1, σ.2.1, σ.2.2.1, σ.2.2.2.1, σ.2.2.2.2.1, σ.2.2.2.2.2.1, σ.2.2.2.2.2.2.1, σ.2.2.2.2.2.2.2.1, x, σ.2.2.2.2.2.2.2.2.2.1, σ.2.2.2.2.2.2.2.2.2.2.1, σ.2.2.2.2.2.2.2.2.2.2.2.1, σ.2.2.2.2.2.2.2.2.2.2.2.2.1, σ.2.2.2.2.2.2.2.2.2.2.2.2.2.1, σ.2.2.2.2.2.2.2.2.2.2.2.2.2.2.1, σ.2.2.2.2.2.2.2.2.2.2.2.2.2.2.2.1, σ.2.2.2.2.2.2.2.2.2.2.2.2.2.2.2.2.1, σ.2.2.2.2.2.2.2.2.2.2.2.2.2.2.2.2.2)
def uB_comers (σ : SB) (x : Nat → Int64) : SB := (σ.1, σ.2.1, σ.2.2.1, σ.2.2.2.1, σ.2.2.2.2.1, σ.2.2.2.2.2.1, σ.2.2.2.2.2.2.1, σ.2.2.2.2.2.2.2.1, σ.2.2.2.2.2.2.2.2.1, x, σ.2.2.2.2.2.2.2.2.2.2.1, σ.2.2.2.2.2.2.2.2.2.2.2.1, σ.2.2.2.2.2.2.2.2.2.2.2.2.1, σ.2.2.2.2.2.2.2.2.2.2.2.2.2.1, σ.2.2.2.2.2.2.2.2.2.2.2.2.2.2.1, σ.2.2.2.2.2.2.2.2.2.2.2.2.2.2.2.1, σ.2.2.2.2.2.2.2.2.2.2.2.2.2.2.2.2.1, σ.2.2.2.2.2.2.2.2.2.2.2.2.2.2.2.2.2)
def uB_comings (σ : SB) (x : Nat → Int32) : SB := (σ.1, σ.2.1, σ.2.2.1, σ.2.2.2.1, σ.2.2.2.2.1, σ.2.2.2.2.2.1, σ.2.2.2.2.2.2.1, σ.2.2.2.2.2.2.2.1, σ.2.2.2.2.2.2.2.2.1, σ.2.2.2.2.2.2.2.2.2.1, x, σ.2.2.2.2.2.2.2.2.2.2.2.1, σ.2.2.2.2.2.2.2.2.2.2.2.2.1, σ.2.2.2.2.2.2.2.2.2.2.2.2.2.1, σ.2.2.2.2.2.2.2.2.2.2.2.2.2.2.1, σ.2.2.2.2.2.2.2.2.2.2.2.2.2.2.2.1, σ.2.2.2.2.2.2.2.2.2.2.2.2.2.2.2.2.1, σ.2.2.2.2.2.2.2.2.2.2.2.2.2.2.2.2.2)
def uB_reached (σ : SB) (x : Int32) : SB := (σ.1, σ.2.1, σ.2.2.1, σ.2.2.2.1, σ.2.2.2.2.1, σ.2.2.2.2.2.1, σ.2.2.2.2.2.2.1, σ.2.2.2.2.2.2.2.1, σ.2.2.2.2.2.2.2.2.1, σ.2.2.2.2.2.2.2.2.2.1, σ.2.2.2.2.2.2.2.2.2.2.1, x, σ.2.2.2.2.2.2.2.2.2.2.2.2.1, σ.2.2.2.2.2.2.2.2.2.2.2.2.2.1, σ.2.2.2.2.2.2.2.2.2.2.2.2.2.2.1, σ.2.2.2.2.2.2.2.2.2.2.2.2.2.2.2.1, σ.2.2.2.2.2.2.2.2.2.2.2.2.2.2.2.2.1, σ.2.2.2.2.2.2.2.2.2.2.2.2.2.2.2.2.2)
def uB_rset (σ : SB) (x : Int64) : SB := (σ.1, σ.2.1, σ.2.2.1, σ.2.2.2.1, σ.2.2.2.2.1, σ.2.2.2.2.2.1, σ.2.2.2.2.2.2.1, σ.2.2.2.2.2.2.2.1, σ.2.2.2.2.2.2.2.2.1, σ.2.2.2.2.2.2.2.2.2.1, σ.2.2.2.2.2.2.2.2.2.2.1, σ.2.2.2.2.2.2.2.2.2.2.2.1, x, σ.2.2.2.2.2.2.2.2.2.2.2.2.2.1, σ.2.2.2.2.2.2.2.2.2.2.2.2.2.2.1, σ.2.2.2.2.2.2.2.2.2.2.2.2.2.2.2.1, σ.2.2.2.2.2.2.2.2.2.2.2.2.2.2.2.2.1, σ.2.2.2.2.2.2.2.2.2.2.2.2.2.2.2.2.2)
def uB_rof (σ : SB) (x : Nat → Int64) : SB := (σ.1, σ.2.1, σ.2.2.1, σ.2.2.2.1, σ.2.2.2.2.1, σ.2.2.2.2.2.1, σ.2.2.2.2.2.2.1, σ.2.2.2.2.2.2.2.1, σ.2.2.2.2.2.2.2.2.1, σ.2.2.2.2.2.2.2.2.2.1, σ.2.2.2.2.2.2.2.2.2.2.1, σ.2.2.2.2.2.2.2.2.2.2.2.1, σ.2.2.2.2.2.2.2.2.2.2.2.2.1, x, σ.2.2.2.2.2.2.2.2.2.2.2.2.2.2.1, σ.2.2.2.2.2.2.2.2.2.2.2.2.2.2.2.1, σ.2.2.2.2.2.2.2.2.2.2.2.2.2.2.2.2.1, σ.2.2.2.2.2.2.2.2.2.2.2.2.2.2.2.2.2)
def uB_lof (σ : SB) (x : Nat → Int64) : SB := (σ.1, σ.2.1, σ.2.2.1, σ.2.2.2.1, σ.2.2.2.2.1, σ.2.2.2.2.2.1, σ.2.2.2.2.2.2.1, σ.2.2.2.2.2.2.2.1, σ.2.2.2.2.2.2.2.2.1, σ.2.2.2.2.2.2.2.2.2.1, σ.2.2.2.2.2.2.2.2.2.2.1, σ.2.2.2.2.2.2.2.2.2.2.2.1, σ.2.2.2.2.2.2.2.2.2.2.2.2.1, σ.2.2.2.2.2.2.2.2.2.2.2.2.2.1, x, σ.2.2.2.2.2.2.2.2.2.2.2.2.2.2.2.1, σ.2.2.2.2.2.2.2.2.2.2.2.2.2.2.2.2.1, σ.2.2.2.2.2.2.2.2.2.2.2.2.2.2.2.2.2)
def uB_heads (σ : SB) (x : Int32) : SB := (σ.1, σ.2.1, σ.2.2.1, σ.2.2.2.1, σ.2.2.2.2.1, σ.2.2.2.2.2.1, σ.2.2.2.2.2.2.1, σ.2.2.2.2.2.2.2.1, σ.2.2.2.2.2.2.2.2.1, σ.2.2.2.2.2.2.2.2.2.1, σ.2.2.2.2.2.2.2.2.2.2.1, σ.2.2.2.2.2.2.2.2.2.2.2.1, σ.2.2.2.2.2.2.2.2.2.2.2.2.1, σ.2.2.2.2.2.2.2.2.2.2.2.2.2.1, σ.2.2.2.2.2.2.2.2.2.2.2.2.2.2.1, x, σ.2.2.2.2.2.2.2.2.2.2.2.2.2.2.2.2.1, σ.2.2.2.2.2.2.2.2.2.2.2.2.2.2.2.2.2)
def uB_backs (σ : SB) (x : Int32) : SB := (σ.1, σ.2.1, σ.2.2.1, σ.2.2.2.1, σ.2.2.2.2.1, σ.2.2.2.2.2.1, σ.2.2.2.2.2.2.1, σ.2.2.2.2.2.2.2.1, σ.2.2.2.2.2.2.2.2.1, σ.2.2.2.2.2.2.2.2.2.1, σ.2.2.2.2.2.2.2.2.2.2.1, σ.2.2.2.2.2.2.2.2.2.2.2.1, σ.2.2.2.2.2.2.2.2.2.2.2.2.1, σ.2.2.2.2.2.2.2.2.2.2.2.2.2.1, σ.2.2.2.2.2.2.2.2.2.2.2.2.2.2.1, σ.2.2.2.2.2.2.2.2.2.2.2.2.2.2.2.1, x, σ.2.2.2.2.2.2.2.2.2.2.2.2.2.2.2.2.2)
def uB_knots (σ : SB) (x : Int32) : SB := (σ.1, σ.2.1, σ.2.2.1, σ.2.2.2.1, σ.2.2.2.2.1, σ.2.2.2.2.2.1, σ.2.2.2.2.2.2.1, σ.2.2.2.2.2.2.2.1, σ.2.2.2.2.2.2.2.2.1, σ.2.2.2.2.2.2.2.2.2.1, σ.2.2.2.2.2.2.2.2.2.2.1, σ.2.2.2.2.2.2.2.2.2.2.2.1, σ.2.2.2.2.2.2.2.2.2.2.2.2.1, σ.2.2.2.2.2.2.2.2.2.2.2.2.2.1, σ.2.2.2.2.2.2.2.2.2.2.2.2.2.2.1, σ.2.2.2.2.2.2.2.2.2.2.2.2.2.2.2.1, σ.2.2.2.2.2.2.2.2.2.2.2.2.2.2.2.2.1, x)
def wsB (a : Nat → Nat) (cs : Nat → ClassId) (σ : SB) : va_W := [(a 0, .inr (0, [.ref (a 1), .ref (a 2), .ref (a 3), .ref (a 4), .int (sB_stale σ)])), (a 1, .inr (1, [.ref (a 5), .ref (a 6), .int (sB_blocks σ), .int (sB_ways σ)])), (a 2, .inr (2, [.ref (a 1), .ref (a 7), .ref (a 8), .ref (a 9), .ref (a 10), .ref (a 11), .ref (a 12), .int (sB_reached σ), .long (sB_rset σ)])), (a 3, .inr (3, [.ref (a 2), .ref (a 13)])), (a 4, .inr (4, [.ref (a 1), .ref (a 2), .ref (a 3), .ref (a 14), .int (sB_heads σ), .int (sB_backs σ), .int (sB_knots σ)])), (a 5, .inl (cs 0, 64, .inl (sB_deg σ))), (a 6, .inl (cs 1, 512, .inl (sB_ends σ))), (a 7, .inl (cs 2, 64, .inl (sB_orders σ))), (a 8, .inl (cs 3, 64, .inl (sB_left σ))), (a 9, .inl (cs 4, 64, .inl (sB_open σ))), (a 10, .inl (cs 5, 64, .inl (sB_taken σ))), (a 11, .inl (cs 6, 64, .inr (.inl (sB_comers σ)))), (a 12, .inl (cs 7, 64, .inl (sB_comings σ))), (a 13, .inl (cs 8, 64, .inr (.inl (sB_rof σ)))), (a 14, .inl (cs 9, 64, .inr (.inl (sB_lof σ))))]
theorem gB_stale_stale (σ : SB) (z : Int32) : sB_stale (uB_stale σ z) = z := rfl
theorem gB_stale_deg (σ : SB) (z : Nat → Int32) : sB_stale (uB_deg σ z) = sB_stale σ := rfl
theorem gB_stale_ends (σ : SB) (z : Nat → Int32) : sB_stale (uB_ends σ z) = sB_stale σ := rfl
theorem gB_stale_blocks (σ : SB) (z : Int32) : sB_stale (uB_blocks σ z) = sB_stale σ := rfl
theorem gB_stale_ways (σ : SB) (z : Int32) : sB_stale (uB_ways σ z) = sB_stale σ := rfl
theorem gB_stale_orders (σ : SB) (z : Nat → Int32) : sB_stale (uB_orders σ z) = sB_stale σ := rfl
theorem gB_stale_left (σ : SB) (z : Nat → Int32) : sB_stale (uB_left σ z) = sB_stale σ := rfl
theorem gB_stale_open (σ : SB) (z : Nat → Int32) : sB_stale (uB_open σ z) = sB_stale σ := rfl
theorem gB_stale_taken (σ : SB) (z : Nat → Int32) : sB_stale (uB_taken σ z) = sB_stale σ := rfl
theorem gB_stale_comers (σ : SB) (z : Nat → Int64) : sB_stale (uB_comers σ z) = sB_stale σ := rfl
theorem gB_stale_comings (σ : SB) (z : Nat → Int32) : sB_stale (uB_comings σ z) = sB_stale σ := rfl
theorem gB_stale_reached (σ : SB) (z : Int32) : sB_stale (uB_reached σ z) = sB_stale σ := rfl
theorem gB_stale_rset (σ : SB) (z : Int64) : sB_stale (uB_rset σ z) = sB_stale σ := rfl
theorem gB_stale_rof (σ : SB) (z : Nat → Int64) : sB_stale (uB_rof σ z) = sB_stale σ := rfl
theorem gB_stale_lof (σ : SB) (z : Nat → Int64) : sB_stale (uB_lof σ z) = sB_stale σ := rfl
theorem gB_stale_heads (σ : SB) (z : Int32) : sB_stale (uB_heads σ z) = sB_stale σ := rfl
theorem gB_stale_backs (σ : SB) (z : Int32) : sB_stale (uB_backs σ z) = sB_stale σ := rfl
theorem gB_stale_knots (σ : SB) (z : Int32) : sB_stale (uB_knots σ z) = sB_stale σ := rfl
theorem gB_deg_stale (σ : SB) (z : Int32) : sB_deg (uB_stale σ z) = sB_deg σ := rfl
theorem gB_deg_deg (σ : SB) (z : Nat → Int32) : sB_deg (uB_deg σ z) = z := rfl
theorem gB_deg_ends (σ : SB) (z : Nat → Int32) : sB_deg (uB_ends σ z) = sB_deg σ := rfl
theorem gB_deg_blocks (σ : SB) (z : Int32) : sB_deg (uB_blocks σ z) = sB_deg σ := rfl
theorem gB_deg_ways (σ : SB) (z : Int32) : sB_deg (uB_ways σ z) = sB_deg σ := rfl
theorem gB_deg_orders (σ : SB) (z : Nat → Int32) : sB_deg (uB_orders σ z) = sB_deg σ := rfl
theorem gB_deg_left (σ : SB) (z : Nat → Int32) : sB_deg (uB_left σ z) = sB_deg σ := rfl
theorem gB_deg_open (σ : SB) (z : Nat → Int32) : sB_deg (uB_open σ z) = sB_deg σ := rfl
theorem gB_deg_taken (σ : SB) (z : Nat → Int32) : sB_deg (uB_taken σ z) = sB_deg σ := rfl
theorem gB_deg_comers (σ : SB) (z : Nat → Int64) : sB_deg (uB_comers σ z) = sB_deg σ := rfl
theorem gB_deg_comings (σ : SB) (z : Nat → Int32) : sB_deg (uB_comings σ z) = sB_deg σ := rfl
theorem gB_deg_reached (σ : SB) (z : Int32) : sB_deg (uB_reached σ z) = sB_deg σ := rfl
theorem gB_deg_rset (σ : SB) (z : Int64) : sB_deg (uB_rset σ z) = sB_deg σ := rfl
theorem gB_deg_rof (σ : SB) (z : Nat → Int64) : sB_deg (uB_rof σ z) = sB_deg σ := rfl
theorem gB_deg_lof (σ : SB) (z : Nat → Int64) : sB_deg (uB_lof σ z) = sB_deg σ := rfl
theorem gB_deg_heads (σ : SB) (z : Int32) : sB_deg (uB_heads σ z) = sB_deg σ := rfl
theorem gB_deg_backs (σ : SB) (z : Int32) : sB_deg (uB_backs σ z) = sB_deg σ := rfl
theorem gB_deg_knots (σ : SB) (z : Int32) : sB_deg (uB_knots σ z) = sB_deg σ := rfl
theorem gB_ends_stale (σ : SB) (z : Int32) : sB_ends (uB_stale σ z) = sB_ends σ := rfl
theorem gB_ends_deg (σ : SB) (z : Nat → Int32) : sB_ends (uB_deg σ z) = sB_ends σ := rfl
theorem gB_ends_ends (σ : SB) (z : Nat → Int32) : sB_ends (uB_ends σ z) = z := rfl
theorem gB_ends_blocks (σ : SB) (z : Int32) : sB_ends (uB_blocks σ z) = sB_ends σ := rfl
theorem gB_ends_ways (σ : SB) (z : Int32) : sB_ends (uB_ways σ z) = sB_ends σ := rfl
theorem gB_ends_orders (σ : SB) (z : Nat → Int32) : sB_ends (uB_orders σ z) = sB_ends σ := rfl
theorem gB_ends_left (σ : SB) (z : Nat → Int32) : sB_ends (uB_left σ z) = sB_ends σ := rfl
theorem gB_ends_open (σ : SB) (z : Nat → Int32) : sB_ends (uB_open σ z) = sB_ends σ := rfl
theorem gB_ends_taken (σ : SB) (z : Nat → Int32) : sB_ends (uB_taken σ z) = sB_ends σ := rfl
theorem gB_ends_comers (σ : SB) (z : Nat → Int64) : sB_ends (uB_comers σ z) = sB_ends σ := rfl
theorem gB_ends_comings (σ : SB) (z : Nat → Int32) : sB_ends (uB_comings σ z) = sB_ends σ := rfl
theorem gB_ends_reached (σ : SB) (z : Int32) : sB_ends (uB_reached σ z) = sB_ends σ := rfl
theorem gB_ends_rset (σ : SB) (z : Int64) : sB_ends (uB_rset σ z) = sB_ends σ := rfl
theorem gB_ends_rof (σ : SB) (z : Nat → Int64) : sB_ends (uB_rof σ z) = sB_ends σ := rfl
theorem gB_ends_lof (σ : SB) (z : Nat → Int64) : sB_ends (uB_lof σ z) = sB_ends σ := rfl
theorem gB_ends_heads (σ : SB) (z : Int32) : sB_ends (uB_heads σ z) = sB_ends σ := rfl
theorem gB_ends_backs (σ : SB) (z : Int32) : sB_ends (uB_backs σ z) = sB_ends σ := rfl
theorem gB_ends_knots (σ : SB) (z : Int32) : sB_ends (uB_knots σ z) = sB_ends σ := rfl
theorem gB_blocks_stale (σ : SB) (z : Int32) : sB_blocks (uB_stale σ z) = sB_blocks σ := rfl
theorem gB_blocks_deg (σ : SB) (z : Nat → Int32) : sB_blocks (uB_deg σ z) = sB_blocks σ := rfl
theorem gB_blocks_ends (σ : SB) (z : Nat → Int32) : sB_blocks (uB_ends σ z) = sB_blocks σ := rfl
theorem gB_blocks_blocks (σ : SB) (z : Int32) : sB_blocks (uB_blocks σ z) = z := rfl
theorem gB_blocks_ways (σ : SB) (z : Int32) : sB_blocks (uB_ways σ z) = sB_blocks σ := rfl
theorem gB_blocks_orders (σ : SB) (z : Nat → Int32) : sB_blocks (uB_orders σ z) = sB_blocks σ := rfl
theorem gB_blocks_left (σ : SB) (z : Nat → Int32) : sB_blocks (uB_left σ z) = sB_blocks σ := rfl
theorem gB_blocks_open (σ : SB) (z : Nat → Int32) : sB_blocks (uB_open σ z) = sB_blocks σ := rfl
theorem gB_blocks_taken (σ : SB) (z : Nat → Int32) : sB_blocks (uB_taken σ z) = sB_blocks σ := rfl
theorem gB_blocks_comers (σ : SB) (z : Nat → Int64) : sB_blocks (uB_comers σ z) = sB_blocks σ := rfl
theorem gB_blocks_comings (σ : SB) (z : Nat → Int32) : sB_blocks (uB_comings σ z) = sB_blocks σ := rfl
theorem gB_blocks_reached (σ : SB) (z : Int32) : sB_blocks (uB_reached σ z) = sB_blocks σ := rfl
theorem gB_blocks_rset (σ : SB) (z : Int64) : sB_blocks (uB_rset σ z) = sB_blocks σ := rfl
theorem gB_blocks_rof (σ : SB) (z : Nat → Int64) : sB_blocks (uB_rof σ z) = sB_blocks σ := rfl
theorem gB_blocks_lof (σ : SB) (z : Nat → Int64) : sB_blocks (uB_lof σ z) = sB_blocks σ := rfl
theorem gB_blocks_heads (σ : SB) (z : Int32) : sB_blocks (uB_heads σ z) = sB_blocks σ := rfl
theorem gB_blocks_backs (σ : SB) (z : Int32) : sB_blocks (uB_backs σ z) = sB_blocks σ := rfl
theorem gB_blocks_knots (σ : SB) (z : Int32) : sB_blocks (uB_knots σ z) = sB_blocks σ := rfl
theorem gB_ways_stale (σ : SB) (z : Int32) : sB_ways (uB_stale σ z) = sB_ways σ := rfl
theorem gB_ways_deg (σ : SB) (z : Nat → Int32) : sB_ways (uB_deg σ z) = sB_ways σ := rfl
theorem gB_ways_ends (σ : SB) (z : Nat → Int32) : sB_ways (uB_ends σ z) = sB_ways σ := rfl
theorem gB_ways_blocks (σ : SB) (z : Int32) : sB_ways (uB_blocks σ z) = sB_ways σ := rfl
theorem gB_ways_ways (σ : SB) (z : Int32) : sB_ways (uB_ways σ z) = z := rfl
theorem gB_ways_orders (σ : SB) (z : Nat → Int32) : sB_ways (uB_orders σ z) = sB_ways σ := rfl
theorem gB_ways_left (σ : SB) (z : Nat → Int32) : sB_ways (uB_left σ z) = sB_ways σ := rfl
theorem gB_ways_open (σ : SB) (z : Nat → Int32) : sB_ways (uB_open σ z) = sB_ways σ := rfl
theorem gB_ways_taken (σ : SB) (z : Nat → Int32) : sB_ways (uB_taken σ z) = sB_ways σ := rfl
theorem gB_ways_comers (σ : SB) (z : Nat → Int64) : sB_ways (uB_comers σ z) = sB_ways σ := rfl
theorem gB_ways_comings (σ : SB) (z : Nat → Int32) : sB_ways (uB_comings σ z) = sB_ways σ := rfl
theorem gB_ways_reached (σ : SB) (z : Int32) : sB_ways (uB_reached σ z) = sB_ways σ := rfl
theorem gB_ways_rset (σ : SB) (z : Int64) : sB_ways (uB_rset σ z) = sB_ways σ := rfl
theorem gB_ways_rof (σ : SB) (z : Nat → Int64) : sB_ways (uB_rof σ z) = sB_ways σ := rfl
theorem gB_ways_lof (σ : SB) (z : Nat → Int64) : sB_ways (uB_lof σ z) = sB_ways σ := rfl
theorem gB_ways_heads (σ : SB) (z : Int32) : sB_ways (uB_heads σ z) = sB_ways σ := rfl
theorem gB_ways_backs (σ : SB) (z : Int32) : sB_ways (uB_backs σ z) = sB_ways σ := rfl
theorem gB_ways_knots (σ : SB) (z : Int32) : sB_ways (uB_knots σ z) = sB_ways σ := rfl
theorem gB_orders_stale (σ : SB) (z : Int32) : sB_orders (uB_stale σ z) = sB_orders σ := rfl
theorem gB_orders_deg (σ : SB) (z : Nat → Int32) : sB_orders (uB_deg σ z) = sB_orders σ := rfl
theorem gB_orders_ends (σ : SB) (z : Nat → Int32) : sB_orders (uB_ends σ z) = sB_orders σ := rfl
theorem gB_orders_blocks (σ : SB) (z : Int32) : sB_orders (uB_blocks σ z) = sB_orders σ := rfl
theorem gB_orders_ways (σ : SB) (z : Int32) : sB_orders (uB_ways σ z) = sB_orders σ := rfl
theorem gB_orders_orders (σ : SB) (z : Nat → Int32) : sB_orders (uB_orders σ z) = z := rfl
theorem gB_orders_left (σ : SB) (z : Nat → Int32) : sB_orders (uB_left σ z) = sB_orders σ := rfl
theorem gB_orders_open (σ : SB) (z : Nat → Int32) : sB_orders (uB_open σ z) = sB_orders σ := rfl
theorem gB_orders_taken (σ : SB) (z : Nat → Int32) : sB_orders (uB_taken σ z) = sB_orders σ := rfl
theorem gB_orders_comers (σ : SB) (z : Nat → Int64) : sB_orders (uB_comers σ z) = sB_orders σ := rfl
theorem gB_orders_comings (σ : SB) (z : Nat → Int32) : sB_orders (uB_comings σ z) = sB_orders σ := rfl
theorem gB_orders_reached (σ : SB) (z : Int32) : sB_orders (uB_reached σ z) = sB_orders σ := rfl
theorem gB_orders_rset (σ : SB) (z : Int64) : sB_orders (uB_rset σ z) = sB_orders σ := rfl
theorem gB_orders_rof (σ : SB) (z : Nat → Int64) : sB_orders (uB_rof σ z) = sB_orders σ := rfl
theorem gB_orders_lof (σ : SB) (z : Nat → Int64) : sB_orders (uB_lof σ z) = sB_orders σ := rfl
theorem gB_orders_heads (σ : SB) (z : Int32) : sB_orders (uB_heads σ z) = sB_orders σ := rfl
theorem gB_orders_backs (σ : SB) (z : Int32) : sB_orders (uB_backs σ z) = sB_orders σ := rfl
theorem gB_orders_knots (σ : SB) (z : Int32) : sB_orders (uB_knots σ z) = sB_orders σ := rfl
theorem gB_left_stale (σ : SB) (z : Int32) : sB_left (uB_stale σ z) = sB_left σ := rfl
theorem gB_left_deg (σ : SB) (z : Nat → Int32) : sB_left (uB_deg σ z) = sB_left σ := rfl
theorem gB_left_ends (σ : SB) (z : Nat → Int32) : sB_left (uB_ends σ z) = sB_left σ := rfl
theorem gB_left_blocks (σ : SB) (z : Int32) : sB_left (uB_blocks σ z) = sB_left σ := rfl
theorem gB_left_ways (σ : SB) (z : Int32) : sB_left (uB_ways σ z) = sB_left σ := rfl
theorem gB_left_orders (σ : SB) (z : Nat → Int32) : sB_left (uB_orders σ z) = sB_left σ := rfl
theorem gB_left_left (σ : SB) (z : Nat → Int32) : sB_left (uB_left σ z) = z := rfl
theorem gB_left_open (σ : SB) (z : Nat → Int32) : sB_left (uB_open σ z) = sB_left σ := rfl
theorem gB_left_taken (σ : SB) (z : Nat → Int32) : sB_left (uB_taken σ z) = sB_left σ := rfl
theorem gB_left_comers (σ : SB) (z : Nat → Int64) : sB_left (uB_comers σ z) = sB_left σ := rfl
theorem gB_left_comings (σ : SB) (z : Nat → Int32) : sB_left (uB_comings σ z) = sB_left σ := rfl
theorem gB_left_reached (σ : SB) (z : Int32) : sB_left (uB_reached σ z) = sB_left σ := rfl
theorem gB_left_rset (σ : SB) (z : Int64) : sB_left (uB_rset σ z) = sB_left σ := rfl
theorem gB_left_rof (σ : SB) (z : Nat → Int64) : sB_left (uB_rof σ z) = sB_left σ := rfl
theorem gB_left_lof (σ : SB) (z : Nat → Int64) : sB_left (uB_lof σ z) = sB_left σ := rfl
theorem gB_left_heads (σ : SB) (z : Int32) : sB_left (uB_heads σ z) = sB_left σ := rfl
theorem gB_left_backs (σ : SB) (z : Int32) : sB_left (uB_backs σ z) = sB_left σ := rfl
theorem gB_left_knots (σ : SB) (z : Int32) : sB_left (uB_knots σ z) = sB_left σ := rfl
theorem gB_open_stale (σ : SB) (z : Int32) : sB_open (uB_stale σ z) = sB_open σ := rfl
theorem gB_open_deg (σ : SB) (z : Nat → Int32) : sB_open (uB_deg σ z) = sB_open σ := rfl
theorem gB_open_ends (σ : SB) (z : Nat → Int32) : sB_open (uB_ends σ z) = sB_open σ := rfl
theorem gB_open_blocks (σ : SB) (z : Int32) : sB_open (uB_blocks σ z) = sB_open σ := rfl
theorem gB_open_ways (σ : SB) (z : Int32) : sB_open (uB_ways σ z) = sB_open σ := rfl
theorem gB_open_orders (σ : SB) (z : Nat → Int32) : sB_open (uB_orders σ z) = sB_open σ := rfl
theorem gB_open_left (σ : SB) (z : Nat → Int32) : sB_open (uB_left σ z) = sB_open σ := rfl
theorem gB_open_open (σ : SB) (z : Nat → Int32) : sB_open (uB_open σ z) = z := rfl
theorem gB_open_taken (σ : SB) (z : Nat → Int32) : sB_open (uB_taken σ z) = sB_open σ := rfl
theorem gB_open_comers (σ : SB) (z : Nat → Int64) : sB_open (uB_comers σ z) = sB_open σ := rfl
theorem gB_open_comings (σ : SB) (z : Nat → Int32) : sB_open (uB_comings σ z) = sB_open σ := rfl
theorem gB_open_reached (σ : SB) (z : Int32) : sB_open (uB_reached σ z) = sB_open σ := rfl
theorem gB_open_rset (σ : SB) (z : Int64) : sB_open (uB_rset σ z) = sB_open σ := rfl
theorem gB_open_rof (σ : SB) (z : Nat → Int64) : sB_open (uB_rof σ z) = sB_open σ := rfl
theorem gB_open_lof (σ : SB) (z : Nat → Int64) : sB_open (uB_lof σ z) = sB_open σ := rfl
theorem gB_open_heads (σ : SB) (z : Int32) : sB_open (uB_heads σ z) = sB_open σ := rfl
theorem gB_open_backs (σ : SB) (z : Int32) : sB_open (uB_backs σ z) = sB_open σ := rfl
theorem gB_open_knots (σ : SB) (z : Int32) : sB_open (uB_knots σ z) = sB_open σ := rfl
theorem gB_taken_stale (σ : SB) (z : Int32) : sB_taken (uB_stale σ z) = sB_taken σ := rfl
theorem gB_taken_deg (σ : SB) (z : Nat → Int32) : sB_taken (uB_deg σ z) = sB_taken σ := rfl
theorem gB_taken_ends (σ : SB) (z : Nat → Int32) : sB_taken (uB_ends σ z) = sB_taken σ := rfl
theorem gB_taken_blocks (σ : SB) (z : Int32) : sB_taken (uB_blocks σ z) = sB_taken σ := rfl
theorem gB_taken_ways (σ : SB) (z : Int32) : sB_taken (uB_ways σ z) = sB_taken σ := rfl
theorem gB_taken_orders (σ : SB) (z : Nat → Int32) : sB_taken (uB_orders σ z) = sB_taken σ := rfl
theorem gB_taken_left (σ : SB) (z : Nat → Int32) : sB_taken (uB_left σ z) = sB_taken σ := rfl
theorem gB_taken_open (σ : SB) (z : Nat → Int32) : sB_taken (uB_open σ z) = sB_taken σ := rfl
theorem gB_taken_taken (σ : SB) (z : Nat → Int32) : sB_taken (uB_taken σ z) = z := rfl
theorem gB_taken_comers (σ : SB) (z : Nat → Int64) : sB_taken (uB_comers σ z) = sB_taken σ := rfl
theorem gB_taken_comings (σ : SB) (z : Nat → Int32) : sB_taken (uB_comings σ z) = sB_taken σ := rfl
theorem gB_taken_reached (σ : SB) (z : Int32) : sB_taken (uB_reached σ z) = sB_taken σ := rfl
theorem gB_taken_rset (σ : SB) (z : Int64) : sB_taken (uB_rset σ z) = sB_taken σ := rfl
theorem gB_taken_rof (σ : SB) (z : Nat → Int64) : sB_taken (uB_rof σ z) = sB_taken σ := rfl
theorem gB_taken_lof (σ : SB) (z : Nat → Int64) : sB_taken (uB_lof σ z) = sB_taken σ := rfl
theorem gB_taken_heads (σ : SB) (z : Int32) : sB_taken (uB_heads σ z) = sB_taken σ := rfl
theorem gB_taken_backs (σ : SB) (z : Int32) : sB_taken (uB_backs σ z) = sB_taken σ := rfl
theorem gB_taken_knots (σ : SB) (z : Int32) : sB_taken (uB_knots σ z) = sB_taken σ := rfl
theorem gB_comers_stale (σ : SB) (z : Int32) : sB_comers (uB_stale σ z) = sB_comers σ := rfl
theorem gB_comers_deg (σ : SB) (z : Nat → Int32) : sB_comers (uB_deg σ z) = sB_comers σ := rfl
theorem gB_comers_ends (σ : SB) (z : Nat → Int32) : sB_comers (uB_ends σ z) = sB_comers σ := rfl
theorem gB_comers_blocks (σ : SB) (z : Int32) : sB_comers (uB_blocks σ z) = sB_comers σ := rfl
theorem gB_comers_ways (σ : SB) (z : Int32) : sB_comers (uB_ways σ z) = sB_comers σ := rfl
theorem gB_comers_orders (σ : SB) (z : Nat → Int32) : sB_comers (uB_orders σ z) = sB_comers σ := rfl
theorem gB_comers_left (σ : SB) (z : Nat → Int32) : sB_comers (uB_left σ z) = sB_comers σ := rfl
theorem gB_comers_open (σ : SB) (z : Nat → Int32) : sB_comers (uB_open σ z) = sB_comers σ := rfl
theorem gB_comers_taken (σ : SB) (z : Nat → Int32) : sB_comers (uB_taken σ z) = sB_comers σ := rfl
theorem gB_comers_comers (σ : SB) (z : Nat → Int64) : sB_comers (uB_comers σ z) = z := rfl
theorem gB_comers_comings (σ : SB) (z : Nat → Int32) : sB_comers (uB_comings σ z) = sB_comers σ := rfl
theorem gB_comers_reached (σ : SB) (z : Int32) : sB_comers (uB_reached σ z) = sB_comers σ := rfl
theorem gB_comers_rset (σ : SB) (z : Int64) : sB_comers (uB_rset σ z) = sB_comers σ := rfl
theorem gB_comers_rof (σ : SB) (z : Nat → Int64) : sB_comers (uB_rof σ z) = sB_comers σ := rfl
theorem gB_comers_lof (σ : SB) (z : Nat → Int64) : sB_comers (uB_lof σ z) = sB_comers σ := rfl
theorem gB_comers_heads (σ : SB) (z : Int32) : sB_comers (uB_heads σ z) = sB_comers σ := rfl
theorem gB_comers_backs (σ : SB) (z : Int32) : sB_comers (uB_backs σ z) = sB_comers σ := rfl
theorem gB_comers_knots (σ : SB) (z : Int32) : sB_comers (uB_knots σ z) = sB_comers σ := rfl
theorem gB_comings_stale (σ : SB) (z : Int32) : sB_comings (uB_stale σ z) = sB_comings σ := rfl
theorem gB_comings_deg (σ : SB) (z : Nat → Int32) : sB_comings (uB_deg σ z) = sB_comings σ := rfl
theorem gB_comings_ends (σ : SB) (z : Nat → Int32) : sB_comings (uB_ends σ z) = sB_comings σ := rfl
theorem gB_comings_blocks (σ : SB) (z : Int32) : sB_comings (uB_blocks σ z) = sB_comings σ := rfl
theorem gB_comings_ways (σ : SB) (z : Int32) : sB_comings (uB_ways σ z) = sB_comings σ := rfl
theorem gB_comings_orders (σ : SB) (z : Nat → Int32) : sB_comings (uB_orders σ z) = sB_comings σ := rfl
theorem gB_comings_left (σ : SB) (z : Nat → Int32) : sB_comings (uB_left σ z) = sB_comings σ := rfl
theorem gB_comings_open (σ : SB) (z : Nat → Int32) : sB_comings (uB_open σ z) = sB_comings σ := rfl
theorem gB_comings_taken (σ : SB) (z : Nat → Int32) : sB_comings (uB_taken σ z) = sB_comings σ := rfl
theorem gB_comings_comers (σ : SB) (z : Nat → Int64) : sB_comings (uB_comers σ z) = sB_comings σ := rfl
theorem gB_comings_comings (σ : SB) (z : Nat → Int32) : sB_comings (uB_comings σ z) = z := rfl
theorem gB_comings_reached (σ : SB) (z : Int32) : sB_comings (uB_reached σ z) = sB_comings σ := rfl
theorem gB_comings_rset (σ : SB) (z : Int64) : sB_comings (uB_rset σ z) = sB_comings σ := rfl
theorem gB_comings_rof (σ : SB) (z : Nat → Int64) : sB_comings (uB_rof σ z) = sB_comings σ := rfl
theorem gB_comings_lof (σ : SB) (z : Nat → Int64) : sB_comings (uB_lof σ z) = sB_comings σ := rfl
theorem gB_comings_heads (σ : SB) (z : Int32) : sB_comings (uB_heads σ z) = sB_comings σ := rfl
theorem gB_comings_backs (σ : SB) (z : Int32) : sB_comings (uB_backs σ z) = sB_comings σ := rfl
theorem gB_comings_knots (σ : SB) (z : Int32) : sB_comings (uB_knots σ z) = sB_comings σ := rfl
theorem gB_reached_stale (σ : SB) (z : Int32) : sB_reached (uB_stale σ z) = sB_reached σ := rfl
theorem gB_reached_deg (σ : SB) (z : Nat → Int32) : sB_reached (uB_deg σ z) = sB_reached σ := rfl
theorem gB_reached_ends (σ : SB) (z : Nat → Int32) : sB_reached (uB_ends σ z) = sB_reached σ := rfl
theorem gB_reached_blocks (σ : SB) (z : Int32) : sB_reached (uB_blocks σ z) = sB_reached σ := rfl
theorem gB_reached_ways (σ : SB) (z : Int32) : sB_reached (uB_ways σ z) = sB_reached σ := rfl
theorem gB_reached_orders (σ : SB) (z : Nat → Int32) : sB_reached (uB_orders σ z) = sB_reached σ := rfl
theorem gB_reached_left (σ : SB) (z : Nat → Int32) : sB_reached (uB_left σ z) = sB_reached σ := rfl
theorem gB_reached_open (σ : SB) (z : Nat → Int32) : sB_reached (uB_open σ z) = sB_reached σ := rfl
theorem gB_reached_taken (σ : SB) (z : Nat → Int32) : sB_reached (uB_taken σ z) = sB_reached σ := rfl
theorem gB_reached_comers (σ : SB) (z : Nat → Int64) : sB_reached (uB_comers σ z) = sB_reached σ := rfl
theorem gB_reached_comings (σ : SB) (z : Nat → Int32) : sB_reached (uB_comings σ z) = sB_reached σ := rfl
theorem gB_reached_reached (σ : SB) (z : Int32) : sB_reached (uB_reached σ z) = z := rfl
theorem gB_reached_rset (σ : SB) (z : Int64) : sB_reached (uB_rset σ z) = sB_reached σ := rfl
theorem gB_reached_rof (σ : SB) (z : Nat → Int64) : sB_reached (uB_rof σ z) = sB_reached σ := rfl
theorem gB_reached_lof (σ : SB) (z : Nat → Int64) : sB_reached (uB_lof σ z) = sB_reached σ := rfl
theorem gB_reached_heads (σ : SB) (z : Int32) : sB_reached (uB_heads σ z) = sB_reached σ := rfl
theorem gB_reached_backs (σ : SB) (z : Int32) : sB_reached (uB_backs σ z) = sB_reached σ := rfl
theorem gB_reached_knots (σ : SB) (z : Int32) : sB_reached (uB_knots σ z) = sB_reached σ := rfl
theorem gB_rset_stale (σ : SB) (z : Int32) : sB_rset (uB_stale σ z) = sB_rset σ := rfl
theorem gB_rset_deg (σ : SB) (z : Nat → Int32) : sB_rset (uB_deg σ z) = sB_rset σ := rfl
theorem gB_rset_ends (σ : SB) (z : Nat → Int32) : sB_rset (uB_ends σ z) = sB_rset σ := rfl
theorem gB_rset_blocks (σ : SB) (z : Int32) : sB_rset (uB_blocks σ z) = sB_rset σ := rfl
theorem gB_rset_ways (σ : SB) (z : Int32) : sB_rset (uB_ways σ z) = sB_rset σ := rfl
theorem gB_rset_orders (σ : SB) (z : Nat → Int32) : sB_rset (uB_orders σ z) = sB_rset σ := rfl
theorem gB_rset_left (σ : SB) (z : Nat → Int32) : sB_rset (uB_left σ z) = sB_rset σ := rfl
theorem gB_rset_open (σ : SB) (z : Nat → Int32) : sB_rset (uB_open σ z) = sB_rset σ := rfl
theorem gB_rset_taken (σ : SB) (z : Nat → Int32) : sB_rset (uB_taken σ z) = sB_rset σ := rfl
theorem gB_rset_comers (σ : SB) (z : Nat → Int64) : sB_rset (uB_comers σ z) = sB_rset σ := rfl
theorem gB_rset_comings (σ : SB) (z : Nat → Int32) : sB_rset (uB_comings σ z) = sB_rset σ := rfl
theorem gB_rset_reached (σ : SB) (z : Int32) : sB_rset (uB_reached σ z) = sB_rset σ := rfl
theorem gB_rset_rset (σ : SB) (z : Int64) : sB_rset (uB_rset σ z) = z := rfl
theorem gB_rset_rof (σ : SB) (z : Nat → Int64) : sB_rset (uB_rof σ z) = sB_rset σ := rfl
theorem gB_rset_lof (σ : SB) (z : Nat → Int64) : sB_rset (uB_lof σ z) = sB_rset σ := rfl
theorem gB_rset_heads (σ : SB) (z : Int32) : sB_rset (uB_heads σ z) = sB_rset σ := rfl
theorem gB_rset_backs (σ : SB) (z : Int32) : sB_rset (uB_backs σ z) = sB_rset σ := rfl
theorem gB_rset_knots (σ : SB) (z : Int32) : sB_rset (uB_knots σ z) = sB_rset σ := rfl
theorem gB_rof_stale (σ : SB) (z : Int32) : sB_rof (uB_stale σ z) = sB_rof σ := rfl
theorem gB_rof_deg (σ : SB) (z : Nat → Int32) : sB_rof (uB_deg σ z) = sB_rof σ := rfl
theorem gB_rof_ends (σ : SB) (z : Nat → Int32) : sB_rof (uB_ends σ z) = sB_rof σ := rfl
theorem gB_rof_blocks (σ : SB) (z : Int32) : sB_rof (uB_blocks σ z) = sB_rof σ := rfl
theorem gB_rof_ways (σ : SB) (z : Int32) : sB_rof (uB_ways σ z) = sB_rof σ := rfl
theorem gB_rof_orders (σ : SB) (z : Nat → Int32) : sB_rof (uB_orders σ z) = sB_rof σ := rfl
theorem gB_rof_left (σ : SB) (z : Nat → Int32) : sB_rof (uB_left σ z) = sB_rof σ := rfl
theorem gB_rof_open (σ : SB) (z : Nat → Int32) : sB_rof (uB_open σ z) = sB_rof σ := rfl
theorem gB_rof_taken (σ : SB) (z : Nat → Int32) : sB_rof (uB_taken σ z) = sB_rof σ := rfl
theorem gB_rof_comers (σ : SB) (z : Nat → Int64) : sB_rof (uB_comers σ z) = sB_rof σ := rfl
theorem gB_rof_comings (σ : SB) (z : Nat → Int32) : sB_rof (uB_comings σ z) = sB_rof σ := rfl
theorem gB_rof_reached (σ : SB) (z : Int32) : sB_rof (uB_reached σ z) = sB_rof σ := rfl
theorem gB_rof_rset (σ : SB) (z : Int64) : sB_rof (uB_rset σ z) = sB_rof σ := rfl
theorem gB_rof_rof (σ : SB) (z : Nat → Int64) : sB_rof (uB_rof σ z) = z := rfl
theorem gB_rof_lof (σ : SB) (z : Nat → Int64) : sB_rof (uB_lof σ z) = sB_rof σ := rfl
theorem gB_rof_heads (σ : SB) (z : Int32) : sB_rof (uB_heads σ z) = sB_rof σ := rfl
theorem gB_rof_backs (σ : SB) (z : Int32) : sB_rof (uB_backs σ z) = sB_rof σ := rfl
theorem gB_rof_knots (σ : SB) (z : Int32) : sB_rof (uB_knots σ z) = sB_rof σ := rfl
theorem gB_lof_stale (σ : SB) (z : Int32) : sB_lof (uB_stale σ z) = sB_lof σ := rfl
theorem gB_lof_deg (σ : SB) (z : Nat → Int32) : sB_lof (uB_deg σ z) = sB_lof σ := rfl
theorem gB_lof_ends (σ : SB) (z : Nat → Int32) : sB_lof (uB_ends σ z) = sB_lof σ := rfl
theorem gB_lof_blocks (σ : SB) (z : Int32) : sB_lof (uB_blocks σ z) = sB_lof σ := rfl
theorem gB_lof_ways (σ : SB) (z : Int32) : sB_lof (uB_ways σ z) = sB_lof σ := rfl
theorem gB_lof_orders (σ : SB) (z : Nat → Int32) : sB_lof (uB_orders σ z) = sB_lof σ := rfl
theorem gB_lof_left (σ : SB) (z : Nat → Int32) : sB_lof (uB_left σ z) = sB_lof σ := rfl
theorem gB_lof_open (σ : SB) (z : Nat → Int32) : sB_lof (uB_open σ z) = sB_lof σ := rfl
theorem gB_lof_taken (σ : SB) (z : Nat → Int32) : sB_lof (uB_taken σ z) = sB_lof σ := rfl
theorem gB_lof_comers (σ : SB) (z : Nat → Int64) : sB_lof (uB_comers σ z) = sB_lof σ := rfl
theorem gB_lof_comings (σ : SB) (z : Nat → Int32) : sB_lof (uB_comings σ z) = sB_lof σ := rfl
theorem gB_lof_reached (σ : SB) (z : Int32) : sB_lof (uB_reached σ z) = sB_lof σ := rfl
theorem gB_lof_rset (σ : SB) (z : Int64) : sB_lof (uB_rset σ z) = sB_lof σ := rfl
theorem gB_lof_rof (σ : SB) (z : Nat → Int64) : sB_lof (uB_rof σ z) = sB_lof σ := rfl
theorem gB_lof_lof (σ : SB) (z : Nat → Int64) : sB_lof (uB_lof σ z) = z := rfl
theorem gB_lof_heads (σ : SB) (z : Int32) : sB_lof (uB_heads σ z) = sB_lof σ := rfl
theorem gB_lof_backs (σ : SB) (z : Int32) : sB_lof (uB_backs σ z) = sB_lof σ := rfl
theorem gB_lof_knots (σ : SB) (z : Int32) : sB_lof (uB_knots σ z) = sB_lof σ := rfl
theorem gB_heads_stale (σ : SB) (z : Int32) : sB_heads (uB_stale σ z) = sB_heads σ := rfl
theorem gB_heads_deg (σ : SB) (z : Nat → Int32) : sB_heads (uB_deg σ z) = sB_heads σ := rfl
theorem gB_heads_ends (σ : SB) (z : Nat → Int32) : sB_heads (uB_ends σ z) = sB_heads σ := rfl
theorem gB_heads_blocks (σ : SB) (z : Int32) : sB_heads (uB_blocks σ z) = sB_heads σ := rfl
theorem gB_heads_ways (σ : SB) (z : Int32) : sB_heads (uB_ways σ z) = sB_heads σ := rfl
theorem gB_heads_orders (σ : SB) (z : Nat → Int32) : sB_heads (uB_orders σ z) = sB_heads σ := rfl
theorem gB_heads_left (σ : SB) (z : Nat → Int32) : sB_heads (uB_left σ z) = sB_heads σ := rfl
theorem gB_heads_open (σ : SB) (z : Nat → Int32) : sB_heads (uB_open σ z) = sB_heads σ := rfl
theorem gB_heads_taken (σ : SB) (z : Nat → Int32) : sB_heads (uB_taken σ z) = sB_heads σ := rfl
theorem gB_heads_comers (σ : SB) (z : Nat → Int64) : sB_heads (uB_comers σ z) = sB_heads σ := rfl
theorem gB_heads_comings (σ : SB) (z : Nat → Int32) : sB_heads (uB_comings σ z) = sB_heads σ := rfl
theorem gB_heads_reached (σ : SB) (z : Int32) : sB_heads (uB_reached σ z) = sB_heads σ := rfl
theorem gB_heads_rset (σ : SB) (z : Int64) : sB_heads (uB_rset σ z) = sB_heads σ := rfl
theorem gB_heads_rof (σ : SB) (z : Nat → Int64) : sB_heads (uB_rof σ z) = sB_heads σ := rfl
theorem gB_heads_lof (σ : SB) (z : Nat → Int64) : sB_heads (uB_lof σ z) = sB_heads σ := rfl
theorem gB_heads_heads (σ : SB) (z : Int32) : sB_heads (uB_heads σ z) = z := rfl
theorem gB_heads_backs (σ : SB) (z : Int32) : sB_heads (uB_backs σ z) = sB_heads σ := rfl
theorem gB_heads_knots (σ : SB) (z : Int32) : sB_heads (uB_knots σ z) = sB_heads σ := rfl
theorem gB_backs_stale (σ : SB) (z : Int32) : sB_backs (uB_stale σ z) = sB_backs σ := rfl
theorem gB_backs_deg (σ : SB) (z : Nat → Int32) : sB_backs (uB_deg σ z) = sB_backs σ := rfl
theorem gB_backs_ends (σ : SB) (z : Nat → Int32) : sB_backs (uB_ends σ z) = sB_backs σ := rfl
theorem gB_backs_blocks (σ : SB) (z : Int32) : sB_backs (uB_blocks σ z) = sB_backs σ := rfl
theorem gB_backs_ways (σ : SB) (z : Int32) : sB_backs (uB_ways σ z) = sB_backs σ := rfl
theorem gB_backs_orders (σ : SB) (z : Nat → Int32) : sB_backs (uB_orders σ z) = sB_backs σ := rfl
theorem gB_backs_left (σ : SB) (z : Nat → Int32) : sB_backs (uB_left σ z) = sB_backs σ := rfl
theorem gB_backs_open (σ : SB) (z : Nat → Int32) : sB_backs (uB_open σ z) = sB_backs σ := rfl
theorem gB_backs_taken (σ : SB) (z : Nat → Int32) : sB_backs (uB_taken σ z) = sB_backs σ := rfl
theorem gB_backs_comers (σ : SB) (z : Nat → Int64) : sB_backs (uB_comers σ z) = sB_backs σ := rfl
theorem gB_backs_comings (σ : SB) (z : Nat → Int32) : sB_backs (uB_comings σ z) = sB_backs σ := rfl
theorem gB_backs_reached (σ : SB) (z : Int32) : sB_backs (uB_reached σ z) = sB_backs σ := rfl
theorem gB_backs_rset (σ : SB) (z : Int64) : sB_backs (uB_rset σ z) = sB_backs σ := rfl
theorem gB_backs_rof (σ : SB) (z : Nat → Int64) : sB_backs (uB_rof σ z) = sB_backs σ := rfl
theorem gB_backs_lof (σ : SB) (z : Nat → Int64) : sB_backs (uB_lof σ z) = sB_backs σ := rfl
theorem gB_backs_heads (σ : SB) (z : Int32) : sB_backs (uB_heads σ z) = sB_backs σ := rfl
theorem gB_backs_backs (σ : SB) (z : Int32) : sB_backs (uB_backs σ z) = z := rfl
theorem gB_backs_knots (σ : SB) (z : Int32) : sB_backs (uB_knots σ z) = sB_backs σ := rfl
theorem gB_knots_stale (σ : SB) (z : Int32) : sB_knots (uB_stale σ z) = sB_knots σ := rfl
theorem gB_knots_deg (σ : SB) (z : Nat → Int32) : sB_knots (uB_deg σ z) = sB_knots σ := rfl
theorem gB_knots_ends (σ : SB) (z : Nat → Int32) : sB_knots (uB_ends σ z) = sB_knots σ := rfl
theorem gB_knots_blocks (σ : SB) (z : Int32) : sB_knots (uB_blocks σ z) = sB_knots σ := rfl
theorem gB_knots_ways (σ : SB) (z : Int32) : sB_knots (uB_ways σ z) = sB_knots σ := rfl
theorem gB_knots_orders (σ : SB) (z : Nat → Int32) : sB_knots (uB_orders σ z) = sB_knots σ := rfl
theorem gB_knots_left (σ : SB) (z : Nat → Int32) : sB_knots (uB_left σ z) = sB_knots σ := rfl
theorem gB_knots_open (σ : SB) (z : Nat → Int32) : sB_knots (uB_open σ z) = sB_knots σ := rfl
theorem gB_knots_taken (σ : SB) (z : Nat → Int32) : sB_knots (uB_taken σ z) = sB_knots σ := rfl
theorem gB_knots_comers (σ : SB) (z : Nat → Int64) : sB_knots (uB_comers σ z) = sB_knots σ := rfl
theorem gB_knots_comings (σ : SB) (z : Nat → Int32) : sB_knots (uB_comings σ z) = sB_knots σ := rfl
theorem gB_knots_reached (σ : SB) (z : Int32) : sB_knots (uB_reached σ z) = sB_knots σ := rfl
theorem gB_knots_rset (σ : SB) (z : Int64) : sB_knots (uB_rset σ z) = sB_knots σ := rfl
theorem gB_knots_rof (σ : SB) (z : Nat → Int64) : sB_knots (uB_rof σ z) = sB_knots σ := rfl
theorem gB_knots_lof (σ : SB) (z : Nat → Int64) : sB_knots (uB_lof σ z) = sB_knots σ := rfl
theorem gB_knots_heads (σ : SB) (z : Int32) : sB_knots (uB_heads σ z) = sB_knots σ := rfl
theorem gB_knots_backs (σ : SB) (z : Int32) : sB_knots (uB_backs σ z) = sB_knots σ := rfl
theorem gB_knots_knots (σ : SB) (z : Int32) : sB_knots (uB_knots σ z) = z := rfl
theorem rfB_stale (a : Nat → Nat) (cs : Nat → ClassId) (σ : SB) {z : Int32} (e : sB_stale σ = z) : ([.ref (a 1), .ref (a 2), .ref (a 3), .ref (a 4), .int (sB_stale σ)] : List Value)[4]? = some (.int z) := by
  subst e
  rfl
theorem setB_stale (a : Nat → Nat) (cs : Nat → ClassId) (σ : SB) (z : Int32) : (wsB a cs σ).set 0 (a 0, .inr (0, ([.ref (a 1), .ref (a 2), .ref (a 3), .ref (a 4), .int (sB_stale σ)] : List Value).set 4 (.int z))) = wsB a cs (uB_stale σ z) := rfl
theorem rfB_blocks (a : Nat → Nat) (cs : Nat → ClassId) (σ : SB) {z : Int32} (e : sB_blocks σ = z) : ([.ref (a 5), .ref (a 6), .int (sB_blocks σ), .int (sB_ways σ)] : List Value)[2]? = some (.int z) := by
  subst e
  rfl
theorem setB_blocks (a : Nat → Nat) (cs : Nat → ClassId) (σ : SB) (z : Int32) : (wsB a cs σ).set 1 (a 1, .inr (1, ([.ref (a 5), .ref (a 6), .int (sB_blocks σ), .int (sB_ways σ)] : List Value).set 2 (.int z))) = wsB a cs (uB_blocks σ z) := rfl
theorem rfB_ways (a : Nat → Nat) (cs : Nat → ClassId) (σ : SB) {z : Int32} (e : sB_ways σ = z) : ([.ref (a 5), .ref (a 6), .int (sB_blocks σ), .int (sB_ways σ)] : List Value)[3]? = some (.int z) := by
  subst e
  rfl
theorem setB_ways (a : Nat → Nat) (cs : Nat → ClassId) (σ : SB) (z : Int32) : (wsB a cs σ).set 1 (a 1, .inr (1, ([.ref (a 5), .ref (a 6), .int (sB_blocks σ), .int (sB_ways σ)] : List Value).set 3 (.int z))) = wsB a cs (uB_ways σ z) := rfl
theorem rfB_reached (a : Nat → Nat) (cs : Nat → ClassId) (σ : SB) {z : Int32} (e : sB_reached σ = z) : ([.ref (a 1), .ref (a 7), .ref (a 8), .ref (a 9), .ref (a 10), .ref (a 11), .ref (a 12), .int (sB_reached σ), .long (sB_rset σ)] : List Value)[7]? = some (.int z) := by
  subst e
  rfl
theorem setB_reached (a : Nat → Nat) (cs : Nat → ClassId) (σ : SB) (z : Int32) : (wsB a cs σ).set 2 (a 2, .inr (2, ([.ref (a 1), .ref (a 7), .ref (a 8), .ref (a 9), .ref (a 10), .ref (a 11), .ref (a 12), .int (sB_reached σ), .long (sB_rset σ)] : List Value).set 7 (.int z))) = wsB a cs (uB_reached σ z) := rfl
theorem rfB_rset (a : Nat → Nat) (cs : Nat → ClassId) (σ : SB) {z : Int64} (e : sB_rset σ = z) : ([.ref (a 1), .ref (a 7), .ref (a 8), .ref (a 9), .ref (a 10), .ref (a 11), .ref (a 12), .int (sB_reached σ), .long (sB_rset σ)] : List Value)[8]? = some (.long z) := by
  subst e
  rfl
theorem setB_rset (a : Nat → Nat) (cs : Nat → ClassId) (σ : SB) (z : Int64) : (wsB a cs σ).set 2 (a 2, .inr (2, ([.ref (a 1), .ref (a 7), .ref (a 8), .ref (a 9), .ref (a 10), .ref (a 11), .ref (a 12), .int (sB_reached σ), .long (sB_rset σ)] : List Value).set 8 (.long z))) = wsB a cs (uB_rset σ z) := rfl
theorem rfB_heads (a : Nat → Nat) (cs : Nat → ClassId) (σ : SB) {z : Int32} (e : sB_heads σ = z) : ([.ref (a 1), .ref (a 2), .ref (a 3), .ref (a 14), .int (sB_heads σ), .int (sB_backs σ), .int (sB_knots σ)] : List Value)[4]? = some (.int z) := by
  subst e
  rfl
theorem setB_heads (a : Nat → Nat) (cs : Nat → ClassId) (σ : SB) (z : Int32) : (wsB a cs σ).set 4 (a 4, .inr (4, ([.ref (a 1), .ref (a 2), .ref (a 3), .ref (a 14), .int (sB_heads σ), .int (sB_backs σ), .int (sB_knots σ)] : List Value).set 4 (.int z))) = wsB a cs (uB_heads σ z) := rfl
theorem rfB_backs (a : Nat → Nat) (cs : Nat → ClassId) (σ : SB) {z : Int32} (e : sB_backs σ = z) : ([.ref (a 1), .ref (a 2), .ref (a 3), .ref (a 14), .int (sB_heads σ), .int (sB_backs σ), .int (sB_knots σ)] : List Value)[5]? = some (.int z) := by
  subst e
  rfl
theorem setB_backs (a : Nat → Nat) (cs : Nat → ClassId) (σ : SB) (z : Int32) : (wsB a cs σ).set 4 (a 4, .inr (4, ([.ref (a 1), .ref (a 2), .ref (a 3), .ref (a 14), .int (sB_heads σ), .int (sB_backs σ), .int (sB_knots σ)] : List Value).set 5 (.int z))) = wsB a cs (uB_backs σ z) := rfl
theorem rfB_knots (a : Nat → Nat) (cs : Nat → ClassId) (σ : SB) {z : Int32} (e : sB_knots σ = z) : ([.ref (a 1), .ref (a 2), .ref (a 3), .ref (a 14), .int (sB_heads σ), .int (sB_backs σ), .int (sB_knots σ)] : List Value)[6]? = some (.int z) := by
  subst e
  rfl
theorem setB_knots (a : Nat → Nat) (cs : Nat → ClassId) (σ : SB) (z : Int32) : (wsB a cs σ).set 4 (a 4, .inr (4, ([.ref (a 1), .ref (a 2), .ref (a 3), .ref (a 14), .int (sB_heads σ), .int (sB_backs σ), .int (sB_knots σ)] : List Value).set 6 (.int z))) = wsB a cs (uB_knots σ z) := rfl
theorem rdB_deg (a : Nat → Nat) (cs : Nat → ClassId) (σ : SB) {f : Nat → Int32} (e : sB_deg σ = f) : (wsB a cs σ)[5]? = some (a 5, .inl (cs 0, 64, .inl f)) := by
  subst e
  rfl
theorem setB_deg (a : Nat → Nat) (cs : Nat → ClassId) (σ : SB) (f : Nat → Int32) : (wsB a cs σ).set 5 (a 5, .inl (cs 0, 64, .inl f)) = wsB a cs (uB_deg σ f) := rfl
theorem rdB_ends (a : Nat → Nat) (cs : Nat → ClassId) (σ : SB) {f : Nat → Int32} (e : sB_ends σ = f) : (wsB a cs σ)[6]? = some (a 6, .inl (cs 1, 512, .inl f)) := by
  subst e
  rfl
theorem setB_ends (a : Nat → Nat) (cs : Nat → ClassId) (σ : SB) (f : Nat → Int32) : (wsB a cs σ).set 6 (a 6, .inl (cs 1, 512, .inl f)) = wsB a cs (uB_ends σ f) := rfl
theorem rdB_orders (a : Nat → Nat) (cs : Nat → ClassId) (σ : SB) {f : Nat → Int32} (e : sB_orders σ = f) : (wsB a cs σ)[7]? = some (a 7, .inl (cs 2, 64, .inl f)) := by
  subst e
  rfl
theorem setB_orders (a : Nat → Nat) (cs : Nat → ClassId) (σ : SB) (f : Nat → Int32) : (wsB a cs σ).set 7 (a 7, .inl (cs 2, 64, .inl f)) = wsB a cs (uB_orders σ f) := rfl
theorem rdB_left (a : Nat → Nat) (cs : Nat → ClassId) (σ : SB) {f : Nat → Int32} (e : sB_left σ = f) : (wsB a cs σ)[8]? = some (a 8, .inl (cs 3, 64, .inl f)) := by
  subst e
  rfl
theorem setB_left (a : Nat → Nat) (cs : Nat → ClassId) (σ : SB) (f : Nat → Int32) : (wsB a cs σ).set 8 (a 8, .inl (cs 3, 64, .inl f)) = wsB a cs (uB_left σ f) := rfl
theorem rdB_open (a : Nat → Nat) (cs : Nat → ClassId) (σ : SB) {f : Nat → Int32} (e : sB_open σ = f) : (wsB a cs σ)[9]? = some (a 9, .inl (cs 4, 64, .inl f)) := by
  subst e
  rfl
theorem setB_open (a : Nat → Nat) (cs : Nat → ClassId) (σ : SB) (f : Nat → Int32) : (wsB a cs σ).set 9 (a 9, .inl (cs 4, 64, .inl f)) = wsB a cs (uB_open σ f) := rfl
theorem rdB_taken (a : Nat → Nat) (cs : Nat → ClassId) (σ : SB) {f : Nat → Int32} (e : sB_taken σ = f) : (wsB a cs σ)[10]? = some (a 10, .inl (cs 5, 64, .inl f)) := by
  subst e
  rfl
theorem setB_taken (a : Nat → Nat) (cs : Nat → ClassId) (σ : SB) (f : Nat → Int32) : (wsB a cs σ).set 10 (a 10, .inl (cs 5, 64, .inl f)) = wsB a cs (uB_taken σ f) := rfl
theorem rdB_comers (a : Nat → Nat) (cs : Nat → ClassId) (σ : SB) {f : Nat → Int64} (e : sB_comers σ = f) : (wsB a cs σ)[11]? = some (a 11, .inl (cs 6, 64, .inr (.inl f))) := by
  subst e
  rfl
theorem setB_comers (a : Nat → Nat) (cs : Nat → ClassId) (σ : SB) (f : Nat → Int64) : (wsB a cs σ).set 11 (a 11, .inl (cs 6, 64, .inr (.inl f))) = wsB a cs (uB_comers σ f) := rfl
theorem rdB_comings (a : Nat → Nat) (cs : Nat → ClassId) (σ : SB) {f : Nat → Int32} (e : sB_comings σ = f) : (wsB a cs σ)[12]? = some (a 12, .inl (cs 7, 64, .inl f)) := by
  subst e
  rfl
theorem setB_comings (a : Nat → Nat) (cs : Nat → ClassId) (σ : SB) (f : Nat → Int32) : (wsB a cs σ).set 12 (a 12, .inl (cs 7, 64, .inl f)) = wsB a cs (uB_comings σ f) := rfl
theorem rdB_rof (a : Nat → Nat) (cs : Nat → ClassId) (σ : SB) {f : Nat → Int64} (e : sB_rof σ = f) : (wsB a cs σ)[13]? = some (a 13, .inl (cs 8, 64, .inr (.inl f))) := by
  subst e
  rfl
theorem setB_rof (a : Nat → Nat) (cs : Nat → ClassId) (σ : SB) (f : Nat → Int64) : (wsB a cs σ).set 13 (a 13, .inl (cs 8, 64, .inr (.inl f))) = wsB a cs (uB_rof σ f) := rfl
theorem rdB_lof (a : Nat → Nat) (cs : Nat → ClassId) (σ : SB) {f : Nat → Int64} (e : sB_lof σ = f) : (wsB a cs σ)[14]? = some (a 14, .inl (cs 9, 64, .inr (.inl f))) := by
  subst e
  rfl
theorem setB_lof (a : Nat → Nat) (cs : Nat → ClassId) (σ : SB) (f : Nat → Int64) : (wsB a cs σ).set 14 (a 14, .inl (cs 9, 64, .inr (.inl f))) = wsB a cs (uB_lof σ f) := rfl
theorem allB (a : Nat → Nat) (cs : Nat → ClassId) (σ : SB) : [0, 1, 2, 3, 4, 5, 6, 7, 8, 9, 10, 11, 12, 13, 14].map (fun i => (wsB a cs σ)[i]?) = (wsB a cs σ).map some := rfl
def tyB (cs : Nat → ClassId) : List (ClassId × FieldType) := [(cs 0, .int), (cs 1, .int), (cs 2, .int), (cs 3, .int), (cs 4, .int), (cs 5, .int), (cs 6, .long), (cs 7, .int), (cs 8, .long), (cs 9, .long)]
abbrev SM : Type := (Int32) × (Int32) × (Nat → Int32) × (Nat → Int32) × (Int32) × (Int32) × (Nat → Int32) × (Nat → Int32) × (Nat → Int32) × (Nat → Int32) × (Nat → Int32) × (Nat → Int32) × (Nat → Int32) × (Nat → Int32) × (Nat → Int32) × (Nat → Int32)
def sM_thrown (σ : SM) : Int32 := σ.1
def sM_blocks (σ : SM) : Int32 := σ.2.1
def sM_many (σ : SM) : Nat → Int32 := σ.2.2.1
def sM_ends (σ : SM) : Nat → Int32 := σ.2.2.2.1
def sM_isDone (σ : SM) : Int32 := σ.2.2.2.2.1
def sM_reached (σ : SM) : Int32 := σ.2.2.2.2.2.1
def sM_order (σ : SM) : Nat → Int32 := σ.2.2.2.2.2.2.1
def sM_at (σ : SM) : Nat → Int32 := σ.2.2.2.2.2.2.2.1
def sM_rules (σ : SM) : Nat → Int32 := σ.2.2.2.2.2.2.2.2.1
def sM_parent (σ : SM) : Nat → Int32 := σ.2.2.2.2.2.2.2.2.2.1
def sM_isHead (σ : SM) : Nat → Int32 := σ.2.2.2.2.2.2.2.2.2.2.1
def sM_loop (σ : SM) : Nat → Int32 := σ.2.2.2.2.2.2.2.2.2.2.2.1
def sM_loopSize (σ : SM) : Nat → Int32 := σ.2.2.2.2.2.2.2.2.2.2.2.2.1
def sM_seen (σ : SM) : Nat → Int32 := σ.2.2.2.2.2.2.2.2.2.2.2.2.2.1
def sM_pile (σ : SM) : Nat → Int32 := σ.2.2.2.2.2.2.2.2.2.2.2.2.2.2.1
def sM_next (σ : SM) : Nat → Int32 := σ.2.2.2.2.2.2.2.2.2.2.2.2.2.2.2
def uM_thrown (σ : SM) (x : Int32) : SM := (x, σ.2.1, σ.2.2.1, σ.2.2.2.1, σ.2.2.2.2.1, σ.2.2.2.2.2.1, σ.2.2.2.2.2.2.1, σ.2.2.2.2.2.2.2.1, σ.2.2.2.2.2.2.2.2.1, σ.2.2.2.2.2.2.2.2.2.1, σ.2.2.2.2.2.2.2.2.2.2.1, σ.2.2.2.2.2.2.2.2.2.2.2.1, σ.2.2.2.2.2.2.2.2.2.2.2.2.1, σ.2.2.2.2.2.2.2.2.2.2.2.2.2.1, σ.2.2.2.2.2.2.2.2.2.2.2.2.2.2.1, σ.2.2.2.2.2.2.2.2.2.2.2.2.2.2.2)
def uM_blocks (σ : SM) (x : Int32) : SM := (σ.1, x, σ.2.2.1, σ.2.2.2.1, σ.2.2.2.2.1, σ.2.2.2.2.2.1, σ.2.2.2.2.2.2.1, σ.2.2.2.2.2.2.2.1, σ.2.2.2.2.2.2.2.2.1, σ.2.2.2.2.2.2.2.2.2.1, σ.2.2.2.2.2.2.2.2.2.2.1, σ.2.2.2.2.2.2.2.2.2.2.2.1, σ.2.2.2.2.2.2.2.2.2.2.2.2.1, σ.2.2.2.2.2.2.2.2.2.2.2.2.2.1, σ.2.2.2.2.2.2.2.2.2.2.2.2.2.2.1, σ.2.2.2.2.2.2.2.2.2.2.2.2.2.2.2)
def uM_many (σ : SM) (x : Nat → Int32) : SM := (σ.1, σ.2.1, x, σ.2.2.2.1, σ.2.2.2.2.1, σ.2.2.2.2.2.1, σ.2.2.2.2.2.2.1, σ.2.2.2.2.2.2.2.1, σ.2.2.2.2.2.2.2.2.1, σ.2.2.2.2.2.2.2.2.2.1, σ.2.2.2.2.2.2.2.2.2.2.1, σ.2.2.2.2.2.2.2.2.2.2.2.1, σ.2.2.2.2.2.2.2.2.2.2.2.2.1, σ.2.2.2.2.2.2.2.2.2.2.2.2.2.1, σ.2.2.2.2.2.2.2.2.2.2.2.2.2.2.1, σ.2.2.2.2.2.2.2.2.2.2.2.2.2.2.2)
def uM_ends (σ : SM) (x : Nat → Int32) : SM := (σ.1, σ.2.1, σ.2.2.1, x, σ.2.2.2.2.1, σ.2.2.2.2.2.1, σ.2.2.2.2.2.2.1, σ.2.2.2.2.2.2.2.1, σ.2.2.2.2.2.2.2.2.1, σ.2.2.2.2.2.2.2.2.2.1, σ.2.2.2.2.2.2.2.2.2.2.1, σ.2.2.2.2.2.2.2.2.2.2.2.1, σ.2.2.2.2.2.2.2.2.2.2.2.2.1, σ.2.2.2.2.2.2.2.2.2.2.2.2.2.1, σ.2.2.2.2.2.2.2.2.2.2.2.2.2.2.1, σ.2.2.2.2.2.2.2.2.2.2.2.2.2.2.2)
def uM_isDone (σ : SM) (x : Int32) : SM := (σ.1, σ.2.1, σ.2.2.1, σ.2.2.2.1, x, σ.2.2.2.2.2.1, σ.2.2.2.2.2.2.1, σ.2.2.2.2.2.2.2.1, σ.2.2.2.2.2.2.2.2.1, σ.2.2.2.2.2.2.2.2.2.1, σ.2.2.2.2.2.2.2.2.2.2.1, σ.2.2.2.2.2.2.2.2.2.2.2.1, σ.2.2.2.2.2.2.2.2.2.2.2.2.1, σ.2.2.2.2.2.2.2.2.2.2.2.2.2.1, σ.2.2.2.2.2.2.2.2.2.2.2.2.2.2.1, σ.2.2.2.2.2.2.2.2.2.2.2.2.2.2.2)
def uM_reached (σ : SM) (x : Int32) : SM := (σ.1, σ.2.1, σ.2.2.1, σ.2.2.2.1, σ.2.2.2.2.1, x, σ.2.2.2.2.2.2.1, σ.2.2.2.2.2.2.2.1, σ.2.2.2.2.2.2.2.2.1, σ.2.2.2.2.2.2.2.2.2.1, σ.2.2.2.2.2.2.2.2.2.2.1, σ.2.2.2.2.2.2.2.2.2.2.2.1, σ.2.2.2.2.2.2.2.2.2.2.2.2.1, σ.2.2.2.2.2.2.2.2.2.2.2.2.2.1, σ.2.2.2.2.2.2.2.2.2.2.2.2.2.2.1, σ.2.2.2.2.2.2.2.2.2.2.2.2.2.2.2)
def uM_order (σ : SM) (x : Nat → Int32) : SM := (σ.1, σ.2.1, σ.2.2.1, σ.2.2.2.1, σ.2.2.2.2.1, σ.2.2.2.2.2.1, x, σ.2.2.2.2.2.2.2.1, σ.2.2.2.2.2.2.2.2.1, σ.2.2.2.2.2.2.2.2.2.1, σ.2.2.2.2.2.2.2.2.2.2.1, σ.2.2.2.2.2.2.2.2.2.2.2.1, σ.2.2.2.2.2.2.2.2.2.2.2.2.1, σ.2.2.2.2.2.2.2.2.2.2.2.2.2.1, σ.2.2.2.2.2.2.2.2.2.2.2.2.2.2.1, σ.2.2.2.2.2.2.2.2.2.2.2.2.2.2.2)
def uM_at (σ : SM) (x : Nat → Int32) : SM := (σ.1, σ.2.1, σ.2.2.1, σ.2.2.2.1, σ.2.2.2.2.1, σ.2.2.2.2.2.1, σ.2.2.2.2.2.2.1, x, σ.2.2.2.2.2.2.2.2.1, σ.2.2.2.2.2.2.2.2.2.1, σ.2.2.2.2.2.2.2.2.2.2.1, σ.2.2.2.2.2.2.2.2.2.2.2.1, σ.2.2.2.2.2.2.2.2.2.2.2.2.1, σ.2.2.2.2.2.2.2.2.2.2.2.2.2.1, σ.2.2.2.2.2.2.2.2.2.2.2.2.2.2.1, σ.2.2.2.2.2.2.2.2.2.2.2.2.2.2.2)
def uM_rules (σ : SM) (x : Nat → Int32) : SM := (σ.1, σ.2.1, σ.2.2.1, σ.2.2.2.1, σ.2.2.2.2.1, σ.2.2.2.2.2.1, σ.2.2.2.2.2.2.1, σ.2.2.2.2.2.2.2.1, x, σ.2.2.2.2.2.2.2.2.2.1, σ.2.2.2.2.2.2.2.2.2.2.1, σ.2.2.2.2.2.2.2.2.2.2.2.1, σ.2.2.2.2.2.2.2.2.2.2.2.2.1, σ.2.2.2.2.2.2.2.2.2.2.2.2.2.1, σ.2.2.2.2.2.2.2.2.2.2.2.2.2.2.1, σ.2.2.2.2.2.2.2.2.2.2.2.2.2.2.2)
def uM_parent (σ : SM) (x : Nat → Int32) : SM := (σ.1, σ.2.1, σ.2.2.1, σ.2.2.2.1, σ.2.2.2.2.1, σ.2.2.2.2.2.1, σ.2.2.2.2.2.2.1, σ.2.2.2.2.2.2.2.1, σ.2.2.2.2.2.2.2.2.1, x, σ.2.2.2.2.2.2.2.2.2.2.1, σ.2.2.2.2.2.2.2.2.2.2.2.1, σ.2.2.2.2.2.2.2.2.2.2.2.2.1, σ.2.2.2.2.2.2.2.2.2.2.2.2.2.1, σ.2.2.2.2.2.2.2.2.2.2.2.2.2.2.1, σ.2.2.2.2.2.2.2.2.2.2.2.2.2.2.2)
def uM_isHead (σ : SM) (x : Nat → Int32) : SM := (σ.1, σ.2.1, σ.2.2.1, σ.2.2.2.1, σ.2.2.2.2.1, σ.2.2.2.2.2.1, σ.2.2.2.2.2.2.1, σ.2.2.2.2.2.2.2.1, σ.2.2.2.2.2.2.2.2.1, σ.2.2.2.2.2.2.2.2.2.1, x, σ.2.2.2.2.2.2.2.2.2.2.2.1, σ.2.2.2.2.2.2.2.2.2.2.2.2.1, σ.2.2.2.2.2.2.2.2.2.2.2.2.2.1, σ.2.2.2.2.2.2.2.2.2.2.2.2.2.2.1, σ.2.2.2.2.2.2.2.2.2.2.2.2.2.2.2)
def uM_loop (σ : SM) (x : Nat → Int32) : SM := (σ.1, σ.2.1, σ.2.2.1, σ.2.2.2.1, σ.2.2.2.2.1, σ.2.2.2.2.2.1, σ.2.2.2.2.2.2.1, σ.2.2.2.2.2.2.2.1, σ.2.2.2.2.2.2.2.2.1, σ.2.2.2.2.2.2.2.2.2.1, σ.2.2.2.2.2.2.2.2.2.2.1, x, σ.2.2.2.2.2.2.2.2.2.2.2.2.1, σ.2.2.2.2.2.2.2.2.2.2.2.2.2.1, σ.2.2.2.2.2.2.2.2.2.2.2.2.2.2.1, σ.2.2.2.2.2.2.2.2.2.2.2.2.2.2.2)
def uM_loopSize (σ : SM) (x : Nat → Int32) : SM := (σ.1, σ.2.1, σ.2.2.1, σ.2.2.2.1, σ.2.2.2.2.1, σ.2.2.2.2.2.1, σ.2.2.2.2.2.2.1, σ.2.2.2.2.2.2.2.1, σ.2.2.2.2.2.2.2.2.1, σ.2.2.2.2.2.2.2.2.2.1, σ.2.2.2.2.2.2.2.2.2.2.1, σ.2.2.2.2.2.2.2.2.2.2.2.1, x, σ.2.2.2.2.2.2.2.2.2.2.2.2.2.1, σ.2.2.2.2.2.2.2.2.2.2.2.2.2.2.1, σ.2.2.2.2.2.2.2.2.2.2.2.2.2.2.2)
def uM_seen (σ : SM) (x : Nat → Int32) : SM := (σ.1, σ.2.1, σ.2.2.1, σ.2.2.2.1, σ.2.2.2.2.1, σ.2.2.2.2.2.1, σ.2.2.2.2.2.2.1, σ.2.2.2.2.2.2.2.1, σ.2.2.2.2.2.2.2.2.1, σ.2.2.2.2.2.2.2.2.2.1, σ.2.2.2.2.2.2.2.2.2.2.1, σ.2.2.2.2.2.2.2.2.2.2.2.1, σ.2.2.2.2.2.2.2.2.2.2.2.2.1, x, σ.2.2.2.2.2.2.2.2.2.2.2.2.2.2.1, σ.2.2.2.2.2.2.2.2.2.2.2.2.2.2.2)
def uM_pile (σ : SM) (x : Nat → Int32) : SM := (σ.1, σ.2.1, σ.2.2.1, σ.2.2.2.1, σ.2.2.2.2.1, σ.2.2.2.2.2.1, σ.2.2.2.2.2.2.1, σ.2.2.2.2.2.2.2.1, σ.2.2.2.2.2.2.2.2.1, σ.2.2.2.2.2.2.2.2.2.1, σ.2.2.2.2.2.2.2.2.2.2.1, σ.2.2.2.2.2.2.2.2.2.2.2.1, σ.2.2.2.2.2.2.2.2.2.2.2.2.1, σ.2.2.2.2.2.2.2.2.2.2.2.2.2.1, x, σ.2.2.2.2.2.2.2.2.2.2.2.2.2.2.2)
def uM_next (σ : SM) (x : Nat → Int32) : SM := (σ.1, σ.2.1, σ.2.2.1, σ.2.2.2.1, σ.2.2.2.2.1, σ.2.2.2.2.2.1, σ.2.2.2.2.2.2.1, σ.2.2.2.2.2.2.2.1, σ.2.2.2.2.2.2.2.2.1, σ.2.2.2.2.2.2.2.2.2.1, σ.2.2.2.2.2.2.2.2.2.2.1, σ.2.2.2.2.2.2.2.2.2.2.2.1, σ.2.2.2.2.2.2.2.2.2.2.2.2.1, σ.2.2.2.2.2.2.2.2.2.2.2.2.2.1, σ.2.2.2.2.2.2.2.2.2.2.2.2.2.2.1, x)
def wsM (a : Nat → Nat) (cs : Nat → ClassId) (σ : SM) : va_W := [(a 0, .inr (5, [.int (sM_thrown σ), .int (sM_blocks σ), .ref (a 1), .ref (a 2), .int (sM_isDone σ), .int (sM_reached σ), .ref (a 3), .ref (a 4), .ref (a 5), .ref (a 6), .ref (a 7), .ref (a 8), .ref (a 9), .ref (a 10), .ref (a 11), .ref (a 12)])), (a 1, .inl (cs 0, 64, .inl (sM_many σ))), (a 2, .inl (cs 1, 512, .inl (sM_ends σ))), (a 3, .inl (cs 2, 64, .inl (sM_order σ))), (a 4, .inl (cs 3, 64, .inl (sM_at σ))), (a 5, .inl (cs 4, 4096, .inl (sM_rules σ))), (a 6, .inl (cs 5, 64, .inl (sM_parent σ))), (a 7, .inl (cs 6, 64, .inl (sM_isHead σ))), (a 8, .inl (cs 7, 4096, .inl (sM_loop σ))), (a 9, .inl (cs 8, 64, .inl (sM_loopSize σ))), (a 10, .inl (cs 9, 64, .inl (sM_seen σ))), (a 11, .inl (cs 10, 64, .inl (sM_pile σ))), (a 12, .inl (cs 11, 64, .inl (sM_next σ)))]
theorem gM_thrown_thrown (σ : SM) (z : Int32) : sM_thrown (uM_thrown σ z) = z := rfl
theorem gM_thrown_blocks (σ : SM) (z : Int32) : sM_thrown (uM_blocks σ z) = sM_thrown σ := rfl
theorem gM_thrown_many (σ : SM) (z : Nat → Int32) : sM_thrown (uM_many σ z) = sM_thrown σ := rfl
theorem gM_thrown_ends (σ : SM) (z : Nat → Int32) : sM_thrown (uM_ends σ z) = sM_thrown σ := rfl
theorem gM_thrown_isDone (σ : SM) (z : Int32) : sM_thrown (uM_isDone σ z) = sM_thrown σ := rfl
theorem gM_thrown_reached (σ : SM) (z : Int32) : sM_thrown (uM_reached σ z) = sM_thrown σ := rfl
theorem gM_thrown_order (σ : SM) (z : Nat → Int32) : sM_thrown (uM_order σ z) = sM_thrown σ := rfl
theorem gM_thrown_at (σ : SM) (z : Nat → Int32) : sM_thrown (uM_at σ z) = sM_thrown σ := rfl
theorem gM_thrown_rules (σ : SM) (z : Nat → Int32) : sM_thrown (uM_rules σ z) = sM_thrown σ := rfl
theorem gM_thrown_parent (σ : SM) (z : Nat → Int32) : sM_thrown (uM_parent σ z) = sM_thrown σ := rfl
theorem gM_thrown_isHead (σ : SM) (z : Nat → Int32) : sM_thrown (uM_isHead σ z) = sM_thrown σ := rfl
theorem gM_thrown_loop (σ : SM) (z : Nat → Int32) : sM_thrown (uM_loop σ z) = sM_thrown σ := rfl
theorem gM_thrown_loopSize (σ : SM) (z : Nat → Int32) : sM_thrown (uM_loopSize σ z) = sM_thrown σ := rfl
theorem gM_thrown_seen (σ : SM) (z : Nat → Int32) : sM_thrown (uM_seen σ z) = sM_thrown σ := rfl
theorem gM_thrown_pile (σ : SM) (z : Nat → Int32) : sM_thrown (uM_pile σ z) = sM_thrown σ := rfl
theorem gM_thrown_next (σ : SM) (z : Nat → Int32) : sM_thrown (uM_next σ z) = sM_thrown σ := rfl
theorem gM_blocks_thrown (σ : SM) (z : Int32) : sM_blocks (uM_thrown σ z) = sM_blocks σ := rfl
theorem gM_blocks_blocks (σ : SM) (z : Int32) : sM_blocks (uM_blocks σ z) = z := rfl
theorem gM_blocks_many (σ : SM) (z : Nat → Int32) : sM_blocks (uM_many σ z) = sM_blocks σ := rfl
theorem gM_blocks_ends (σ : SM) (z : Nat → Int32) : sM_blocks (uM_ends σ z) = sM_blocks σ := rfl
theorem gM_blocks_isDone (σ : SM) (z : Int32) : sM_blocks (uM_isDone σ z) = sM_blocks σ := rfl
theorem gM_blocks_reached (σ : SM) (z : Int32) : sM_blocks (uM_reached σ z) = sM_blocks σ := rfl
theorem gM_blocks_order (σ : SM) (z : Nat → Int32) : sM_blocks (uM_order σ z) = sM_blocks σ := rfl
theorem gM_blocks_at (σ : SM) (z : Nat → Int32) : sM_blocks (uM_at σ z) = sM_blocks σ := rfl
theorem gM_blocks_rules (σ : SM) (z : Nat → Int32) : sM_blocks (uM_rules σ z) = sM_blocks σ := rfl
theorem gM_blocks_parent (σ : SM) (z : Nat → Int32) : sM_blocks (uM_parent σ z) = sM_blocks σ := rfl
theorem gM_blocks_isHead (σ : SM) (z : Nat → Int32) : sM_blocks (uM_isHead σ z) = sM_blocks σ := rfl
theorem gM_blocks_loop (σ : SM) (z : Nat → Int32) : sM_blocks (uM_loop σ z) = sM_blocks σ := rfl
theorem gM_blocks_loopSize (σ : SM) (z : Nat → Int32) : sM_blocks (uM_loopSize σ z) = sM_blocks σ := rfl
theorem gM_blocks_seen (σ : SM) (z : Nat → Int32) : sM_blocks (uM_seen σ z) = sM_blocks σ := rfl
theorem gM_blocks_pile (σ : SM) (z : Nat → Int32) : sM_blocks (uM_pile σ z) = sM_blocks σ := rfl
theorem gM_blocks_next (σ : SM) (z : Nat → Int32) : sM_blocks (uM_next σ z) = sM_blocks σ := rfl
theorem gM_many_thrown (σ : SM) (z : Int32) : sM_many (uM_thrown σ z) = sM_many σ := rfl
theorem gM_many_blocks (σ : SM) (z : Int32) : sM_many (uM_blocks σ z) = sM_many σ := rfl
theorem gM_many_many (σ : SM) (z : Nat → Int32) : sM_many (uM_many σ z) = z := rfl
theorem gM_many_ends (σ : SM) (z : Nat → Int32) : sM_many (uM_ends σ z) = sM_many σ := rfl
theorem gM_many_isDone (σ : SM) (z : Int32) : sM_many (uM_isDone σ z) = sM_many σ := rfl
theorem gM_many_reached (σ : SM) (z : Int32) : sM_many (uM_reached σ z) = sM_many σ := rfl
theorem gM_many_order (σ : SM) (z : Nat → Int32) : sM_many (uM_order σ z) = sM_many σ := rfl
theorem gM_many_at (σ : SM) (z : Nat → Int32) : sM_many (uM_at σ z) = sM_many σ := rfl
theorem gM_many_rules (σ : SM) (z : Nat → Int32) : sM_many (uM_rules σ z) = sM_many σ := rfl
theorem gM_many_parent (σ : SM) (z : Nat → Int32) : sM_many (uM_parent σ z) = sM_many σ := rfl
theorem gM_many_isHead (σ : SM) (z : Nat → Int32) : sM_many (uM_isHead σ z) = sM_many σ := rfl
theorem gM_many_loop (σ : SM) (z : Nat → Int32) : sM_many (uM_loop σ z) = sM_many σ := rfl
theorem gM_many_loopSize (σ : SM) (z : Nat → Int32) : sM_many (uM_loopSize σ z) = sM_many σ := rfl
theorem gM_many_seen (σ : SM) (z : Nat → Int32) : sM_many (uM_seen σ z) = sM_many σ := rfl
theorem gM_many_pile (σ : SM) (z : Nat → Int32) : sM_many (uM_pile σ z) = sM_many σ := rfl
theorem gM_many_next (σ : SM) (z : Nat → Int32) : sM_many (uM_next σ z) = sM_many σ := rfl
theorem gM_ends_thrown (σ : SM) (z : Int32) : sM_ends (uM_thrown σ z) = sM_ends σ := rfl
theorem gM_ends_blocks (σ : SM) (z : Int32) : sM_ends (uM_blocks σ z) = sM_ends σ := rfl
theorem gM_ends_many (σ : SM) (z : Nat → Int32) : sM_ends (uM_many σ z) = sM_ends σ := rfl
theorem gM_ends_ends (σ : SM) (z : Nat → Int32) : sM_ends (uM_ends σ z) = z := rfl
theorem gM_ends_isDone (σ : SM) (z : Int32) : sM_ends (uM_isDone σ z) = sM_ends σ := rfl
theorem gM_ends_reached (σ : SM) (z : Int32) : sM_ends (uM_reached σ z) = sM_ends σ := rfl
theorem gM_ends_order (σ : SM) (z : Nat → Int32) : sM_ends (uM_order σ z) = sM_ends σ := rfl
theorem gM_ends_at (σ : SM) (z : Nat → Int32) : sM_ends (uM_at σ z) = sM_ends σ := rfl
theorem gM_ends_rules (σ : SM) (z : Nat → Int32) : sM_ends (uM_rules σ z) = sM_ends σ := rfl
theorem gM_ends_parent (σ : SM) (z : Nat → Int32) : sM_ends (uM_parent σ z) = sM_ends σ := rfl
theorem gM_ends_isHead (σ : SM) (z : Nat → Int32) : sM_ends (uM_isHead σ z) = sM_ends σ := rfl
theorem gM_ends_loop (σ : SM) (z : Nat → Int32) : sM_ends (uM_loop σ z) = sM_ends σ := rfl
theorem gM_ends_loopSize (σ : SM) (z : Nat → Int32) : sM_ends (uM_loopSize σ z) = sM_ends σ := rfl
theorem gM_ends_seen (σ : SM) (z : Nat → Int32) : sM_ends (uM_seen σ z) = sM_ends σ := rfl
theorem gM_ends_pile (σ : SM) (z : Nat → Int32) : sM_ends (uM_pile σ z) = sM_ends σ := rfl
theorem gM_ends_next (σ : SM) (z : Nat → Int32) : sM_ends (uM_next σ z) = sM_ends σ := rfl
theorem gM_isDone_thrown (σ : SM) (z : Int32) : sM_isDone (uM_thrown σ z) = sM_isDone σ := rfl
theorem gM_isDone_blocks (σ : SM) (z : Int32) : sM_isDone (uM_blocks σ z) = sM_isDone σ := rfl
theorem gM_isDone_many (σ : SM) (z : Nat → Int32) : sM_isDone (uM_many σ z) = sM_isDone σ := rfl
theorem gM_isDone_ends (σ : SM) (z : Nat → Int32) : sM_isDone (uM_ends σ z) = sM_isDone σ := rfl
theorem gM_isDone_isDone (σ : SM) (z : Int32) : sM_isDone (uM_isDone σ z) = z := rfl
theorem gM_isDone_reached (σ : SM) (z : Int32) : sM_isDone (uM_reached σ z) = sM_isDone σ := rfl
theorem gM_isDone_order (σ : SM) (z : Nat → Int32) : sM_isDone (uM_order σ z) = sM_isDone σ := rfl
theorem gM_isDone_at (σ : SM) (z : Nat → Int32) : sM_isDone (uM_at σ z) = sM_isDone σ := rfl
theorem gM_isDone_rules (σ : SM) (z : Nat → Int32) : sM_isDone (uM_rules σ z) = sM_isDone σ := rfl
theorem gM_isDone_parent (σ : SM) (z : Nat → Int32) : sM_isDone (uM_parent σ z) = sM_isDone σ := rfl
theorem gM_isDone_isHead (σ : SM) (z : Nat → Int32) : sM_isDone (uM_isHead σ z) = sM_isDone σ := rfl
theorem gM_isDone_loop (σ : SM) (z : Nat → Int32) : sM_isDone (uM_loop σ z) = sM_isDone σ := rfl
theorem gM_isDone_loopSize (σ : SM) (z : Nat → Int32) : sM_isDone (uM_loopSize σ z) = sM_isDone σ := rfl
theorem gM_isDone_seen (σ : SM) (z : Nat → Int32) : sM_isDone (uM_seen σ z) = sM_isDone σ := rfl
theorem gM_isDone_pile (σ : SM) (z : Nat → Int32) : sM_isDone (uM_pile σ z) = sM_isDone σ := rfl
theorem gM_isDone_next (σ : SM) (z : Nat → Int32) : sM_isDone (uM_next σ z) = sM_isDone σ := rfl
theorem gM_reached_thrown (σ : SM) (z : Int32) : sM_reached (uM_thrown σ z) = sM_reached σ := rfl
theorem gM_reached_blocks (σ : SM) (z : Int32) : sM_reached (uM_blocks σ z) = sM_reached σ := rfl
theorem gM_reached_many (σ : SM) (z : Nat → Int32) : sM_reached (uM_many σ z) = sM_reached σ := rfl
theorem gM_reached_ends (σ : SM) (z : Nat → Int32) : sM_reached (uM_ends σ z) = sM_reached σ := rfl
theorem gM_reached_isDone (σ : SM) (z : Int32) : sM_reached (uM_isDone σ z) = sM_reached σ := rfl
theorem gM_reached_reached (σ : SM) (z : Int32) : sM_reached (uM_reached σ z) = z := rfl
theorem gM_reached_order (σ : SM) (z : Nat → Int32) : sM_reached (uM_order σ z) = sM_reached σ := rfl
theorem gM_reached_at (σ : SM) (z : Nat → Int32) : sM_reached (uM_at σ z) = sM_reached σ := rfl
theorem gM_reached_rules (σ : SM) (z : Nat → Int32) : sM_reached (uM_rules σ z) = sM_reached σ := rfl
theorem gM_reached_parent (σ : SM) (z : Nat → Int32) : sM_reached (uM_parent σ z) = sM_reached σ := rfl
theorem gM_reached_isHead (σ : SM) (z : Nat → Int32) : sM_reached (uM_isHead σ z) = sM_reached σ := rfl
theorem gM_reached_loop (σ : SM) (z : Nat → Int32) : sM_reached (uM_loop σ z) = sM_reached σ := rfl
theorem gM_reached_loopSize (σ : SM) (z : Nat → Int32) : sM_reached (uM_loopSize σ z) = sM_reached σ := rfl
theorem gM_reached_seen (σ : SM) (z : Nat → Int32) : sM_reached (uM_seen σ z) = sM_reached σ := rfl
theorem gM_reached_pile (σ : SM) (z : Nat → Int32) : sM_reached (uM_pile σ z) = sM_reached σ := rfl
theorem gM_reached_next (σ : SM) (z : Nat → Int32) : sM_reached (uM_next σ z) = sM_reached σ := rfl
theorem gM_order_thrown (σ : SM) (z : Int32) : sM_order (uM_thrown σ z) = sM_order σ := rfl
theorem gM_order_blocks (σ : SM) (z : Int32) : sM_order (uM_blocks σ z) = sM_order σ := rfl
theorem gM_order_many (σ : SM) (z : Nat → Int32) : sM_order (uM_many σ z) = sM_order σ := rfl
theorem gM_order_ends (σ : SM) (z : Nat → Int32) : sM_order (uM_ends σ z) = sM_order σ := rfl
theorem gM_order_isDone (σ : SM) (z : Int32) : sM_order (uM_isDone σ z) = sM_order σ := rfl
theorem gM_order_reached (σ : SM) (z : Int32) : sM_order (uM_reached σ z) = sM_order σ := rfl
theorem gM_order_order (σ : SM) (z : Nat → Int32) : sM_order (uM_order σ z) = z := rfl
theorem gM_order_at (σ : SM) (z : Nat → Int32) : sM_order (uM_at σ z) = sM_order σ := rfl
theorem gM_order_rules (σ : SM) (z : Nat → Int32) : sM_order (uM_rules σ z) = sM_order σ := rfl
theorem gM_order_parent (σ : SM) (z : Nat → Int32) : sM_order (uM_parent σ z) = sM_order σ := rfl
theorem gM_order_isHead (σ : SM) (z : Nat → Int32) : sM_order (uM_isHead σ z) = sM_order σ := rfl
theorem gM_order_loop (σ : SM) (z : Nat → Int32) : sM_order (uM_loop σ z) = sM_order σ := rfl
theorem gM_order_loopSize (σ : SM) (z : Nat → Int32) : sM_order (uM_loopSize σ z) = sM_order σ := rfl
theorem gM_order_seen (σ : SM) (z : Nat → Int32) : sM_order (uM_seen σ z) = sM_order σ := rfl
theorem gM_order_pile (σ : SM) (z : Nat → Int32) : sM_order (uM_pile σ z) = sM_order σ := rfl
theorem gM_order_next (σ : SM) (z : Nat → Int32) : sM_order (uM_next σ z) = sM_order σ := rfl
theorem gM_at_thrown (σ : SM) (z : Int32) : sM_at (uM_thrown σ z) = sM_at σ := rfl
theorem gM_at_blocks (σ : SM) (z : Int32) : sM_at (uM_blocks σ z) = sM_at σ := rfl
theorem gM_at_many (σ : SM) (z : Nat → Int32) : sM_at (uM_many σ z) = sM_at σ := rfl
theorem gM_at_ends (σ : SM) (z : Nat → Int32) : sM_at (uM_ends σ z) = sM_at σ := rfl
theorem gM_at_isDone (σ : SM) (z : Int32) : sM_at (uM_isDone σ z) = sM_at σ := rfl
theorem gM_at_reached (σ : SM) (z : Int32) : sM_at (uM_reached σ z) = sM_at σ := rfl
theorem gM_at_order (σ : SM) (z : Nat → Int32) : sM_at (uM_order σ z) = sM_at σ := rfl
theorem gM_at_at (σ : SM) (z : Nat → Int32) : sM_at (uM_at σ z) = z := rfl
theorem gM_at_rules (σ : SM) (z : Nat → Int32) : sM_at (uM_rules σ z) = sM_at σ := rfl
theorem gM_at_parent (σ : SM) (z : Nat → Int32) : sM_at (uM_parent σ z) = sM_at σ := rfl
theorem gM_at_isHead (σ : SM) (z : Nat → Int32) : sM_at (uM_isHead σ z) = sM_at σ := rfl
theorem gM_at_loop (σ : SM) (z : Nat → Int32) : sM_at (uM_loop σ z) = sM_at σ := rfl
theorem gM_at_loopSize (σ : SM) (z : Nat → Int32) : sM_at (uM_loopSize σ z) = sM_at σ := rfl
theorem gM_at_seen (σ : SM) (z : Nat → Int32) : sM_at (uM_seen σ z) = sM_at σ := rfl
theorem gM_at_pile (σ : SM) (z : Nat → Int32) : sM_at (uM_pile σ z) = sM_at σ := rfl
theorem gM_at_next (σ : SM) (z : Nat → Int32) : sM_at (uM_next σ z) = sM_at σ := rfl
theorem gM_rules_thrown (σ : SM) (z : Int32) : sM_rules (uM_thrown σ z) = sM_rules σ := rfl
theorem gM_rules_blocks (σ : SM) (z : Int32) : sM_rules (uM_blocks σ z) = sM_rules σ := rfl
theorem gM_rules_many (σ : SM) (z : Nat → Int32) : sM_rules (uM_many σ z) = sM_rules σ := rfl
theorem gM_rules_ends (σ : SM) (z : Nat → Int32) : sM_rules (uM_ends σ z) = sM_rules σ := rfl
theorem gM_rules_isDone (σ : SM) (z : Int32) : sM_rules (uM_isDone σ z) = sM_rules σ := rfl
theorem gM_rules_reached (σ : SM) (z : Int32) : sM_rules (uM_reached σ z) = sM_rules σ := rfl
theorem gM_rules_order (σ : SM) (z : Nat → Int32) : sM_rules (uM_order σ z) = sM_rules σ := rfl
theorem gM_rules_at (σ : SM) (z : Nat → Int32) : sM_rules (uM_at σ z) = sM_rules σ := rfl
theorem gM_rules_rules (σ : SM) (z : Nat → Int32) : sM_rules (uM_rules σ z) = z := rfl
theorem gM_rules_parent (σ : SM) (z : Nat → Int32) : sM_rules (uM_parent σ z) = sM_rules σ := rfl
theorem gM_rules_isHead (σ : SM) (z : Nat → Int32) : sM_rules (uM_isHead σ z) = sM_rules σ := rfl
theorem gM_rules_loop (σ : SM) (z : Nat → Int32) : sM_rules (uM_loop σ z) = sM_rules σ := rfl
theorem gM_rules_loopSize (σ : SM) (z : Nat → Int32) : sM_rules (uM_loopSize σ z) = sM_rules σ := rfl
theorem gM_rules_seen (σ : SM) (z : Nat → Int32) : sM_rules (uM_seen σ z) = sM_rules σ := rfl
theorem gM_rules_pile (σ : SM) (z : Nat → Int32) : sM_rules (uM_pile σ z) = sM_rules σ := rfl
theorem gM_rules_next (σ : SM) (z : Nat → Int32) : sM_rules (uM_next σ z) = sM_rules σ := rfl
theorem gM_parent_thrown (σ : SM) (z : Int32) : sM_parent (uM_thrown σ z) = sM_parent σ := rfl
theorem gM_parent_blocks (σ : SM) (z : Int32) : sM_parent (uM_blocks σ z) = sM_parent σ := rfl
theorem gM_parent_many (σ : SM) (z : Nat → Int32) : sM_parent (uM_many σ z) = sM_parent σ := rfl
theorem gM_parent_ends (σ : SM) (z : Nat → Int32) : sM_parent (uM_ends σ z) = sM_parent σ := rfl
theorem gM_parent_isDone (σ : SM) (z : Int32) : sM_parent (uM_isDone σ z) = sM_parent σ := rfl
theorem gM_parent_reached (σ : SM) (z : Int32) : sM_parent (uM_reached σ z) = sM_parent σ := rfl
theorem gM_parent_order (σ : SM) (z : Nat → Int32) : sM_parent (uM_order σ z) = sM_parent σ := rfl
theorem gM_parent_at (σ : SM) (z : Nat → Int32) : sM_parent (uM_at σ z) = sM_parent σ := rfl
theorem gM_parent_rules (σ : SM) (z : Nat → Int32) : sM_parent (uM_rules σ z) = sM_parent σ := rfl
theorem gM_parent_parent (σ : SM) (z : Nat → Int32) : sM_parent (uM_parent σ z) = z := rfl
theorem gM_parent_isHead (σ : SM) (z : Nat → Int32) : sM_parent (uM_isHead σ z) = sM_parent σ := rfl
theorem gM_parent_loop (σ : SM) (z : Nat → Int32) : sM_parent (uM_loop σ z) = sM_parent σ := rfl
theorem gM_parent_loopSize (σ : SM) (z : Nat → Int32) : sM_parent (uM_loopSize σ z) = sM_parent σ := rfl
theorem gM_parent_seen (σ : SM) (z : Nat → Int32) : sM_parent (uM_seen σ z) = sM_parent σ := rfl
theorem gM_parent_pile (σ : SM) (z : Nat → Int32) : sM_parent (uM_pile σ z) = sM_parent σ := rfl
theorem gM_parent_next (σ : SM) (z : Nat → Int32) : sM_parent (uM_next σ z) = sM_parent σ := rfl
theorem gM_isHead_thrown (σ : SM) (z : Int32) : sM_isHead (uM_thrown σ z) = sM_isHead σ := rfl
theorem gM_isHead_blocks (σ : SM) (z : Int32) : sM_isHead (uM_blocks σ z) = sM_isHead σ := rfl
theorem gM_isHead_many (σ : SM) (z : Nat → Int32) : sM_isHead (uM_many σ z) = sM_isHead σ := rfl
theorem gM_isHead_ends (σ : SM) (z : Nat → Int32) : sM_isHead (uM_ends σ z) = sM_isHead σ := rfl
theorem gM_isHead_isDone (σ : SM) (z : Int32) : sM_isHead (uM_isDone σ z) = sM_isHead σ := rfl
theorem gM_isHead_reached (σ : SM) (z : Int32) : sM_isHead (uM_reached σ z) = sM_isHead σ := rfl
theorem gM_isHead_order (σ : SM) (z : Nat → Int32) : sM_isHead (uM_order σ z) = sM_isHead σ := rfl
theorem gM_isHead_at (σ : SM) (z : Nat → Int32) : sM_isHead (uM_at σ z) = sM_isHead σ := rfl
theorem gM_isHead_rules (σ : SM) (z : Nat → Int32) : sM_isHead (uM_rules σ z) = sM_isHead σ := rfl
theorem gM_isHead_parent (σ : SM) (z : Nat → Int32) : sM_isHead (uM_parent σ z) = sM_isHead σ := rfl
theorem gM_isHead_isHead (σ : SM) (z : Nat → Int32) : sM_isHead (uM_isHead σ z) = z := rfl
theorem gM_isHead_loop (σ : SM) (z : Nat → Int32) : sM_isHead (uM_loop σ z) = sM_isHead σ := rfl
theorem gM_isHead_loopSize (σ : SM) (z : Nat → Int32) : sM_isHead (uM_loopSize σ z) = sM_isHead σ := rfl
theorem gM_isHead_seen (σ : SM) (z : Nat → Int32) : sM_isHead (uM_seen σ z) = sM_isHead σ := rfl
theorem gM_isHead_pile (σ : SM) (z : Nat → Int32) : sM_isHead (uM_pile σ z) = sM_isHead σ := rfl
theorem gM_isHead_next (σ : SM) (z : Nat → Int32) : sM_isHead (uM_next σ z) = sM_isHead σ := rfl
theorem gM_loop_thrown (σ : SM) (z : Int32) : sM_loop (uM_thrown σ z) = sM_loop σ := rfl
theorem gM_loop_blocks (σ : SM) (z : Int32) : sM_loop (uM_blocks σ z) = sM_loop σ := rfl
theorem gM_loop_many (σ : SM) (z : Nat → Int32) : sM_loop (uM_many σ z) = sM_loop σ := rfl
theorem gM_loop_ends (σ : SM) (z : Nat → Int32) : sM_loop (uM_ends σ z) = sM_loop σ := rfl
theorem gM_loop_isDone (σ : SM) (z : Int32) : sM_loop (uM_isDone σ z) = sM_loop σ := rfl
theorem gM_loop_reached (σ : SM) (z : Int32) : sM_loop (uM_reached σ z) = sM_loop σ := rfl
theorem gM_loop_order (σ : SM) (z : Nat → Int32) : sM_loop (uM_order σ z) = sM_loop σ := rfl
theorem gM_loop_at (σ : SM) (z : Nat → Int32) : sM_loop (uM_at σ z) = sM_loop σ := rfl
theorem gM_loop_rules (σ : SM) (z : Nat → Int32) : sM_loop (uM_rules σ z) = sM_loop σ := rfl
theorem gM_loop_parent (σ : SM) (z : Nat → Int32) : sM_loop (uM_parent σ z) = sM_loop σ := rfl
theorem gM_loop_isHead (σ : SM) (z : Nat → Int32) : sM_loop (uM_isHead σ z) = sM_loop σ := rfl
theorem gM_loop_loop (σ : SM) (z : Nat → Int32) : sM_loop (uM_loop σ z) = z := rfl
theorem gM_loop_loopSize (σ : SM) (z : Nat → Int32) : sM_loop (uM_loopSize σ z) = sM_loop σ := rfl
theorem gM_loop_seen (σ : SM) (z : Nat → Int32) : sM_loop (uM_seen σ z) = sM_loop σ := rfl
theorem gM_loop_pile (σ : SM) (z : Nat → Int32) : sM_loop (uM_pile σ z) = sM_loop σ := rfl
theorem gM_loop_next (σ : SM) (z : Nat → Int32) : sM_loop (uM_next σ z) = sM_loop σ := rfl
theorem gM_loopSize_thrown (σ : SM) (z : Int32) : sM_loopSize (uM_thrown σ z) = sM_loopSize σ := rfl
theorem gM_loopSize_blocks (σ : SM) (z : Int32) : sM_loopSize (uM_blocks σ z) = sM_loopSize σ := rfl
theorem gM_loopSize_many (σ : SM) (z : Nat → Int32) : sM_loopSize (uM_many σ z) = sM_loopSize σ := rfl
theorem gM_loopSize_ends (σ : SM) (z : Nat → Int32) : sM_loopSize (uM_ends σ z) = sM_loopSize σ := rfl
theorem gM_loopSize_isDone (σ : SM) (z : Int32) : sM_loopSize (uM_isDone σ z) = sM_loopSize σ := rfl
theorem gM_loopSize_reached (σ : SM) (z : Int32) : sM_loopSize (uM_reached σ z) = sM_loopSize σ := rfl
theorem gM_loopSize_order (σ : SM) (z : Nat → Int32) : sM_loopSize (uM_order σ z) = sM_loopSize σ := rfl
theorem gM_loopSize_at (σ : SM) (z : Nat → Int32) : sM_loopSize (uM_at σ z) = sM_loopSize σ := rfl
theorem gM_loopSize_rules (σ : SM) (z : Nat → Int32) : sM_loopSize (uM_rules σ z) = sM_loopSize σ := rfl
theorem gM_loopSize_parent (σ : SM) (z : Nat → Int32) : sM_loopSize (uM_parent σ z) = sM_loopSize σ := rfl
theorem gM_loopSize_isHead (σ : SM) (z : Nat → Int32) : sM_loopSize (uM_isHead σ z) = sM_loopSize σ := rfl
theorem gM_loopSize_loop (σ : SM) (z : Nat → Int32) : sM_loopSize (uM_loop σ z) = sM_loopSize σ := rfl
theorem gM_loopSize_loopSize (σ : SM) (z : Nat → Int32) : sM_loopSize (uM_loopSize σ z) = z := rfl
theorem gM_loopSize_seen (σ : SM) (z : Nat → Int32) : sM_loopSize (uM_seen σ z) = sM_loopSize σ := rfl
theorem gM_loopSize_pile (σ : SM) (z : Nat → Int32) : sM_loopSize (uM_pile σ z) = sM_loopSize σ := rfl
theorem gM_loopSize_next (σ : SM) (z : Nat → Int32) : sM_loopSize (uM_next σ z) = sM_loopSize σ := rfl
theorem gM_seen_thrown (σ : SM) (z : Int32) : sM_seen (uM_thrown σ z) = sM_seen σ := rfl
theorem gM_seen_blocks (σ : SM) (z : Int32) : sM_seen (uM_blocks σ z) = sM_seen σ := rfl
theorem gM_seen_many (σ : SM) (z : Nat → Int32) : sM_seen (uM_many σ z) = sM_seen σ := rfl
theorem gM_seen_ends (σ : SM) (z : Nat → Int32) : sM_seen (uM_ends σ z) = sM_seen σ := rfl
theorem gM_seen_isDone (σ : SM) (z : Int32) : sM_seen (uM_isDone σ z) = sM_seen σ := rfl
theorem gM_seen_reached (σ : SM) (z : Int32) : sM_seen (uM_reached σ z) = sM_seen σ := rfl
theorem gM_seen_order (σ : SM) (z : Nat → Int32) : sM_seen (uM_order σ z) = sM_seen σ := rfl
theorem gM_seen_at (σ : SM) (z : Nat → Int32) : sM_seen (uM_at σ z) = sM_seen σ := rfl
theorem gM_seen_rules (σ : SM) (z : Nat → Int32) : sM_seen (uM_rules σ z) = sM_seen σ := rfl
theorem gM_seen_parent (σ : SM) (z : Nat → Int32) : sM_seen (uM_parent σ z) = sM_seen σ := rfl
theorem gM_seen_isHead (σ : SM) (z : Nat → Int32) : sM_seen (uM_isHead σ z) = sM_seen σ := rfl
theorem gM_seen_loop (σ : SM) (z : Nat → Int32) : sM_seen (uM_loop σ z) = sM_seen σ := rfl
theorem gM_seen_loopSize (σ : SM) (z : Nat → Int32) : sM_seen (uM_loopSize σ z) = sM_seen σ := rfl
theorem gM_seen_seen (σ : SM) (z : Nat → Int32) : sM_seen (uM_seen σ z) = z := rfl
theorem gM_seen_pile (σ : SM) (z : Nat → Int32) : sM_seen (uM_pile σ z) = sM_seen σ := rfl
theorem gM_seen_next (σ : SM) (z : Nat → Int32) : sM_seen (uM_next σ z) = sM_seen σ := rfl
theorem gM_pile_thrown (σ : SM) (z : Int32) : sM_pile (uM_thrown σ z) = sM_pile σ := rfl
theorem gM_pile_blocks (σ : SM) (z : Int32) : sM_pile (uM_blocks σ z) = sM_pile σ := rfl
theorem gM_pile_many (σ : SM) (z : Nat → Int32) : sM_pile (uM_many σ z) = sM_pile σ := rfl
theorem gM_pile_ends (σ : SM) (z : Nat → Int32) : sM_pile (uM_ends σ z) = sM_pile σ := rfl
theorem gM_pile_isDone (σ : SM) (z : Int32) : sM_pile (uM_isDone σ z) = sM_pile σ := rfl
theorem gM_pile_reached (σ : SM) (z : Int32) : sM_pile (uM_reached σ z) = sM_pile σ := rfl
theorem gM_pile_order (σ : SM) (z : Nat → Int32) : sM_pile (uM_order σ z) = sM_pile σ := rfl
theorem gM_pile_at (σ : SM) (z : Nat → Int32) : sM_pile (uM_at σ z) = sM_pile σ := rfl
theorem gM_pile_rules (σ : SM) (z : Nat → Int32) : sM_pile (uM_rules σ z) = sM_pile σ := rfl
theorem gM_pile_parent (σ : SM) (z : Nat → Int32) : sM_pile (uM_parent σ z) = sM_pile σ := rfl
theorem gM_pile_isHead (σ : SM) (z : Nat → Int32) : sM_pile (uM_isHead σ z) = sM_pile σ := rfl
theorem gM_pile_loop (σ : SM) (z : Nat → Int32) : sM_pile (uM_loop σ z) = sM_pile σ := rfl
theorem gM_pile_loopSize (σ : SM) (z : Nat → Int32) : sM_pile (uM_loopSize σ z) = sM_pile σ := rfl
theorem gM_pile_seen (σ : SM) (z : Nat → Int32) : sM_pile (uM_seen σ z) = sM_pile σ := rfl
theorem gM_pile_pile (σ : SM) (z : Nat → Int32) : sM_pile (uM_pile σ z) = z := rfl
theorem gM_pile_next (σ : SM) (z : Nat → Int32) : sM_pile (uM_next σ z) = sM_pile σ := rfl
theorem gM_next_thrown (σ : SM) (z : Int32) : sM_next (uM_thrown σ z) = sM_next σ := rfl
theorem gM_next_blocks (σ : SM) (z : Int32) : sM_next (uM_blocks σ z) = sM_next σ := rfl
theorem gM_next_many (σ : SM) (z : Nat → Int32) : sM_next (uM_many σ z) = sM_next σ := rfl
theorem gM_next_ends (σ : SM) (z : Nat → Int32) : sM_next (uM_ends σ z) = sM_next σ := rfl
theorem gM_next_isDone (σ : SM) (z : Int32) : sM_next (uM_isDone σ z) = sM_next σ := rfl
theorem gM_next_reached (σ : SM) (z : Int32) : sM_next (uM_reached σ z) = sM_next σ := rfl
theorem gM_next_order (σ : SM) (z : Nat → Int32) : sM_next (uM_order σ z) = sM_next σ := rfl
theorem gM_next_at (σ : SM) (z : Nat → Int32) : sM_next (uM_at σ z) = sM_next σ := rfl
theorem gM_next_rules (σ : SM) (z : Nat → Int32) : sM_next (uM_rules σ z) = sM_next σ := rfl
theorem gM_next_parent (σ : SM) (z : Nat → Int32) : sM_next (uM_parent σ z) = sM_next σ := rfl
theorem gM_next_isHead (σ : SM) (z : Nat → Int32) : sM_next (uM_isHead σ z) = sM_next σ := rfl
theorem gM_next_loop (σ : SM) (z : Nat → Int32) : sM_next (uM_loop σ z) = sM_next σ := rfl
theorem gM_next_loopSize (σ : SM) (z : Nat → Int32) : sM_next (uM_loopSize σ z) = sM_next σ := rfl
theorem gM_next_seen (σ : SM) (z : Nat → Int32) : sM_next (uM_seen σ z) = sM_next σ := rfl
theorem gM_next_pile (σ : SM) (z : Nat → Int32) : sM_next (uM_pile σ z) = sM_next σ := rfl
theorem gM_next_next (σ : SM) (z : Nat → Int32) : sM_next (uM_next σ z) = z := rfl
theorem rfM_thrown (a : Nat → Nat) (cs : Nat → ClassId) (σ : SM) {z : Int32} (e : sM_thrown σ = z) : ([.int (sM_thrown σ), .int (sM_blocks σ), .ref (a 1), .ref (a 2), .int (sM_isDone σ), .int (sM_reached σ), .ref (a 3), .ref (a 4), .ref (a 5), .ref (a 6), .ref (a 7), .ref (a 8), .ref (a 9), .ref (a 10), .ref (a 11), .ref (a 12)] : List Value)[0]? = some (.int z) := by
  subst e
  rfl
theorem setM_thrown (a : Nat → Nat) (cs : Nat → ClassId) (σ : SM) (z : Int32) : (wsM a cs σ).set 0 (a 0, .inr (5, ([.int (sM_thrown σ), .int (sM_blocks σ), .ref (a 1), .ref (a 2), .int (sM_isDone σ), .int (sM_reached σ), .ref (a 3), .ref (a 4), .ref (a 5), .ref (a 6), .ref (a 7), .ref (a 8), .ref (a 9), .ref (a 10), .ref (a 11), .ref (a 12)] : List Value).set 0 (.int z))) = wsM a cs (uM_thrown σ z) := rfl
theorem rfM_blocks (a : Nat → Nat) (cs : Nat → ClassId) (σ : SM) {z : Int32} (e : sM_blocks σ = z) : ([.int (sM_thrown σ), .int (sM_blocks σ), .ref (a 1), .ref (a 2), .int (sM_isDone σ), .int (sM_reached σ), .ref (a 3), .ref (a 4), .ref (a 5), .ref (a 6), .ref (a 7), .ref (a 8), .ref (a 9), .ref (a 10), .ref (a 11), .ref (a 12)] : List Value)[1]? = some (.int z) := by
  subst e
  rfl
theorem setM_blocks (a : Nat → Nat) (cs : Nat → ClassId) (σ : SM) (z : Int32) : (wsM a cs σ).set 0 (a 0, .inr (5, ([.int (sM_thrown σ), .int (sM_blocks σ), .ref (a 1), .ref (a 2), .int (sM_isDone σ), .int (sM_reached σ), .ref (a 3), .ref (a 4), .ref (a 5), .ref (a 6), .ref (a 7), .ref (a 8), .ref (a 9), .ref (a 10), .ref (a 11), .ref (a 12)] : List Value).set 1 (.int z))) = wsM a cs (uM_blocks σ z) := rfl
theorem rfM_isDone (a : Nat → Nat) (cs : Nat → ClassId) (σ : SM) {z : Int32} (e : sM_isDone σ = z) : ([.int (sM_thrown σ), .int (sM_blocks σ), .ref (a 1), .ref (a 2), .int (sM_isDone σ), .int (sM_reached σ), .ref (a 3), .ref (a 4), .ref (a 5), .ref (a 6), .ref (a 7), .ref (a 8), .ref (a 9), .ref (a 10), .ref (a 11), .ref (a 12)] : List Value)[4]? = some (.int z) := by
  subst e
  rfl
theorem setM_isDone (a : Nat → Nat) (cs : Nat → ClassId) (σ : SM) (z : Int32) : (wsM a cs σ).set 0 (a 0, .inr (5, ([.int (sM_thrown σ), .int (sM_blocks σ), .ref (a 1), .ref (a 2), .int (sM_isDone σ), .int (sM_reached σ), .ref (a 3), .ref (a 4), .ref (a 5), .ref (a 6), .ref (a 7), .ref (a 8), .ref (a 9), .ref (a 10), .ref (a 11), .ref (a 12)] : List Value).set 4 (.int z))) = wsM a cs (uM_isDone σ z) := rfl
theorem rfM_reached (a : Nat → Nat) (cs : Nat → ClassId) (σ : SM) {z : Int32} (e : sM_reached σ = z) : ([.int (sM_thrown σ), .int (sM_blocks σ), .ref (a 1), .ref (a 2), .int (sM_isDone σ), .int (sM_reached σ), .ref (a 3), .ref (a 4), .ref (a 5), .ref (a 6), .ref (a 7), .ref (a 8), .ref (a 9), .ref (a 10), .ref (a 11), .ref (a 12)] : List Value)[5]? = some (.int z) := by
  subst e
  rfl
theorem setM_reached (a : Nat → Nat) (cs : Nat → ClassId) (σ : SM) (z : Int32) : (wsM a cs σ).set 0 (a 0, .inr (5, ([.int (sM_thrown σ), .int (sM_blocks σ), .ref (a 1), .ref (a 2), .int (sM_isDone σ), .int (sM_reached σ), .ref (a 3), .ref (a 4), .ref (a 5), .ref (a 6), .ref (a 7), .ref (a 8), .ref (a 9), .ref (a 10), .ref (a 11), .ref (a 12)] : List Value).set 5 (.int z))) = wsM a cs (uM_reached σ z) := rfl
theorem rdM_many (a : Nat → Nat) (cs : Nat → ClassId) (σ : SM) {f : Nat → Int32} (e : sM_many σ = f) : (wsM a cs σ)[1]? = some (a 1, .inl (cs 0, 64, .inl f)) := by
  subst e
  rfl
theorem setM_many (a : Nat → Nat) (cs : Nat → ClassId) (σ : SM) (f : Nat → Int32) : (wsM a cs σ).set 1 (a 1, .inl (cs 0, 64, .inl f)) = wsM a cs (uM_many σ f) := rfl
theorem rdM_ends (a : Nat → Nat) (cs : Nat → ClassId) (σ : SM) {f : Nat → Int32} (e : sM_ends σ = f) : (wsM a cs σ)[2]? = some (a 2, .inl (cs 1, 512, .inl f)) := by
  subst e
  rfl
theorem setM_ends (a : Nat → Nat) (cs : Nat → ClassId) (σ : SM) (f : Nat → Int32) : (wsM a cs σ).set 2 (a 2, .inl (cs 1, 512, .inl f)) = wsM a cs (uM_ends σ f) := rfl
theorem rdM_order (a : Nat → Nat) (cs : Nat → ClassId) (σ : SM) {f : Nat → Int32} (e : sM_order σ = f) : (wsM a cs σ)[3]? = some (a 3, .inl (cs 2, 64, .inl f)) := by
  subst e
  rfl
theorem setM_order (a : Nat → Nat) (cs : Nat → ClassId) (σ : SM) (f : Nat → Int32) : (wsM a cs σ).set 3 (a 3, .inl (cs 2, 64, .inl f)) = wsM a cs (uM_order σ f) := rfl
theorem rdM_at (a : Nat → Nat) (cs : Nat → ClassId) (σ : SM) {f : Nat → Int32} (e : sM_at σ = f) : (wsM a cs σ)[4]? = some (a 4, .inl (cs 3, 64, .inl f)) := by
  subst e
  rfl
theorem setM_at (a : Nat → Nat) (cs : Nat → ClassId) (σ : SM) (f : Nat → Int32) : (wsM a cs σ).set 4 (a 4, .inl (cs 3, 64, .inl f)) = wsM a cs (uM_at σ f) := rfl
theorem rdM_rules (a : Nat → Nat) (cs : Nat → ClassId) (σ : SM) {f : Nat → Int32} (e : sM_rules σ = f) : (wsM a cs σ)[5]? = some (a 5, .inl (cs 4, 4096, .inl f)) := by
  subst e
  rfl
theorem setM_rules (a : Nat → Nat) (cs : Nat → ClassId) (σ : SM) (f : Nat → Int32) : (wsM a cs σ).set 5 (a 5, .inl (cs 4, 4096, .inl f)) = wsM a cs (uM_rules σ f) := rfl
theorem rdM_parent (a : Nat → Nat) (cs : Nat → ClassId) (σ : SM) {f : Nat → Int32} (e : sM_parent σ = f) : (wsM a cs σ)[6]? = some (a 6, .inl (cs 5, 64, .inl f)) := by
  subst e
  rfl
theorem setM_parent (a : Nat → Nat) (cs : Nat → ClassId) (σ : SM) (f : Nat → Int32) : (wsM a cs σ).set 6 (a 6, .inl (cs 5, 64, .inl f)) = wsM a cs (uM_parent σ f) := rfl
theorem rdM_isHead (a : Nat → Nat) (cs : Nat → ClassId) (σ : SM) {f : Nat → Int32} (e : sM_isHead σ = f) : (wsM a cs σ)[7]? = some (a 7, .inl (cs 6, 64, .inl f)) := by
  subst e
  rfl
theorem setM_isHead (a : Nat → Nat) (cs : Nat → ClassId) (σ : SM) (f : Nat → Int32) : (wsM a cs σ).set 7 (a 7, .inl (cs 6, 64, .inl f)) = wsM a cs (uM_isHead σ f) := rfl
theorem rdM_loop (a : Nat → Nat) (cs : Nat → ClassId) (σ : SM) {f : Nat → Int32} (e : sM_loop σ = f) : (wsM a cs σ)[8]? = some (a 8, .inl (cs 7, 4096, .inl f)) := by
  subst e
  rfl
theorem setM_loop (a : Nat → Nat) (cs : Nat → ClassId) (σ : SM) (f : Nat → Int32) : (wsM a cs σ).set 8 (a 8, .inl (cs 7, 4096, .inl f)) = wsM a cs (uM_loop σ f) := rfl
theorem rdM_loopSize (a : Nat → Nat) (cs : Nat → ClassId) (σ : SM) {f : Nat → Int32} (e : sM_loopSize σ = f) : (wsM a cs σ)[9]? = some (a 9, .inl (cs 8, 64, .inl f)) := by
  subst e
  rfl
theorem setM_loopSize (a : Nat → Nat) (cs : Nat → ClassId) (σ : SM) (f : Nat → Int32) : (wsM a cs σ).set 9 (a 9, .inl (cs 8, 64, .inl f)) = wsM a cs (uM_loopSize σ f) := rfl
theorem rdM_seen (a : Nat → Nat) (cs : Nat → ClassId) (σ : SM) {f : Nat → Int32} (e : sM_seen σ = f) : (wsM a cs σ)[10]? = some (a 10, .inl (cs 9, 64, .inl f)) := by
  subst e
  rfl
theorem setM_seen (a : Nat → Nat) (cs : Nat → ClassId) (σ : SM) (f : Nat → Int32) : (wsM a cs σ).set 10 (a 10, .inl (cs 9, 64, .inl f)) = wsM a cs (uM_seen σ f) := rfl
theorem rdM_pile (a : Nat → Nat) (cs : Nat → ClassId) (σ : SM) {f : Nat → Int32} (e : sM_pile σ = f) : (wsM a cs σ)[11]? = some (a 11, .inl (cs 10, 64, .inl f)) := by
  subst e
  rfl
theorem setM_pile (a : Nat → Nat) (cs : Nat → ClassId) (σ : SM) (f : Nat → Int32) : (wsM a cs σ).set 11 (a 11, .inl (cs 10, 64, .inl f)) = wsM a cs (uM_pile σ f) := rfl
theorem rdM_next (a : Nat → Nat) (cs : Nat → ClassId) (σ : SM) {f : Nat → Int32} (e : sM_next σ = f) : (wsM a cs σ)[12]? = some (a 12, .inl (cs 11, 64, .inl f)) := by
  subst e
  rfl
theorem setM_next (a : Nat → Nat) (cs : Nat → ClassId) (σ : SM) (f : Nat → Int32) : (wsM a cs σ).set 12 (a 12, .inl (cs 11, 64, .inl f)) = wsM a cs (uM_next σ f) := rfl
theorem allM (a : Nat → Nat) (cs : Nat → ClassId) (σ : SM) : [0, 1, 2, 3, 4, 5, 6, 7, 8, 9, 10, 11, 12].map (fun i => (wsM a cs σ)[i]?) = (wsM a cs σ).map some := rfl
def tyM (cs : Nat → ClassId) : List (ClassId × FieldType) := [(cs 0, .int), (cs 1, .int), (cs 2, .int), (cs 3, .int), (cs 4, .boolean), (cs 5, .int), (cs 6, .boolean), (cs 7, .boolean), (cs 8, .int), (cs 9, .boolean), (cs 10, .int), (cs 11, .int)]
def nestWs : List Cond := [Cond.methodLinkNest "BlockRuler$Walk" 57 y_BlockRuler_holds "BlockRuler", Cond.methodLinkNest "BlockRuler$Walk" 61 y_BlockRuler_only "BlockRuler", Cond.methodLinkNest "BlockRuler$Rulers" 25 y_BlockRuler_holds "BlockRuler", Cond.methodLinkNest "BlockRuler$Rulers" 29 y_BlockRuler_only "BlockRuler", Cond.methodLinkNest "BlockRuler$Rulers" 67 y_BlockRuler_least "BlockRuler", Cond.methodLinkNest "BlockRuler$Rulers" 70 y_BlockRuler_withoutLeast "BlockRuler", Cond.methodLinkNest "BlockRuler$Loops" 73 y_BlockRuler_holds "BlockRuler", Cond.methodLinkNest "BlockRuler$Loops" 97 y_BlockRuler_only "BlockRuler", Cond.methodLinkNest "BlockRuler$Loops" 106 y_BlockRuler_least "BlockRuler", Cond.methodLinkNest "BlockRuler$Loops" 109 y_BlockRuler_withoutLeast "BlockRuler"]
theorem nw0 : Cond.methodLinkNest "BlockRuler$Walk" 57 y_BlockRuler_holds "BlockRuler" ∈ nestWs := by decide +kernel
theorem nw1 : Cond.methodLinkNest "BlockRuler$Walk" 61 y_BlockRuler_only "BlockRuler" ∈ nestWs := by decide +kernel
theorem nw2 : Cond.methodLinkNest "BlockRuler$Rulers" 25 y_BlockRuler_holds "BlockRuler" ∈ nestWs := by decide +kernel
theorem nw3 : Cond.methodLinkNest "BlockRuler$Rulers" 29 y_BlockRuler_only "BlockRuler" ∈ nestWs := by decide +kernel
theorem nw4 : Cond.methodLinkNest "BlockRuler$Rulers" 67 y_BlockRuler_least "BlockRuler" ∈ nestWs := by decide +kernel
theorem nw5 : Cond.methodLinkNest "BlockRuler$Rulers" 70 y_BlockRuler_withoutLeast "BlockRuler" ∈ nestWs := by decide +kernel
theorem nw6 : Cond.methodLinkNest "BlockRuler$Loops" 73 y_BlockRuler_holds "BlockRuler" ∈ nestWs := by decide +kernel
theorem nw7 : Cond.methodLinkNest "BlockRuler$Loops" 97 y_BlockRuler_only "BlockRuler" ∈ nestWs := by decide +kernel
theorem nw8 : Cond.methodLinkNest "BlockRuler$Loops" 106 y_BlockRuler_least "BlockRuler" ∈ nestWs := by decide +kernel
theorem nw9 : Cond.methodLinkNest "BlockRuler$Loops" 109 y_BlockRuler_withoutLeast "BlockRuler" ∈ nestWs := by decide +kernel
/-- the links to private members of nest mates, which no walk loses -/
def NW (U : State) : Prop := ∀ w ∈ nestWs, va_Nw w U
theorem NW.warm {s U : State} (hW : s.WarmedH U.vm) (h : NW s) : NW U := fun w hw => by
  have q := h w hw
  simp only [nestWs, List.mem_cons, List.not_mem_nil, or_false] at hw
  rcases hw with rfl | rfl | rfl | rfl | rfl | rfl | rfl | rfl | rfl | rfl <;> exact va_Nw.warmM hW q
theorem NW.call {U : State} {g : JFrame} {mk : MethodId} {a : Array Value} (h : NW U) : NW (U.calling g mk a) := NW.warm (U := U.calling g mk a) (State.WarmedH.refl U) h
-- the class's world, and the reference's
abbrev WBB (dC : Nat → ClassId) (dI : Nat → Nat → Nat) (a : Nat → Nat) (cs : Nat → ClassId) (σ : SB) (U : State) : Prop := va_P (dC, dI) classes (wsB a cs σ) U.heap ∧ va_K (dC, dI) classes (tyB cs) U ∧ NW U
abbrev WDB (dC : Nat → ClassId) (dI : Nat → Nat → Nat) (a : Nat → Nat) (cs : Nat → ClassId) (σ : SB) (U : State) : Prop := va_P (dC, dI) classes (wsB a cs σ) U.heap ∧ va_K (dC, dI) classes (tyB cs) U ∧ NW U ∧ va_D (fun _ => True) (wsB a cs σ)
abbrev atB (dC : Nat → ClassId) (dI : Nat → Nat → Nat) (a : Nat → Nat) (cs : Nat → ClassId) (A : Nat → Prop) (u : SB) (t : State) : Prop := va_P (dC, dI) classes (wsB a cs u) t.heap ∧ va_D A (wsB a cs u)
abbrev WBM (dC : Nat → ClassId) (dI : Nat → Nat → Nat) (a : Nat → Nat) (cs : Nat → ClassId) (σ : SM) (U : State) : Prop := va_P (dC, dI) classes (wsM a cs σ) U.heap ∧ va_K (dC, dI) classes (tyM cs) U ∧ NW U
abbrev WDM (dC : Nat → ClassId) (dI : Nat → Nat → Nat) (a : Nat → Nat) (cs : Nat → ClassId) (σ : SM) (U : State) : Prop := va_P (dC, dI) classes (wsM a cs σ) U.heap ∧ va_K (dC, dI) classes (tyM cs) U ∧ NW U ∧ va_D (fun _ => True) (wsM a cs σ)
abbrev atM (dC : Nat → ClassId) (dI : Nat → Nat → Nat) (a : Nat → Nat) (cs : Nat → ClassId) (A : Nat → Prop) (u : SM) (t : State) : Prop := va_P (dC, dI) classes (wsM a cs u) t.heap ∧ va_D A (wsM a cs u)
theorem wb_blind {av : List Value} {D : va_G} {cl : List vw_C} {ws : va_W} {tys : List (ClassId × FieldType)} : FrameBlind (va_Pc av (fun U => va_P D cl ws U.heap ∧ va_K D cl tys U ∧ NW U)) := fun a U g mk h =>
  ⟨h.1, h.2.1, va_K.moved (u := U) (U := U.calling g mk a) (Vm.Alike.refl U.vm) h.2.2.1, h.2.2.2.call⟩
theorem wbz_blind {av : List Value} {D : va_G} {cl : List vw_C} {ws : va_W} {tys : List (ClassId × FieldType)} {sz : Nat} : FrameBlind (va_Pc av (fun U => U.heap.size = sz ∧ va_P D cl ws U.heap ∧ va_K D cl tys U ∧ NW U ∧ va_D (fun _ => True) ws)) := fun a U g mk h =>
  ⟨h.1, h.2.1, h.2.2.1, va_K.moved (u := U) (U := U.calling g mk a) (Vm.Alike.refl U.vm) h.2.2.2.1, h.2.2.2.2.1.call, h.2.2.2.2.2⟩
theorem wb_pre {s U : State} {H : Heap} {D : va_G} {cl : List vw_C} {ws : va_W} {tys : List (ClassId × FieldType)} (hU : U.heap = H) (hW : s.WarmedH U.vm) (hP : va_P D cl ws H) (hK : va_K D cl tys s) (hN : NW s) : va_P D cl ws U.heap ∧ va_K D cl tys U ∧ NW U :=
  ⟨by rw [hU]; exact hP, va_K.moved hW.alike hK, hN.warm hW⟩
theorem wb_preD {s U : State} {H : Heap} {D : va_G} {cl : List vw_C} {ws : va_W} {tys : List (ClassId × FieldType)} {A : Nat → Prop} (hU : U.heap = H) (hW : s.WarmedH U.vm) (hP : va_P D cl ws H) (hK : va_K D cl tys s) (hN : NW s) (hD : va_D A ws) : va_P D cl ws U.heap ∧ va_K D cl tys U ∧ NW U ∧ va_D (fun _ => True) ws :=
  ⟨by rw [hU]; exact hP, va_K.moved hW.alike hK, hN.warm hW, hD.weaken (fun _ _ _ _ => trivial)⟩
end
section
-- written by wip/gen (blockruler.py)
theorem wd0 : Cond.constantLong "java/lang/Long" 314 (6148914691236517205) ∈ G_ := g_in (by decide +kernel) (by decide +kernel)
theorem wd1 : Cond.constantLong "java/lang/Long" 316 (3689348814741910323) ∈ G_ := g_in (by decide +kernel) (by decide +kernel)
theorem wd2 : Cond.constantLong "java/lang/Long" 318 (1085102592571150095) ∈ G_ := g_in (by decide +kernel) (by decide +kernel)
theorem wd3 : Cond.fieldLink "BlockRuler$Web" 18 "BlockRuler$Web" "blocks" "I" ∈ G_ := g_in (by decide +kernel) (by decide +kernel)
theorem wd4 : Cond.selects "BlockRuler$Web" y_Web_hasBlock y_Web_hasBlock ∈ G_ := g_in (by decide +kernel) (by decide +kernel)
theorem wd5 : Cond.instanceMethod y_Web_hasBlock ∈ G_ := g_in (by decide +kernel) (by decide +kernel)
theorem wd6 : Cond.methodLink "BlockRuler$Web" 25 y_Web_hasBlock ∈ G_ := g_in (by decide +kernel) (by decide +kernel)
theorem wd7 : Cond.initialized "BlockRuler$Web" ∈ G_ := g_in (by decide +kernel) (by decide +kernel)
theorem wd8 : Cond.code y_Web_hasBlock b_Web_hasBlock 2 (some .boolean) ∈ G_ := g_in (by decide +kernel) (by decide +kernel)
theorem wd9 : Cond.fieldLink "BlockRuler$Web" 9 "BlockRuler$Web" "degrees" "[I" ∈ G_ := g_in (by decide +kernel) (by decide +kernel)
theorem wd10 : Cond.fieldLink "BlockRuler$Web" 15 "BlockRuler$Web" "ends" "[I" ∈ G_ := g_in (by decide +kernel) (by decide +kernel)
theorem wd11 : Cond.fieldLink "BlockRuler$Web" 22 "BlockRuler$Web" "ways" "I" ∈ G_ := g_in (by decide +kernel) (by decide +kernel)
theorem wd12 : Cond.selects "BlockRuler$Web" y_Web_endOf y_Web_endOf ∈ G_ := g_in (by decide +kernel) (by decide +kernel)
theorem wd13 : Cond.instanceMethod y_Web_endOf ∈ G_ := g_in (by decide +kernel) (by decide +kernel)
theorem wd14 : Cond.methodLink "BlockRuler$Web" 29 y_Web_endOf ∈ G_ := g_in (by decide +kernel) (by decide +kernel)
theorem wd15 : Cond.code y_Web_endOf b_Web_endOf 3 (some .int) ∈ G_ := g_in (by decide +kernel) (by decide +kernel)
theorem wd16 : Cond.methodLink "BlockRuler" 143 y_Long_bitCount ∈ G_ := g_in (by decide +kernel) (by decide +kernel)
theorem wd17 : Cond.static y_Long_bitCount ∈ G_ := g_in (by decide +kernel) (by decide +kernel)
theorem wd18 : Cond.initialized "java/lang/Long" ∈ G_ := g_in (by decide +kernel) (by decide +kernel)
theorem wd19 : Cond.code y_Long_bitCount b_Long_bitCount 2 (some .int) ∈ G_ := g_in (by decide +kernel) (by decide +kernel)
theorem wd20 : Cond.methodLink "BlockRuler" 187 y_BlockRuler_withoutLeast ∈ G_ := g_in (by decide +kernel) (by decide +kernel)
theorem wd21 : Cond.static y_BlockRuler_withoutLeast ∈ G_ := g_in (by decide +kernel) (by decide +kernel)
theorem wd22 : Cond.initialized "BlockRuler" ∈ G_ := g_in (by decide +kernel) (by decide +kernel)
theorem wd23 : Cond.code y_BlockRuler_withoutLeast b_BlockRuler_withoutLeast 2 (some .long) ∈ G_ := g_in (by decide +kernel) (by decide +kernel)
theorem wd24 : Cond.methodLink "BlockRuler" 191 y_BlockRuler_least ∈ G_ := g_in (by decide +kernel) (by decide +kernel)
theorem wd25 : Cond.static y_BlockRuler_least ∈ G_ := g_in (by decide +kernel) (by decide +kernel)
theorem wd26 : Cond.code y_BlockRuler_least b_BlockRuler_least 2 (some .int) ∈ G_ := g_in (by decide +kernel) (by decide +kernel)
theorem wd27 : Cond.fieldLink "BlockRuler$Walk" 19 "BlockRuler$Walk" "left" "[I" ∈ G_ := g_in (by decide +kernel) (by decide +kernel)
theorem wd28 : Cond.fieldLink "BlockRuler$Walk" 35 "BlockRuler$Walk" "reached" "I" ∈ G_ := g_in (by decide +kernel) (by decide +kernel)
theorem wd29 : Cond.code y_BlockRuler_holds b_BlockRuler_holds 3 (some .boolean) ∈ G_ := g_in (by decide +kernel) (by decide +kernel)
theorem wd30 : Cond.static y_BlockRuler_holds ∈ G_ := g_in (by decide +kernel) (by decide +kernel)
theorem wd31 : Cond.fieldLink "BlockRuler$Walk" 15 "BlockRuler$Walk" "orders" "[I" ∈ G_ := g_in (by decide +kernel) (by decide +kernel)
theorem wd32 : Cond.fieldLink "BlockRuler$Walk" 25 "BlockRuler$Walk" "taken" "[I" ∈ G_ := g_in (by decide +kernel) (by decide +kernel)
theorem wd33 : Cond.fieldLink "BlockRuler$Walk" 28 "BlockRuler$Walk" "comers" "[J" ∈ G_ := g_in (by decide +kernel) (by decide +kernel)
theorem wd34 : Cond.fieldLink "BlockRuler$Walk" 32 "BlockRuler$Walk" "comings" "[I" ∈ G_ := g_in (by decide +kernel) (by decide +kernel)
theorem wd35 : Cond.code y_BlockRuler_only b_BlockRuler_only 1 (some .long) ∈ G_ := g_in (by decide +kernel) (by decide +kernel)
theorem wd36 : Cond.static y_BlockRuler_only ∈ G_ := g_in (by decide +kernel) (by decide +kernel)
theorem wd37 : Cond.fieldLink "BlockRuler$Walk" 39 "BlockRuler$Walk" "reachedSet" "J" ∈ G_ := g_in (by decide +kernel) (by decide +kernel)
theorem wd38 : Cond.fieldLink "BlockRuler$Walk" 22 "BlockRuler$Walk" "open" "[I" ∈ G_ := g_in (by decide +kernel) (by decide +kernel)
theorem wd39 : Cond.fieldLink "BlockRuler$Walk" 9 "BlockRuler$Walk" "web" "LBlockRuler$Web;" ∈ G_ := g_in (by decide +kernel) (by decide +kernel)
theorem wd40 : Cond.fieldLink "BlockRuler$Walk" 65 "BlockRuler$Web" "degrees" "[I" ∈ G_ := g_in (by decide +kernel) (by decide +kernel)
theorem wd41 : Cond.methodLink "BlockRuler$Walk" 70 y_Web_endOf ∈ G_ := g_in (by decide +kernel) (by decide +kernel)
theorem wd42 : Cond.selects "BlockRuler$Walk" y_Walk_clear y_Walk_clear ∈ G_ := g_in (by decide +kernel) (by decide +kernel)
theorem wd43 : Cond.instanceMethod y_Walk_clear ∈ G_ := g_in (by decide +kernel) (by decide +kernel)
theorem wd44 : Cond.methodLink "BlockRuler$Walk" 43 y_Walk_clear ∈ G_ := g_in (by decide +kernel) (by decide +kernel)
theorem wd45 : Cond.initialized "BlockRuler$Walk" ∈ G_ := g_in (by decide +kernel) (by decide +kernel)
theorem wd46 : Cond.code y_Walk_clear b_Walk_clear 2 none ∈ G_ := g_in (by decide +kernel) (by decide +kernel)
theorem wd47 : Cond.selects "BlockRuler$Walk" y_Walk_goDeep y_Walk_goDeep ∈ G_ := g_in (by decide +kernel) (by decide +kernel)
theorem wd48 : Cond.instanceMethod y_Walk_goDeep ∈ G_ := g_in (by decide +kernel) (by decide +kernel)
theorem wd49 : Cond.methodLink "BlockRuler$Walk" 46 y_Walk_goDeep ∈ G_ := g_in (by decide +kernel) (by decide +kernel)
theorem wd50 : Cond.code y_Walk_goDeep b_Walk_goDeep 5 none ∈ G_ := g_in (by decide +kernel) (by decide +kernel)
theorem wd51 : Cond.selects "BlockRuler$Walk" y_Walk_blockAt y_Walk_blockAt ∈ G_ := g_in (by decide +kernel) (by decide +kernel)
theorem wd52 : Cond.instanceMethod y_Walk_blockAt ∈ G_ := g_in (by decide +kernel) (by decide +kernel)
theorem wd53 : Cond.methodLink "BlockRuler$Walk" 49 y_Walk_blockAt ∈ G_ := g_in (by decide +kernel) (by decide +kernel)
theorem wd54 : Cond.code y_Walk_blockAt b_Walk_blockAt 2 (some .int) ∈ G_ := g_in (by decide +kernel) (by decide +kernel)
theorem wd55 : Cond.selects "BlockRuler$Walk" y_Walk_markEndsOf y_Walk_markEndsOf ∈ G_ := g_in (by decide +kernel) (by decide +kernel)
theorem wd56 : Cond.instanceMethod y_Walk_markEndsOf ∈ G_ := g_in (by decide +kernel) (by decide +kernel)
theorem wd57 : Cond.methodLink "BlockRuler$Walk" 53 y_Walk_markEndsOf ∈ G_ := g_in (by decide +kernel) (by decide +kernel)
theorem wd58 : Cond.code y_Walk_markEndsOf b_Walk_markEndsOf 4 none ∈ G_ := g_in (by decide +kernel) (by decide +kernel)
theorem wd59 : Cond.fieldLink "BlockRuler$Rulers" 15 "BlockRuler$Rulers" "of" "[J" ∈ G_ := g_in (by decide +kernel) (by decide +kernel)
theorem wd60 : Cond.selects "BlockRuler$Rulers" y_Rulers_isRuled y_Rulers_isRuled ∈ G_ := g_in (by decide +kernel) (by decide +kernel)
theorem wd61 : Cond.instanceMethod y_Rulers_isRuled ∈ G_ := g_in (by decide +kernel) (by decide +kernel)
theorem wd62 : Cond.methodLink "BlockRuler$Rulers" 37 y_Rulers_isRuled ∈ G_ := g_in (by decide +kernel) (by decide +kernel)
theorem wd63 : Cond.initialized "BlockRuler$Rulers" ∈ G_ := g_in (by decide +kernel) (by decide +kernel)
theorem wd64 : Cond.code y_Rulers_isRuled b_Rulers_isRuled 3 (some .boolean) ∈ G_ := g_in (by decide +kernel) (by decide +kernel)
theorem wd65 : Cond.selects "BlockRuler$Rulers" y_Rulers_realmOf y_Rulers_realmOf ∈ G_ := g_in (by decide +kernel) (by decide +kernel)
theorem wd66 : Cond.instanceMethod y_Rulers_realmOf ∈ G_ := g_in (by decide +kernel) (by decide +kernel)
theorem wd67 : Cond.methodLink "BlockRuler$Rulers" 41 y_Rulers_realmOf ∈ G_ := g_in (by decide +kernel) (by decide +kernel)
theorem wd68 : Cond.code y_Rulers_realmOf b_Rulers_realmOf 5 (some .long) ∈ G_ := g_in (by decide +kernel) (by decide +kernel)
theorem wd69 : Cond.constantLong "BlockRuler$Rulers" 44 (-1) ∈ G_ := g_in (by decide +kernel) (by decide +kernel)
theorem wd70 : Cond.fieldLink "BlockRuler$Rulers" 9 "BlockRuler$Rulers" "walk" "LBlockRuler$Walk;" ∈ G_ := g_in (by decide +kernel) (by decide +kernel)
theorem wd71 : Cond.fieldLink "BlockRuler$Rulers" 46 "BlockRuler$Walk" "comers" "[J" ∈ G_ := g_in (by decide +kernel) (by decide +kernel)
theorem wd72 : Cond.fieldLink "BlockRuler$Rulers" 19 "BlockRuler$Walk" "reachedSet" "J" ∈ G_ := g_in (by decide +kernel) (by decide +kernel)
theorem wd73 : Cond.methodLink "BlockRuler$Rulers" 61 y_Long_bitCount ∈ G_ := g_in (by decide +kernel) (by decide +kernel)
theorem wd74 : Cond.fieldLink "BlockRuler$Rulers" 49 "BlockRuler$Walk" "reached" "I" ∈ G_ := g_in (by decide +kernel) (by decide +kernel)
theorem wd75 : Cond.methodLink "BlockRuler$Rulers" 53 y_Walk_blockAt ∈ G_ := g_in (by decide +kernel) (by decide +kernel)
theorem wd76 : Cond.selects "BlockRuler$Rulers" y_Rulers_sharedBy y_Rulers_sharedBy ∈ G_ := g_in (by decide +kernel) (by decide +kernel)
theorem wd77 : Cond.instanceMethod y_Rulers_sharedBy ∈ G_ := g_in (by decide +kernel) (by decide +kernel)
theorem wd78 : Cond.methodLink "BlockRuler$Rulers" 57 y_Rulers_sharedBy ∈ G_ := g_in (by decide +kernel) (by decide +kernel)
theorem wd79 : Cond.code y_Rulers_sharedBy b_Rulers_sharedBy 9 (some .long) ∈ G_ := g_in (by decide +kernel) (by decide +kernel)
theorem wd80 : Cond.selects "BlockRuler$Rulers" y_Rulers_narrow y_Rulers_narrow ∈ G_ := g_in (by decide +kernel) (by decide +kernel)
theorem wd81 : Cond.instanceMethod y_Rulers_narrow ∈ G_ := g_in (by decide +kernel) (by decide +kernel)
theorem wd82 : Cond.methodLink "BlockRuler$Rulers" 33 y_Rulers_narrow ∈ G_ := g_in (by decide +kernel) (by decide +kernel)
theorem wd83 : Cond.code y_Rulers_narrow b_Rulers_narrow 6 (some .boolean) ∈ G_ := g_in (by decide +kernel) (by decide +kernel)
theorem wd84 : Cond.fieldLink "BlockRuler$Loops" 9 "BlockRuler$Loops" "web" "LBlockRuler$Web;" ∈ G_ := g_in (by decide +kernel) (by decide +kernel)
theorem wd85 : Cond.methodLink "BlockRuler$Loops" 57 y_Web_endOf ∈ G_ := g_in (by decide +kernel) (by decide +kernel)
theorem wd86 : Cond.fieldLink "BlockRuler$Loops" 15 "BlockRuler$Loops" "walk" "LBlockRuler$Walk;" ∈ G_ := g_in (by decide +kernel) (by decide +kernel)
theorem wd87 : Cond.fieldLink "BlockRuler$Loops" 63 "BlockRuler$Walk" "orders" "[I" ∈ G_ := g_in (by decide +kernel) (by decide +kernel)
theorem wd88 : Cond.fieldLink "BlockRuler$Loops" 19 "BlockRuler$Loops" "rulers" "LBlockRuler$Rulers;" ∈ G_ := g_in (by decide +kernel) (by decide +kernel)
theorem wd89 : Cond.methodLink "BlockRuler$Loops" 67 y_Rulers_isRuled ∈ G_ := g_in (by decide +kernel) (by decide +kernel)
theorem wd90 : Cond.fieldLink "BlockRuler$Loops" 23 "BlockRuler$Loops" "of" "[J" ∈ G_ := g_in (by decide +kernel) (by decide +kernel)
theorem wd91 : Cond.selects "BlockRuler$Loops" y_Loops_depthOf y_Loops_depthOf ∈ G_ := g_in (by decide +kernel) (by decide +kernel)
theorem wd92 : Cond.instanceMethod y_Loops_depthOf ∈ G_ := g_in (by decide +kernel) (by decide +kernel)
theorem wd93 : Cond.methodLink "BlockRuler$Loops" 77 y_Loops_depthOf ∈ G_ := g_in (by decide +kernel) (by decide +kernel)
theorem wd94 : Cond.initialized "BlockRuler$Loops" ∈ G_ := g_in (by decide +kernel) (by decide +kernel)
theorem wd95 : Cond.code y_Loops_depthOf b_Loops_depthOf 4 (some .int) ∈ G_ := g_in (by decide +kernel) (by decide +kernel)
theorem wd96 : Cond.methodLink "BlockRuler$Loops" 80 Lib.Math.max.name ∈ G_ := g_in (by decide +kernel) (by decide +kernel)
theorem wd97 : Cond.static Lib.Math.max.name ∈ G_ := g_in (by decide +kernel) (by decide +kernel)
theorem wd98 : Cond.initialized "java/lang/Math" ∈ G_ := g_in (by decide +kernel) (by decide +kernel)
theorem wd99 : Cond.code Lib.Math.max.name Lib.Math.max.code 2 (some .int) ∈ G_ := g_in (by decide +kernel) (by decide +kernel)
theorem wd100 : Cond.fieldLink "BlockRuler$Loops" 40 "BlockRuler$Walk" "reached" "I" ∈ G_ := g_in (by decide +kernel) (by decide +kernel)
theorem wd101 : Cond.methodLink "BlockRuler$Loops" 45 y_Walk_blockAt ∈ G_ := g_in (by decide +kernel) (by decide +kernel)
theorem wd102 : Cond.methodLink "BlockRuler$Loops" 85 y_Long_bitCount ∈ G_ := g_in (by decide +kernel) (by decide +kernel)
theorem wd103 : Cond.fieldLink "BlockRuler$Loops" 27 "BlockRuler$Loops" "heads" "I" ∈ G_ := g_in (by decide +kernel) (by decide +kernel)
theorem wd104 : Cond.fieldLink "BlockRuler$Loops" 31 "BlockRuler$Loops" "backs" "I" ∈ G_ := g_in (by decide +kernel) (by decide +kernel)
theorem wd105 : Cond.fieldLink "BlockRuler$Loops" 34 "BlockRuler$Loops" "knots" "I" ∈ G_ := g_in (by decide +kernel) (by decide +kernel)
theorem wd106 : Cond.fieldLink "BlockRuler$Loops" 91 "BlockRuler$Web" "degrees" "[I" ∈ G_ := g_in (by decide +kernel) (by decide +kernel)
theorem wd107 : Cond.selects "BlockRuler$Loops" y_Loops_kindOf y_Loops_kindOf ∈ G_ := g_in (by decide +kernel) (by decide +kernel)
theorem wd108 : Cond.instanceMethod y_Loops_kindOf ∈ G_ := g_in (by decide +kernel) (by decide +kernel)
theorem wd109 : Cond.methodLink "BlockRuler$Loops" 94 y_Loops_kindOf ∈ G_ := g_in (by decide +kernel) (by decide +kernel)
theorem wd110 : Cond.code y_Loops_kindOf b_Loops_kindOf 4 (some .int) ∈ G_ := g_in (by decide +kernel) (by decide +kernel)
theorem wd111 : Cond.constantLong "BlockRuler$Loops" 101 (-1) ∈ G_ := g_in (by decide +kernel) (by decide +kernel)
theorem wd112 : Cond.fieldLink "BlockRuler$Loops" 103 "BlockRuler$Walk" "comers" "[J" ∈ G_ := g_in (by decide +kernel) (by decide +kernel)
theorem wd113 : Cond.selects "BlockRuler$Loops" y_Loops_clear y_Loops_clear ∈ G_ := g_in (by decide +kernel) (by decide +kernel)
theorem wd114 : Cond.instanceMethod y_Loops_clear ∈ G_ := g_in (by decide +kernel) (by decide +kernel)
theorem wd115 : Cond.methodLink "BlockRuler$Loops" 37 y_Loops_clear ∈ G_ := g_in (by decide +kernel) (by decide +kernel)
theorem wd116 : Cond.code y_Loops_clear b_Loops_clear 2 none ∈ G_ := g_in (by decide +kernel) (by decide +kernel)
theorem wd117 : Cond.selects "BlockRuler$Loops" y_Loops_markWaysOf y_Loops_markWaysOf ∈ G_ := g_in (by decide +kernel) (by decide +kernel)
theorem wd118 : Cond.instanceMethod y_Loops_markWaysOf ∈ G_ := g_in (by decide +kernel) (by decide +kernel)
theorem wd119 : Cond.methodLink "BlockRuler$Loops" 49 y_Loops_markWaysOf ∈ G_ := g_in (by decide +kernel) (by decide +kernel)
theorem wd120 : Cond.code y_Loops_markWaysOf b_Loops_markWaysOf 4 none ∈ G_ := g_in (by decide +kernel) (by decide +kernel)
theorem wd121 : Cond.selects "BlockRuler$Loops" y_Loops_grown y_Loops_grown ∈ G_ := g_in (by decide +kernel) (by decide +kernel)
theorem wd122 : Cond.instanceMethod y_Loops_grown ∈ G_ := g_in (by decide +kernel) (by decide +kernel)
theorem wd123 : Cond.methodLink "BlockRuler$Loops" 53 y_Loops_grown ∈ G_ := g_in (by decide +kernel) (by decide +kernel)
theorem wd124 : Cond.code y_Loops_grown b_Loops_grown 11 (some .long) ∈ G_ := g_in (by decide +kernel) (by decide +kernel)
theorem wd125 : Cond.fieldLink "BlockRuler" 43 "BlockRuler" "stale" "Z" ∈ G_ := g_in (by decide +kernel) (by decide +kernel)
theorem wd126 : Cond.fieldLink "BlockRuler" 21 "BlockRuler" "walk" "LBlockRuler$Walk;" ∈ G_ := g_in (by decide +kernel) (by decide +kernel)
theorem wd127 : Cond.selects "BlockRuler$Walk" y_Walk_make y_Walk_make ∈ G_ := g_in (by decide +kernel) (by decide +kernel)
theorem wd128 : Cond.instanceMethod y_Walk_make ∈ G_ := g_in (by decide +kernel) (by decide +kernel)
theorem wd129 : Cond.methodLink "BlockRuler" 182 y_Walk_make ∈ G_ := g_in (by decide +kernel) (by decide +kernel)
theorem wd130 : Cond.code y_Walk_make b_Walk_make 3 none ∈ G_ := g_in (by decide +kernel) (by decide +kernel)
theorem wd131 : Cond.fieldLink "BlockRuler" 30 "BlockRuler" "rulers" "LBlockRuler$Rulers;" ∈ G_ := g_in (by decide +kernel) (by decide +kernel)
theorem wd132 : Cond.selects "BlockRuler$Rulers" y_Rulers_make y_Rulers_make ∈ G_ := g_in (by decide +kernel) (by decide +kernel)
theorem wd133 : Cond.instanceMethod y_Rulers_make ∈ G_ := g_in (by decide +kernel) (by decide +kernel)
theorem wd134 : Cond.methodLink "BlockRuler" 185 y_Rulers_make ∈ G_ := g_in (by decide +kernel) (by decide +kernel)
theorem wd135 : Cond.code y_Rulers_make b_Rulers_make 3 none ∈ G_ := g_in (by decide +kernel) (by decide +kernel)
theorem wd136 : Cond.fieldLink "BlockRuler" 39 "BlockRuler" "loops" "LBlockRuler$Loops;" ∈ G_ := g_in (by decide +kernel) (by decide +kernel)
theorem wd137 : Cond.selects "BlockRuler$Loops" y_Loops_make y_Loops_make ∈ G_ := g_in (by decide +kernel) (by decide +kernel)
theorem wd138 : Cond.instanceMethod y_Loops_make ∈ G_ := g_in (by decide +kernel) (by decide +kernel)
theorem wd139 : Cond.methodLink "BlockRuler" 186 y_Loops_make ∈ G_ := g_in (by decide +kernel) (by decide +kernel)
theorem wd140 : Cond.code y_Loops_make b_Loops_make 2 none ∈ G_ := g_in (by decide +kernel) (by decide +kernel)
theorem wd141 : Cond.fieldLink "BlockRuler" 12 "BlockRuler" "web" "LBlockRuler$Web;" ∈ G_ := g_in (by decide +kernel) (by decide +kernel)
theorem wd142 : Cond.methodLink "BlockRuler" 62 y_Web_hasBlock ∈ G_ := g_in (by decide +kernel) (by decide +kernel)
theorem wd143 : Cond.fieldLink "BlockRuler" 103 "BlockRuler$Walk" "orders" "[I" ∈ G_ := g_in (by decide +kernel) (by decide +kernel)
theorem wd144 : Cond.fieldLink "BlockRuler" 47 "BlockRuler$Web" "blocks" "I" ∈ G_ := g_in (by decide +kernel) (by decide +kernel)
theorem wd145 : Cond.selects "BlockRuler$Web" y_Web_addBlock y_Web_addBlock ∈ G_ := g_in (by decide +kernel) (by decide +kernel)
theorem wd146 : Cond.instanceMethod y_Web_addBlock ∈ G_ := g_in (by decide +kernel) (by decide +kernel)
theorem wd147 : Cond.methodLink "BlockRuler" 58 y_Web_addBlock ∈ G_ := g_in (by decide +kernel) (by decide +kernel)
theorem wd148 : Cond.code y_Web_addBlock b_Web_addBlock 2 (some .int) ∈ G_ := g_in (by decide +kernel) (by decide +kernel)
theorem wd149 : Cond.fieldLink "BlockRuler" 71 "BlockRuler$Web" "degrees" "[I" ∈ G_ := g_in (by decide +kernel) (by decide +kernel)
theorem wd150 : Cond.selects "BlockRuler$Web" y_Web_addWay y_Web_addWay ∈ G_ := g_in (by decide +kernel) (by decide +kernel)
theorem wd151 : Cond.instanceMethod y_Web_addWay ∈ G_ := g_in (by decide +kernel) (by decide +kernel)
theorem wd152 : Cond.methodLink "BlockRuler" 77 y_Web_addWay ∈ G_ := g_in (by decide +kernel) (by decide +kernel)
theorem wd153 : Cond.code y_Web_addWay b_Web_addWay 4 (some .int) ∈ G_ := g_in (by decide +kernel) (by decide +kernel)
theorem wd154 : Cond.selects "BlockRuler$Web" y_Web_hasWay y_Web_hasWay ∈ G_ := g_in (by decide +kernel) (by decide +kernel)
theorem wd155 : Cond.instanceMethod y_Web_hasWay ∈ G_ := g_in (by decide +kernel) (by decide +kernel)
theorem wd156 : Cond.methodLink "BlockRuler" 81 y_Web_hasWay ∈ G_ := g_in (by decide +kernel) (by decide +kernel)
theorem wd157 : Cond.code y_Web_hasWay b_Web_hasWay 3 (some .boolean) ∈ G_ := g_in (by decide +kernel) (by decide +kernel)
theorem wd158 : Cond.selects "BlockRuler$Web" y_Web_removeWay y_Web_removeWay ∈ G_ := g_in (by decide +kernel) (by decide +kernel)
theorem wd159 : Cond.instanceMethod y_Web_removeWay ∈ G_ := g_in (by decide +kernel) (by decide +kernel)
theorem wd160 : Cond.methodLink "BlockRuler" 90 y_Web_removeWay ∈ G_ := g_in (by decide +kernel) (by decide +kernel)
theorem wd161 : Cond.code y_Web_removeWay b_Web_removeWay 6 (some .int) ∈ G_ := g_in (by decide +kernel) (by decide +kernel)
theorem wd162 : Cond.selects "BlockRuler$Web" y_Web_moveWay y_Web_moveWay ∈ G_ := g_in (by decide +kernel) (by decide +kernel)
theorem wd163 : Cond.instanceMethod y_Web_moveWay ∈ G_ := g_in (by decide +kernel) (by decide +kernel)
theorem wd164 : Cond.methodLink "BlockRuler" 93 y_Web_moveWay ∈ G_ := g_in (by decide +kernel) (by decide +kernel)
theorem wd165 : Cond.code y_Web_moveWay b_Web_moveWay 5 (some .int) ∈ G_ := g_in (by decide +kernel) (by decide +kernel)
theorem wd166 : Cond.selects "BlockRuler" y_BlockRuler_refresh y_BlockRuler_refresh ∈ G_ := g_in (by decide +kernel) (by decide +kernel)
theorem wd167 : Cond.instanceMethod y_BlockRuler_refresh ∈ G_ := g_in (by decide +kernel) (by decide +kernel)
theorem wd168 : Cond.methodLink "BlockRuler" 100 y_BlockRuler_refresh ∈ G_ := g_in (by decide +kernel) (by decide +kernel)
theorem wd169 : Cond.code y_BlockRuler_refresh b_BlockRuler_refresh 1 none ∈ G_ := g_in (by decide +kernel) (by decide +kernel)
theorem wd170 : Cond.selects "BlockRuler" y_BlockRuler_isReached y_BlockRuler_isReached ∈ G_ := g_in (by decide +kernel) (by decide +kernel)
theorem wd171 : Cond.instanceMethod y_BlockRuler_isReached ∈ G_ := g_in (by decide +kernel) (by decide +kernel)
theorem wd172 : Cond.methodLink "BlockRuler" 130 y_BlockRuler_isReached ∈ G_ := g_in (by decide +kernel) (by decide +kernel)
theorem wd173 : Cond.code y_BlockRuler_isReached b_BlockRuler_isReached 2 (some .boolean) ∈ G_ := g_in (by decide +kernel) (by decide +kernel)
theorem wd174 : Cond.fieldLink "BlockRuler" 113 "BlockRuler$Rulers" "of" "[J" ∈ G_ := g_in (by decide +kernel) (by decide +kernel)
theorem wd175 : Cond.selects "BlockRuler$Walk" y_Walk_lastOf y_Walk_lastOf ∈ G_ := g_in (by decide +kernel) (by decide +kernel)
theorem wd176 : Cond.instanceMethod y_Walk_lastOf ∈ G_ := g_in (by decide +kernel) (by decide +kernel)
theorem wd177 : Cond.methodLink "BlockRuler" 123 y_Walk_lastOf ∈ G_ := g_in (by decide +kernel) (by decide +kernel)
theorem wd178 : Cond.code y_Walk_lastOf b_Walk_lastOf 4 (some .int) ∈ G_ := g_in (by decide +kernel) (by decide +kernel)
theorem wd179 : Cond.methodLink "BlockRuler" 97 y_Web_endOf ∈ G_ := g_in (by decide +kernel) (by decide +kernel)
theorem wd180 : Cond.fieldLink "BlockRuler" 106 "BlockRuler$Walk" "reached" "I" ∈ G_ := g_in (by decide +kernel) (by decide +kernel)
theorem wd181 : Cond.methodLink "BlockRuler" 109 y_Walk_blockAt ∈ G_ := g_in (by decide +kernel) (by decide +kernel)
theorem wd182 : Cond.methodLink "BlockRuler" 117 y_BlockRuler_only ∈ G_ := g_in (by decide +kernel) (by decide +kernel)
theorem wd183 : Cond.constantLong "BlockRuler" 121 (-1) ∈ G_ := g_in (by decide +kernel) (by decide +kernel)
theorem wd184 : Cond.methodLink "BlockRuler" 127 y_Rulers_isRuled ∈ G_ := g_in (by decide +kernel) (by decide +kernel)
theorem wd185 : Cond.methodLink "BlockRuler" 135 y_Loops_kindOf ∈ G_ := g_in (by decide +kernel) (by decide +kernel)
theorem wd186 : Cond.fieldLink "BlockRuler" 138 "BlockRuler$Loops" "of" "[J" ∈ G_ := g_in (by decide +kernel) (by decide +kernel)
theorem wd187 : Cond.methodLink "BlockRuler" 139 y_BlockRuler_holds ∈ G_ := g_in (by decide +kernel) (by decide +kernel)
theorem wd188 : Cond.methodLink "BlockRuler" 148 y_Loops_depthOf ∈ G_ := g_in (by decide +kernel) (by decide +kernel)
theorem wd189 : Cond.selects "BlockRuler$Loops" y_Loops_innermostOf y_Loops_innermostOf ∈ G_ := g_in (by decide +kernel) (by decide +kernel)
theorem wd190 : Cond.instanceMethod y_Loops_innermostOf ∈ G_ := g_in (by decide +kernel) (by decide +kernel)
theorem wd191 : Cond.methodLink "BlockRuler" 151 y_Loops_innermostOf ∈ G_ := g_in (by decide +kernel) (by decide +kernel)
theorem wd192 : Cond.code y_Loops_innermostOf b_Loops_innermostOf 7 (some .int) ∈ G_ := g_in (by decide +kernel) (by decide +kernel)
theorem wd193 : Cond.methodLink "BlockRuler" 154 y_Rulers_realmOf ∈ G_ := g_in (by decide +kernel) (by decide +kernel)
theorem wd194 : Cond.fieldLink "BlockRuler" 157 "BlockRuler$Walk" "comings" "[I" ∈ G_ := g_in (by decide +kernel) (by decide +kernel)
theorem wd195 : Cond.selects "BlockRuler$Rulers" y_Rulers_edgeOf y_Rulers_edgeOf ∈ G_ := g_in (by decide +kernel) (by decide +kernel)
theorem wd196 : Cond.instanceMethod y_Rulers_edgeOf ∈ G_ := g_in (by decide +kernel) (by decide +kernel)
theorem wd197 : Cond.methodLink "BlockRuler" 160 y_Rulers_edgeOf ∈ G_ := g_in (by decide +kernel) (by decide +kernel)
theorem wd198 : Cond.code y_Rulers_edgeOf b_Rulers_edgeOf 9 (some .long) ∈ G_ := g_in (by decide +kernel) (by decide +kernel)
theorem wd199 : Cond.methodLink "BlockRuler" 163 y_BlockRuler_nth ∈ G_ := g_in (by decide +kernel) (by decide +kernel)
theorem wd200 : Cond.static y_BlockRuler_nth ∈ G_ := g_in (by decide +kernel) (by decide +kernel)
theorem wd201 : Cond.code y_BlockRuler_nth b_BlockRuler_nth 6 (some .int) ∈ G_ := g_in (by decide +kernel) (by decide +kernel)
theorem wd202 : Cond.fieldLink "BlockRuler" 167 "BlockRuler$Web" "ways" "I" ∈ G_ := g_in (by decide +kernel) (by decide +kernel)
theorem wd203 : Cond.fieldLink "BlockRuler" 170 "BlockRuler$Loops" "heads" "I" ∈ G_ := g_in (by decide +kernel) (by decide +kernel)
theorem wd204 : Cond.fieldLink "BlockRuler" 173 "BlockRuler$Loops" "backs" "I" ∈ G_ := g_in (by decide +kernel) (by decide +kernel)
theorem wd205 : Cond.fieldLink "BlockRuler" 176 "BlockRuler$Loops" "knots" "I" ∈ G_ := g_in (by decide +kernel) (by decide +kernel)
theorem wd206 : Cond.selects "BlockRuler$Loops" y_Loops_greatestDepth y_Loops_greatestDepth ∈ G_ := g_in (by decide +kernel) (by decide +kernel)
theorem wd207 : Cond.instanceMethod y_Loops_greatestDepth ∈ G_ := g_in (by decide +kernel) (by decide +kernel)
theorem wd208 : Cond.methodLink "BlockRuler" 179 y_Loops_greatestDepth ∈ G_ := g_in (by decide +kernel) (by decide +kernel)
theorem wd209 : Cond.code y_Loops_greatestDepth b_Loops_greatestDepth 3 (some .int) ∈ G_ := g_in (by decide +kernel) (by decide +kernel)
theorem wd210 : Cond.fieldLink "BlockRulerModel" 51 "BlockRulerModel" "thrown" "I" ∈ G_ := g_in (by decide +kernel) (by decide +kernel)
theorem wd211 : Cond.fieldLink "BlockRulerModel" 7 "BlockRulerModel" "blocks" "I" ∈ G_ := g_in (by decide +kernel) (by decide +kernel)
theorem wd212 : Cond.selects "BlockRulerModel" y_Model_isBlock y_Model_isBlock ∈ G_ := g_in (by decide +kernel) (by decide +kernel)
theorem wd213 : Cond.instanceMethod y_Model_isBlock ∈ G_ := g_in (by decide +kernel) (by decide +kernel)
theorem wd214 : Cond.methodLink "BlockRulerModel" 54 y_Model_isBlock ∈ G_ := g_in (by decide +kernel) (by decide +kernel)
theorem wd215 : Cond.initialized "BlockRulerModel" ∈ G_ := g_in (by decide +kernel) (by decide +kernel)
theorem wd216 : Cond.code y_Model_isBlock b_Model_isBlock 2 (some .boolean) ∈ G_ := g_in (by decide +kernel) (by decide +kernel)
theorem wd217 : Cond.fieldLink "BlockRulerModel" 13 "BlockRulerModel" "many" "[I" ∈ G_ := g_in (by decide +kernel) (by decide +kernel)
theorem wd218 : Cond.fieldLink "BlockRulerModel" 58 "BlockRulerModel" "isDone" "Z" ∈ G_ := g_in (by decide +kernel) (by decide +kernel)
theorem wd219 : Cond.fieldLink "BlockRulerModel" 17 "BlockRulerModel" "ends" "[I" ∈ G_ := g_in (by decide +kernel) (by decide +kernel)
theorem wd220 : Cond.selects "BlockRulerModel" y_Model_isWay y_Model_isWay ∈ G_ := g_in (by decide +kernel) (by decide +kernel)
theorem wd221 : Cond.instanceMethod y_Model_isWay ∈ G_ := g_in (by decide +kernel) (by decide +kernel)
theorem wd222 : Cond.methodLink "BlockRulerModel" 62 y_Model_isWay ∈ G_ := g_in (by decide +kernel) (by decide +kernel)
theorem wd223 : Cond.code y_Model_isWay b_Model_isWay 3 (some .boolean) ∈ G_ := g_in (by decide +kernel) (by decide +kernel)
theorem wd224 : Cond.fieldLink "BlockRulerModel" 20 "BlockRulerModel" "order" "[I" ∈ G_ := g_in (by decide +kernel) (by decide +kernel)
theorem wd225 : Cond.fieldLink "BlockRulerModel" 26 "BlockRulerModel" "rules" "[Z" ∈ G_ := g_in (by decide +kernel) (by decide +kernel)
theorem wd226 : Cond.fieldLink "BlockRulerModel" 42 "BlockRulerModel" "seen" "[Z" ∈ G_ := g_in (by decide +kernel) (by decide +kernel)
theorem wd227 : Cond.fieldLink "BlockRulerModel" 45 "BlockRulerModel" "pile" "[I" ∈ G_ := g_in (by decide +kernel) (by decide +kernel)
theorem wd228 : Cond.fieldLink "BlockRulerModel" 48 "BlockRulerModel" "next" "[I" ∈ G_ := g_in (by decide +kernel) (by decide +kernel)
theorem wd229 : Cond.fieldLink "BlockRulerModel" 23 "BlockRulerModel" "at" "[I" ∈ G_ := g_in (by decide +kernel) (by decide +kernel)
theorem wd230 : Cond.fieldLink "BlockRulerModel" 73 "BlockRulerModel" "reached" "I" ∈ G_ := g_in (by decide +kernel) (by decide +kernel)
theorem wd231 : Cond.fieldLink "BlockRulerModel" 39 "BlockRulerModel" "loopSize" "[I" ∈ G_ := g_in (by decide +kernel) (by decide +kernel)
theorem wd232 : Cond.selects "BlockRulerModel" y_Model_sortOf y_Model_sortOf ∈ G_ := g_in (by decide +kernel) (by decide +kernel)
theorem wd233 : Cond.instanceMethod y_Model_sortOf ∈ G_ := g_in (by decide +kernel) (by decide +kernel)
theorem wd234 : Cond.methodLink "BlockRulerModel" 76 y_Model_sortOf ∈ G_ := g_in (by decide +kernel) (by decide +kernel)
theorem wd235 : Cond.code y_Model_sortOf b_Model_sortOf 4 (some .int) ∈ G_ := g_in (by decide +kernel) (by decide +kernel)
theorem wd236 : Cond.fieldLink "BlockRulerModel" 36 "BlockRulerModel" "loop" "[Z" ∈ G_ := g_in (by decide +kernel) (by decide +kernel)
theorem wd237 : Cond.fieldLink "BlockRulerModel" 33 "BlockRulerModel" "isHead" "[Z" ∈ G_ := g_in (by decide +kernel) (by decide +kernel)
theorem wd238 : Cond.selects "BlockRulerModel" y_Model_orders y_Model_orders ∈ G_ := g_in (by decide +kernel) (by decide +kernel)
theorem wd239 : Cond.instanceMethod y_Model_orders ∈ G_ := g_in (by decide +kernel) (by decide +kernel)
theorem wd240 : Cond.methodLink "BlockRulerModel" 66 y_Model_orders ∈ G_ := g_in (by decide +kernel) (by decide +kernel)
theorem wd241 : Cond.code y_Model_orders b_Model_orders 5 none ∈ G_ := g_in (by decide +kernel) (by decide +kernel)
theorem wd242 : Cond.selects "BlockRulerModel" y_Model_leaveOut y_Model_leaveOut ∈ G_ := g_in (by decide +kernel) (by decide +kernel)
theorem wd243 : Cond.instanceMethod y_Model_leaveOut ∈ G_ := g_in (by decide +kernel) (by decide +kernel)
theorem wd244 : Cond.methodLink "BlockRulerModel" 69 y_Model_leaveOut ∈ G_ := g_in (by decide +kernel) (by decide +kernel)
theorem wd245 : Cond.code y_Model_leaveOut b_Model_leaveOut 6 none ∈ G_ := g_in (by decide +kernel) (by decide +kernel)
theorem wd246 : Cond.fieldLink "BlockRulerModel" 30 "BlockRulerModel" "parent" "[I" ∈ G_ := g_in (by decide +kernel) (by decide +kernel)
theorem wd247 : Cond.selects "BlockRulerModel" y_Model_loops y_Model_loops ∈ G_ := g_in (by decide +kernel) (by decide +kernel)
theorem wd248 : Cond.instanceMethod y_Model_loops ∈ G_ := g_in (by decide +kernel) (by decide +kernel)
theorem wd249 : Cond.methodLink "BlockRulerModel" 80 y_Model_loops ∈ G_ := g_in (by decide +kernel) (by decide +kernel)
theorem wd250 : Cond.code y_Model_loops b_Model_loops 6 none ∈ G_ := g_in (by decide +kernel) (by decide +kernel)
theorem wd251 : Cond.selects "BlockRulerModel" y_Model_reckon y_Model_reckon ∈ G_ := g_in (by decide +kernel) (by decide +kernel)
theorem wd252 : Cond.instanceMethod y_Model_reckon ∈ G_ := g_in (by decide +kernel) (by decide +kernel)
theorem wd253 : Cond.methodLink "BlockRulerModel" 83 y_Model_reckon ∈ G_ := g_in (by decide +kernel) (by decide +kernel)
theorem wd254 : Cond.code y_Model_reckon b_Model_reckon 3 none ∈ G_ := g_in (by decide +kernel) (by decide +kernel)
theorem wd255 : Cond.selects "BlockRulerModel" y_Model_isReached y_Model_isReached ∈ G_ := g_in (by decide +kernel) (by decide +kernel)
theorem wd256 : Cond.instanceMethod y_Model_isReached ∈ G_ := g_in (by decide +kernel) (by decide +kernel)
theorem wd257 : Cond.methodLink "BlockRulerModel" 86 y_Model_isReached ∈ G_ := g_in (by decide +kernel) (by decide +kernel)
theorem wd258 : Cond.code y_Model_isReached b_Model_isReached 2 (some .boolean) ∈ G_ := g_in (by decide +kernel) (by decide +kernel)
theorem wd259 : Cond.selects "BlockRulerModel" y_Model_depthOf y_Model_depthOf ∈ G_ := g_in (by decide +kernel) (by decide +kernel)
theorem wd260 : Cond.instanceMethod y_Model_depthOf ∈ G_ := g_in (by decide +kernel) (by decide +kernel)
theorem wd261 : Cond.methodLink "BlockRulerModel" 89 y_Model_depthOf ∈ G_ := g_in (by decide +kernel) (by decide +kernel)
theorem wd262 : Cond.code y_Model_depthOf b_Model_depthOf 4 (some .int) ∈ G_ := g_in (by decide +kernel) (by decide +kernel)
theorem wd263 : Cond.selects "BlockRulerModel" y_Model_innermost y_Model_innermost ∈ G_ := g_in (by decide +kernel) (by decide +kernel)
theorem wd264 : Cond.instanceMethod y_Model_innermost ∈ G_ := g_in (by decide +kernel) (by decide +kernel)
theorem wd265 : Cond.methodLink "BlockRulerModel" 93 y_Model_innermost ∈ G_ := g_in (by decide +kernel) (by decide +kernel)
theorem wd266 : Cond.code y_Model_innermost b_Model_innermost 5 (some .int) ∈ G_ := g_in (by decide +kernel) (by decide +kernel)
theorem wd267 : Cond.selects "BlockRulerModel" y_Model_isEdge y_Model_isEdge ∈ G_ := g_in (by decide +kernel) (by decide +kernel)
theorem wd268 : Cond.instanceMethod y_Model_isEdge ∈ G_ := g_in (by decide +kernel) (by decide +kernel)
theorem wd269 : Cond.methodLink "BlockRulerModel" 96 y_Model_isEdge ∈ G_ := g_in (by decide +kernel) (by decide +kernel)
theorem wd270 : Cond.code y_Model_isEdge b_Model_isEdge 6 (some .boolean) ∈ G_ := g_in (by decide +kernel) (by decide +kernel)
end
section
-- written by wip/gen (blockruler.py)
theorem d_Long_bitCount_0 : decode b_Long_bitCount 0 = .ok (.lload_n 0, 1) := by decide +kernel
theorem d_Long_bitCount_1 : decode b_Long_bitCount 1 = .ok (.lload_n 0, 1) := by decide +kernel
theorem d_Long_bitCount_2 : decode b_Long_bitCount 2 = .ok (.iconst 1, 1) := by decide +kernel
theorem d_Long_bitCount_3 : decode b_Long_bitCount 3 = .ok (.lushr, 1) := by decide +kernel
theorem d_Long_bitCount_4 : decode b_Long_bitCount 4 = .ok (.ldc2_w 314, 3) := by decide +kernel
theorem d_Long_bitCount_7 : decode b_Long_bitCount 7 = .ok (.land, 1) := by decide +kernel
theorem d_Long_bitCount_8 : decode b_Long_bitCount 8 = .ok (.lsub, 1) := by decide +kernel
theorem d_Long_bitCount_9 : decode b_Long_bitCount 9 = .ok (.lstore_n 0, 1) := by decide +kernel
theorem d_Long_bitCount_10 : decode b_Long_bitCount 10 = .ok (.lload_n 0, 1) := by decide +kernel
theorem d_Long_bitCount_11 : decode b_Long_bitCount 11 = .ok (.ldc2_w 316, 3) := by decide +kernel
theorem d_Long_bitCount_14 : decode b_Long_bitCount 14 = .ok (.land, 1) := by decide +kernel
theorem d_Long_bitCount_15 : decode b_Long_bitCount 15 = .ok (.lload_n 0, 1) := by decide +kernel
theorem d_Long_bitCount_16 : decode b_Long_bitCount 16 = .ok (.iconst 2, 1) := by decide +kernel
theorem d_Long_bitCount_17 : decode b_Long_bitCount 17 = .ok (.lushr, 1) := by decide +kernel
theorem d_Long_bitCount_18 : decode b_Long_bitCount 18 = .ok (.ldc2_w 316, 3) := by decide +kernel
theorem d_Long_bitCount_21 : decode b_Long_bitCount 21 = .ok (.land, 1) := by decide +kernel
theorem d_Long_bitCount_22 : decode b_Long_bitCount 22 = .ok (.ladd, 1) := by decide +kernel
theorem d_Long_bitCount_23 : decode b_Long_bitCount 23 = .ok (.lstore_n 0, 1) := by decide +kernel
theorem d_Long_bitCount_24 : decode b_Long_bitCount 24 = .ok (.lload_n 0, 1) := by decide +kernel
theorem d_Long_bitCount_25 : decode b_Long_bitCount 25 = .ok (.lload_n 0, 1) := by decide +kernel
theorem d_Long_bitCount_26 : decode b_Long_bitCount 26 = .ok (.iconst 4, 1) := by decide +kernel
theorem d_Long_bitCount_27 : decode b_Long_bitCount 27 = .ok (.lushr, 1) := by decide +kernel
theorem d_Long_bitCount_28 : decode b_Long_bitCount 28 = .ok (.ladd, 1) := by decide +kernel
theorem d_Long_bitCount_29 : decode b_Long_bitCount 29 = .ok (.ldc2_w 318, 3) := by decide +kernel
theorem d_Long_bitCount_32 : decode b_Long_bitCount 32 = .ok (.land, 1) := by decide +kernel
theorem d_Long_bitCount_33 : decode b_Long_bitCount 33 = .ok (.lstore_n 0, 1) := by decide +kernel
theorem d_Long_bitCount_34 : decode b_Long_bitCount 34 = .ok (.lload_n 0, 1) := by decide +kernel
theorem d_Long_bitCount_35 : decode b_Long_bitCount 35 = .ok (.lload_n 0, 1) := by decide +kernel
theorem d_Long_bitCount_36 : decode b_Long_bitCount 36 = .ok (.bipush 8, 2) := by decide +kernel
theorem d_Long_bitCount_38 : decode b_Long_bitCount 38 = .ok (.lushr, 1) := by decide +kernel
theorem d_Long_bitCount_39 : decode b_Long_bitCount 39 = .ok (.ladd, 1) := by decide +kernel
theorem d_Long_bitCount_40 : decode b_Long_bitCount 40 = .ok (.lstore_n 0, 1) := by decide +kernel
theorem d_Long_bitCount_41 : decode b_Long_bitCount 41 = .ok (.lload_n 0, 1) := by decide +kernel
theorem d_Long_bitCount_42 : decode b_Long_bitCount 42 = .ok (.lload_n 0, 1) := by decide +kernel
theorem d_Long_bitCount_43 : decode b_Long_bitCount 43 = .ok (.bipush 16, 2) := by decide +kernel
theorem d_Long_bitCount_45 : decode b_Long_bitCount 45 = .ok (.lushr, 1) := by decide +kernel
theorem d_Long_bitCount_46 : decode b_Long_bitCount 46 = .ok (.ladd, 1) := by decide +kernel
theorem d_Long_bitCount_47 : decode b_Long_bitCount 47 = .ok (.lstore_n 0, 1) := by decide +kernel
theorem d_Long_bitCount_48 : decode b_Long_bitCount 48 = .ok (.lload_n 0, 1) := by decide +kernel
theorem d_Long_bitCount_49 : decode b_Long_bitCount 49 = .ok (.lload_n 0, 1) := by decide +kernel
theorem d_Long_bitCount_50 : decode b_Long_bitCount 50 = .ok (.bipush 32, 2) := by decide +kernel
theorem d_Long_bitCount_52 : decode b_Long_bitCount 52 = .ok (.lushr, 1) := by decide +kernel
theorem d_Long_bitCount_53 : decode b_Long_bitCount 53 = .ok (.ladd, 1) := by decide +kernel
theorem d_Long_bitCount_54 : decode b_Long_bitCount 54 = .ok (.lstore_n 0, 1) := by decide +kernel
theorem d_Long_bitCount_55 : decode b_Long_bitCount 55 = .ok (.lload_n 0, 1) := by decide +kernel
theorem d_Long_bitCount_56 : decode b_Long_bitCount 56 = .ok (.l2i, 1) := by decide +kernel
theorem d_Long_bitCount_57 : decode b_Long_bitCount 57 = .ok (.bipush 127, 2) := by decide +kernel
theorem d_Long_bitCount_59 : decode b_Long_bitCount 59 = .ok (.iand, 1) := by decide +kernel
theorem d_Long_bitCount_60 : decode b_Long_bitCount 60 = .ok (.ireturn, 1) := by decide +kernel
theorem d_Web_hasBlock_0 : decode b_Web_hasBlock 0 = .ok (.iload_n 1, 1) := by decide +kernel
theorem d_Web_hasBlock_1 : decode b_Web_hasBlock 1 = .ok (.ifCond .lt 15, 3) := by decide +kernel
theorem d_Web_hasBlock_4 : decode b_Web_hasBlock 4 = .ok (.iload_n 1, 1) := by decide +kernel
theorem d_Web_hasBlock_5 : decode b_Web_hasBlock 5 = .ok (.aload_n 0, 1) := by decide +kernel
theorem d_Web_hasBlock_6 : decode b_Web_hasBlock 6 = .ok (.getfield 18, 3) := by decide +kernel
theorem d_Web_hasBlock_9 : decode b_Web_hasBlock 9 = .ok (.if_icmp .ge 7, 3) := by decide +kernel
theorem d_Web_hasBlock_12 : decode b_Web_hasBlock 12 = .ok (.iconst 1, 1) := by decide +kernel
theorem d_Web_hasBlock_13 : decode b_Web_hasBlock 13 = .ok (.goto 4, 3) := by decide +kernel
theorem d_Web_hasBlock_16 : decode b_Web_hasBlock 16 = .ok (.iconst 0, 1) := by decide +kernel
theorem d_Web_hasBlock_17 : decode b_Web_hasBlock 17 = .ok (.ireturn, 1) := by decide +kernel
theorem d_Web_hasWay_0 : decode b_Web_hasWay 0 = .ok (.aload_n 0, 1) := by decide +kernel
theorem d_Web_hasWay_1 : decode b_Web_hasWay 1 = .ok (.iload_n 1, 1) := by decide +kernel
theorem d_Web_hasWay_2 : decode b_Web_hasWay 2 = .ok (.invokevirtual 25, 3) := by decide +kernel
theorem d_Web_hasWay_5 : decode b_Web_hasWay 5 = .ok (.ifCond .eq 21, 3) := by decide +kernel
theorem d_Web_hasWay_8 : decode b_Web_hasWay 8 = .ok (.iload_n 2, 1) := by decide +kernel
theorem d_Web_hasWay_9 : decode b_Web_hasWay 9 = .ok (.ifCond .lt 17, 3) := by decide +kernel
theorem d_Web_hasWay_12 : decode b_Web_hasWay 12 = .ok (.iload_n 2, 1) := by decide +kernel
theorem d_Web_hasWay_13 : decode b_Web_hasWay 13 = .ok (.aload_n 0, 1) := by decide +kernel
theorem d_Web_hasWay_14 : decode b_Web_hasWay 14 = .ok (.getfield 9, 3) := by decide +kernel
theorem d_Web_hasWay_17 : decode b_Web_hasWay 17 = .ok (.iload_n 1, 1) := by decide +kernel
theorem d_Web_hasWay_18 : decode b_Web_hasWay 18 = .ok (.iaload, 1) := by decide +kernel
theorem d_Web_hasWay_19 : decode b_Web_hasWay 19 = .ok (.if_icmp .ge 7, 3) := by decide +kernel
theorem d_Web_hasWay_22 : decode b_Web_hasWay 22 = .ok (.iconst 1, 1) := by decide +kernel
theorem d_Web_hasWay_23 : decode b_Web_hasWay 23 = .ok (.goto 4, 3) := by decide +kernel
theorem d_Web_hasWay_26 : decode b_Web_hasWay 26 = .ok (.iconst 0, 1) := by decide +kernel
theorem d_Web_hasWay_27 : decode b_Web_hasWay 27 = .ok (.ireturn, 1) := by decide +kernel
theorem d_Web_endOf_0 : decode b_Web_endOf 0 = .ok (.aload_n 0, 1) := by decide +kernel
theorem d_Web_endOf_1 : decode b_Web_endOf 1 = .ok (.getfield 15, 3) := by decide +kernel
theorem d_Web_endOf_4 : decode b_Web_endOf 4 = .ok (.iload_n 1, 1) := by decide +kernel
theorem d_Web_endOf_5 : decode b_Web_endOf 5 = .ok (.bipush 8, 2) := by decide +kernel
theorem d_Web_endOf_7 : decode b_Web_endOf 7 = .ok (.imul, 1) := by decide +kernel
theorem d_Web_endOf_8 : decode b_Web_endOf 8 = .ok (.iload_n 2, 1) := by decide +kernel
theorem d_Web_endOf_9 : decode b_Web_endOf 9 = .ok (.iadd, 1) := by decide +kernel
theorem d_Web_endOf_10 : decode b_Web_endOf 10 = .ok (.iaload, 1) := by decide +kernel
theorem d_Web_endOf_11 : decode b_Web_endOf 11 = .ok (.ireturn, 1) := by decide +kernel
theorem d_Web_addBlock_0 : decode b_Web_addBlock 0 = .ok (.aload_n 0, 1) := by decide +kernel
theorem d_Web_addBlock_1 : decode b_Web_addBlock 1 = .ok (.getfield 18, 3) := by decide +kernel
theorem d_Web_addBlock_4 : decode b_Web_addBlock 4 = .ok (.istore_n 1, 1) := by decide +kernel
theorem d_Web_addBlock_5 : decode b_Web_addBlock 5 = .ok (.aload_n 0, 1) := by decide +kernel
theorem d_Web_addBlock_6 : decode b_Web_addBlock 6 = .ok (.dup, 1) := by decide +kernel
theorem d_Web_addBlock_7 : decode b_Web_addBlock 7 = .ok (.getfield 18, 3) := by decide +kernel
theorem d_Web_addBlock_10 : decode b_Web_addBlock 10 = .ok (.iconst 1, 1) := by decide +kernel
theorem d_Web_addBlock_11 : decode b_Web_addBlock 11 = .ok (.iadd, 1) := by decide +kernel
theorem d_Web_addBlock_12 : decode b_Web_addBlock 12 = .ok (.putfield 18, 3) := by decide +kernel
theorem d_Web_addBlock_15 : decode b_Web_addBlock 15 = .ok (.iload_n 1, 1) := by decide +kernel
theorem d_Web_addBlock_16 : decode b_Web_addBlock 16 = .ok (.ireturn, 1) := by decide +kernel
theorem d_Web_addWay_0 : decode b_Web_addWay 0 = .ok (.aload_n 0, 1) := by decide +kernel
theorem d_Web_addWay_1 : decode b_Web_addWay 1 = .ok (.getfield 9, 3) := by decide +kernel
theorem d_Web_addWay_4 : decode b_Web_addWay 4 = .ok (.iload_n 1, 1) := by decide +kernel
theorem d_Web_addWay_5 : decode b_Web_addWay 5 = .ok (.iaload, 1) := by decide +kernel
theorem d_Web_addWay_6 : decode b_Web_addWay 6 = .ok (.istore_n 3, 1) := by decide +kernel
theorem d_Web_addWay_7 : decode b_Web_addWay 7 = .ok (.aload_n 0, 1) := by decide +kernel
theorem d_Web_addWay_8 : decode b_Web_addWay 8 = .ok (.getfield 15, 3) := by decide +kernel
theorem d_Web_addWay_11 : decode b_Web_addWay 11 = .ok (.iload_n 1, 1) := by decide +kernel
theorem d_Web_addWay_12 : decode b_Web_addWay 12 = .ok (.bipush 8, 2) := by decide +kernel
theorem d_Web_addWay_14 : decode b_Web_addWay 14 = .ok (.imul, 1) := by decide +kernel
theorem d_Web_addWay_15 : decode b_Web_addWay 15 = .ok (.iload_n 3, 1) := by decide +kernel
theorem d_Web_addWay_16 : decode b_Web_addWay 16 = .ok (.iadd, 1) := by decide +kernel
theorem d_Web_addWay_17 : decode b_Web_addWay 17 = .ok (.iload_n 2, 1) := by decide +kernel
theorem d_Web_addWay_18 : decode b_Web_addWay 18 = .ok (.iastore, 1) := by decide +kernel
theorem d_Web_addWay_19 : decode b_Web_addWay 19 = .ok (.aload_n 0, 1) := by decide +kernel
theorem d_Web_addWay_20 : decode b_Web_addWay 20 = .ok (.getfield 9, 3) := by decide +kernel
theorem d_Web_addWay_23 : decode b_Web_addWay 23 = .ok (.iload_n 1, 1) := by decide +kernel
theorem d_Web_addWay_24 : decode b_Web_addWay 24 = .ok (.dup2, 1) := by decide +kernel
theorem d_Web_addWay_25 : decode b_Web_addWay 25 = .ok (.iaload, 1) := by decide +kernel
theorem d_Web_addWay_26 : decode b_Web_addWay 26 = .ok (.iconst 1, 1) := by decide +kernel
theorem d_Web_addWay_27 : decode b_Web_addWay 27 = .ok (.iadd, 1) := by decide +kernel
theorem d_Web_addWay_28 : decode b_Web_addWay 28 = .ok (.iastore, 1) := by decide +kernel
theorem d_Web_addWay_29 : decode b_Web_addWay 29 = .ok (.aload_n 0, 1) := by decide +kernel
theorem d_Web_addWay_30 : decode b_Web_addWay 30 = .ok (.dup, 1) := by decide +kernel
theorem d_Web_addWay_31 : decode b_Web_addWay 31 = .ok (.getfield 22, 3) := by decide +kernel
theorem d_Web_addWay_34 : decode b_Web_addWay 34 = .ok (.iconst 1, 1) := by decide +kernel
theorem d_Web_addWay_35 : decode b_Web_addWay 35 = .ok (.iadd, 1) := by decide +kernel
theorem d_Web_addWay_36 : decode b_Web_addWay 36 = .ok (.putfield 22, 3) := by decide +kernel
theorem d_Web_addWay_39 : decode b_Web_addWay 39 = .ok (.iload_n 3, 1) := by decide +kernel
theorem d_Web_addWay_40 : decode b_Web_addWay 40 = .ok (.ireturn, 1) := by decide +kernel
theorem d_Web_removeWay_0 : decode b_Web_removeWay 0 = .ok (.aload_n 0, 1) := by decide +kernel
theorem d_Web_removeWay_1 : decode b_Web_removeWay 1 = .ok (.iload_n 1, 1) := by decide +kernel
theorem d_Web_removeWay_2 : decode b_Web_removeWay 2 = .ok (.iload_n 2, 1) := by decide +kernel
theorem d_Web_removeWay_3 : decode b_Web_removeWay 3 = .ok (.invokevirtual 29, 3) := by decide +kernel
theorem d_Web_removeWay_6 : decode b_Web_removeWay 6 = .ok (.istore_n 3, 1) := by decide +kernel
theorem d_Web_removeWay_7 : decode b_Web_removeWay 7 = .ok (.iload_n 1, 1) := by decide +kernel
theorem d_Web_removeWay_8 : decode b_Web_removeWay 8 = .ok (.bipush 8, 2) := by decide +kernel
theorem d_Web_removeWay_10 : decode b_Web_removeWay 10 = .ok (.imul, 1) := by decide +kernel
theorem d_Web_removeWay_11 : decode b_Web_removeWay 11 = .ok (.istore 4, 2) := by decide +kernel
theorem d_Web_removeWay_13 : decode b_Web_removeWay 13 = .ok (.iload_n 2, 1) := by decide +kernel
theorem d_Web_removeWay_14 : decode b_Web_removeWay 14 = .ok (.iconst 1, 1) := by decide +kernel
theorem d_Web_removeWay_15 : decode b_Web_removeWay 15 = .ok (.iadd, 1) := by decide +kernel
theorem d_Web_removeWay_16 : decode b_Web_removeWay 16 = .ok (.istore 5, 2) := by decide +kernel
theorem d_Web_removeWay_18 : decode b_Web_removeWay 18 = .ok (.iload 5, 2) := by decide +kernel
theorem d_Web_removeWay_20 : decode b_Web_removeWay 20 = .ok (.aload_n 0, 1) := by decide +kernel
theorem d_Web_removeWay_21 : decode b_Web_removeWay 21 = .ok (.getfield 9, 3) := by decide +kernel
theorem d_Web_removeWay_24 : decode b_Web_removeWay 24 = .ok (.iload_n 1, 1) := by decide +kernel
theorem d_Web_removeWay_25 : decode b_Web_removeWay 25 = .ok (.iaload, 1) := by decide +kernel
theorem d_Web_removeWay_26 : decode b_Web_removeWay 26 = .ok (.if_icmp .ge 31, 3) := by decide +kernel
theorem d_Web_removeWay_29 : decode b_Web_removeWay 29 = .ok (.aload_n 0, 1) := by decide +kernel
theorem d_Web_removeWay_30 : decode b_Web_removeWay 30 = .ok (.getfield 15, 3) := by decide +kernel
theorem d_Web_removeWay_33 : decode b_Web_removeWay 33 = .ok (.iload 4, 2) := by decide +kernel
theorem d_Web_removeWay_35 : decode b_Web_removeWay 35 = .ok (.iload 5, 2) := by decide +kernel
theorem d_Web_removeWay_37 : decode b_Web_removeWay 37 = .ok (.iadd, 1) := by decide +kernel
theorem d_Web_removeWay_38 : decode b_Web_removeWay 38 = .ok (.iconst 1, 1) := by decide +kernel
theorem d_Web_removeWay_39 : decode b_Web_removeWay 39 = .ok (.isub, 1) := by decide +kernel
theorem d_Web_removeWay_40 : decode b_Web_removeWay 40 = .ok (.aload_n 0, 1) := by decide +kernel
theorem d_Web_removeWay_41 : decode b_Web_removeWay 41 = .ok (.getfield 15, 3) := by decide +kernel
theorem d_Web_removeWay_44 : decode b_Web_removeWay 44 = .ok (.iload 4, 2) := by decide +kernel
theorem d_Web_removeWay_46 : decode b_Web_removeWay 46 = .ok (.iload 5, 2) := by decide +kernel
theorem d_Web_removeWay_48 : decode b_Web_removeWay 48 = .ok (.iadd, 1) := by decide +kernel
theorem d_Web_removeWay_49 : decode b_Web_removeWay 49 = .ok (.iaload, 1) := by decide +kernel
theorem d_Web_removeWay_50 : decode b_Web_removeWay 50 = .ok (.iastore, 1) := by decide +kernel
theorem d_Web_removeWay_51 : decode b_Web_removeWay 51 = .ok (.iinc 5 1, 3) := by decide +kernel
theorem d_Web_removeWay_54 : decode b_Web_removeWay 54 = .ok (.goto (-36), 3) := by decide +kernel
theorem d_Web_removeWay_57 : decode b_Web_removeWay 57 = .ok (.aload_n 0, 1) := by decide +kernel
theorem d_Web_removeWay_58 : decode b_Web_removeWay 58 = .ok (.getfield 9, 3) := by decide +kernel
theorem d_Web_removeWay_61 : decode b_Web_removeWay 61 = .ok (.iload_n 1, 1) := by decide +kernel
theorem d_Web_removeWay_62 : decode b_Web_removeWay 62 = .ok (.dup2, 1) := by decide +kernel
theorem d_Web_removeWay_63 : decode b_Web_removeWay 63 = .ok (.iaload, 1) := by decide +kernel
theorem d_Web_removeWay_64 : decode b_Web_removeWay 64 = .ok (.iconst 1, 1) := by decide +kernel
theorem d_Web_removeWay_65 : decode b_Web_removeWay 65 = .ok (.isub, 1) := by decide +kernel
theorem d_Web_removeWay_66 : decode b_Web_removeWay 66 = .ok (.iastore, 1) := by decide +kernel
theorem d_Web_removeWay_67 : decode b_Web_removeWay 67 = .ok (.aload_n 0, 1) := by decide +kernel
theorem d_Web_removeWay_68 : decode b_Web_removeWay 68 = .ok (.dup, 1) := by decide +kernel
theorem d_Web_removeWay_69 : decode b_Web_removeWay 69 = .ok (.getfield 22, 3) := by decide +kernel
theorem d_Web_removeWay_72 : decode b_Web_removeWay 72 = .ok (.iconst 1, 1) := by decide +kernel
theorem d_Web_removeWay_73 : decode b_Web_removeWay 73 = .ok (.isub, 1) := by decide +kernel
theorem d_Web_removeWay_74 : decode b_Web_removeWay 74 = .ok (.putfield 22, 3) := by decide +kernel
theorem d_Web_removeWay_77 : decode b_Web_removeWay 77 = .ok (.iload_n 3, 1) := by decide +kernel
theorem d_Web_removeWay_78 : decode b_Web_removeWay 78 = .ok (.ireturn, 1) := by decide +kernel
theorem d_Web_moveWay_0 : decode b_Web_moveWay 0 = .ok (.aload_n 0, 1) := by decide +kernel
theorem d_Web_moveWay_1 : decode b_Web_moveWay 1 = .ok (.iload_n 1, 1) := by decide +kernel
theorem d_Web_moveWay_2 : decode b_Web_moveWay 2 = .ok (.iload_n 2, 1) := by decide +kernel
theorem d_Web_moveWay_3 : decode b_Web_moveWay 3 = .ok (.invokevirtual 29, 3) := by decide +kernel
theorem d_Web_moveWay_6 : decode b_Web_moveWay 6 = .ok (.istore 4, 2) := by decide +kernel
theorem d_Web_moveWay_8 : decode b_Web_moveWay 8 = .ok (.aload_n 0, 1) := by decide +kernel
theorem d_Web_moveWay_9 : decode b_Web_moveWay 9 = .ok (.getfield 15, 3) := by decide +kernel
theorem d_Web_moveWay_12 : decode b_Web_moveWay 12 = .ok (.iload_n 1, 1) := by decide +kernel
theorem d_Web_moveWay_13 : decode b_Web_moveWay 13 = .ok (.bipush 8, 2) := by decide +kernel
theorem d_Web_moveWay_15 : decode b_Web_moveWay 15 = .ok (.imul, 1) := by decide +kernel
theorem d_Web_moveWay_16 : decode b_Web_moveWay 16 = .ok (.iload_n 2, 1) := by decide +kernel
theorem d_Web_moveWay_17 : decode b_Web_moveWay 17 = .ok (.iadd, 1) := by decide +kernel
theorem d_Web_moveWay_18 : decode b_Web_moveWay 18 = .ok (.iload_n 3, 1) := by decide +kernel
theorem d_Web_moveWay_19 : decode b_Web_moveWay 19 = .ok (.iastore, 1) := by decide +kernel
theorem d_Web_moveWay_20 : decode b_Web_moveWay 20 = .ok (.iload 4, 2) := by decide +kernel
theorem d_Web_moveWay_22 : decode b_Web_moveWay 22 = .ok (.ireturn, 1) := by decide +kernel
theorem d_BlockRuler_only_0 : decode b_BlockRuler_only 0 = .ok (.lconst 1, 1) := by decide +kernel
theorem d_BlockRuler_only_1 : decode b_BlockRuler_only 1 = .ok (.iload_n 0, 1) := by decide +kernel
theorem d_BlockRuler_only_2 : decode b_BlockRuler_only 2 = .ok (.lshl, 1) := by decide +kernel
theorem d_BlockRuler_only_3 : decode b_BlockRuler_only 3 = .ok (.lreturn, 1) := by decide +kernel
theorem d_BlockRuler_holds_0 : decode b_BlockRuler_holds 0 = .ok (.lload_n 0, 1) := by decide +kernel
theorem d_BlockRuler_holds_1 : decode b_BlockRuler_holds 1 = .ok (.iload_n 2, 1) := by decide +kernel
theorem d_BlockRuler_holds_2 : decode b_BlockRuler_holds 2 = .ok (.lushr, 1) := by decide +kernel
theorem d_BlockRuler_holds_3 : decode b_BlockRuler_holds 3 = .ok (.lconst 1, 1) := by decide +kernel
theorem d_BlockRuler_holds_4 : decode b_BlockRuler_holds 4 = .ok (.land, 1) := by decide +kernel
theorem d_BlockRuler_holds_5 : decode b_BlockRuler_holds 5 = .ok (.lconst 0, 1) := by decide +kernel
theorem d_BlockRuler_holds_6 : decode b_BlockRuler_holds 6 = .ok (.lcmp, 1) := by decide +kernel
theorem d_BlockRuler_holds_7 : decode b_BlockRuler_holds 7 = .ok (.ifCond .eq 7, 3) := by decide +kernel
theorem d_BlockRuler_holds_10 : decode b_BlockRuler_holds 10 = .ok (.iconst 1, 1) := by decide +kernel
theorem d_BlockRuler_holds_11 : decode b_BlockRuler_holds 11 = .ok (.goto 4, 3) := by decide +kernel
theorem d_BlockRuler_holds_14 : decode b_BlockRuler_holds 14 = .ok (.iconst 0, 1) := by decide +kernel
theorem d_BlockRuler_holds_15 : decode b_BlockRuler_holds 15 = .ok (.ireturn, 1) := by decide +kernel
theorem d_BlockRuler_least_0 : decode b_BlockRuler_least 0 = .ok (.lload_n 0, 1) := by decide +kernel
theorem d_BlockRuler_least_1 : decode b_BlockRuler_least 1 = .ok (.lload_n 0, 1) := by decide +kernel
theorem d_BlockRuler_least_2 : decode b_BlockRuler_least 2 = .ok (.lneg, 1) := by decide +kernel
theorem d_BlockRuler_least_3 : decode b_BlockRuler_least 3 = .ok (.land, 1) := by decide +kernel
theorem d_BlockRuler_least_4 : decode b_BlockRuler_least 4 = .ok (.lconst 1, 1) := by decide +kernel
theorem d_BlockRuler_least_5 : decode b_BlockRuler_least 5 = .ok (.lsub, 1) := by decide +kernel
theorem d_BlockRuler_least_6 : decode b_BlockRuler_least 6 = .ok (.invokestatic 143, 3) := by decide +kernel
theorem d_BlockRuler_least_9 : decode b_BlockRuler_least 9 = .ok (.ireturn, 1) := by decide +kernel
theorem d_BlockRuler_withoutLeast_0 : decode b_BlockRuler_withoutLeast 0 = .ok (.lload_n 0, 1) := by decide +kernel
theorem d_BlockRuler_withoutLeast_1 : decode b_BlockRuler_withoutLeast 1 = .ok (.lload_n 0, 1) := by decide +kernel
theorem d_BlockRuler_withoutLeast_2 : decode b_BlockRuler_withoutLeast 2 = .ok (.lconst 1, 1) := by decide +kernel
theorem d_BlockRuler_withoutLeast_3 : decode b_BlockRuler_withoutLeast 3 = .ok (.lsub, 1) := by decide +kernel
theorem d_BlockRuler_withoutLeast_4 : decode b_BlockRuler_withoutLeast 4 = .ok (.land, 1) := by decide +kernel
theorem d_BlockRuler_withoutLeast_5 : decode b_BlockRuler_withoutLeast 5 = .ok (.lreturn, 1) := by decide +kernel
theorem d_BlockRuler_nth_0 : decode b_BlockRuler_nth 0 = .ok (.iload_n 2, 1) := by decide +kernel
theorem d_BlockRuler_nth_1 : decode b_BlockRuler_nth 1 = .ok (.ifCond .lt 11, 3) := by decide +kernel
theorem d_BlockRuler_nth_4 : decode b_BlockRuler_nth 4 = .ok (.iload_n 2, 1) := by decide +kernel
theorem d_BlockRuler_nth_5 : decode b_BlockRuler_nth 5 = .ok (.lload_n 0, 1) := by decide +kernel
theorem d_BlockRuler_nth_6 : decode b_BlockRuler_nth 6 = .ok (.invokestatic 143, 3) := by decide +kernel
theorem d_BlockRuler_nth_9 : decode b_BlockRuler_nth 9 = .ok (.if_icmp .lt 5, 3) := by decide +kernel
theorem d_BlockRuler_nth_12 : decode b_BlockRuler_nth 12 = .ok (.iconst (-1), 1) := by decide +kernel
theorem d_BlockRuler_nth_13 : decode b_BlockRuler_nth 13 = .ok (.ireturn, 1) := by decide +kernel
theorem d_BlockRuler_nth_14 : decode b_BlockRuler_nth 14 = .ok (.lload_n 0, 1) := by decide +kernel
theorem d_BlockRuler_nth_15 : decode b_BlockRuler_nth 15 = .ok (.lstore_n 3, 1) := by decide +kernel
theorem d_BlockRuler_nth_16 : decode b_BlockRuler_nth 16 = .ok (.iconst 0, 1) := by decide +kernel
theorem d_BlockRuler_nth_17 : decode b_BlockRuler_nth 17 = .ok (.istore 5, 2) := by decide +kernel
theorem d_BlockRuler_nth_19 : decode b_BlockRuler_nth 19 = .ok (.iload 5, 2) := by decide +kernel
theorem d_BlockRuler_nth_21 : decode b_BlockRuler_nth 21 = .ok (.iload_n 2, 1) := by decide +kernel
theorem d_BlockRuler_nth_22 : decode b_BlockRuler_nth 22 = .ok (.if_icmp .ge 14, 3) := by decide +kernel
theorem d_BlockRuler_nth_25 : decode b_BlockRuler_nth 25 = .ok (.lload_n 3, 1) := by decide +kernel
theorem d_BlockRuler_nth_26 : decode b_BlockRuler_nth 26 = .ok (.invokestatic 187, 3) := by decide +kernel
theorem d_BlockRuler_nth_29 : decode b_BlockRuler_nth 29 = .ok (.lstore_n 3, 1) := by decide +kernel
theorem d_BlockRuler_nth_30 : decode b_BlockRuler_nth 30 = .ok (.iinc 5 1, 3) := by decide +kernel
theorem d_BlockRuler_nth_33 : decode b_BlockRuler_nth 33 = .ok (.goto (-14), 3) := by decide +kernel
theorem d_BlockRuler_nth_36 : decode b_BlockRuler_nth 36 = .ok (.lload_n 3, 1) := by decide +kernel
theorem d_BlockRuler_nth_37 : decode b_BlockRuler_nth 37 = .ok (.invokestatic 191, 3) := by decide +kernel
theorem d_BlockRuler_nth_40 : decode b_BlockRuler_nth 40 = .ok (.ireturn, 1) := by decide +kernel
theorem d_Walk_blockAt_0 : decode b_Walk_blockAt 0 = .ok (.aload_n 0, 1) := by decide +kernel
theorem d_Walk_blockAt_1 : decode b_Walk_blockAt 1 = .ok (.getfield 19, 3) := by decide +kernel
theorem d_Walk_blockAt_4 : decode b_Walk_blockAt 4 = .ok (.aload_n 0, 1) := by decide +kernel
theorem d_Walk_blockAt_5 : decode b_Walk_blockAt 5 = .ok (.getfield 35, 3) := by decide +kernel
theorem d_Walk_blockAt_8 : decode b_Walk_blockAt 8 = .ok (.iconst 1, 1) := by decide +kernel
theorem d_Walk_blockAt_9 : decode b_Walk_blockAt 9 = .ok (.isub, 1) := by decide +kernel
theorem d_Walk_blockAt_10 : decode b_Walk_blockAt 10 = .ok (.iload_n 1, 1) := by decide +kernel
theorem d_Walk_blockAt_11 : decode b_Walk_blockAt 11 = .ok (.isub, 1) := by decide +kernel
theorem d_Walk_blockAt_12 : decode b_Walk_blockAt 12 = .ok (.iaload, 1) := by decide +kernel
theorem d_Walk_blockAt_13 : decode b_Walk_blockAt 13 = .ok (.ireturn, 1) := by decide +kernel
theorem d_Walk_lastOf_0 : decode b_Walk_lastOf 0 = .ok (.iconst 0, 1) := by decide +kernel
theorem d_Walk_lastOf_1 : decode b_Walk_lastOf 1 = .ok (.istore_n 3, 1) := by decide +kernel
theorem d_Walk_lastOf_2 : decode b_Walk_lastOf 2 = .ok (.iload_n 3, 1) := by decide +kernel
theorem d_Walk_lastOf_3 : decode b_Walk_lastOf 3 = .ok (.aload_n 0, 1) := by decide +kernel
theorem d_Walk_lastOf_4 : decode b_Walk_lastOf 4 = .ok (.getfield 35, 3) := by decide +kernel
theorem d_Walk_lastOf_7 : decode b_Walk_lastOf 7 = .ok (.if_icmp .ge 29, 3) := by decide +kernel
theorem d_Walk_lastOf_10 : decode b_Walk_lastOf 10 = .ok (.lload_n 1, 1) := by decide +kernel
theorem d_Walk_lastOf_11 : decode b_Walk_lastOf 11 = .ok (.aload_n 0, 1) := by decide +kernel
theorem d_Walk_lastOf_12 : decode b_Walk_lastOf 12 = .ok (.getfield 19, 3) := by decide +kernel
theorem d_Walk_lastOf_15 : decode b_Walk_lastOf 15 = .ok (.iload_n 3, 1) := by decide +kernel
theorem d_Walk_lastOf_16 : decode b_Walk_lastOf 16 = .ok (.iaload, 1) := by decide +kernel
theorem d_Walk_lastOf_17 : decode b_Walk_lastOf 17 = .ok (.invokestatic 57, 3) := by decide +kernel
theorem d_Walk_lastOf_20 : decode b_Walk_lastOf 20 = .ok (.ifCond .eq 10, 3) := by decide +kernel
theorem d_Walk_lastOf_23 : decode b_Walk_lastOf 23 = .ok (.aload_n 0, 1) := by decide +kernel
theorem d_Walk_lastOf_24 : decode b_Walk_lastOf 24 = .ok (.getfield 19, 3) := by decide +kernel
theorem d_Walk_lastOf_27 : decode b_Walk_lastOf 27 = .ok (.iload_n 3, 1) := by decide +kernel
theorem d_Walk_lastOf_28 : decode b_Walk_lastOf 28 = .ok (.iaload, 1) := by decide +kernel
theorem d_Walk_lastOf_29 : decode b_Walk_lastOf 29 = .ok (.ireturn, 1) := by decide +kernel
theorem d_Walk_lastOf_30 : decode b_Walk_lastOf 30 = .ok (.iinc 3 1, 3) := by decide +kernel
theorem d_Walk_lastOf_33 : decode b_Walk_lastOf 33 = .ok (.goto (-31), 3) := by decide +kernel
theorem d_Walk_lastOf_36 : decode b_Walk_lastOf 36 = .ok (.iconst (-1), 1) := by decide +kernel
theorem d_Walk_lastOf_37 : decode b_Walk_lastOf 37 = .ok (.ireturn, 1) := by decide +kernel
theorem d_Walk_clear_0 : decode b_Walk_clear 0 = .ok (.aload_n 0, 1) := by decide +kernel
theorem d_Walk_clear_1 : decode b_Walk_clear 1 = .ok (.iconst 0, 1) := by decide +kernel
theorem d_Walk_clear_2 : decode b_Walk_clear 2 = .ok (.putfield 35, 3) := by decide +kernel
theorem d_Walk_clear_5 : decode b_Walk_clear 5 = .ok (.iconst 0, 1) := by decide +kernel
theorem d_Walk_clear_6 : decode b_Walk_clear 6 = .ok (.istore_n 1, 1) := by decide +kernel
theorem d_Walk_clear_7 : decode b_Walk_clear 7 = .ok (.iload_n 1, 1) := by decide +kernel
theorem d_Walk_clear_8 : decode b_Walk_clear 8 = .ok (.bipush 64, 2) := by decide +kernel
theorem d_Walk_clear_10 : decode b_Walk_clear 10 = .ok (.if_icmp .ge 37, 3) := by decide +kernel
theorem d_Walk_clear_13 : decode b_Walk_clear 13 = .ok (.aload_n 0, 1) := by decide +kernel
theorem d_Walk_clear_14 : decode b_Walk_clear 14 = .ok (.getfield 15, 3) := by decide +kernel
theorem d_Walk_clear_17 : decode b_Walk_clear 17 = .ok (.iload_n 1, 1) := by decide +kernel
theorem d_Walk_clear_18 : decode b_Walk_clear 18 = .ok (.iconst (-1), 1) := by decide +kernel
theorem d_Walk_clear_19 : decode b_Walk_clear 19 = .ok (.iastore, 1) := by decide +kernel
theorem d_Walk_clear_20 : decode b_Walk_clear 20 = .ok (.aload_n 0, 1) := by decide +kernel
theorem d_Walk_clear_21 : decode b_Walk_clear 21 = .ok (.getfield 25, 3) := by decide +kernel
theorem d_Walk_clear_24 : decode b_Walk_clear 24 = .ok (.iload_n 1, 1) := by decide +kernel
theorem d_Walk_clear_25 : decode b_Walk_clear 25 = .ok (.iconst 0, 1) := by decide +kernel
theorem d_Walk_clear_26 : decode b_Walk_clear 26 = .ok (.iastore, 1) := by decide +kernel
theorem d_Walk_clear_27 : decode b_Walk_clear 27 = .ok (.aload_n 0, 1) := by decide +kernel
theorem d_Walk_clear_28 : decode b_Walk_clear 28 = .ok (.getfield 28, 3) := by decide +kernel
theorem d_Walk_clear_31 : decode b_Walk_clear 31 = .ok (.iload_n 1, 1) := by decide +kernel
theorem d_Walk_clear_32 : decode b_Walk_clear 32 = .ok (.lconst 0, 1) := by decide +kernel
theorem d_Walk_clear_33 : decode b_Walk_clear 33 = .ok (.lastore, 1) := by decide +kernel
theorem d_Walk_clear_34 : decode b_Walk_clear 34 = .ok (.aload_n 0, 1) := by decide +kernel
theorem d_Walk_clear_35 : decode b_Walk_clear 35 = .ok (.getfield 32, 3) := by decide +kernel
theorem d_Walk_clear_38 : decode b_Walk_clear 38 = .ok (.iload_n 1, 1) := by decide +kernel
theorem d_Walk_clear_39 : decode b_Walk_clear 39 = .ok (.iconst 0, 1) := by decide +kernel
theorem d_Walk_clear_40 : decode b_Walk_clear 40 = .ok (.iastore, 1) := by decide +kernel
theorem d_Walk_clear_41 : decode b_Walk_clear 41 = .ok (.iinc 1 1, 3) := by decide +kernel
theorem d_Walk_clear_44 : decode b_Walk_clear 44 = .ok (.goto (-37), 3) := by decide +kernel
theorem d_Walk_clear_47 : decode b_Walk_clear 47 = .ok (.return_, 1) := by decide +kernel
theorem d_Walk_goDeep_0 : decode b_Walk_goDeep 0 = .ok (.aload_n 0, 1) := by decide +kernel
theorem d_Walk_goDeep_1 : decode b_Walk_goDeep 1 = .ok (.iconst 0, 1) := by decide +kernel
theorem d_Walk_goDeep_2 : decode b_Walk_goDeep 2 = .ok (.invokestatic 61, 3) := by decide +kernel
theorem d_Walk_goDeep_5 : decode b_Walk_goDeep 5 = .ok (.putfield 39, 3) := by decide +kernel
theorem d_Walk_goDeep_8 : decode b_Walk_goDeep 8 = .ok (.aload_n 0, 1) := by decide +kernel
theorem d_Walk_goDeep_9 : decode b_Walk_goDeep 9 = .ok (.getfield 22, 3) := by decide +kernel
theorem d_Walk_goDeep_12 : decode b_Walk_goDeep 12 = .ok (.iconst 0, 1) := by decide +kernel
theorem d_Walk_goDeep_13 : decode b_Walk_goDeep 13 = .ok (.iconst 0, 1) := by decide +kernel
theorem d_Walk_goDeep_14 : decode b_Walk_goDeep 14 = .ok (.iastore, 1) := by decide +kernel
theorem d_Walk_goDeep_15 : decode b_Walk_goDeep 15 = .ok (.iconst 1, 1) := by decide +kernel
theorem d_Walk_goDeep_16 : decode b_Walk_goDeep 16 = .ok (.istore_n 1, 1) := by decide +kernel
theorem d_Walk_goDeep_17 : decode b_Walk_goDeep 17 = .ok (.iconst 0, 1) := by decide +kernel
theorem d_Walk_goDeep_18 : decode b_Walk_goDeep 18 = .ok (.istore_n 2, 1) := by decide +kernel
theorem d_Walk_goDeep_19 : decode b_Walk_goDeep 19 = .ok (.iload_n 2, 1) := by decide +kernel
theorem d_Walk_goDeep_20 : decode b_Walk_goDeep 20 = .ok (.sipush 576, 3) := by decide +kernel
theorem d_Walk_goDeep_23 : decode b_Walk_goDeep 23 = .ok (.if_icmp .ge 129, 3) := by decide +kernel
theorem d_Walk_goDeep_26 : decode b_Walk_goDeep 26 = .ok (.iload_n 1, 1) := by decide +kernel
theorem d_Walk_goDeep_27 : decode b_Walk_goDeep 27 = .ok (.ifCond .le 125, 3) := by decide +kernel
theorem d_Walk_goDeep_30 : decode b_Walk_goDeep 30 = .ok (.aload_n 0, 1) := by decide +kernel
theorem d_Walk_goDeep_31 : decode b_Walk_goDeep 31 = .ok (.getfield 22, 3) := by decide +kernel
theorem d_Walk_goDeep_34 : decode b_Walk_goDeep 34 = .ok (.iload_n 1, 1) := by decide +kernel
theorem d_Walk_goDeep_35 : decode b_Walk_goDeep 35 = .ok (.iconst 1, 1) := by decide +kernel
theorem d_Walk_goDeep_36 : decode b_Walk_goDeep 36 = .ok (.isub, 1) := by decide +kernel
theorem d_Walk_goDeep_37 : decode b_Walk_goDeep 37 = .ok (.iaload, 1) := by decide +kernel
theorem d_Walk_goDeep_38 : decode b_Walk_goDeep 38 = .ok (.istore_n 3, 1) := by decide +kernel
theorem d_Walk_goDeep_39 : decode b_Walk_goDeep 39 = .ok (.aload_n 0, 1) := by decide +kernel
theorem d_Walk_goDeep_40 : decode b_Walk_goDeep 40 = .ok (.getfield 25, 3) := by decide +kernel
theorem d_Walk_goDeep_43 : decode b_Walk_goDeep 43 = .ok (.iload_n 3, 1) := by decide +kernel
theorem d_Walk_goDeep_44 : decode b_Walk_goDeep 44 = .ok (.iaload, 1) := by decide +kernel
theorem d_Walk_goDeep_45 : decode b_Walk_goDeep 45 = .ok (.aload_n 0, 1) := by decide +kernel
theorem d_Walk_goDeep_46 : decode b_Walk_goDeep 46 = .ok (.getfield 9, 3) := by decide +kernel
theorem d_Walk_goDeep_49 : decode b_Walk_goDeep 49 = .ok (.getfield 65, 3) := by decide +kernel
theorem d_Walk_goDeep_52 : decode b_Walk_goDeep 52 = .ok (.iload_n 3, 1) := by decide +kernel
theorem d_Walk_goDeep_53 : decode b_Walk_goDeep 53 = .ok (.iaload, 1) := by decide +kernel
theorem d_Walk_goDeep_54 : decode b_Walk_goDeep 54 = .ok (.if_icmp .lt 29, 3) := by decide +kernel
theorem d_Walk_goDeep_57 : decode b_Walk_goDeep 57 = .ok (.aload_n 0, 1) := by decide +kernel
theorem d_Walk_goDeep_58 : decode b_Walk_goDeep 58 = .ok (.getfield 19, 3) := by decide +kernel
theorem d_Walk_goDeep_61 : decode b_Walk_goDeep 61 = .ok (.aload_n 0, 1) := by decide +kernel
theorem d_Walk_goDeep_62 : decode b_Walk_goDeep 62 = .ok (.getfield 35, 3) := by decide +kernel
theorem d_Walk_goDeep_65 : decode b_Walk_goDeep 65 = .ok (.iload_n 3, 1) := by decide +kernel
theorem d_Walk_goDeep_66 : decode b_Walk_goDeep 66 = .ok (.iastore, 1) := by decide +kernel
theorem d_Walk_goDeep_67 : decode b_Walk_goDeep 67 = .ok (.aload_n 0, 1) := by decide +kernel
theorem d_Walk_goDeep_68 : decode b_Walk_goDeep 68 = .ok (.dup, 1) := by decide +kernel
theorem d_Walk_goDeep_69 : decode b_Walk_goDeep 69 = .ok (.getfield 35, 3) := by decide +kernel
theorem d_Walk_goDeep_72 : decode b_Walk_goDeep 72 = .ok (.iconst 1, 1) := by decide +kernel
theorem d_Walk_goDeep_73 : decode b_Walk_goDeep 73 = .ok (.iadd, 1) := by decide +kernel
theorem d_Walk_goDeep_74 : decode b_Walk_goDeep 74 = .ok (.putfield 35, 3) := by decide +kernel
theorem d_Walk_goDeep_77 : decode b_Walk_goDeep 77 = .ok (.iinc 1 (-1), 3) := by decide +kernel
theorem d_Walk_goDeep_80 : decode b_Walk_goDeep 80 = .ok (.goto 66, 3) := by decide +kernel
theorem d_Walk_goDeep_83 : decode b_Walk_goDeep 83 = .ok (.aload_n 0, 1) := by decide +kernel
theorem d_Walk_goDeep_84 : decode b_Walk_goDeep 84 = .ok (.getfield 9, 3) := by decide +kernel
theorem d_Walk_goDeep_87 : decode b_Walk_goDeep 87 = .ok (.iload_n 3, 1) := by decide +kernel
theorem d_Walk_goDeep_88 : decode b_Walk_goDeep 88 = .ok (.aload_n 0, 1) := by decide +kernel
theorem d_Walk_goDeep_89 : decode b_Walk_goDeep 89 = .ok (.getfield 25, 3) := by decide +kernel
theorem d_Walk_goDeep_92 : decode b_Walk_goDeep 92 = .ok (.iload_n 3, 1) := by decide +kernel
theorem d_Walk_goDeep_93 : decode b_Walk_goDeep 93 = .ok (.iaload, 1) := by decide +kernel
theorem d_Walk_goDeep_94 : decode b_Walk_goDeep 94 = .ok (.invokevirtual 70, 3) := by decide +kernel
theorem d_Walk_goDeep_97 : decode b_Walk_goDeep 97 = .ok (.istore 4, 2) := by decide +kernel
theorem d_Walk_goDeep_99 : decode b_Walk_goDeep 99 = .ok (.aload_n 0, 1) := by decide +kernel
theorem d_Walk_goDeep_100 : decode b_Walk_goDeep 100 = .ok (.getfield 25, 3) := by decide +kernel
theorem d_Walk_goDeep_103 : decode b_Walk_goDeep 103 = .ok (.iload_n 3, 1) := by decide +kernel
theorem d_Walk_goDeep_104 : decode b_Walk_goDeep 104 = .ok (.dup2, 1) := by decide +kernel
theorem d_Walk_goDeep_105 : decode b_Walk_goDeep 105 = .ok (.iaload, 1) := by decide +kernel
theorem d_Walk_goDeep_106 : decode b_Walk_goDeep 106 = .ok (.iconst 1, 1) := by decide +kernel
theorem d_Walk_goDeep_107 : decode b_Walk_goDeep 107 = .ok (.iadd, 1) := by decide +kernel
theorem d_Walk_goDeep_108 : decode b_Walk_goDeep 108 = .ok (.iastore, 1) := by decide +kernel
theorem d_Walk_goDeep_109 : decode b_Walk_goDeep 109 = .ok (.aload_n 0, 1) := by decide +kernel
theorem d_Walk_goDeep_110 : decode b_Walk_goDeep 110 = .ok (.getfield 39, 3) := by decide +kernel
theorem d_Walk_goDeep_113 : decode b_Walk_goDeep 113 = .ok (.iload 4, 2) := by decide +kernel
theorem d_Walk_goDeep_115 : decode b_Walk_goDeep 115 = .ok (.invokestatic 57, 3) := by decide +kernel
theorem d_Walk_goDeep_118 : decode b_Walk_goDeep 118 = .ok (.ifCond .ne 28, 3) := by decide +kernel
theorem d_Walk_goDeep_121 : decode b_Walk_goDeep 121 = .ok (.aload_n 0, 1) := by decide +kernel
theorem d_Walk_goDeep_122 : decode b_Walk_goDeep 122 = .ok (.dup, 1) := by decide +kernel
theorem d_Walk_goDeep_123 : decode b_Walk_goDeep 123 = .ok (.getfield 39, 3) := by decide +kernel
theorem d_Walk_goDeep_126 : decode b_Walk_goDeep 126 = .ok (.iload 4, 2) := by decide +kernel
theorem d_Walk_goDeep_128 : decode b_Walk_goDeep 128 = .ok (.invokestatic 61, 3) := by decide +kernel
theorem d_Walk_goDeep_131 : decode b_Walk_goDeep 131 = .ok (.lor, 1) := by decide +kernel
theorem d_Walk_goDeep_132 : decode b_Walk_goDeep 132 = .ok (.putfield 39, 3) := by decide +kernel
theorem d_Walk_goDeep_135 : decode b_Walk_goDeep 135 = .ok (.aload_n 0, 1) := by decide +kernel
theorem d_Walk_goDeep_136 : decode b_Walk_goDeep 136 = .ok (.getfield 22, 3) := by decide +kernel
theorem d_Walk_goDeep_139 : decode b_Walk_goDeep 139 = .ok (.iload_n 1, 1) := by decide +kernel
theorem d_Walk_goDeep_140 : decode b_Walk_goDeep 140 = .ok (.iload 4, 2) := by decide +kernel
theorem d_Walk_goDeep_142 : decode b_Walk_goDeep 142 = .ok (.iastore, 1) := by decide +kernel
theorem d_Walk_goDeep_143 : decode b_Walk_goDeep 143 = .ok (.iinc 1 1, 3) := by decide +kernel
theorem d_Walk_goDeep_146 : decode b_Walk_goDeep 146 = .ok (.iinc 2 1, 3) := by decide +kernel
theorem d_Walk_goDeep_149 : decode b_Walk_goDeep 149 = .ok (.goto (-130), 3) := by decide +kernel
theorem d_Walk_goDeep_152 : decode b_Walk_goDeep 152 = .ok (.return_, 1) := by decide +kernel
theorem d_Walk_markEndsOf_0 : decode b_Walk_markEndsOf 0 = .ok (.iconst 0, 1) := by decide +kernel
theorem d_Walk_markEndsOf_1 : decode b_Walk_markEndsOf 1 = .ok (.istore_n 2, 1) := by decide +kernel
theorem d_Walk_markEndsOf_2 : decode b_Walk_markEndsOf 2 = .ok (.iload_n 2, 1) := by decide +kernel
theorem d_Walk_markEndsOf_3 : decode b_Walk_markEndsOf 3 = .ok (.aload_n 0, 1) := by decide +kernel
theorem d_Walk_markEndsOf_4 : decode b_Walk_markEndsOf 4 = .ok (.getfield 9, 3) := by decide +kernel
theorem d_Walk_markEndsOf_7 : decode b_Walk_markEndsOf 7 = .ok (.getfield 65, 3) := by decide +kernel
theorem d_Walk_markEndsOf_10 : decode b_Walk_markEndsOf 10 = .ok (.iload_n 1, 1) := by decide +kernel
theorem d_Walk_markEndsOf_11 : decode b_Walk_markEndsOf 11 = .ok (.iaload, 1) := by decide +kernel
theorem d_Walk_markEndsOf_12 : decode b_Walk_markEndsOf 12 = .ok (.if_icmp .ge 42, 3) := by decide +kernel
theorem d_Walk_markEndsOf_15 : decode b_Walk_markEndsOf 15 = .ok (.aload_n 0, 1) := by decide +kernel
theorem d_Walk_markEndsOf_16 : decode b_Walk_markEndsOf 16 = .ok (.getfield 9, 3) := by decide +kernel
theorem d_Walk_markEndsOf_19 : decode b_Walk_markEndsOf 19 = .ok (.iload_n 1, 1) := by decide +kernel
theorem d_Walk_markEndsOf_20 : decode b_Walk_markEndsOf 20 = .ok (.iload_n 2, 1) := by decide +kernel
theorem d_Walk_markEndsOf_21 : decode b_Walk_markEndsOf 21 = .ok (.invokevirtual 70, 3) := by decide +kernel
theorem d_Walk_markEndsOf_24 : decode b_Walk_markEndsOf 24 = .ok (.istore_n 3, 1) := by decide +kernel
theorem d_Walk_markEndsOf_25 : decode b_Walk_markEndsOf 25 = .ok (.aload_n 0, 1) := by decide +kernel
theorem d_Walk_markEndsOf_26 : decode b_Walk_markEndsOf 26 = .ok (.getfield 28, 3) := by decide +kernel
theorem d_Walk_markEndsOf_29 : decode b_Walk_markEndsOf 29 = .ok (.iload_n 3, 1) := by decide +kernel
theorem d_Walk_markEndsOf_30 : decode b_Walk_markEndsOf 30 = .ok (.dup2, 1) := by decide +kernel
theorem d_Walk_markEndsOf_31 : decode b_Walk_markEndsOf 31 = .ok (.laload, 1) := by decide +kernel
theorem d_Walk_markEndsOf_32 : decode b_Walk_markEndsOf 32 = .ok (.iload_n 1, 1) := by decide +kernel
theorem d_Walk_markEndsOf_33 : decode b_Walk_markEndsOf 33 = .ok (.invokestatic 61, 3) := by decide +kernel
theorem d_Walk_markEndsOf_36 : decode b_Walk_markEndsOf 36 = .ok (.lor, 1) := by decide +kernel
theorem d_Walk_markEndsOf_37 : decode b_Walk_markEndsOf 37 = .ok (.lastore, 1) := by decide +kernel
theorem d_Walk_markEndsOf_38 : decode b_Walk_markEndsOf 38 = .ok (.aload_n 0, 1) := by decide +kernel
theorem d_Walk_markEndsOf_39 : decode b_Walk_markEndsOf 39 = .ok (.getfield 32, 3) := by decide +kernel
theorem d_Walk_markEndsOf_42 : decode b_Walk_markEndsOf 42 = .ok (.iload_n 3, 1) := by decide +kernel
theorem d_Walk_markEndsOf_43 : decode b_Walk_markEndsOf 43 = .ok (.dup2, 1) := by decide +kernel
theorem d_Walk_markEndsOf_44 : decode b_Walk_markEndsOf 44 = .ok (.iaload, 1) := by decide +kernel
theorem d_Walk_markEndsOf_45 : decode b_Walk_markEndsOf 45 = .ok (.iconst 1, 1) := by decide +kernel
theorem d_Walk_markEndsOf_46 : decode b_Walk_markEndsOf 46 = .ok (.iadd, 1) := by decide +kernel
theorem d_Walk_markEndsOf_47 : decode b_Walk_markEndsOf 47 = .ok (.iastore, 1) := by decide +kernel
theorem d_Walk_markEndsOf_48 : decode b_Walk_markEndsOf 48 = .ok (.iinc 2 1, 3) := by decide +kernel
theorem d_Walk_markEndsOf_51 : decode b_Walk_markEndsOf 51 = .ok (.goto (-49), 3) := by decide +kernel
theorem d_Walk_markEndsOf_54 : decode b_Walk_markEndsOf 54 = .ok (.return_, 1) := by decide +kernel
theorem d_Walk_make_0 : decode b_Walk_make 0 = .ok (.aload_n 0, 1) := by decide +kernel
theorem d_Walk_make_1 : decode b_Walk_make 1 = .ok (.invokevirtual 43, 3) := by decide +kernel
theorem d_Walk_make_4 : decode b_Walk_make 4 = .ok (.aload_n 0, 1) := by decide +kernel
theorem d_Walk_make_5 : decode b_Walk_make 5 = .ok (.invokevirtual 46, 3) := by decide +kernel
theorem d_Walk_make_8 : decode b_Walk_make 8 = .ok (.iconst 0, 1) := by decide +kernel
theorem d_Walk_make_9 : decode b_Walk_make 9 = .ok (.istore_n 1, 1) := by decide +kernel
theorem d_Walk_make_10 : decode b_Walk_make 10 = .ok (.iload_n 1, 1) := by decide +kernel
theorem d_Walk_make_11 : decode b_Walk_make 11 = .ok (.aload_n 0, 1) := by decide +kernel
theorem d_Walk_make_12 : decode b_Walk_make 12 = .ok (.getfield 35, 3) := by decide +kernel
theorem d_Walk_make_15 : decode b_Walk_make 15 = .ok (.if_icmp .ge 27, 3) := by decide +kernel
theorem d_Walk_make_18 : decode b_Walk_make 18 = .ok (.aload_n 0, 1) := by decide +kernel
theorem d_Walk_make_19 : decode b_Walk_make 19 = .ok (.iload_n 1, 1) := by decide +kernel
theorem d_Walk_make_20 : decode b_Walk_make 20 = .ok (.invokevirtual 49, 3) := by decide +kernel
theorem d_Walk_make_23 : decode b_Walk_make 23 = .ok (.istore_n 2, 1) := by decide +kernel
theorem d_Walk_make_24 : decode b_Walk_make 24 = .ok (.aload_n 0, 1) := by decide +kernel
theorem d_Walk_make_25 : decode b_Walk_make 25 = .ok (.getfield 15, 3) := by decide +kernel
theorem d_Walk_make_28 : decode b_Walk_make 28 = .ok (.iload_n 2, 1) := by decide +kernel
theorem d_Walk_make_29 : decode b_Walk_make 29 = .ok (.iload_n 1, 1) := by decide +kernel
theorem d_Walk_make_30 : decode b_Walk_make 30 = .ok (.iastore, 1) := by decide +kernel
theorem d_Walk_make_31 : decode b_Walk_make 31 = .ok (.aload_n 0, 1) := by decide +kernel
theorem d_Walk_make_32 : decode b_Walk_make 32 = .ok (.iload_n 2, 1) := by decide +kernel
theorem d_Walk_make_33 : decode b_Walk_make 33 = .ok (.invokevirtual 53, 3) := by decide +kernel
theorem d_Walk_make_36 : decode b_Walk_make 36 = .ok (.iinc 1 1, 3) := by decide +kernel
theorem d_Walk_make_39 : decode b_Walk_make 39 = .ok (.goto (-29), 3) := by decide +kernel
theorem d_Walk_make_42 : decode b_Walk_make 42 = .ok (.return_, 1) := by decide +kernel
theorem d_Rulers_isRuled_0 : decode b_Rulers_isRuled 0 = .ok (.aload_n 0, 1) := by decide +kernel
theorem d_Rulers_isRuled_1 : decode b_Rulers_isRuled 1 = .ok (.getfield 15, 3) := by decide +kernel
theorem d_Rulers_isRuled_4 : decode b_Rulers_isRuled 4 = .ok (.iload_n 2, 1) := by decide +kernel
theorem d_Rulers_isRuled_5 : decode b_Rulers_isRuled 5 = .ok (.laload, 1) := by decide +kernel
theorem d_Rulers_isRuled_6 : decode b_Rulers_isRuled 6 = .ok (.iload_n 1, 1) := by decide +kernel
theorem d_Rulers_isRuled_7 : decode b_Rulers_isRuled 7 = .ok (.invokestatic 25, 3) := by decide +kernel
theorem d_Rulers_isRuled_10 : decode b_Rulers_isRuled 10 = .ok (.ireturn, 1) := by decide +kernel
theorem d_Rulers_realmOf_0 : decode b_Rulers_realmOf 0 = .ok (.lconst 0, 1) := by decide +kernel
theorem d_Rulers_realmOf_1 : decode b_Rulers_realmOf 1 = .ok (.lstore_n 2, 1) := by decide +kernel
theorem d_Rulers_realmOf_2 : decode b_Rulers_realmOf 2 = .ok (.iconst 0, 1) := by decide +kernel
theorem d_Rulers_realmOf_3 : decode b_Rulers_realmOf 3 = .ok (.istore 4, 2) := by decide +kernel
theorem d_Rulers_realmOf_5 : decode b_Rulers_realmOf 5 = .ok (.iload 4, 2) := by decide +kernel
theorem d_Rulers_realmOf_7 : decode b_Rulers_realmOf 7 = .ok (.bipush 64, 2) := by decide +kernel
theorem d_Rulers_realmOf_9 : decode b_Rulers_realmOf 9 = .ok (.if_icmp .ge 27, 3) := by decide +kernel
theorem d_Rulers_realmOf_12 : decode b_Rulers_realmOf 12 = .ok (.aload_n 0, 1) := by decide +kernel
theorem d_Rulers_realmOf_13 : decode b_Rulers_realmOf 13 = .ok (.iload_n 1, 1) := by decide +kernel
theorem d_Rulers_realmOf_14 : decode b_Rulers_realmOf 14 = .ok (.iload 4, 2) := by decide +kernel
theorem d_Rulers_realmOf_16 : decode b_Rulers_realmOf 16 = .ok (.invokevirtual 37, 3) := by decide +kernel
theorem d_Rulers_realmOf_19 : decode b_Rulers_realmOf 19 = .ok (.ifCond .eq 11, 3) := by decide +kernel
theorem d_Rulers_realmOf_22 : decode b_Rulers_realmOf 22 = .ok (.lload_n 2, 1) := by decide +kernel
theorem d_Rulers_realmOf_23 : decode b_Rulers_realmOf 23 = .ok (.iload 4, 2) := by decide +kernel
theorem d_Rulers_realmOf_25 : decode b_Rulers_realmOf 25 = .ok (.invokestatic 29, 3) := by decide +kernel
theorem d_Rulers_realmOf_28 : decode b_Rulers_realmOf 28 = .ok (.lor, 1) := by decide +kernel
theorem d_Rulers_realmOf_29 : decode b_Rulers_realmOf 29 = .ok (.lstore_n 2, 1) := by decide +kernel
theorem d_Rulers_realmOf_30 : decode b_Rulers_realmOf 30 = .ok (.iinc 4 1, 3) := by decide +kernel
theorem d_Rulers_realmOf_33 : decode b_Rulers_realmOf 33 = .ok (.goto (-28), 3) := by decide +kernel
theorem d_Rulers_realmOf_36 : decode b_Rulers_realmOf 36 = .ok (.lload_n 2, 1) := by decide +kernel
theorem d_Rulers_realmOf_37 : decode b_Rulers_realmOf 37 = .ok (.lreturn, 1) := by decide +kernel
theorem d_Rulers_edgeOf_0 : decode b_Rulers_edgeOf 0 = .ok (.aload_n 0, 1) := by decide +kernel
theorem d_Rulers_edgeOf_1 : decode b_Rulers_edgeOf 1 = .ok (.iload_n 1, 1) := by decide +kernel
theorem d_Rulers_edgeOf_2 : decode b_Rulers_edgeOf 2 = .ok (.invokevirtual 41, 3) := by decide +kernel
theorem d_Rulers_edgeOf_5 : decode b_Rulers_edgeOf 5 = .ok (.lstore_n 2, 1) := by decide +kernel
theorem d_Rulers_edgeOf_6 : decode b_Rulers_edgeOf 6 = .ok (.lload_n 2, 1) := by decide +kernel
theorem d_Rulers_edgeOf_7 : decode b_Rulers_edgeOf 7 = .ok (.iload_n 1, 1) := by decide +kernel
theorem d_Rulers_edgeOf_8 : decode b_Rulers_edgeOf 8 = .ok (.invokestatic 29, 3) := by decide +kernel
theorem d_Rulers_edgeOf_11 : decode b_Rulers_edgeOf 11 = .ok (.ldc2_w 44, 3) := by decide +kernel
theorem d_Rulers_edgeOf_14 : decode b_Rulers_edgeOf 14 = .ok (.lxor, 1) := by decide +kernel
theorem d_Rulers_edgeOf_15 : decode b_Rulers_edgeOf 15 = .ok (.land, 1) := by decide +kernel
theorem d_Rulers_edgeOf_16 : decode b_Rulers_edgeOf 16 = .ok (.lstore 4, 2) := by decide +kernel
theorem d_Rulers_edgeOf_18 : decode b_Rulers_edgeOf 18 = .ok (.lconst 0, 1) := by decide +kernel
theorem d_Rulers_edgeOf_19 : decode b_Rulers_edgeOf 19 = .ok (.lstore 6, 2) := by decide +kernel
theorem d_Rulers_edgeOf_21 : decode b_Rulers_edgeOf 21 = .ok (.iconst 0, 1) := by decide +kernel
theorem d_Rulers_edgeOf_22 : decode b_Rulers_edgeOf 22 = .ok (.istore 8, 2) := by decide +kernel
theorem d_Rulers_edgeOf_24 : decode b_Rulers_edgeOf 24 = .ok (.iload 8, 2) := by decide +kernel
theorem d_Rulers_edgeOf_26 : decode b_Rulers_edgeOf 26 = .ok (.bipush 64, 2) := by decide +kernel
theorem d_Rulers_edgeOf_28 : decode b_Rulers_edgeOf 28 = .ok (.if_icmp .ge 46, 3) := by decide +kernel
theorem d_Rulers_edgeOf_31 : decode b_Rulers_edgeOf 31 = .ok (.aload_n 0, 1) := by decide +kernel
theorem d_Rulers_edgeOf_32 : decode b_Rulers_edgeOf 32 = .ok (.getfield 9, 3) := by decide +kernel
theorem d_Rulers_edgeOf_35 : decode b_Rulers_edgeOf 35 = .ok (.getfield 46, 3) := by decide +kernel
theorem d_Rulers_edgeOf_38 : decode b_Rulers_edgeOf 38 = .ok (.iload 8, 2) := by decide +kernel
theorem d_Rulers_edgeOf_40 : decode b_Rulers_edgeOf 40 = .ok (.laload, 1) := by decide +kernel
theorem d_Rulers_edgeOf_41 : decode b_Rulers_edgeOf 41 = .ok (.lload_n 2, 1) := by decide +kernel
theorem d_Rulers_edgeOf_42 : decode b_Rulers_edgeOf 42 = .ok (.land, 1) := by decide +kernel
theorem d_Rulers_edgeOf_43 : decode b_Rulers_edgeOf 43 = .ok (.lconst 0, 1) := by decide +kernel
theorem d_Rulers_edgeOf_44 : decode b_Rulers_edgeOf 44 = .ok (.lcmp, 1) := by decide +kernel
theorem d_Rulers_edgeOf_45 : decode b_Rulers_edgeOf 45 = .ok (.ifCond .eq 23, 3) := by decide +kernel
theorem d_Rulers_edgeOf_48 : decode b_Rulers_edgeOf 48 = .ok (.lload 4, 2) := by decide +kernel
theorem d_Rulers_edgeOf_50 : decode b_Rulers_edgeOf 50 = .ok (.iload 8, 2) := by decide +kernel
theorem d_Rulers_edgeOf_52 : decode b_Rulers_edgeOf 52 = .ok (.invokestatic 25, 3) := by decide +kernel
theorem d_Rulers_edgeOf_55 : decode b_Rulers_edgeOf 55 = .ok (.ifCond .ne 13, 3) := by decide +kernel
theorem d_Rulers_edgeOf_58 : decode b_Rulers_edgeOf 58 = .ok (.lload 6, 2) := by decide +kernel
theorem d_Rulers_edgeOf_60 : decode b_Rulers_edgeOf 60 = .ok (.iload 8, 2) := by decide +kernel
theorem d_Rulers_edgeOf_62 : decode b_Rulers_edgeOf 62 = .ok (.invokestatic 29, 3) := by decide +kernel
theorem d_Rulers_edgeOf_65 : decode b_Rulers_edgeOf 65 = .ok (.lor, 1) := by decide +kernel
theorem d_Rulers_edgeOf_66 : decode b_Rulers_edgeOf 66 = .ok (.lstore 6, 2) := by decide +kernel
theorem d_Rulers_edgeOf_68 : decode b_Rulers_edgeOf 68 = .ok (.iinc 8 1, 3) := by decide +kernel
theorem d_Rulers_edgeOf_71 : decode b_Rulers_edgeOf 71 = .ok (.goto (-47), 3) := by decide +kernel
theorem d_Rulers_edgeOf_74 : decode b_Rulers_edgeOf 74 = .ok (.lload 6, 2) := by decide +kernel
theorem d_Rulers_edgeOf_76 : decode b_Rulers_edgeOf 76 = .ok (.lreturn, 1) := by decide +kernel
theorem d_Rulers_sharedBy_0 : decode b_Rulers_sharedBy 0 = .ok (.aload_n 0, 1) := by decide +kernel
theorem d_Rulers_sharedBy_1 : decode b_Rulers_sharedBy 1 = .ok (.getfield 9, 3) := by decide +kernel
theorem d_Rulers_sharedBy_4 : decode b_Rulers_sharedBy 4 = .ok (.getfield 19, 3) := by decide +kernel
theorem d_Rulers_sharedBy_7 : decode b_Rulers_sharedBy 7 = .ok (.lstore_n 3, 1) := by decide +kernel
theorem d_Rulers_sharedBy_8 : decode b_Rulers_sharedBy 8 = .ok (.lload_n 1, 1) := by decide +kernel
theorem d_Rulers_sharedBy_9 : decode b_Rulers_sharedBy 9 = .ok (.lstore 5, 2) := by decide +kernel
theorem d_Rulers_sharedBy_11 : decode b_Rulers_sharedBy 11 = .ok (.lload_n 1, 1) := by decide +kernel
theorem d_Rulers_sharedBy_12 : decode b_Rulers_sharedBy 12 = .ok (.invokestatic 61, 3) := by decide +kernel
theorem d_Rulers_sharedBy_15 : decode b_Rulers_sharedBy 15 = .ok (.istore 7, 2) := by decide +kernel
theorem d_Rulers_sharedBy_17 : decode b_Rulers_sharedBy 17 = .ok (.iconst 0, 1) := by decide +kernel
theorem d_Rulers_sharedBy_18 : decode b_Rulers_sharedBy 18 = .ok (.istore 8, 2) := by decide +kernel
theorem d_Rulers_sharedBy_20 : decode b_Rulers_sharedBy 20 = .ok (.iload 8, 2) := by decide +kernel
theorem d_Rulers_sharedBy_22 : decode b_Rulers_sharedBy 22 = .ok (.iload 7, 2) := by decide +kernel
theorem d_Rulers_sharedBy_24 : decode b_Rulers_sharedBy 24 = .ok (.if_icmp .ge 29, 3) := by decide +kernel
theorem d_Rulers_sharedBy_27 : decode b_Rulers_sharedBy 27 = .ok (.lload_n 3, 1) := by decide +kernel
theorem d_Rulers_sharedBy_28 : decode b_Rulers_sharedBy 28 = .ok (.aload_n 0, 1) := by decide +kernel
theorem d_Rulers_sharedBy_29 : decode b_Rulers_sharedBy 29 = .ok (.getfield 15, 3) := by decide +kernel
theorem d_Rulers_sharedBy_32 : decode b_Rulers_sharedBy 32 = .ok (.lload 5, 2) := by decide +kernel
theorem d_Rulers_sharedBy_34 : decode b_Rulers_sharedBy 34 = .ok (.invokestatic 67, 3) := by decide +kernel
theorem d_Rulers_sharedBy_37 : decode b_Rulers_sharedBy 37 = .ok (.laload, 1) := by decide +kernel
theorem d_Rulers_sharedBy_38 : decode b_Rulers_sharedBy 38 = .ok (.land, 1) := by decide +kernel
theorem d_Rulers_sharedBy_39 : decode b_Rulers_sharedBy 39 = .ok (.lstore_n 3, 1) := by decide +kernel
theorem d_Rulers_sharedBy_40 : decode b_Rulers_sharedBy 40 = .ok (.lload 5, 2) := by decide +kernel
theorem d_Rulers_sharedBy_42 : decode b_Rulers_sharedBy 42 = .ok (.invokestatic 70, 3) := by decide +kernel
theorem d_Rulers_sharedBy_45 : decode b_Rulers_sharedBy 45 = .ok (.lstore 5, 2) := by decide +kernel
theorem d_Rulers_sharedBy_47 : decode b_Rulers_sharedBy 47 = .ok (.iinc 8 1, 3) := by decide +kernel
theorem d_Rulers_sharedBy_50 : decode b_Rulers_sharedBy 50 = .ok (.goto (-30), 3) := by decide +kernel
theorem d_Rulers_sharedBy_53 : decode b_Rulers_sharedBy 53 = .ok (.lload_n 3, 1) := by decide +kernel
theorem d_Rulers_sharedBy_54 : decode b_Rulers_sharedBy 54 = .ok (.lreturn, 1) := by decide +kernel
theorem d_Rulers_narrow_0 : decode b_Rulers_narrow 0 = .ok (.iconst 0, 1) := by decide +kernel
theorem d_Rulers_narrow_1 : decode b_Rulers_narrow 1 = .ok (.istore_n 1, 1) := by decide +kernel
theorem d_Rulers_narrow_2 : decode b_Rulers_narrow 2 = .ok (.iconst 1, 1) := by decide +kernel
theorem d_Rulers_narrow_3 : decode b_Rulers_narrow 3 = .ok (.istore_n 2, 1) := by decide +kernel
theorem d_Rulers_narrow_4 : decode b_Rulers_narrow 4 = .ok (.iload_n 2, 1) := by decide +kernel
theorem d_Rulers_narrow_5 : decode b_Rulers_narrow 5 = .ok (.aload_n 0, 1) := by decide +kernel
theorem d_Rulers_narrow_6 : decode b_Rulers_narrow 6 = .ok (.getfield 9, 3) := by decide +kernel
theorem d_Rulers_narrow_9 : decode b_Rulers_narrow 9 = .ok (.getfield 49, 3) := by decide +kernel
theorem d_Rulers_narrow_12 : decode b_Rulers_narrow 12 = .ok (.if_icmp .ge 60, 3) := by decide +kernel
theorem d_Rulers_narrow_15 : decode b_Rulers_narrow 15 = .ok (.aload_n 0, 1) := by decide +kernel
theorem d_Rulers_narrow_16 : decode b_Rulers_narrow 16 = .ok (.getfield 9, 3) := by decide +kernel
theorem d_Rulers_narrow_19 : decode b_Rulers_narrow 19 = .ok (.iload_n 2, 1) := by decide +kernel
theorem d_Rulers_narrow_20 : decode b_Rulers_narrow 20 = .ok (.invokevirtual 53, 3) := by decide +kernel
theorem d_Rulers_narrow_23 : decode b_Rulers_narrow 23 = .ok (.istore_n 3, 1) := by decide +kernel
theorem d_Rulers_narrow_24 : decode b_Rulers_narrow 24 = .ok (.aload_n 0, 1) := by decide +kernel
theorem d_Rulers_narrow_25 : decode b_Rulers_narrow 25 = .ok (.aload_n 0, 1) := by decide +kernel
theorem d_Rulers_narrow_26 : decode b_Rulers_narrow 26 = .ok (.getfield 9, 3) := by decide +kernel
theorem d_Rulers_narrow_29 : decode b_Rulers_narrow 29 = .ok (.getfield 46, 3) := by decide +kernel
theorem d_Rulers_narrow_32 : decode b_Rulers_narrow 32 = .ok (.iload_n 3, 1) := by decide +kernel
theorem d_Rulers_narrow_33 : decode b_Rulers_narrow 33 = .ok (.laload, 1) := by decide +kernel
theorem d_Rulers_narrow_34 : decode b_Rulers_narrow 34 = .ok (.invokevirtual 57, 3) := by decide +kernel
theorem d_Rulers_narrow_37 : decode b_Rulers_narrow 37 = .ok (.iload_n 3, 1) := by decide +kernel
theorem d_Rulers_narrow_38 : decode b_Rulers_narrow 38 = .ok (.invokestatic 29, 3) := by decide +kernel
theorem d_Rulers_narrow_41 : decode b_Rulers_narrow 41 = .ok (.lor, 1) := by decide +kernel
theorem d_Rulers_narrow_42 : decode b_Rulers_narrow 42 = .ok (.lstore 4, 2) := by decide +kernel
theorem d_Rulers_narrow_44 : decode b_Rulers_narrow 44 = .ok (.lload 4, 2) := by decide +kernel
theorem d_Rulers_narrow_46 : decode b_Rulers_narrow 46 = .ok (.aload_n 0, 1) := by decide +kernel
theorem d_Rulers_narrow_47 : decode b_Rulers_narrow 47 = .ok (.getfield 15, 3) := by decide +kernel
theorem d_Rulers_narrow_50 : decode b_Rulers_narrow 50 = .ok (.iload_n 3, 1) := by decide +kernel
theorem d_Rulers_narrow_51 : decode b_Rulers_narrow 51 = .ok (.laload, 1) := by decide +kernel
theorem d_Rulers_narrow_52 : decode b_Rulers_narrow 52 = .ok (.lcmp, 1) := by decide +kernel
theorem d_Rulers_narrow_53 : decode b_Rulers_narrow 53 = .ok (.ifCond .eq 13, 3) := by decide +kernel
theorem d_Rulers_narrow_56 : decode b_Rulers_narrow 56 = .ok (.aload_n 0, 1) := by decide +kernel
theorem d_Rulers_narrow_57 : decode b_Rulers_narrow 57 = .ok (.getfield 15, 3) := by decide +kernel
theorem d_Rulers_narrow_60 : decode b_Rulers_narrow 60 = .ok (.iload_n 3, 1) := by decide +kernel
theorem d_Rulers_narrow_61 : decode b_Rulers_narrow 61 = .ok (.lload 4, 2) := by decide +kernel
theorem d_Rulers_narrow_63 : decode b_Rulers_narrow 63 = .ok (.lastore, 1) := by decide +kernel
theorem d_Rulers_narrow_64 : decode b_Rulers_narrow 64 = .ok (.iconst 1, 1) := by decide +kernel
theorem d_Rulers_narrow_65 : decode b_Rulers_narrow 65 = .ok (.istore_n 1, 1) := by decide +kernel
theorem d_Rulers_narrow_66 : decode b_Rulers_narrow 66 = .ok (.iinc 2 1, 3) := by decide +kernel
theorem d_Rulers_narrow_69 : decode b_Rulers_narrow 69 = .ok (.goto (-65), 3) := by decide +kernel
theorem d_Rulers_narrow_72 : decode b_Rulers_narrow 72 = .ok (.iload_n 1, 1) := by decide +kernel
theorem d_Rulers_narrow_73 : decode b_Rulers_narrow 73 = .ok (.ireturn, 1) := by decide +kernel
theorem d_Rulers_make_0 : decode b_Rulers_make 0 = .ok (.iconst 0, 1) := by decide +kernel
theorem d_Rulers_make_1 : decode b_Rulers_make 1 = .ok (.istore_n 1, 1) := by decide +kernel
theorem d_Rulers_make_2 : decode b_Rulers_make 2 = .ok (.iload_n 1, 1) := by decide +kernel
theorem d_Rulers_make_3 : decode b_Rulers_make 3 = .ok (.bipush 64, 2) := by decide +kernel
theorem d_Rulers_make_5 : decode b_Rulers_make 5 = .ok (.if_icmp .ge 40, 3) := by decide +kernel
theorem d_Rulers_make_8 : decode b_Rulers_make 8 = .ok (.aload_n 0, 1) := by decide +kernel
theorem d_Rulers_make_9 : decode b_Rulers_make 9 = .ok (.getfield 15, 3) := by decide +kernel
theorem d_Rulers_make_12 : decode b_Rulers_make 12 = .ok (.iload_n 1, 1) := by decide +kernel
theorem d_Rulers_make_13 : decode b_Rulers_make 13 = .ok (.aload_n 0, 1) := by decide +kernel
theorem d_Rulers_make_14 : decode b_Rulers_make 14 = .ok (.getfield 9, 3) := by decide +kernel
theorem d_Rulers_make_17 : decode b_Rulers_make 17 = .ok (.getfield 19, 3) := by decide +kernel
theorem d_Rulers_make_20 : decode b_Rulers_make 20 = .ok (.iload_n 1, 1) := by decide +kernel
theorem d_Rulers_make_21 : decode b_Rulers_make 21 = .ok (.invokestatic 25, 3) := by decide +kernel
theorem d_Rulers_make_24 : decode b_Rulers_make 24 = .ok (.ifCond .eq 13, 3) := by decide +kernel
theorem d_Rulers_make_27 : decode b_Rulers_make 27 = .ok (.aload_n 0, 1) := by decide +kernel
theorem d_Rulers_make_28 : decode b_Rulers_make 28 = .ok (.getfield 9, 3) := by decide +kernel
theorem d_Rulers_make_31 : decode b_Rulers_make 31 = .ok (.getfield 19, 3) := by decide +kernel
theorem d_Rulers_make_34 : decode b_Rulers_make 34 = .ok (.goto 4, 3) := by decide +kernel
theorem d_Rulers_make_37 : decode b_Rulers_make 37 = .ok (.lconst 0, 1) := by decide +kernel
theorem d_Rulers_make_38 : decode b_Rulers_make 38 = .ok (.lastore, 1) := by decide +kernel
theorem d_Rulers_make_39 : decode b_Rulers_make 39 = .ok (.iinc 1 1, 3) := by decide +kernel
theorem d_Rulers_make_42 : decode b_Rulers_make 42 = .ok (.goto (-40), 3) := by decide +kernel
theorem d_Rulers_make_45 : decode b_Rulers_make 45 = .ok (.aload_n 0, 1) := by decide +kernel
theorem d_Rulers_make_46 : decode b_Rulers_make 46 = .ok (.getfield 15, 3) := by decide +kernel
theorem d_Rulers_make_49 : decode b_Rulers_make 49 = .ok (.iconst 0, 1) := by decide +kernel
theorem d_Rulers_make_50 : decode b_Rulers_make 50 = .ok (.iconst 0, 1) := by decide +kernel
theorem d_Rulers_make_51 : decode b_Rulers_make 51 = .ok (.invokestatic 29, 3) := by decide +kernel
theorem d_Rulers_make_54 : decode b_Rulers_make 54 = .ok (.lastore, 1) := by decide +kernel
theorem d_Rulers_make_55 : decode b_Rulers_make 55 = .ok (.iconst 1, 1) := by decide +kernel
theorem d_Rulers_make_56 : decode b_Rulers_make 56 = .ok (.istore_n 1, 1) := by decide +kernel
theorem d_Rulers_make_57 : decode b_Rulers_make 57 = .ok (.iconst 0, 1) := by decide +kernel
theorem d_Rulers_make_58 : decode b_Rulers_make 58 = .ok (.istore_n 2, 1) := by decide +kernel
theorem d_Rulers_make_59 : decode b_Rulers_make 59 = .ok (.iload_n 2, 1) := by decide +kernel
theorem d_Rulers_make_60 : decode b_Rulers_make 60 = .ok (.sipush 4097, 3) := by decide +kernel
theorem d_Rulers_make_63 : decode b_Rulers_make 63 = .ok (.if_icmp .ge 18, 3) := by decide +kernel
theorem d_Rulers_make_66 : decode b_Rulers_make 66 = .ok (.iload_n 1, 1) := by decide +kernel
theorem d_Rulers_make_67 : decode b_Rulers_make 67 = .ok (.ifCond .eq 14, 3) := by decide +kernel
theorem d_Rulers_make_70 : decode b_Rulers_make 70 = .ok (.aload_n 0, 1) := by decide +kernel
theorem d_Rulers_make_71 : decode b_Rulers_make 71 = .ok (.invokevirtual 33, 3) := by decide +kernel
theorem d_Rulers_make_74 : decode b_Rulers_make 74 = .ok (.istore_n 1, 1) := by decide +kernel
theorem d_Rulers_make_75 : decode b_Rulers_make 75 = .ok (.iinc 2 1, 3) := by decide +kernel
theorem d_Rulers_make_78 : decode b_Rulers_make 78 = .ok (.goto (-19), 3) := by decide +kernel
theorem d_Rulers_make_81 : decode b_Rulers_make 81 = .ok (.return_, 1) := by decide +kernel
theorem d_Loops_kindOf_0 : decode b_Loops_kindOf 0 = .ok (.aload_n 0, 1) := by decide +kernel
theorem d_Loops_kindOf_1 : decode b_Loops_kindOf 1 = .ok (.getfield 9, 3) := by decide +kernel
theorem d_Loops_kindOf_4 : decode b_Loops_kindOf 4 = .ok (.iload_n 1, 1) := by decide +kernel
theorem d_Loops_kindOf_5 : decode b_Loops_kindOf 5 = .ok (.iload_n 2, 1) := by decide +kernel
theorem d_Loops_kindOf_6 : decode b_Loops_kindOf 6 = .ok (.invokevirtual 57, 3) := by decide +kernel
theorem d_Loops_kindOf_9 : decode b_Loops_kindOf 9 = .ok (.istore_n 3, 1) := by decide +kernel
theorem d_Loops_kindOf_10 : decode b_Loops_kindOf 10 = .ok (.aload_n 0, 1) := by decide +kernel
theorem d_Loops_kindOf_11 : decode b_Loops_kindOf 11 = .ok (.getfield 15, 3) := by decide +kernel
theorem d_Loops_kindOf_14 : decode b_Loops_kindOf 14 = .ok (.getfield 63, 3) := by decide +kernel
theorem d_Loops_kindOf_17 : decode b_Loops_kindOf 17 = .ok (.iload_n 3, 1) := by decide +kernel
theorem d_Loops_kindOf_18 : decode b_Loops_kindOf 18 = .ok (.iaload, 1) := by decide +kernel
theorem d_Loops_kindOf_19 : decode b_Loops_kindOf 19 = .ok (.aload_n 0, 1) := by decide +kernel
theorem d_Loops_kindOf_20 : decode b_Loops_kindOf 20 = .ok (.getfield 15, 3) := by decide +kernel
theorem d_Loops_kindOf_23 : decode b_Loops_kindOf 23 = .ok (.getfield 63, 3) := by decide +kernel
theorem d_Loops_kindOf_26 : decode b_Loops_kindOf 26 = .ok (.iload_n 1, 1) := by decide +kernel
theorem d_Loops_kindOf_27 : decode b_Loops_kindOf 27 = .ok (.iaload, 1) := by decide +kernel
theorem d_Loops_kindOf_28 : decode b_Loops_kindOf 28 = .ok (.if_icmp .le 5, 3) := by decide +kernel
theorem d_Loops_kindOf_31 : decode b_Loops_kindOf 31 = .ok (.iconst 0, 1) := by decide +kernel
theorem d_Loops_kindOf_32 : decode b_Loops_kindOf 32 = .ok (.ireturn, 1) := by decide +kernel
theorem d_Loops_kindOf_33 : decode b_Loops_kindOf 33 = .ok (.aload_n 0, 1) := by decide +kernel
theorem d_Loops_kindOf_34 : decode b_Loops_kindOf 34 = .ok (.getfield 19, 3) := by decide +kernel
theorem d_Loops_kindOf_37 : decode b_Loops_kindOf 37 = .ok (.iload_n 3, 1) := by decide +kernel
theorem d_Loops_kindOf_38 : decode b_Loops_kindOf 38 = .ok (.iload_n 1, 1) := by decide +kernel
theorem d_Loops_kindOf_39 : decode b_Loops_kindOf 39 = .ok (.invokevirtual 67, 3) := by decide +kernel
theorem d_Loops_kindOf_42 : decode b_Loops_kindOf 42 = .ok (.ifCond .eq 7, 3) := by decide +kernel
theorem d_Loops_kindOf_45 : decode b_Loops_kindOf 45 = .ok (.iconst 1, 1) := by decide +kernel
theorem d_Loops_kindOf_46 : decode b_Loops_kindOf 46 = .ok (.goto 4, 3) := by decide +kernel
theorem d_Loops_kindOf_49 : decode b_Loops_kindOf 49 = .ok (.iconst 2, 1) := by decide +kernel
theorem d_Loops_kindOf_50 : decode b_Loops_kindOf 50 = .ok (.ireturn, 1) := by decide +kernel
theorem d_Loops_depthOf_0 : decode b_Loops_depthOf 0 = .ok (.iconst 0, 1) := by decide +kernel
theorem d_Loops_depthOf_1 : decode b_Loops_depthOf 1 = .ok (.istore_n 2, 1) := by decide +kernel
theorem d_Loops_depthOf_2 : decode b_Loops_depthOf 2 = .ok (.iconst 0, 1) := by decide +kernel
theorem d_Loops_depthOf_3 : decode b_Loops_depthOf 3 = .ok (.istore_n 3, 1) := by decide +kernel
theorem d_Loops_depthOf_4 : decode b_Loops_depthOf 4 = .ok (.iload_n 3, 1) := by decide +kernel
theorem d_Loops_depthOf_5 : decode b_Loops_depthOf 5 = .ok (.bipush 64, 2) := by decide +kernel
theorem d_Loops_depthOf_7 : decode b_Loops_depthOf 7 = .ok (.if_icmp .ge 25, 3) := by decide +kernel
theorem d_Loops_depthOf_10 : decode b_Loops_depthOf 10 = .ok (.aload_n 0, 1) := by decide +kernel
theorem d_Loops_depthOf_11 : decode b_Loops_depthOf 11 = .ok (.getfield 23, 3) := by decide +kernel
theorem d_Loops_depthOf_14 : decode b_Loops_depthOf 14 = .ok (.iload_n 3, 1) := by decide +kernel
theorem d_Loops_depthOf_15 : decode b_Loops_depthOf 15 = .ok (.laload, 1) := by decide +kernel
theorem d_Loops_depthOf_16 : decode b_Loops_depthOf 16 = .ok (.iload_n 1, 1) := by decide +kernel
theorem d_Loops_depthOf_17 : decode b_Loops_depthOf 17 = .ok (.invokestatic 73, 3) := by decide +kernel
theorem d_Loops_depthOf_20 : decode b_Loops_depthOf 20 = .ok (.ifCond .eq 6, 3) := by decide +kernel
theorem d_Loops_depthOf_23 : decode b_Loops_depthOf 23 = .ok (.iinc 2 1, 3) := by decide +kernel
theorem d_Loops_depthOf_26 : decode b_Loops_depthOf 26 = .ok (.iinc 3 1, 3) := by decide +kernel
theorem d_Loops_depthOf_29 : decode b_Loops_depthOf 29 = .ok (.goto (-25), 3) := by decide +kernel
theorem d_Loops_depthOf_32 : decode b_Loops_depthOf 32 = .ok (.iload_n 2, 1) := by decide +kernel
theorem d_Loops_depthOf_33 : decode b_Loops_depthOf 33 = .ok (.ireturn, 1) := by decide +kernel
theorem d_Loops_greatestDepth_0 : decode b_Loops_greatestDepth 0 = .ok (.iconst 0, 1) := by decide +kernel
theorem d_Loops_greatestDepth_1 : decode b_Loops_greatestDepth 1 = .ok (.istore_n 1, 1) := by decide +kernel
theorem d_Loops_greatestDepth_2 : decode b_Loops_greatestDepth 2 = .ok (.iconst 0, 1) := by decide +kernel
theorem d_Loops_greatestDepth_3 : decode b_Loops_greatestDepth 3 = .ok (.istore_n 2, 1) := by decide +kernel
theorem d_Loops_greatestDepth_4 : decode b_Loops_greatestDepth 4 = .ok (.iload_n 2, 1) := by decide +kernel
theorem d_Loops_greatestDepth_5 : decode b_Loops_greatestDepth 5 = .ok (.bipush 64, 2) := by decide +kernel
theorem d_Loops_greatestDepth_7 : decode b_Loops_greatestDepth 7 = .ok (.if_icmp .ge 19, 3) := by decide +kernel
theorem d_Loops_greatestDepth_10 : decode b_Loops_greatestDepth 10 = .ok (.iload_n 1, 1) := by decide +kernel
theorem d_Loops_greatestDepth_11 : decode b_Loops_greatestDepth 11 = .ok (.aload_n 0, 1) := by decide +kernel
theorem d_Loops_greatestDepth_12 : decode b_Loops_greatestDepth 12 = .ok (.iload_n 2, 1) := by decide +kernel
theorem d_Loops_greatestDepth_13 : decode b_Loops_greatestDepth 13 = .ok (.invokevirtual 77, 3) := by decide +kernel
theorem d_Loops_greatestDepth_16 : decode b_Loops_greatestDepth 16 = .ok (.invokestatic 80, 3) := by decide +kernel
theorem d_Loops_greatestDepth_19 : decode b_Loops_greatestDepth 19 = .ok (.istore_n 1, 1) := by decide +kernel
theorem d_Loops_greatestDepth_20 : decode b_Loops_greatestDepth 20 = .ok (.iinc 2 1, 3) := by decide +kernel
theorem d_Loops_greatestDepth_23 : decode b_Loops_greatestDepth 23 = .ok (.goto (-19), 3) := by decide +kernel
theorem d_Loops_greatestDepth_26 : decode b_Loops_greatestDepth 26 = .ok (.iload_n 1, 1) := by decide +kernel
theorem d_Loops_greatestDepth_27 : decode b_Loops_greatestDepth 27 = .ok (.ireturn, 1) := by decide +kernel
theorem d_Loops_innermostOf_0 : decode b_Loops_innermostOf 0 = .ok (.iconst (-1), 1) := by decide +kernel
theorem d_Loops_innermostOf_1 : decode b_Loops_innermostOf 1 = .ok (.istore_n 2, 1) := by decide +kernel
theorem d_Loops_innermostOf_2 : decode b_Loops_innermostOf 2 = .ok (.bipush 65, 2) := by decide +kernel
theorem d_Loops_innermostOf_4 : decode b_Loops_innermostOf 4 = .ok (.istore_n 3, 1) := by decide +kernel
theorem d_Loops_innermostOf_5 : decode b_Loops_innermostOf 5 = .ok (.aload_n 0, 1) := by decide +kernel
theorem d_Loops_innermostOf_6 : decode b_Loops_innermostOf 6 = .ok (.getfield 15, 3) := by decide +kernel
theorem d_Loops_innermostOf_9 : decode b_Loops_innermostOf 9 = .ok (.getfield 40, 3) := by decide +kernel
theorem d_Loops_innermostOf_12 : decode b_Loops_innermostOf 12 = .ok (.iconst 1, 1) := by decide +kernel
theorem d_Loops_innermostOf_13 : decode b_Loops_innermostOf 13 = .ok (.isub, 1) := by decide +kernel
theorem d_Loops_innermostOf_14 : decode b_Loops_innermostOf 14 = .ok (.istore 4, 2) := by decide +kernel
theorem d_Loops_innermostOf_16 : decode b_Loops_innermostOf 16 = .ok (.iload 4, 2) := by decide +kernel
theorem d_Loops_innermostOf_18 : decode b_Loops_innermostOf 18 = .ok (.ifCond .lt 58, 3) := by decide +kernel
theorem d_Loops_innermostOf_21 : decode b_Loops_innermostOf 21 = .ok (.aload_n 0, 1) := by decide +kernel
theorem d_Loops_innermostOf_22 : decode b_Loops_innermostOf 22 = .ok (.getfield 15, 3) := by decide +kernel
theorem d_Loops_innermostOf_25 : decode b_Loops_innermostOf 25 = .ok (.iload 4, 2) := by decide +kernel
theorem d_Loops_innermostOf_27 : decode b_Loops_innermostOf 27 = .ok (.invokevirtual 45, 3) := by decide +kernel
theorem d_Loops_innermostOf_30 : decode b_Loops_innermostOf 30 = .ok (.istore 5, 2) := by decide +kernel
theorem d_Loops_innermostOf_32 : decode b_Loops_innermostOf 32 = .ok (.aload_n 0, 1) := by decide +kernel
theorem d_Loops_innermostOf_33 : decode b_Loops_innermostOf 33 = .ok (.getfield 23, 3) := by decide +kernel
theorem d_Loops_innermostOf_36 : decode b_Loops_innermostOf 36 = .ok (.iload 5, 2) := by decide +kernel
theorem d_Loops_innermostOf_38 : decode b_Loops_innermostOf 38 = .ok (.laload, 1) := by decide +kernel
theorem d_Loops_innermostOf_39 : decode b_Loops_innermostOf 39 = .ok (.invokestatic 85, 3) := by decide +kernel
theorem d_Loops_innermostOf_42 : decode b_Loops_innermostOf 42 = .ok (.istore 6, 2) := by decide +kernel
theorem d_Loops_innermostOf_44 : decode b_Loops_innermostOf 44 = .ok (.aload_n 0, 1) := by decide +kernel
theorem d_Loops_innermostOf_45 : decode b_Loops_innermostOf 45 = .ok (.getfield 23, 3) := by decide +kernel
theorem d_Loops_innermostOf_48 : decode b_Loops_innermostOf 48 = .ok (.iload 5, 2) := by decide +kernel
theorem d_Loops_innermostOf_50 : decode b_Loops_innermostOf 50 = .ok (.laload, 1) := by decide +kernel
theorem d_Loops_innermostOf_51 : decode b_Loops_innermostOf 51 = .ok (.iload_n 1, 1) := by decide +kernel
theorem d_Loops_innermostOf_52 : decode b_Loops_innermostOf 52 = .ok (.invokestatic 73, 3) := by decide +kernel
theorem d_Loops_innermostOf_55 : decode b_Loops_innermostOf 55 = .ok (.ifCond .eq 15, 3) := by decide +kernel
theorem d_Loops_innermostOf_58 : decode b_Loops_innermostOf 58 = .ok (.iload 6, 2) := by decide +kernel
theorem d_Loops_innermostOf_60 : decode b_Loops_innermostOf 60 = .ok (.iload_n 3, 1) := by decide +kernel
theorem d_Loops_innermostOf_61 : decode b_Loops_innermostOf 61 = .ok (.if_icmp .ge 9, 3) := by decide +kernel
theorem d_Loops_innermostOf_64 : decode b_Loops_innermostOf 64 = .ok (.iload 5, 2) := by decide +kernel
theorem d_Loops_innermostOf_66 : decode b_Loops_innermostOf 66 = .ok (.istore_n 2, 1) := by decide +kernel
theorem d_Loops_innermostOf_67 : decode b_Loops_innermostOf 67 = .ok (.iload 6, 2) := by decide +kernel
theorem d_Loops_innermostOf_69 : decode b_Loops_innermostOf 69 = .ok (.istore_n 3, 1) := by decide +kernel
theorem d_Loops_innermostOf_70 : decode b_Loops_innermostOf 70 = .ok (.iinc 4 (-1), 3) := by decide +kernel
theorem d_Loops_innermostOf_73 : decode b_Loops_innermostOf 73 = .ok (.goto (-57), 3) := by decide +kernel
theorem d_Loops_innermostOf_76 : decode b_Loops_innermostOf 76 = .ok (.iload_n 2, 1) := by decide +kernel
theorem d_Loops_innermostOf_77 : decode b_Loops_innermostOf 77 = .ok (.ireturn, 1) := by decide +kernel
theorem d_Loops_clear_0 : decode b_Loops_clear 0 = .ok (.aload_n 0, 1) := by decide +kernel
theorem d_Loops_clear_1 : decode b_Loops_clear 1 = .ok (.iconst 0, 1) := by decide +kernel
theorem d_Loops_clear_2 : decode b_Loops_clear 2 = .ok (.putfield 27, 3) := by decide +kernel
theorem d_Loops_clear_5 : decode b_Loops_clear 5 = .ok (.aload_n 0, 1) := by decide +kernel
theorem d_Loops_clear_6 : decode b_Loops_clear 6 = .ok (.iconst 0, 1) := by decide +kernel
theorem d_Loops_clear_7 : decode b_Loops_clear 7 = .ok (.putfield 31, 3) := by decide +kernel
theorem d_Loops_clear_10 : decode b_Loops_clear 10 = .ok (.aload_n 0, 1) := by decide +kernel
theorem d_Loops_clear_11 : decode b_Loops_clear 11 = .ok (.iconst 0, 1) := by decide +kernel
theorem d_Loops_clear_12 : decode b_Loops_clear 12 = .ok (.putfield 34, 3) := by decide +kernel
theorem d_Loops_clear_15 : decode b_Loops_clear 15 = .ok (.iconst 0, 1) := by decide +kernel
theorem d_Loops_clear_16 : decode b_Loops_clear 16 = .ok (.istore_n 1, 1) := by decide +kernel
theorem d_Loops_clear_17 : decode b_Loops_clear 17 = .ok (.iload_n 1, 1) := by decide +kernel
theorem d_Loops_clear_18 : decode b_Loops_clear 18 = .ok (.bipush 64, 2) := by decide +kernel
theorem d_Loops_clear_20 : decode b_Loops_clear 20 = .ok (.if_icmp .ge 16, 3) := by decide +kernel
theorem d_Loops_clear_23 : decode b_Loops_clear 23 = .ok (.aload_n 0, 1) := by decide +kernel
theorem d_Loops_clear_24 : decode b_Loops_clear 24 = .ok (.getfield 23, 3) := by decide +kernel
theorem d_Loops_clear_27 : decode b_Loops_clear 27 = .ok (.iload_n 1, 1) := by decide +kernel
theorem d_Loops_clear_28 : decode b_Loops_clear 28 = .ok (.lconst 0, 1) := by decide +kernel
theorem d_Loops_clear_29 : decode b_Loops_clear 29 = .ok (.lastore, 1) := by decide +kernel
theorem d_Loops_clear_30 : decode b_Loops_clear 30 = .ok (.iinc 1 1, 3) := by decide +kernel
theorem d_Loops_clear_33 : decode b_Loops_clear 33 = .ok (.goto (-16), 3) := by decide +kernel
theorem d_Loops_clear_36 : decode b_Loops_clear 36 = .ok (.return_, 1) := by decide +kernel
theorem d_Loops_markWaysOf_0 : decode b_Loops_markWaysOf 0 = .ok (.iconst 0, 1) := by decide +kernel
theorem d_Loops_markWaysOf_1 : decode b_Loops_markWaysOf 1 = .ok (.istore_n 2, 1) := by decide +kernel
theorem d_Loops_markWaysOf_2 : decode b_Loops_markWaysOf 2 = .ok (.iload_n 2, 1) := by decide +kernel
theorem d_Loops_markWaysOf_3 : decode b_Loops_markWaysOf 3 = .ok (.aload_n 0, 1) := by decide +kernel
theorem d_Loops_markWaysOf_4 : decode b_Loops_markWaysOf 4 = .ok (.getfield 9, 3) := by decide +kernel
theorem d_Loops_markWaysOf_7 : decode b_Loops_markWaysOf 7 = .ok (.getfield 91, 3) := by decide +kernel
theorem d_Loops_markWaysOf_10 : decode b_Loops_markWaysOf 10 = .ok (.iload_n 1, 1) := by decide +kernel
theorem d_Loops_markWaysOf_11 : decode b_Loops_markWaysOf 11 = .ok (.iaload, 1) := by decide +kernel
theorem d_Loops_markWaysOf_12 : decode b_Loops_markWaysOf 12 = .ok (.if_icmp .ge 71, 3) := by decide +kernel
theorem d_Loops_markWaysOf_15 : decode b_Loops_markWaysOf 15 = .ok (.aload_n 0, 1) := by decide +kernel
theorem d_Loops_markWaysOf_16 : decode b_Loops_markWaysOf 16 = .ok (.iload_n 1, 1) := by decide +kernel
theorem d_Loops_markWaysOf_17 : decode b_Loops_markWaysOf 17 = .ok (.iload_n 2, 1) := by decide +kernel
theorem d_Loops_markWaysOf_18 : decode b_Loops_markWaysOf 18 = .ok (.invokevirtual 94, 3) := by decide +kernel
theorem d_Loops_markWaysOf_21 : decode b_Loops_markWaysOf 21 = .ok (.istore_n 3, 1) := by decide +kernel
theorem d_Loops_markWaysOf_22 : decode b_Loops_markWaysOf 22 = .ok (.iload_n 3, 1) := by decide +kernel
theorem d_Loops_markWaysOf_23 : decode b_Loops_markWaysOf 23 = .ok (.ifCond .eq 13, 3) := by decide +kernel
theorem d_Loops_markWaysOf_26 : decode b_Loops_markWaysOf 26 = .ok (.aload_n 0, 1) := by decide +kernel
theorem d_Loops_markWaysOf_27 : decode b_Loops_markWaysOf 27 = .ok (.dup, 1) := by decide +kernel
theorem d_Loops_markWaysOf_28 : decode b_Loops_markWaysOf 28 = .ok (.getfield 31, 3) := by decide +kernel
theorem d_Loops_markWaysOf_31 : decode b_Loops_markWaysOf 31 = .ok (.iconst 1, 1) := by decide +kernel
theorem d_Loops_markWaysOf_32 : decode b_Loops_markWaysOf 32 = .ok (.iadd, 1) := by decide +kernel
theorem d_Loops_markWaysOf_33 : decode b_Loops_markWaysOf 33 = .ok (.putfield 31, 3) := by decide +kernel
theorem d_Loops_markWaysOf_36 : decode b_Loops_markWaysOf 36 = .ok (.iload_n 3, 1) := by decide +kernel
theorem d_Loops_markWaysOf_37 : decode b_Loops_markWaysOf 37 = .ok (.iconst 2, 1) := by decide +kernel
theorem d_Loops_markWaysOf_38 : decode b_Loops_markWaysOf 38 = .ok (.if_icmp .ne 13, 3) := by decide +kernel
theorem d_Loops_markWaysOf_41 : decode b_Loops_markWaysOf 41 = .ok (.aload_n 0, 1) := by decide +kernel
theorem d_Loops_markWaysOf_42 : decode b_Loops_markWaysOf 42 = .ok (.dup, 1) := by decide +kernel
theorem d_Loops_markWaysOf_43 : decode b_Loops_markWaysOf 43 = .ok (.getfield 34, 3) := by decide +kernel
theorem d_Loops_markWaysOf_46 : decode b_Loops_markWaysOf 46 = .ok (.iconst 1, 1) := by decide +kernel
theorem d_Loops_markWaysOf_47 : decode b_Loops_markWaysOf 47 = .ok (.iadd, 1) := by decide +kernel
theorem d_Loops_markWaysOf_48 : decode b_Loops_markWaysOf 48 = .ok (.putfield 34, 3) := by decide +kernel
theorem d_Loops_markWaysOf_51 : decode b_Loops_markWaysOf 51 = .ok (.iload_n 3, 1) := by decide +kernel
theorem d_Loops_markWaysOf_52 : decode b_Loops_markWaysOf 52 = .ok (.iconst 1, 1) := by decide +kernel
theorem d_Loops_markWaysOf_53 : decode b_Loops_markWaysOf 53 = .ok (.if_icmp .ne 24, 3) := by decide +kernel
theorem d_Loops_markWaysOf_56 : decode b_Loops_markWaysOf 56 = .ok (.aload_n 0, 1) := by decide +kernel
theorem d_Loops_markWaysOf_57 : decode b_Loops_markWaysOf 57 = .ok (.getfield 23, 3) := by decide +kernel
theorem d_Loops_markWaysOf_60 : decode b_Loops_markWaysOf 60 = .ok (.aload_n 0, 1) := by decide +kernel
theorem d_Loops_markWaysOf_61 : decode b_Loops_markWaysOf 61 = .ok (.getfield 9, 3) := by decide +kernel
theorem d_Loops_markWaysOf_64 : decode b_Loops_markWaysOf 64 = .ok (.iload_n 1, 1) := by decide +kernel
theorem d_Loops_markWaysOf_65 : decode b_Loops_markWaysOf 65 = .ok (.iload_n 2, 1) := by decide +kernel
theorem d_Loops_markWaysOf_66 : decode b_Loops_markWaysOf 66 = .ok (.invokevirtual 57, 3) := by decide +kernel
theorem d_Loops_markWaysOf_69 : decode b_Loops_markWaysOf 69 = .ok (.dup2, 1) := by decide +kernel
theorem d_Loops_markWaysOf_70 : decode b_Loops_markWaysOf 70 = .ok (.laload, 1) := by decide +kernel
theorem d_Loops_markWaysOf_71 : decode b_Loops_markWaysOf 71 = .ok (.iload_n 1, 1) := by decide +kernel
theorem d_Loops_markWaysOf_72 : decode b_Loops_markWaysOf 72 = .ok (.invokestatic 97, 3) := by decide +kernel
theorem d_Loops_markWaysOf_75 : decode b_Loops_markWaysOf 75 = .ok (.lor, 1) := by decide +kernel
theorem d_Loops_markWaysOf_76 : decode b_Loops_markWaysOf 76 = .ok (.lastore, 1) := by decide +kernel
theorem d_Loops_markWaysOf_77 : decode b_Loops_markWaysOf 77 = .ok (.iinc 2 1, 3) := by decide +kernel
theorem d_Loops_markWaysOf_80 : decode b_Loops_markWaysOf 80 = .ok (.goto (-78), 3) := by decide +kernel
theorem d_Loops_markWaysOf_83 : decode b_Loops_markWaysOf 83 = .ok (.return_, 1) := by decide +kernel
theorem d_Loops_grown_0 : decode b_Loops_grown 0 = .ok (.lload_n 2, 1) := by decide +kernel
theorem d_Loops_grown_1 : decode b_Loops_grown 1 = .ok (.iload_n 1, 1) := by decide +kernel
theorem d_Loops_grown_2 : decode b_Loops_grown 2 = .ok (.invokestatic 97, 3) := by decide +kernel
theorem d_Loops_grown_5 : decode b_Loops_grown 5 = .ok (.lor, 1) := by decide +kernel
theorem d_Loops_grown_6 : decode b_Loops_grown 6 = .ok (.lstore 4, 2) := by decide +kernel
theorem d_Loops_grown_8 : decode b_Loops_grown 8 = .ok (.lload_n 2, 1) := by decide +kernel
theorem d_Loops_grown_9 : decode b_Loops_grown 9 = .ok (.iload_n 1, 1) := by decide +kernel
theorem d_Loops_grown_10 : decode b_Loops_grown 10 = .ok (.invokestatic 97, 3) := by decide +kernel
theorem d_Loops_grown_13 : decode b_Loops_grown 13 = .ok (.ldc2_w 101, 3) := by decide +kernel
theorem d_Loops_grown_16 : decode b_Loops_grown 16 = .ok (.lxor, 1) := by decide +kernel
theorem d_Loops_grown_17 : decode b_Loops_grown 17 = .ok (.land, 1) := by decide +kernel
theorem d_Loops_grown_18 : decode b_Loops_grown 18 = .ok (.lstore 6, 2) := by decide +kernel
theorem d_Loops_grown_20 : decode b_Loops_grown 20 = .ok (.iconst 0, 1) := by decide +kernel
theorem d_Loops_grown_21 : decode b_Loops_grown 21 = .ok (.istore 8, 2) := by decide +kernel
theorem d_Loops_grown_23 : decode b_Loops_grown 23 = .ok (.iload 8, 2) := by decide +kernel
theorem d_Loops_grown_25 : decode b_Loops_grown 25 = .ok (.bipush 64, 2) := by decide +kernel
theorem d_Loops_grown_27 : decode b_Loops_grown 27 = .ok (.if_icmp .ge 55, 3) := by decide +kernel
theorem d_Loops_grown_30 : decode b_Loops_grown 30 = .ok (.lload 6, 2) := by decide +kernel
theorem d_Loops_grown_32 : decode b_Loops_grown 32 = .ok (.lconst 0, 1) := by decide +kernel
theorem d_Loops_grown_33 : decode b_Loops_grown 33 = .ok (.lcmp, 1) := by decide +kernel
theorem d_Loops_grown_34 : decode b_Loops_grown 34 = .ok (.ifCond .eq 48, 3) := by decide +kernel
theorem d_Loops_grown_37 : decode b_Loops_grown 37 = .ok (.aload_n 0, 1) := by decide +kernel
theorem d_Loops_grown_38 : decode b_Loops_grown 38 = .ok (.getfield 15, 3) := by decide +kernel
theorem d_Loops_grown_41 : decode b_Loops_grown 41 = .ok (.getfield 103, 3) := by decide +kernel
theorem d_Loops_grown_44 : decode b_Loops_grown 44 = .ok (.lload 6, 2) := by decide +kernel
theorem d_Loops_grown_46 : decode b_Loops_grown 46 = .ok (.invokestatic 106, 3) := by decide +kernel
theorem d_Loops_grown_49 : decode b_Loops_grown 49 = .ok (.laload, 1) := by decide +kernel
theorem d_Loops_grown_50 : decode b_Loops_grown 50 = .ok (.lload 4, 2) := by decide +kernel
theorem d_Loops_grown_52 : decode b_Loops_grown 52 = .ok (.ldc2_w 101, 3) := by decide +kernel
theorem d_Loops_grown_55 : decode b_Loops_grown 55 = .ok (.lxor, 1) := by decide +kernel
theorem d_Loops_grown_56 : decode b_Loops_grown 56 = .ok (.land, 1) := by decide +kernel
theorem d_Loops_grown_57 : decode b_Loops_grown 57 = .ok (.lstore 9, 2) := by decide +kernel
theorem d_Loops_grown_59 : decode b_Loops_grown 59 = .ok (.lload 4, 2) := by decide +kernel
theorem d_Loops_grown_61 : decode b_Loops_grown 61 = .ok (.lload 9, 2) := by decide +kernel
theorem d_Loops_grown_63 : decode b_Loops_grown 63 = .ok (.lor, 1) := by decide +kernel
theorem d_Loops_grown_64 : decode b_Loops_grown 64 = .ok (.lstore 4, 2) := by decide +kernel
theorem d_Loops_grown_66 : decode b_Loops_grown 66 = .ok (.lload 6, 2) := by decide +kernel
theorem d_Loops_grown_68 : decode b_Loops_grown 68 = .ok (.invokestatic 109, 3) := by decide +kernel
theorem d_Loops_grown_71 : decode b_Loops_grown 71 = .ok (.lload 9, 2) := by decide +kernel
theorem d_Loops_grown_73 : decode b_Loops_grown 73 = .ok (.lor, 1) := by decide +kernel
theorem d_Loops_grown_74 : decode b_Loops_grown 74 = .ok (.lstore 6, 2) := by decide +kernel
theorem d_Loops_grown_76 : decode b_Loops_grown 76 = .ok (.iinc 8 1, 3) := by decide +kernel
theorem d_Loops_grown_79 : decode b_Loops_grown 79 = .ok (.goto (-56), 3) := by decide +kernel
theorem d_Loops_grown_82 : decode b_Loops_grown 82 = .ok (.lload 4, 2) := by decide +kernel
theorem d_Loops_grown_84 : decode b_Loops_grown 84 = .ok (.lreturn, 1) := by decide +kernel
theorem d_Loops_make_0 : decode b_Loops_make 0 = .ok (.aload_n 0, 1) := by decide +kernel
theorem d_Loops_make_1 : decode b_Loops_make 1 = .ok (.invokevirtual 37, 3) := by decide +kernel
theorem d_Loops_make_4 : decode b_Loops_make 4 = .ok (.iconst 0, 1) := by decide +kernel
theorem d_Loops_make_5 : decode b_Loops_make 5 = .ok (.istore_n 1, 1) := by decide +kernel
theorem d_Loops_make_6 : decode b_Loops_make 6 = .ok (.iload_n 1, 1) := by decide +kernel
theorem d_Loops_make_7 : decode b_Loops_make 7 = .ok (.aload_n 0, 1) := by decide +kernel
theorem d_Loops_make_8 : decode b_Loops_make 8 = .ok (.getfield 15, 3) := by decide +kernel
theorem d_Loops_make_11 : decode b_Loops_make 11 = .ok (.getfield 40, 3) := by decide +kernel
theorem d_Loops_make_14 : decode b_Loops_make 14 = .ok (.if_icmp .ge 21, 3) := by decide +kernel
theorem d_Loops_make_17 : decode b_Loops_make 17 = .ok (.aload_n 0, 1) := by decide +kernel
theorem d_Loops_make_18 : decode b_Loops_make 18 = .ok (.aload_n 0, 1) := by decide +kernel
theorem d_Loops_make_19 : decode b_Loops_make 19 = .ok (.getfield 15, 3) := by decide +kernel
theorem d_Loops_make_22 : decode b_Loops_make 22 = .ok (.iload_n 1, 1) := by decide +kernel
theorem d_Loops_make_23 : decode b_Loops_make 23 = .ok (.invokevirtual 45, 3) := by decide +kernel
theorem d_Loops_make_26 : decode b_Loops_make 26 = .ok (.invokevirtual 49, 3) := by decide +kernel
theorem d_Loops_make_29 : decode b_Loops_make 29 = .ok (.iinc 1 1, 3) := by decide +kernel
theorem d_Loops_make_32 : decode b_Loops_make 32 = .ok (.goto (-26), 3) := by decide +kernel
theorem d_Loops_make_35 : decode b_Loops_make 35 = .ok (.iconst 0, 1) := by decide +kernel
theorem d_Loops_make_36 : decode b_Loops_make 36 = .ok (.istore_n 1, 1) := by decide +kernel
theorem d_Loops_make_37 : decode b_Loops_make 37 = .ok (.iload_n 1, 1) := by decide +kernel
theorem d_Loops_make_38 : decode b_Loops_make 38 = .ok (.bipush 64, 2) := by decide +kernel
theorem d_Loops_make_40 : decode b_Loops_make 40 = .ok (.if_icmp .ge 47, 3) := by decide +kernel
theorem d_Loops_make_43 : decode b_Loops_make 43 = .ok (.aload_n 0, 1) := by decide +kernel
theorem d_Loops_make_44 : decode b_Loops_make 44 = .ok (.getfield 23, 3) := by decide +kernel
theorem d_Loops_make_47 : decode b_Loops_make 47 = .ok (.iload_n 1, 1) := by decide +kernel
theorem d_Loops_make_48 : decode b_Loops_make 48 = .ok (.laload, 1) := by decide +kernel
theorem d_Loops_make_49 : decode b_Loops_make 49 = .ok (.lconst 0, 1) := by decide +kernel
theorem d_Loops_make_50 : decode b_Loops_make 50 = .ok (.lcmp, 1) := by decide +kernel
theorem d_Loops_make_51 : decode b_Loops_make 51 = .ok (.ifCond .eq 30, 3) := by decide +kernel
theorem d_Loops_make_54 : decode b_Loops_make 54 = .ok (.aload_n 0, 1) := by decide +kernel
theorem d_Loops_make_55 : decode b_Loops_make 55 = .ok (.dup, 1) := by decide +kernel
theorem d_Loops_make_56 : decode b_Loops_make 56 = .ok (.getfield 27, 3) := by decide +kernel
theorem d_Loops_make_59 : decode b_Loops_make 59 = .ok (.iconst 1, 1) := by decide +kernel
theorem d_Loops_make_60 : decode b_Loops_make 60 = .ok (.iadd, 1) := by decide +kernel
theorem d_Loops_make_61 : decode b_Loops_make 61 = .ok (.putfield 27, 3) := by decide +kernel
theorem d_Loops_make_64 : decode b_Loops_make 64 = .ok (.aload_n 0, 1) := by decide +kernel
theorem d_Loops_make_65 : decode b_Loops_make 65 = .ok (.getfield 23, 3) := by decide +kernel
theorem d_Loops_make_68 : decode b_Loops_make 68 = .ok (.iload_n 1, 1) := by decide +kernel
theorem d_Loops_make_69 : decode b_Loops_make 69 = .ok (.aload_n 0, 1) := by decide +kernel
theorem d_Loops_make_70 : decode b_Loops_make 70 = .ok (.iload_n 1, 1) := by decide +kernel
theorem d_Loops_make_71 : decode b_Loops_make 71 = .ok (.aload_n 0, 1) := by decide +kernel
theorem d_Loops_make_72 : decode b_Loops_make 72 = .ok (.getfield 23, 3) := by decide +kernel
theorem d_Loops_make_75 : decode b_Loops_make 75 = .ok (.iload_n 1, 1) := by decide +kernel
theorem d_Loops_make_76 : decode b_Loops_make 76 = .ok (.laload, 1) := by decide +kernel
theorem d_Loops_make_77 : decode b_Loops_make 77 = .ok (.invokevirtual 53, 3) := by decide +kernel
theorem d_Loops_make_80 : decode b_Loops_make 80 = .ok (.lastore, 1) := by decide +kernel
theorem d_Loops_make_81 : decode b_Loops_make 81 = .ok (.iinc 1 1, 3) := by decide +kernel
theorem d_Loops_make_84 : decode b_Loops_make 84 = .ok (.goto (-47), 3) := by decide +kernel
theorem d_Loops_make_87 : decode b_Loops_make 87 = .ok (.return_, 1) := by decide +kernel
theorem d_BlockRuler_refresh_0 : decode b_BlockRuler_refresh 0 = .ok (.aload_n 0, 1) := by decide +kernel
theorem d_BlockRuler_refresh_1 : decode b_BlockRuler_refresh 1 = .ok (.getfield 43, 3) := by decide +kernel
theorem d_BlockRuler_refresh_4 : decode b_BlockRuler_refresh 4 = .ok (.ifCond .eq 29, 3) := by decide +kernel
theorem d_BlockRuler_refresh_7 : decode b_BlockRuler_refresh 7 = .ok (.aload_n 0, 1) := by decide +kernel
theorem d_BlockRuler_refresh_8 : decode b_BlockRuler_refresh 8 = .ok (.getfield 21, 3) := by decide +kernel
theorem d_BlockRuler_refresh_11 : decode b_BlockRuler_refresh 11 = .ok (.invokevirtual 182, 3) := by decide +kernel
theorem d_BlockRuler_refresh_14 : decode b_BlockRuler_refresh 14 = .ok (.aload_n 0, 1) := by decide +kernel
theorem d_BlockRuler_refresh_15 : decode b_BlockRuler_refresh 15 = .ok (.getfield 30, 3) := by decide +kernel
theorem d_BlockRuler_refresh_18 : decode b_BlockRuler_refresh 18 = .ok (.invokevirtual 185, 3) := by decide +kernel
theorem d_BlockRuler_refresh_21 : decode b_BlockRuler_refresh 21 = .ok (.aload_n 0, 1) := by decide +kernel
theorem d_BlockRuler_refresh_22 : decode b_BlockRuler_refresh 22 = .ok (.getfield 39, 3) := by decide +kernel
theorem d_BlockRuler_refresh_25 : decode b_BlockRuler_refresh 25 = .ok (.invokevirtual 186, 3) := by decide +kernel
theorem d_BlockRuler_refresh_28 : decode b_BlockRuler_refresh 28 = .ok (.aload_n 0, 1) := by decide +kernel
theorem d_BlockRuler_refresh_29 : decode b_BlockRuler_refresh 29 = .ok (.iconst 0, 1) := by decide +kernel
theorem d_BlockRuler_refresh_30 : decode b_BlockRuler_refresh 30 = .ok (.putfield 43, 3) := by decide +kernel
theorem d_BlockRuler_refresh_33 : decode b_BlockRuler_refresh 33 = .ok (.return_, 1) := by decide +kernel
theorem d_BlockRuler_isReached_0 : decode b_BlockRuler_isReached 0 = .ok (.aload_n 0, 1) := by decide +kernel
theorem d_BlockRuler_isReached_1 : decode b_BlockRuler_isReached 1 = .ok (.getfield 12, 3) := by decide +kernel
theorem d_BlockRuler_isReached_4 : decode b_BlockRuler_isReached 4 = .ok (.iload_n 1, 1) := by decide +kernel
theorem d_BlockRuler_isReached_5 : decode b_BlockRuler_isReached 5 = .ok (.invokevirtual 62, 3) := by decide +kernel
theorem d_BlockRuler_isReached_8 : decode b_BlockRuler_isReached 8 = .ok (.ifCond .eq 20, 3) := by decide +kernel
theorem d_BlockRuler_isReached_11 : decode b_BlockRuler_isReached 11 = .ok (.aload_n 0, 1) := by decide +kernel
theorem d_BlockRuler_isReached_12 : decode b_BlockRuler_isReached 12 = .ok (.getfield 21, 3) := by decide +kernel
theorem d_BlockRuler_isReached_15 : decode b_BlockRuler_isReached 15 = .ok (.getfield 103, 3) := by decide +kernel
theorem d_BlockRuler_isReached_18 : decode b_BlockRuler_isReached 18 = .ok (.iload_n 1, 1) := by decide +kernel
theorem d_BlockRuler_isReached_19 : decode b_BlockRuler_isReached 19 = .ok (.iaload, 1) := by decide +kernel
theorem d_BlockRuler_isReached_20 : decode b_BlockRuler_isReached 20 = .ok (.iconst (-1), 1) := by decide +kernel
theorem d_BlockRuler_isReached_21 : decode b_BlockRuler_isReached 21 = .ok (.if_icmp .eq 7, 3) := by decide +kernel
theorem d_BlockRuler_isReached_24 : decode b_BlockRuler_isReached 24 = .ok (.iconst 1, 1) := by decide +kernel
theorem d_BlockRuler_isReached_25 : decode b_BlockRuler_isReached 25 = .ok (.goto 4, 3) := by decide +kernel
theorem d_BlockRuler_isReached_28 : decode b_BlockRuler_isReached 28 = .ok (.iconst 0, 1) := by decide +kernel
theorem d_BlockRuler_isReached_29 : decode b_BlockRuler_isReached 29 = .ok (.ireturn, 1) := by decide +kernel
theorem d_BlockRuler_block_0 : decode b_BlockRuler_block 0 = .ok (.aload_n 0, 1) := by decide +kernel
theorem d_BlockRuler_block_1 : decode b_BlockRuler_block 1 = .ok (.getfield 12, 3) := by decide +kernel
theorem d_BlockRuler_block_4 : decode b_BlockRuler_block 4 = .ok (.getfield 47, 3) := by decide +kernel
theorem d_BlockRuler_block_7 : decode b_BlockRuler_block 7 = .ok (.bipush 64, 2) := by decide +kernel
theorem d_BlockRuler_block_9 : decode b_BlockRuler_block 9 = .ok (.if_icmp .lt 13, 3) := by decide +kernel
theorem d_BlockRuler_block_12 : decode b_BlockRuler_block 12 = .ok (.new 51, 3) := by decide +kernel
theorem d_BlockRuler_block_15 : decode b_BlockRuler_block 15 = .ok (.dup, 1) := by decide +kernel
theorem d_BlockRuler_block_16 : decode b_BlockRuler_block 16 = .ok (.ldc 53, 2) := by decide +kernel
theorem d_BlockRuler_block_18 : decode b_BlockRuler_block 18 = .ok (.invokespecial 55, 3) := by decide +kernel
theorem d_BlockRuler_block_21 : decode b_BlockRuler_block 21 = .ok (.athrow, 1) := by decide +kernel
theorem d_BlockRuler_block_22 : decode b_BlockRuler_block 22 = .ok (.aload_n 0, 1) := by decide +kernel
theorem d_BlockRuler_block_23 : decode b_BlockRuler_block 23 = .ok (.iconst 1, 1) := by decide +kernel
theorem d_BlockRuler_block_24 : decode b_BlockRuler_block 24 = .ok (.putfield 43, 3) := by decide +kernel
theorem d_BlockRuler_block_27 : decode b_BlockRuler_block 27 = .ok (.aload_n 0, 1) := by decide +kernel
theorem d_BlockRuler_block_28 : decode b_BlockRuler_block 28 = .ok (.getfield 12, 3) := by decide +kernel
theorem d_BlockRuler_block_31 : decode b_BlockRuler_block 31 = .ok (.invokevirtual 58, 3) := by decide +kernel
theorem d_BlockRuler_block_34 : decode b_BlockRuler_block 34 = .ok (.ireturn, 1) := by decide +kernel
theorem d_BlockRuler_way_0 : decode b_BlockRuler_way 0 = .ok (.aload_n 0, 1) := by decide +kernel
theorem d_BlockRuler_way_1 : decode b_BlockRuler_way 1 = .ok (.getfield 12, 3) := by decide +kernel
theorem d_BlockRuler_way_4 : decode b_BlockRuler_way 4 = .ok (.iload_n 1, 1) := by decide +kernel
theorem d_BlockRuler_way_5 : decode b_BlockRuler_way 5 = .ok (.invokevirtual 62, 3) := by decide +kernel
theorem d_BlockRuler_way_8 : decode b_BlockRuler_way 8 = .ok (.ifCond .eq 14, 3) := by decide +kernel
theorem d_BlockRuler_way_11 : decode b_BlockRuler_way 11 = .ok (.aload_n 0, 1) := by decide +kernel
theorem d_BlockRuler_way_12 : decode b_BlockRuler_way 12 = .ok (.getfield 12, 3) := by decide +kernel
theorem d_BlockRuler_way_15 : decode b_BlockRuler_way 15 = .ok (.iload_n 2, 1) := by decide +kernel
theorem d_BlockRuler_way_16 : decode b_BlockRuler_way 16 = .ok (.invokevirtual 62, 3) := by decide +kernel
theorem d_BlockRuler_way_19 : decode b_BlockRuler_way 19 = .ok (.ifCond .ne 13, 3) := by decide +kernel
theorem d_BlockRuler_way_22 : decode b_BlockRuler_way 22 = .ok (.new 66, 3) := by decide +kernel
theorem d_BlockRuler_way_25 : decode b_BlockRuler_way 25 = .ok (.dup, 1) := by decide +kernel
theorem d_BlockRuler_way_26 : decode b_BlockRuler_way 26 = .ok (.ldc 68, 2) := by decide +kernel
theorem d_BlockRuler_way_28 : decode b_BlockRuler_way 28 = .ok (.invokespecial 70, 3) := by decide +kernel
theorem d_BlockRuler_way_31 : decode b_BlockRuler_way 31 = .ok (.athrow, 1) := by decide +kernel
theorem d_BlockRuler_way_32 : decode b_BlockRuler_way 32 = .ok (.aload_n 0, 1) := by decide +kernel
theorem d_BlockRuler_way_33 : decode b_BlockRuler_way 33 = .ok (.getfield 12, 3) := by decide +kernel
theorem d_BlockRuler_way_36 : decode b_BlockRuler_way 36 = .ok (.getfield 71, 3) := by decide +kernel
theorem d_BlockRuler_way_39 : decode b_BlockRuler_way 39 = .ok (.iload_n 1, 1) := by decide +kernel
theorem d_BlockRuler_way_40 : decode b_BlockRuler_way 40 = .ok (.iaload, 1) := by decide +kernel
theorem d_BlockRuler_way_41 : decode b_BlockRuler_way 41 = .ok (.bipush 8, 2) := by decide +kernel
theorem d_BlockRuler_way_43 : decode b_BlockRuler_way 43 = .ok (.if_icmp .lt 13, 3) := by decide +kernel
theorem d_BlockRuler_way_46 : decode b_BlockRuler_way 46 = .ok (.new 51, 3) := by decide +kernel
theorem d_BlockRuler_way_49 : decode b_BlockRuler_way 49 = .ok (.dup, 1) := by decide +kernel
theorem d_BlockRuler_way_50 : decode b_BlockRuler_way 50 = .ok (.ldc 75, 2) := by decide +kernel
theorem d_BlockRuler_way_52 : decode b_BlockRuler_way 52 = .ok (.invokespecial 55, 3) := by decide +kernel
theorem d_BlockRuler_way_55 : decode b_BlockRuler_way 55 = .ok (.athrow, 1) := by decide +kernel
theorem d_BlockRuler_way_56 : decode b_BlockRuler_way 56 = .ok (.aload_n 0, 1) := by decide +kernel
theorem d_BlockRuler_way_57 : decode b_BlockRuler_way 57 = .ok (.iconst 1, 1) := by decide +kernel
theorem d_BlockRuler_way_58 : decode b_BlockRuler_way 58 = .ok (.putfield 43, 3) := by decide +kernel
theorem d_BlockRuler_way_61 : decode b_BlockRuler_way 61 = .ok (.aload_n 0, 1) := by decide +kernel
theorem d_BlockRuler_way_62 : decode b_BlockRuler_way 62 = .ok (.getfield 12, 3) := by decide +kernel
theorem d_BlockRuler_way_65 : decode b_BlockRuler_way 65 = .ok (.iload_n 1, 1) := by decide +kernel
theorem d_BlockRuler_way_66 : decode b_BlockRuler_way 66 = .ok (.iload_n 2, 1) := by decide +kernel
theorem d_BlockRuler_way_67 : decode b_BlockRuler_way 67 = .ok (.invokevirtual 77, 3) := by decide +kernel
theorem d_BlockRuler_way_70 : decode b_BlockRuler_way 70 = .ok (.ireturn, 1) := by decide +kernel
theorem d_BlockRuler_cut_0 : decode b_BlockRuler_cut 0 = .ok (.aload_n 0, 1) := by decide +kernel
theorem d_BlockRuler_cut_1 : decode b_BlockRuler_cut 1 = .ok (.getfield 12, 3) := by decide +kernel
theorem d_BlockRuler_cut_4 : decode b_BlockRuler_cut 4 = .ok (.iload_n 1, 1) := by decide +kernel
theorem d_BlockRuler_cut_5 : decode b_BlockRuler_cut 5 = .ok (.iload_n 2, 1) := by decide +kernel
theorem d_BlockRuler_cut_6 : decode b_BlockRuler_cut 6 = .ok (.invokevirtual 81, 3) := by decide +kernel
theorem d_BlockRuler_cut_9 : decode b_BlockRuler_cut 9 = .ok (.ifCond .ne 13, 3) := by decide +kernel
theorem d_BlockRuler_cut_12 : decode b_BlockRuler_cut 12 = .ok (.new 85, 3) := by decide +kernel
theorem d_BlockRuler_cut_15 : decode b_BlockRuler_cut 15 = .ok (.dup, 1) := by decide +kernel
theorem d_BlockRuler_cut_16 : decode b_BlockRuler_cut 16 = .ok (.ldc 87, 2) := by decide +kernel
theorem d_BlockRuler_cut_18 : decode b_BlockRuler_cut 18 = .ok (.invokespecial 89, 3) := by decide +kernel
theorem d_BlockRuler_cut_21 : decode b_BlockRuler_cut 21 = .ok (.athrow, 1) := by decide +kernel
theorem d_BlockRuler_cut_22 : decode b_BlockRuler_cut 22 = .ok (.aload_n 0, 1) := by decide +kernel
theorem d_BlockRuler_cut_23 : decode b_BlockRuler_cut 23 = .ok (.iconst 1, 1) := by decide +kernel
theorem d_BlockRuler_cut_24 : decode b_BlockRuler_cut 24 = .ok (.putfield 43, 3) := by decide +kernel
theorem d_BlockRuler_cut_27 : decode b_BlockRuler_cut 27 = .ok (.aload_n 0, 1) := by decide +kernel
theorem d_BlockRuler_cut_28 : decode b_BlockRuler_cut 28 = .ok (.getfield 12, 3) := by decide +kernel
theorem d_BlockRuler_cut_31 : decode b_BlockRuler_cut 31 = .ok (.iload_n 1, 1) := by decide +kernel
theorem d_BlockRuler_cut_32 : decode b_BlockRuler_cut 32 = .ok (.iload_n 2, 1) := by decide +kernel
theorem d_BlockRuler_cut_33 : decode b_BlockRuler_cut 33 = .ok (.invokevirtual 90, 3) := by decide +kernel
theorem d_BlockRuler_cut_36 : decode b_BlockRuler_cut 36 = .ok (.ireturn, 1) := by decide +kernel
theorem d_BlockRuler_turn_0 : decode b_BlockRuler_turn 0 = .ok (.aload_n 0, 1) := by decide +kernel
theorem d_BlockRuler_turn_1 : decode b_BlockRuler_turn 1 = .ok (.getfield 12, 3) := by decide +kernel
theorem d_BlockRuler_turn_4 : decode b_BlockRuler_turn 4 = .ok (.iload_n 1, 1) := by decide +kernel
theorem d_BlockRuler_turn_5 : decode b_BlockRuler_turn 5 = .ok (.iload_n 2, 1) := by decide +kernel
theorem d_BlockRuler_turn_6 : decode b_BlockRuler_turn 6 = .ok (.invokevirtual 81, 3) := by decide +kernel
theorem d_BlockRuler_turn_9 : decode b_BlockRuler_turn 9 = .ok (.ifCond .ne 13, 3) := by decide +kernel
theorem d_BlockRuler_turn_12 : decode b_BlockRuler_turn 12 = .ok (.new 85, 3) := by decide +kernel
theorem d_BlockRuler_turn_15 : decode b_BlockRuler_turn 15 = .ok (.dup, 1) := by decide +kernel
theorem d_BlockRuler_turn_16 : decode b_BlockRuler_turn 16 = .ok (.ldc 87, 2) := by decide +kernel
theorem d_BlockRuler_turn_18 : decode b_BlockRuler_turn 18 = .ok (.invokespecial 89, 3) := by decide +kernel
theorem d_BlockRuler_turn_21 : decode b_BlockRuler_turn 21 = .ok (.athrow, 1) := by decide +kernel
theorem d_BlockRuler_turn_22 : decode b_BlockRuler_turn 22 = .ok (.aload_n 0, 1) := by decide +kernel
theorem d_BlockRuler_turn_23 : decode b_BlockRuler_turn 23 = .ok (.getfield 12, 3) := by decide +kernel
theorem d_BlockRuler_turn_26 : decode b_BlockRuler_turn 26 = .ok (.iload_n 3, 1) := by decide +kernel
theorem d_BlockRuler_turn_27 : decode b_BlockRuler_turn 27 = .ok (.invokevirtual 62, 3) := by decide +kernel
theorem d_BlockRuler_turn_30 : decode b_BlockRuler_turn 30 = .ok (.ifCond .ne 13, 3) := by decide +kernel
theorem d_BlockRuler_turn_33 : decode b_BlockRuler_turn 33 = .ok (.new 66, 3) := by decide +kernel
theorem d_BlockRuler_turn_36 : decode b_BlockRuler_turn 36 = .ok (.dup, 1) := by decide +kernel
theorem d_BlockRuler_turn_37 : decode b_BlockRuler_turn 37 = .ok (.ldc 68, 2) := by decide +kernel
theorem d_BlockRuler_turn_39 : decode b_BlockRuler_turn 39 = .ok (.invokespecial 70, 3) := by decide +kernel
theorem d_BlockRuler_turn_42 : decode b_BlockRuler_turn 42 = .ok (.athrow, 1) := by decide +kernel
theorem d_BlockRuler_turn_43 : decode b_BlockRuler_turn 43 = .ok (.aload_n 0, 1) := by decide +kernel
theorem d_BlockRuler_turn_44 : decode b_BlockRuler_turn 44 = .ok (.iconst 1, 1) := by decide +kernel
theorem d_BlockRuler_turn_45 : decode b_BlockRuler_turn 45 = .ok (.putfield 43, 3) := by decide +kernel
theorem d_BlockRuler_turn_48 : decode b_BlockRuler_turn 48 = .ok (.aload_n 0, 1) := by decide +kernel
theorem d_BlockRuler_turn_49 : decode b_BlockRuler_turn 49 = .ok (.getfield 12, 3) := by decide +kernel
theorem d_BlockRuler_turn_52 : decode b_BlockRuler_turn 52 = .ok (.iload_n 1, 1) := by decide +kernel
theorem d_BlockRuler_turn_53 : decode b_BlockRuler_turn 53 = .ok (.iload_n 2, 1) := by decide +kernel
theorem d_BlockRuler_turn_54 : decode b_BlockRuler_turn 54 = .ok (.iload_n 3, 1) := by decide +kernel
theorem d_BlockRuler_turn_55 : decode b_BlockRuler_turn 55 = .ok (.invokevirtual 93, 3) := by decide +kernel
theorem d_BlockRuler_turn_58 : decode b_BlockRuler_turn 58 = .ok (.ireturn, 1) := by decide +kernel
theorem d_BlockRuler_common_0 : decode b_BlockRuler_common 0 = .ok (.aload_n 0, 1) := by decide +kernel
theorem d_BlockRuler_common_1 : decode b_BlockRuler_common 1 = .ok (.invokevirtual 100, 3) := by decide +kernel
theorem d_BlockRuler_common_4 : decode b_BlockRuler_common 4 = .ok (.aload_n 0, 1) := by decide +kernel
theorem d_BlockRuler_common_5 : decode b_BlockRuler_common 5 = .ok (.iload_n 1, 1) := by decide +kernel
theorem d_BlockRuler_common_6 : decode b_BlockRuler_common 6 = .ok (.invokevirtual 130, 3) := by decide +kernel
theorem d_BlockRuler_common_9 : decode b_BlockRuler_common 9 = .ok (.ifCond .eq 11, 3) := by decide +kernel
theorem d_BlockRuler_common_12 : decode b_BlockRuler_common 12 = .ok (.aload_n 0, 1) := by decide +kernel
theorem d_BlockRuler_common_13 : decode b_BlockRuler_common 13 = .ok (.iload_n 2, 1) := by decide +kernel
theorem d_BlockRuler_common_14 : decode b_BlockRuler_common 14 = .ok (.invokevirtual 130, 3) := by decide +kernel
theorem d_BlockRuler_common_17 : decode b_BlockRuler_common 17 = .ok (.ifCond .ne 13, 3) := by decide +kernel
theorem d_BlockRuler_common_20 : decode b_BlockRuler_common 20 = .ok (.new 66, 3) := by decide +kernel
theorem d_BlockRuler_common_23 : decode b_BlockRuler_common 23 = .ok (.dup, 1) := by decide +kernel
theorem d_BlockRuler_common_24 : decode b_BlockRuler_common 24 = .ok (.ldc 133, 2) := by decide +kernel
theorem d_BlockRuler_common_26 : decode b_BlockRuler_common 26 = .ok (.invokespecial 70, 3) := by decide +kernel
theorem d_BlockRuler_common_29 : decode b_BlockRuler_common 29 = .ok (.athrow, 1) := by decide +kernel
theorem d_BlockRuler_common_30 : decode b_BlockRuler_common 30 = .ok (.aload_n 0, 1) := by decide +kernel
theorem d_BlockRuler_common_31 : decode b_BlockRuler_common 31 = .ok (.getfield 21, 3) := by decide +kernel
theorem d_BlockRuler_common_34 : decode b_BlockRuler_common 34 = .ok (.aload_n 0, 1) := by decide +kernel
theorem d_BlockRuler_common_35 : decode b_BlockRuler_common 35 = .ok (.getfield 30, 3) := by decide +kernel
theorem d_BlockRuler_common_38 : decode b_BlockRuler_common 38 = .ok (.getfield 113, 3) := by decide +kernel
theorem d_BlockRuler_common_41 : decode b_BlockRuler_common 41 = .ok (.iload_n 1, 1) := by decide +kernel
theorem d_BlockRuler_common_42 : decode b_BlockRuler_common 42 = .ok (.laload, 1) := by decide +kernel
theorem d_BlockRuler_common_43 : decode b_BlockRuler_common 43 = .ok (.aload_n 0, 1) := by decide +kernel
theorem d_BlockRuler_common_44 : decode b_BlockRuler_common 44 = .ok (.getfield 30, 3) := by decide +kernel
theorem d_BlockRuler_common_47 : decode b_BlockRuler_common 47 = .ok (.getfield 113, 3) := by decide +kernel
theorem d_BlockRuler_common_50 : decode b_BlockRuler_common 50 = .ok (.iload_n 2, 1) := by decide +kernel
theorem d_BlockRuler_common_51 : decode b_BlockRuler_common 51 = .ok (.laload, 1) := by decide +kernel
theorem d_BlockRuler_common_52 : decode b_BlockRuler_common 52 = .ok (.land, 1) := by decide +kernel
theorem d_BlockRuler_common_53 : decode b_BlockRuler_common 53 = .ok (.invokevirtual 123, 3) := by decide +kernel
theorem d_BlockRuler_common_56 : decode b_BlockRuler_common 56 = .ok (.ireturn, 1) := by decide +kernel
theorem d_BlockRuler_end_0 : decode b_BlockRuler_end 0 = .ok (.aload_n 0, 1) := by decide +kernel
theorem d_BlockRuler_end_1 : decode b_BlockRuler_end 1 = .ok (.getfield 12, 3) := by decide +kernel
theorem d_BlockRuler_end_4 : decode b_BlockRuler_end 4 = .ok (.iload_n 1, 1) := by decide +kernel
theorem d_BlockRuler_end_5 : decode b_BlockRuler_end 5 = .ok (.iload_n 2, 1) := by decide +kernel
theorem d_BlockRuler_end_6 : decode b_BlockRuler_end 6 = .ok (.invokevirtual 81, 3) := by decide +kernel
theorem d_BlockRuler_end_9 : decode b_BlockRuler_end 9 = .ok (.ifCond .eq 15, 3) := by decide +kernel
theorem d_BlockRuler_end_12 : decode b_BlockRuler_end 12 = .ok (.aload_n 0, 1) := by decide +kernel
theorem d_BlockRuler_end_13 : decode b_BlockRuler_end 13 = .ok (.getfield 12, 3) := by decide +kernel
theorem d_BlockRuler_end_16 : decode b_BlockRuler_end 16 = .ok (.iload_n 1, 1) := by decide +kernel
theorem d_BlockRuler_end_17 : decode b_BlockRuler_end 17 = .ok (.iload_n 2, 1) := by decide +kernel
theorem d_BlockRuler_end_18 : decode b_BlockRuler_end 18 = .ok (.invokevirtual 97, 3) := by decide +kernel
theorem d_BlockRuler_end_21 : decode b_BlockRuler_end 21 = .ok (.goto 4, 3) := by decide +kernel
theorem d_BlockRuler_end_24 : decode b_BlockRuler_end 24 = .ok (.iconst (-1), 1) := by decide +kernel
theorem d_BlockRuler_end_25 : decode b_BlockRuler_end 25 = .ok (.ireturn, 1) := by decide +kernel
theorem d_BlockRuler_order_0 : decode b_BlockRuler_order 0 = .ok (.aload_n 0, 1) := by decide +kernel
theorem d_BlockRuler_order_1 : decode b_BlockRuler_order 1 = .ok (.invokevirtual 100, 3) := by decide +kernel
theorem d_BlockRuler_order_4 : decode b_BlockRuler_order 4 = .ok (.aload_n 0, 1) := by decide +kernel
theorem d_BlockRuler_order_5 : decode b_BlockRuler_order 5 = .ok (.getfield 12, 3) := by decide +kernel
theorem d_BlockRuler_order_8 : decode b_BlockRuler_order 8 = .ok (.iload_n 1, 1) := by decide +kernel
theorem d_BlockRuler_order_9 : decode b_BlockRuler_order 9 = .ok (.invokevirtual 62, 3) := by decide +kernel
theorem d_BlockRuler_order_12 : decode b_BlockRuler_order 12 = .ok (.ifCond .eq 15, 3) := by decide +kernel
theorem d_BlockRuler_order_15 : decode b_BlockRuler_order 15 = .ok (.aload_n 0, 1) := by decide +kernel
theorem d_BlockRuler_order_16 : decode b_BlockRuler_order 16 = .ok (.getfield 21, 3) := by decide +kernel
theorem d_BlockRuler_order_19 : decode b_BlockRuler_order 19 = .ok (.getfield 103, 3) := by decide +kernel
theorem d_BlockRuler_order_22 : decode b_BlockRuler_order 22 = .ok (.iload_n 1, 1) := by decide +kernel
theorem d_BlockRuler_order_23 : decode b_BlockRuler_order 23 = .ok (.iaload, 1) := by decide +kernel
theorem d_BlockRuler_order_24 : decode b_BlockRuler_order 24 = .ok (.goto 4, 3) := by decide +kernel
theorem d_BlockRuler_order_27 : decode b_BlockRuler_order 27 = .ok (.iconst (-1), 1) := by decide +kernel
theorem d_BlockRuler_order_28 : decode b_BlockRuler_order 28 = .ok (.ireturn, 1) := by decide +kernel
theorem d_BlockRuler_at_0 : decode b_BlockRuler_at 0 = .ok (.aload_n 0, 1) := by decide +kernel
theorem d_BlockRuler_at_1 : decode b_BlockRuler_at 1 = .ok (.invokevirtual 100, 3) := by decide +kernel
theorem d_BlockRuler_at_4 : decode b_BlockRuler_at 4 = .ok (.iload_n 1, 1) := by decide +kernel
theorem d_BlockRuler_at_5 : decode b_BlockRuler_at 5 = .ok (.ifCond .lt 25, 3) := by decide +kernel
theorem d_BlockRuler_at_8 : decode b_BlockRuler_at 8 = .ok (.iload_n 1, 1) := by decide +kernel
theorem d_BlockRuler_at_9 : decode b_BlockRuler_at 9 = .ok (.aload_n 0, 1) := by decide +kernel
theorem d_BlockRuler_at_10 : decode b_BlockRuler_at 10 = .ok (.getfield 21, 3) := by decide +kernel
theorem d_BlockRuler_at_13 : decode b_BlockRuler_at 13 = .ok (.getfield 106, 3) := by decide +kernel
theorem d_BlockRuler_at_16 : decode b_BlockRuler_at 16 = .ok (.if_icmp .ge 14, 3) := by decide +kernel
theorem d_BlockRuler_at_19 : decode b_BlockRuler_at 19 = .ok (.aload_n 0, 1) := by decide +kernel
theorem d_BlockRuler_at_20 : decode b_BlockRuler_at 20 = .ok (.getfield 21, 3) := by decide +kernel
theorem d_BlockRuler_at_23 : decode b_BlockRuler_at 23 = .ok (.iload_n 1, 1) := by decide +kernel
theorem d_BlockRuler_at_24 : decode b_BlockRuler_at 24 = .ok (.invokevirtual 109, 3) := by decide +kernel
theorem d_BlockRuler_at_27 : decode b_BlockRuler_at 27 = .ok (.goto 4, 3) := by decide +kernel
theorem d_BlockRuler_at_30 : decode b_BlockRuler_at 30 = .ok (.iconst (-1), 1) := by decide +kernel
theorem d_BlockRuler_at_31 : decode b_BlockRuler_at 31 = .ok (.ireturn, 1) := by decide +kernel
theorem d_BlockRuler_parent_0 : decode b_BlockRuler_parent 0 = .ok (.aload_n 0, 1) := by decide +kernel
theorem d_BlockRuler_parent_1 : decode b_BlockRuler_parent 1 = .ok (.invokevirtual 100, 3) := by decide +kernel
theorem d_BlockRuler_parent_4 : decode b_BlockRuler_parent 4 = .ok (.aload_n 0, 1) := by decide +kernel
theorem d_BlockRuler_parent_5 : decode b_BlockRuler_parent 5 = .ok (.getfield 12, 3) := by decide +kernel
theorem d_BlockRuler_parent_8 : decode b_BlockRuler_parent 8 = .ok (.iload_n 1, 1) := by decide +kernel
theorem d_BlockRuler_parent_9 : decode b_BlockRuler_parent 9 = .ok (.invokevirtual 62, 3) := by decide +kernel
theorem d_BlockRuler_parent_12 : decode b_BlockRuler_parent 12 = .ok (.ifCond .eq 31, 3) := by decide +kernel
theorem d_BlockRuler_parent_15 : decode b_BlockRuler_parent 15 = .ok (.aload_n 0, 1) := by decide +kernel
theorem d_BlockRuler_parent_16 : decode b_BlockRuler_parent 16 = .ok (.getfield 21, 3) := by decide +kernel
theorem d_BlockRuler_parent_19 : decode b_BlockRuler_parent 19 = .ok (.aload_n 0, 1) := by decide +kernel
theorem d_BlockRuler_parent_20 : decode b_BlockRuler_parent 20 = .ok (.getfield 30, 3) := by decide +kernel
theorem d_BlockRuler_parent_23 : decode b_BlockRuler_parent 23 = .ok (.getfield 113, 3) := by decide +kernel
theorem d_BlockRuler_parent_26 : decode b_BlockRuler_parent 26 = .ok (.iload_n 1, 1) := by decide +kernel
theorem d_BlockRuler_parent_27 : decode b_BlockRuler_parent 27 = .ok (.laload, 1) := by decide +kernel
theorem d_BlockRuler_parent_28 : decode b_BlockRuler_parent 28 = .ok (.iload_n 1, 1) := by decide +kernel
theorem d_BlockRuler_parent_29 : decode b_BlockRuler_parent 29 = .ok (.invokestatic 117, 3) := by decide +kernel
theorem d_BlockRuler_parent_32 : decode b_BlockRuler_parent 32 = .ok (.ldc2_w 121, 3) := by decide +kernel
theorem d_BlockRuler_parent_35 : decode b_BlockRuler_parent 35 = .ok (.lxor, 1) := by decide +kernel
theorem d_BlockRuler_parent_36 : decode b_BlockRuler_parent 36 = .ok (.land, 1) := by decide +kernel
theorem d_BlockRuler_parent_37 : decode b_BlockRuler_parent 37 = .ok (.invokevirtual 123, 3) := by decide +kernel
theorem d_BlockRuler_parent_40 : decode b_BlockRuler_parent 40 = .ok (.goto 4, 3) := by decide +kernel
theorem d_BlockRuler_parent_43 : decode b_BlockRuler_parent 43 = .ok (.iconst (-1), 1) := by decide +kernel
theorem d_BlockRuler_parent_44 : decode b_BlockRuler_parent 44 = .ok (.ireturn, 1) := by decide +kernel
theorem d_BlockRuler_rules_0 : decode b_BlockRuler_rules 0 = .ok (.aload_n 0, 1) := by decide +kernel
theorem d_BlockRuler_rules_1 : decode b_BlockRuler_rules 1 = .ok (.invokevirtual 100, 3) := by decide +kernel
theorem d_BlockRuler_rules_4 : decode b_BlockRuler_rules 4 = .ok (.aload_n 0, 1) := by decide +kernel
theorem d_BlockRuler_rules_5 : decode b_BlockRuler_rules 5 = .ok (.getfield 12, 3) := by decide +kernel
theorem d_BlockRuler_rules_8 : decode b_BlockRuler_rules 8 = .ok (.iload_n 1, 1) := by decide +kernel
theorem d_BlockRuler_rules_9 : decode b_BlockRuler_rules 9 = .ok (.invokevirtual 62, 3) := by decide +kernel
theorem d_BlockRuler_rules_12 : decode b_BlockRuler_rules 12 = .ok (.ifCond .eq 30, 3) := by decide +kernel
theorem d_BlockRuler_rules_15 : decode b_BlockRuler_rules 15 = .ok (.aload_n 0, 1) := by decide +kernel
theorem d_BlockRuler_rules_16 : decode b_BlockRuler_rules 16 = .ok (.getfield 12, 3) := by decide +kernel
theorem d_BlockRuler_rules_19 : decode b_BlockRuler_rules 19 = .ok (.iload_n 2, 1) := by decide +kernel
theorem d_BlockRuler_rules_20 : decode b_BlockRuler_rules 20 = .ok (.invokevirtual 62, 3) := by decide +kernel
theorem d_BlockRuler_rules_23 : decode b_BlockRuler_rules 23 = .ok (.ifCond .eq 19, 3) := by decide +kernel
theorem d_BlockRuler_rules_26 : decode b_BlockRuler_rules 26 = .ok (.aload_n 0, 1) := by decide +kernel
theorem d_BlockRuler_rules_27 : decode b_BlockRuler_rules 27 = .ok (.getfield 30, 3) := by decide +kernel
theorem d_BlockRuler_rules_30 : decode b_BlockRuler_rules 30 = .ok (.iload_n 1, 1) := by decide +kernel
theorem d_BlockRuler_rules_31 : decode b_BlockRuler_rules 31 = .ok (.iload_n 2, 1) := by decide +kernel
theorem d_BlockRuler_rules_32 : decode b_BlockRuler_rules 32 = .ok (.invokevirtual 127, 3) := by decide +kernel
theorem d_BlockRuler_rules_35 : decode b_BlockRuler_rules 35 = .ok (.ifCond .eq 7, 3) := by decide +kernel
theorem d_BlockRuler_rules_38 : decode b_BlockRuler_rules 38 = .ok (.iconst 1, 1) := by decide +kernel
theorem d_BlockRuler_rules_39 : decode b_BlockRuler_rules 39 = .ok (.goto 4, 3) := by decide +kernel
theorem d_BlockRuler_rules_42 : decode b_BlockRuler_rules 42 = .ok (.iconst 0, 1) := by decide +kernel
theorem d_BlockRuler_rules_43 : decode b_BlockRuler_rules 43 = .ok (.ireturn, 1) := by decide +kernel
theorem d_BlockRuler_sort_0 : decode b_BlockRuler_sort 0 = .ok (.aload_n 0, 1) := by decide +kernel
theorem d_BlockRuler_sort_1 : decode b_BlockRuler_sort 1 = .ok (.invokevirtual 100, 3) := by decide +kernel
theorem d_BlockRuler_sort_4 : decode b_BlockRuler_sort 4 = .ok (.aload_n 0, 1) := by decide +kernel
theorem d_BlockRuler_sort_5 : decode b_BlockRuler_sort 5 = .ok (.iload_n 1, 1) := by decide +kernel
theorem d_BlockRuler_sort_6 : decode b_BlockRuler_sort 6 = .ok (.invokevirtual 130, 3) := by decide +kernel
theorem d_BlockRuler_sort_9 : decode b_BlockRuler_sort 9 = .ok (.ifCond .eq 27, 3) := by decide +kernel
theorem d_BlockRuler_sort_12 : decode b_BlockRuler_sort 12 = .ok (.aload_n 0, 1) := by decide +kernel
theorem d_BlockRuler_sort_13 : decode b_BlockRuler_sort 13 = .ok (.getfield 12, 3) := by decide +kernel
theorem d_BlockRuler_sort_16 : decode b_BlockRuler_sort 16 = .ok (.iload_n 1, 1) := by decide +kernel
theorem d_BlockRuler_sort_17 : decode b_BlockRuler_sort 17 = .ok (.iload_n 2, 1) := by decide +kernel
theorem d_BlockRuler_sort_18 : decode b_BlockRuler_sort 18 = .ok (.invokevirtual 81, 3) := by decide +kernel
theorem d_BlockRuler_sort_21 : decode b_BlockRuler_sort 21 = .ok (.ifCond .eq 15, 3) := by decide +kernel
theorem d_BlockRuler_sort_24 : decode b_BlockRuler_sort 24 = .ok (.aload_n 0, 1) := by decide +kernel
theorem d_BlockRuler_sort_25 : decode b_BlockRuler_sort 25 = .ok (.getfield 39, 3) := by decide +kernel
theorem d_BlockRuler_sort_28 : decode b_BlockRuler_sort 28 = .ok (.iload_n 1, 1) := by decide +kernel
theorem d_BlockRuler_sort_29 : decode b_BlockRuler_sort 29 = .ok (.iload_n 2, 1) := by decide +kernel
theorem d_BlockRuler_sort_30 : decode b_BlockRuler_sort 30 = .ok (.invokevirtual 135, 3) := by decide +kernel
theorem d_BlockRuler_sort_33 : decode b_BlockRuler_sort 33 = .ok (.goto 4, 3) := by decide +kernel
theorem d_BlockRuler_sort_36 : decode b_BlockRuler_sort 36 = .ok (.iconst (-1), 1) := by decide +kernel
theorem d_BlockRuler_sort_37 : decode b_BlockRuler_sort 37 = .ok (.ireturn, 1) := by decide +kernel
theorem d_BlockRuler_inLoop_0 : decode b_BlockRuler_inLoop 0 = .ok (.aload_n 0, 1) := by decide +kernel
theorem d_BlockRuler_inLoop_1 : decode b_BlockRuler_inLoop 1 = .ok (.invokevirtual 100, 3) := by decide +kernel
theorem d_BlockRuler_inLoop_4 : decode b_BlockRuler_inLoop 4 = .ok (.aload_n 0, 1) := by decide +kernel
theorem d_BlockRuler_inLoop_5 : decode b_BlockRuler_inLoop 5 = .ok (.getfield 12, 3) := by decide +kernel
theorem d_BlockRuler_inLoop_8 : decode b_BlockRuler_inLoop 8 = .ok (.iload_n 1, 1) := by decide +kernel
theorem d_BlockRuler_inLoop_9 : decode b_BlockRuler_inLoop 9 = .ok (.invokevirtual 62, 3) := by decide +kernel
theorem d_BlockRuler_inLoop_12 : decode b_BlockRuler_inLoop 12 = .ok (.ifCond .eq 34, 3) := by decide +kernel
theorem d_BlockRuler_inLoop_15 : decode b_BlockRuler_inLoop 15 = .ok (.aload_n 0, 1) := by decide +kernel
theorem d_BlockRuler_inLoop_16 : decode b_BlockRuler_inLoop 16 = .ok (.getfield 12, 3) := by decide +kernel
theorem d_BlockRuler_inLoop_19 : decode b_BlockRuler_inLoop 19 = .ok (.iload_n 2, 1) := by decide +kernel
theorem d_BlockRuler_inLoop_20 : decode b_BlockRuler_inLoop 20 = .ok (.invokevirtual 62, 3) := by decide +kernel
theorem d_BlockRuler_inLoop_23 : decode b_BlockRuler_inLoop 23 = .ok (.ifCond .eq 23, 3) := by decide +kernel
theorem d_BlockRuler_inLoop_26 : decode b_BlockRuler_inLoop 26 = .ok (.aload_n 0, 1) := by decide +kernel
theorem d_BlockRuler_inLoop_27 : decode b_BlockRuler_inLoop 27 = .ok (.getfield 39, 3) := by decide +kernel
theorem d_BlockRuler_inLoop_30 : decode b_BlockRuler_inLoop 30 = .ok (.getfield 138, 3) := by decide +kernel
theorem d_BlockRuler_inLoop_33 : decode b_BlockRuler_inLoop 33 = .ok (.iload_n 1, 1) := by decide +kernel
theorem d_BlockRuler_inLoop_34 : decode b_BlockRuler_inLoop 34 = .ok (.laload, 1) := by decide +kernel
theorem d_BlockRuler_inLoop_35 : decode b_BlockRuler_inLoop 35 = .ok (.iload_n 2, 1) := by decide +kernel
theorem d_BlockRuler_inLoop_36 : decode b_BlockRuler_inLoop 36 = .ok (.invokestatic 139, 3) := by decide +kernel
theorem d_BlockRuler_inLoop_39 : decode b_BlockRuler_inLoop 39 = .ok (.ifCond .eq 7, 3) := by decide +kernel
theorem d_BlockRuler_inLoop_42 : decode b_BlockRuler_inLoop 42 = .ok (.iconst 1, 1) := by decide +kernel
theorem d_BlockRuler_inLoop_43 : decode b_BlockRuler_inLoop 43 = .ok (.goto 4, 3) := by decide +kernel
theorem d_BlockRuler_inLoop_46 : decode b_BlockRuler_inLoop 46 = .ok (.iconst 0, 1) := by decide +kernel
theorem d_BlockRuler_inLoop_47 : decode b_BlockRuler_inLoop 47 = .ok (.ireturn, 1) := by decide +kernel
theorem d_BlockRuler_look_0 : decode b_BlockRuler_look 0 = .ok (.aload_n 0, 1) := by decide +kernel
theorem d_BlockRuler_look_1 : decode b_BlockRuler_look 1 = .ok (.invokevirtual 100, 3) := by decide +kernel
theorem d_BlockRuler_look_4 : decode b_BlockRuler_look 4 = .ok (.aload_n 0, 1) := by decide +kernel
theorem d_BlockRuler_look_5 : decode b_BlockRuler_look 5 = .ok (.getfield 12, 3) := by decide +kernel
theorem d_BlockRuler_look_8 : decode b_BlockRuler_look 8 = .ok (.iload_n 1, 1) := by decide +kernel
theorem d_BlockRuler_look_9 : decode b_BlockRuler_look 9 = .ok (.invokevirtual 62, 3) := by decide +kernel
theorem d_BlockRuler_look_12 : decode b_BlockRuler_look 12 = .ok (.ifCond .ne 5, 3) := by decide +kernel
theorem d_BlockRuler_look_15 : decode b_BlockRuler_look 15 = .ok (.iconst (-1), 1) := by decide +kernel
theorem d_BlockRuler_look_16 : decode b_BlockRuler_look 16 = .ok (.ireturn, 1) := by decide +kernel
theorem d_BlockRuler_look_17 : decode b_BlockRuler_look 17 = .ok (.iload_n 2, 1) := by decide +kernel
theorem d_BlockRuler_look_18 : decode b_BlockRuler_look 18 = .ok (.tableswitch 125 0 6 #[42, 52, 72, 85, 94, 103, 115], 42) := by decide +kernel
theorem d_BlockRuler_look_60 : decode b_BlockRuler_look 60 = .ok (.aload_n 0, 1) := by decide +kernel
theorem d_BlockRuler_look_61 : decode b_BlockRuler_look 61 = .ok (.getfield 12, 3) := by decide +kernel
theorem d_BlockRuler_look_64 : decode b_BlockRuler_look 64 = .ok (.getfield 71, 3) := by decide +kernel
theorem d_BlockRuler_look_67 : decode b_BlockRuler_look 67 = .ok (.iload_n 1, 1) := by decide +kernel
theorem d_BlockRuler_look_68 : decode b_BlockRuler_look 68 = .ok (.iaload, 1) := by decide +kernel
theorem d_BlockRuler_look_69 : decode b_BlockRuler_look 69 = .ok (.ireturn, 1) := by decide +kernel
theorem d_BlockRuler_look_70 : decode b_BlockRuler_look 70 = .ok (.aload_n 0, 1) := by decide +kernel
theorem d_BlockRuler_look_71 : decode b_BlockRuler_look 71 = .ok (.getfield 39, 3) := by decide +kernel
theorem d_BlockRuler_look_74 : decode b_BlockRuler_look 74 = .ok (.getfield 138, 3) := by decide +kernel
theorem d_BlockRuler_look_77 : decode b_BlockRuler_look 77 = .ok (.iload_n 1, 1) := by decide +kernel
theorem d_BlockRuler_look_78 : decode b_BlockRuler_look 78 = .ok (.laload, 1) := by decide +kernel
theorem d_BlockRuler_look_79 : decode b_BlockRuler_look 79 = .ok (.lconst 0, 1) := by decide +kernel
theorem d_BlockRuler_look_80 : decode b_BlockRuler_look 80 = .ok (.lcmp, 1) := by decide +kernel
theorem d_BlockRuler_look_81 : decode b_BlockRuler_look 81 = .ok (.ifCond .eq 7, 3) := by decide +kernel
theorem d_BlockRuler_look_84 : decode b_BlockRuler_look 84 = .ok (.iconst 1, 1) := by decide +kernel
theorem d_BlockRuler_look_85 : decode b_BlockRuler_look 85 = .ok (.goto 4, 3) := by decide +kernel
theorem d_BlockRuler_look_88 : decode b_BlockRuler_look 88 = .ok (.iconst 0, 1) := by decide +kernel
theorem d_BlockRuler_look_89 : decode b_BlockRuler_look 89 = .ok (.ireturn, 1) := by decide +kernel
theorem d_BlockRuler_look_90 : decode b_BlockRuler_look 90 = .ok (.aload_n 0, 1) := by decide +kernel
theorem d_BlockRuler_look_91 : decode b_BlockRuler_look 91 = .ok (.getfield 39, 3) := by decide +kernel
theorem d_BlockRuler_look_94 : decode b_BlockRuler_look 94 = .ok (.getfield 138, 3) := by decide +kernel
theorem d_BlockRuler_look_97 : decode b_BlockRuler_look 97 = .ok (.iload_n 1, 1) := by decide +kernel
theorem d_BlockRuler_look_98 : decode b_BlockRuler_look 98 = .ok (.laload, 1) := by decide +kernel
theorem d_BlockRuler_look_99 : decode b_BlockRuler_look 99 = .ok (.invokestatic 143, 3) := by decide +kernel
theorem d_BlockRuler_look_102 : decode b_BlockRuler_look 102 = .ok (.ireturn, 1) := by decide +kernel
theorem d_BlockRuler_look_103 : decode b_BlockRuler_look 103 = .ok (.aload_n 0, 1) := by decide +kernel
theorem d_BlockRuler_look_104 : decode b_BlockRuler_look 104 = .ok (.getfield 39, 3) := by decide +kernel
theorem d_BlockRuler_look_107 : decode b_BlockRuler_look 107 = .ok (.iload_n 1, 1) := by decide +kernel
theorem d_BlockRuler_look_108 : decode b_BlockRuler_look 108 = .ok (.invokevirtual 148, 3) := by decide +kernel
theorem d_BlockRuler_look_111 : decode b_BlockRuler_look 111 = .ok (.ireturn, 1) := by decide +kernel
theorem d_BlockRuler_look_112 : decode b_BlockRuler_look 112 = .ok (.aload_n 0, 1) := by decide +kernel
theorem d_BlockRuler_look_113 : decode b_BlockRuler_look 113 = .ok (.getfield 39, 3) := by decide +kernel
theorem d_BlockRuler_look_116 : decode b_BlockRuler_look 116 = .ok (.iload_n 1, 1) := by decide +kernel
theorem d_BlockRuler_look_117 : decode b_BlockRuler_look 117 = .ok (.invokevirtual 151, 3) := by decide +kernel
theorem d_BlockRuler_look_120 : decode b_BlockRuler_look 120 = .ok (.ireturn, 1) := by decide +kernel
theorem d_BlockRuler_look_121 : decode b_BlockRuler_look 121 = .ok (.aload_n 0, 1) := by decide +kernel
theorem d_BlockRuler_look_122 : decode b_BlockRuler_look 122 = .ok (.getfield 30, 3) := by decide +kernel
theorem d_BlockRuler_look_125 : decode b_BlockRuler_look 125 = .ok (.iload_n 1, 1) := by decide +kernel
theorem d_BlockRuler_look_126 : decode b_BlockRuler_look 126 = .ok (.invokevirtual 154, 3) := by decide +kernel
theorem d_BlockRuler_look_129 : decode b_BlockRuler_look 129 = .ok (.invokestatic 143, 3) := by decide +kernel
theorem d_BlockRuler_look_132 : decode b_BlockRuler_look 132 = .ok (.ireturn, 1) := by decide +kernel
theorem d_BlockRuler_look_133 : decode b_BlockRuler_look 133 = .ok (.aload_n 0, 1) := by decide +kernel
theorem d_BlockRuler_look_134 : decode b_BlockRuler_look 134 = .ok (.getfield 21, 3) := by decide +kernel
theorem d_BlockRuler_look_137 : decode b_BlockRuler_look 137 = .ok (.getfield 157, 3) := by decide +kernel
theorem d_BlockRuler_look_140 : decode b_BlockRuler_look 140 = .ok (.iload_n 1, 1) := by decide +kernel
theorem d_BlockRuler_look_141 : decode b_BlockRuler_look 141 = .ok (.iaload, 1) := by decide +kernel
theorem d_BlockRuler_look_142 : decode b_BlockRuler_look 142 = .ok (.ireturn, 1) := by decide +kernel
theorem d_BlockRuler_look_143 : decode b_BlockRuler_look 143 = .ok (.iconst (-1), 1) := by decide +kernel
theorem d_BlockRuler_look_144 : decode b_BlockRuler_look 144 = .ok (.ireturn, 1) := by decide +kernel
theorem d_BlockRuler_edge_0 : decode b_BlockRuler_edge 0 = .ok (.aload_n 0, 1) := by decide +kernel
theorem d_BlockRuler_edge_1 : decode b_BlockRuler_edge 1 = .ok (.invokevirtual 100, 3) := by decide +kernel
theorem d_BlockRuler_edge_4 : decode b_BlockRuler_edge 4 = .ok (.aload_n 0, 1) := by decide +kernel
theorem d_BlockRuler_edge_5 : decode b_BlockRuler_edge 5 = .ok (.getfield 12, 3) := by decide +kernel
theorem d_BlockRuler_edge_8 : decode b_BlockRuler_edge 8 = .ok (.iload_n 1, 1) := by decide +kernel
theorem d_BlockRuler_edge_9 : decode b_BlockRuler_edge 9 = .ok (.invokevirtual 62, 3) := by decide +kernel
theorem d_BlockRuler_edge_12 : decode b_BlockRuler_edge 12 = .ok (.ifCond .eq 18, 3) := by decide +kernel
theorem d_BlockRuler_edge_15 : decode b_BlockRuler_edge 15 = .ok (.aload_n 0, 1) := by decide +kernel
theorem d_BlockRuler_edge_16 : decode b_BlockRuler_edge 16 = .ok (.getfield 30, 3) := by decide +kernel
theorem d_BlockRuler_edge_19 : decode b_BlockRuler_edge 19 = .ok (.iload_n 1, 1) := by decide +kernel
theorem d_BlockRuler_edge_20 : decode b_BlockRuler_edge 20 = .ok (.invokevirtual 160, 3) := by decide +kernel
theorem d_BlockRuler_edge_23 : decode b_BlockRuler_edge 23 = .ok (.iload_n 2, 1) := by decide +kernel
theorem d_BlockRuler_edge_24 : decode b_BlockRuler_edge 24 = .ok (.invokestatic 163, 3) := by decide +kernel
theorem d_BlockRuler_edge_27 : decode b_BlockRuler_edge 27 = .ok (.goto 4, 3) := by decide +kernel
theorem d_BlockRuler_edge_30 : decode b_BlockRuler_edge 30 = .ok (.iconst (-1), 1) := by decide +kernel
theorem d_BlockRuler_edge_31 : decode b_BlockRuler_edge 31 = .ok (.ireturn, 1) := by decide +kernel
theorem d_BlockRuler_count_0 : decode b_BlockRuler_count 0 = .ok (.aload_n 0, 1) := by decide +kernel
theorem d_BlockRuler_count_1 : decode b_BlockRuler_count 1 = .ok (.invokevirtual 100, 3) := by decide +kernel
theorem d_BlockRuler_count_4 : decode b_BlockRuler_count 4 = .ok (.iload_n 1, 1) := by decide +kernel
theorem d_BlockRuler_count_5 : decode b_BlockRuler_count 5 = .ok (.tableswitch 99 0 6 #[43, 51, 59, 67, 75, 83, 91], 43) := by decide +kernel
theorem d_BlockRuler_count_48 : decode b_BlockRuler_count 48 = .ok (.aload_n 0, 1) := by decide +kernel
theorem d_BlockRuler_count_49 : decode b_BlockRuler_count 49 = .ok (.getfield 12, 3) := by decide +kernel
theorem d_BlockRuler_count_52 : decode b_BlockRuler_count 52 = .ok (.getfield 47, 3) := by decide +kernel
theorem d_BlockRuler_count_55 : decode b_BlockRuler_count 55 = .ok (.ireturn, 1) := by decide +kernel
theorem d_BlockRuler_count_56 : decode b_BlockRuler_count 56 = .ok (.aload_n 0, 1) := by decide +kernel
theorem d_BlockRuler_count_57 : decode b_BlockRuler_count 57 = .ok (.getfield 12, 3) := by decide +kernel
theorem d_BlockRuler_count_60 : decode b_BlockRuler_count 60 = .ok (.getfield 167, 3) := by decide +kernel
theorem d_BlockRuler_count_63 : decode b_BlockRuler_count 63 = .ok (.ireturn, 1) := by decide +kernel
theorem d_BlockRuler_count_64 : decode b_BlockRuler_count 64 = .ok (.aload_n 0, 1) := by decide +kernel
theorem d_BlockRuler_count_65 : decode b_BlockRuler_count 65 = .ok (.getfield 21, 3) := by decide +kernel
theorem d_BlockRuler_count_68 : decode b_BlockRuler_count 68 = .ok (.getfield 106, 3) := by decide +kernel
theorem d_BlockRuler_count_71 : decode b_BlockRuler_count 71 = .ok (.ireturn, 1) := by decide +kernel
theorem d_BlockRuler_count_72 : decode b_BlockRuler_count 72 = .ok (.aload_n 0, 1) := by decide +kernel
theorem d_BlockRuler_count_73 : decode b_BlockRuler_count 73 = .ok (.getfield 39, 3) := by decide +kernel
theorem d_BlockRuler_count_76 : decode b_BlockRuler_count 76 = .ok (.getfield 170, 3) := by decide +kernel
theorem d_BlockRuler_count_79 : decode b_BlockRuler_count 79 = .ok (.ireturn, 1) := by decide +kernel
theorem d_BlockRuler_count_80 : decode b_BlockRuler_count 80 = .ok (.aload_n 0, 1) := by decide +kernel
theorem d_BlockRuler_count_81 : decode b_BlockRuler_count 81 = .ok (.getfield 39, 3) := by decide +kernel
theorem d_BlockRuler_count_84 : decode b_BlockRuler_count 84 = .ok (.getfield 173, 3) := by decide +kernel
theorem d_BlockRuler_count_87 : decode b_BlockRuler_count 87 = .ok (.ireturn, 1) := by decide +kernel
theorem d_BlockRuler_count_88 : decode b_BlockRuler_count 88 = .ok (.aload_n 0, 1) := by decide +kernel
theorem d_BlockRuler_count_89 : decode b_BlockRuler_count 89 = .ok (.getfield 39, 3) := by decide +kernel
theorem d_BlockRuler_count_92 : decode b_BlockRuler_count 92 = .ok (.getfield 176, 3) := by decide +kernel
theorem d_BlockRuler_count_95 : decode b_BlockRuler_count 95 = .ok (.ireturn, 1) := by decide +kernel
theorem d_BlockRuler_count_96 : decode b_BlockRuler_count 96 = .ok (.aload_n 0, 1) := by decide +kernel
theorem d_BlockRuler_count_97 : decode b_BlockRuler_count 97 = .ok (.getfield 39, 3) := by decide +kernel
theorem d_BlockRuler_count_100 : decode b_BlockRuler_count 100 = .ok (.invokevirtual 179, 3) := by decide +kernel
theorem d_BlockRuler_count_103 : decode b_BlockRuler_count 103 = .ok (.ireturn, 1) := by decide +kernel
theorem d_BlockRuler_count_104 : decode b_BlockRuler_count 104 = .ok (.iconst (-1), 1) := by decide +kernel
theorem d_BlockRuler_count_105 : decode b_BlockRuler_count 105 = .ok (.ireturn, 1) := by decide +kernel
end
section
-- written by wip/gen (blockruler.py)
def f_Long_bitCount (v0 : Int64) : Int32 :=
  Lt (v0 - ((jushr v0 1) &&& 6148914691236517205)) (fun x1 : Int64 => Lt ((x1 &&& 3689348814741910323) + ((jushr x1 2) &&& 3689348814741910323)) (fun x2 : Int64 => Lt ((x2 + (jushr x2 4)) &&& 1085102592571150095) (fun x3 : Int64 => Lt ((x3 + (jushr x3 8)) + (jushr (x3 + (jushr x3 8)) 16)) (fun x4 : Int64 => (Int64.toInt32 (x4 + (jushr x4 32))) &&& 127))))
def rm_Long_bitCount : Room := { frames := 0, cells := 0, slots := 0, locals := 0 }
def f_Web_hasBlock (σ : SB) (v1 : Int32) : Int32 :=
  if v1 < 0 then (0) else (if (sB_blocks σ) ≤ v1 then (0) else (1))
def rm_Web_hasBlock : Room := { frames := 0, cells := 0, slots := 0, locals := 0 }
theorem nb_Web_hasBlock (σ : SB) (x0 : Int32) : narrow .boolean (.int (f_Web_hasBlock σ x0)) = .int (f_Web_hasBlock σ x0) := by
  unfold f_Web_hasBlock
  repeat' split
  all_goals rfl
def f_Web_hasWay (σ : SB) (v1 : Int32) (v2 : Int32) : Option (Int32) :=
  if (f_Web_hasBlock σ v1) = 0 then (some 0) else (if v2 < 0 then (some 0) else (if v1 < 0 ∨ 64 ≤ Int32.toNatClampNeg v1 then none else (if (sB_deg σ (Int32.toNatClampNeg v1)) ≤ v2 then (some 0) else (some 1))))
def rm_Web_hasWay : Room := { frames := 1, cells := 0, slots := 0, locals := 21 }
def f_Web_endOf (σ : SB) (v1 : Int32) (v2 : Int32) : Option (Int32) :=
  if (v1 * 8) + v2 < 0 ∨ 512 ≤ Int32.toNatClampNeg ((v1 * 8) + v2) then none else (some (sB_ends σ (Int32.toNatClampNeg ((v1 * 8) + v2))))
def rm_Web_endOf : Room := { frames := 0, cells := 0, slots := 0, locals := 0 }
def f_Web_addBlock (σ : SB) : Int32 × SB :=
  (sB_blocks σ, uB_blocks σ ((sB_blocks σ) + 1))
def rm_Web_addBlock : Room := { frames := 0, cells := 0, slots := 0, locals := 0 }
def f_Web_addWay (σ : SB) (v1 : Int32) (v2 : Int32) : Option (Int32 × SB) :=
  if v1 < 0 ∨ 64 ≤ Int32.toNatClampNeg v1 then none else (Lt (sB_deg σ (Int32.toNatClampNeg v1)) (fun x2 : Int32 => if (v1 * 8) + x2 < 0 ∨ 512 ≤ Int32.toNatClampNeg ((v1 * 8) + x2) then none else (some (x2, uB_ways (uB_deg (uB_ends σ (upd (sB_ends σ) (Int32.toNatClampNeg ((v1 * 8) + x2)) v2)) (upd (sB_deg σ) (Int32.toNatClampNeg v1) ((sB_deg σ (Int32.toNatClampNeg v1)) + 1))) ((sB_ways σ) + 1)))))
def rm_Web_addWay : Room := { frames := 0, cells := 0, slots := 0, locals := 0 }
def lp_Web_removeWay_18 : Nat → SB → Int32 → Int32 → Int32 → Int32 → Option (Int32 × SB)
  | 0, _, _, _, _, _ => none
  | n + 1, σ, v1, v3, v4, v5 => if v1 < 0 ∨ 64 ≤ Int32.toNatClampNeg v1 then none else (if (sB_deg σ (Int32.toNatClampNeg v1)) ≤ v5 then (some (v5, σ)) else (if v4 + v5 < 0 ∨ 512 ≤ Int32.toNatClampNeg (v4 + v5) then none else (if (v4 + v5) - 1 < 0 ∨ 512 ≤ Int32.toNatClampNeg ((v4 + v5) - 1) then none else (lp_Web_removeWay_18 n (uB_ends σ (upd (sB_ends σ) (Int32.toNatClampNeg ((v4 + v5) - 1)) (sB_ends σ (Int32.toNatClampNeg (v4 + v5))))) v1 v3 v4 (v5 + 1)))))
theorem lp_Web_removeWay_18_s (n : Nat) (σ : SB) (v1 : Int32) (v3 : Int32) (v4 : Int32) (v5 : Int32) : lp_Web_removeWay_18 (n + 1) σ v1 v3 v4 v5 = (if v1 < 0 ∨ 64 ≤ Int32.toNatClampNeg v1 then none else (if (sB_deg σ (Int32.toNatClampNeg v1)) ≤ v5 then (some (v5, σ)) else (if v4 + v5 < 0 ∨ 512 ≤ Int32.toNatClampNeg (v4 + v5) then none else (if (v4 + v5) - 1 < 0 ∨ 512 ≤ Int32.toNatClampNeg ((v4 + v5) - 1) then none else (lp_Web_removeWay_18 n (uB_ends σ (upd (sB_ends σ) (Int32.toNatClampNeg ((v4 + v5) - 1)) (sB_ends σ (Int32.toNatClampNeg (v4 + v5))))) v1 v3 v4 (v5 + 1)))))) := rfl
def f_Web_removeWay (σ : SB) (v1 : Int32) (v2 : Int32) : Option (Int32 × SB) :=
  (f_Web_endOf σ v1 v2).bind (fun r1 => (lp_Web_removeWay_18 100 σ v1 r1 (v1 * 8) (v2 + 1)).bind (fun y6 => if v1 < 0 ∨ 64 ≤ Int32.toNatClampNeg v1 then none else (some (r1, uB_ways (uB_deg y6.2 (upd (sB_deg y6.2) (Int32.toNatClampNeg v1) ((sB_deg y6.2 (Int32.toNatClampNeg v1)) - 1))) ((sB_ways y6.2) - 1)))))
def rm_Web_removeWay : Room := { frames := 1, cells := 0, slots := 0, locals := 22 }
def f_Web_moveWay (σ : SB) (v1 : Int32) (v2 : Int32) (v3 : Int32) : Option (Int32 × SB) :=
  (f_Web_endOf σ v1 v2).bind (fun r1 => if (v1 * 8) + v2 < 0 ∨ 512 ≤ Int32.toNatClampNeg ((v1 * 8) + v2) then none else (some (r1, uB_ends σ (upd (sB_ends σ) (Int32.toNatClampNeg ((v1 * 8) + v2)) v3))))
def rm_Web_moveWay : Room := { frames := 1, cells := 0, slots := 0, locals := 22 }
def f_BlockRuler_only (v0 : Int32) : Int64 :=
  jshl 1 v0
def rm_BlockRuler_only : Room := { frames := 0, cells := 0, slots := 0, locals := 0 }
def f_BlockRuler_holds (v0 : Int64) (v2 : Int32) : Int32 :=
  if (lg_cmp ((jushr v0 v2) &&& 1) 0) = 0 then (0) else (1)
def rm_BlockRuler_holds : Room := { frames := 0, cells := 0, slots := 0, locals := 0 }
theorem nb_BlockRuler_holds (x0 : Int64) (x1 : Int32) : narrow .boolean (.int (f_BlockRuler_holds x0 x1)) = .int (f_BlockRuler_holds x0 x1) := by
  unfold f_BlockRuler_holds
  repeat' split
  all_goals rfl
def f_BlockRuler_least (v0 : Int64) : Int32 :=
  f_Long_bitCount ((v0 &&& (-v0)) - 1)
def rm_BlockRuler_least : Room := { frames := 1, cells := 0, slots := 0, locals := 21 }
def f_BlockRuler_withoutLeast (v0 : Int64) : Int64 :=
  v0 &&& (v0 - 1)
def rm_BlockRuler_withoutLeast : Room := { frames := 0, cells := 0, slots := 0, locals := 0 }
def lp_BlockRuler_nth_19 : Nat → Int32 → Int64 → Int32 → Option (Int64 × Int32)
  | 0, _, _, _ => none
  | n + 1, v2, v3, v5 => if v2 ≤ v5 then (some (v3, v5)) else (Lt (f_BlockRuler_withoutLeast v3) (fun x4 : Int64 => lp_BlockRuler_nth_19 n v2 x4 (v5 + 1)))
theorem lp_BlockRuler_nth_19_s (n : Nat) (v2 : Int32) (v3 : Int64) (v5 : Int32) : lp_BlockRuler_nth_19 (n + 1) v2 v3 v5 = (if v2 ≤ v5 then (some (v3, v5)) else (Lt (f_BlockRuler_withoutLeast v3) (fun x4 : Int64 => lp_BlockRuler_nth_19 n v2 x4 (v5 + 1)))) := rfl
def f_BlockRuler_nth (v0 : Int64) (v2 : Int32) : Option (Int32) :=
  if v2 < 0 then (some (-1)) else (if v2 < (f_Long_bitCount v0) then ((lp_BlockRuler_nth_19 100 v2 v0 0).bind (fun y5 => some (f_BlockRuler_least y5.1))) else (some (-1)))
def rm_BlockRuler_nth : Room := { frames := 2, cells := 0, slots := 0, locals := 42 }
def f_Walk_blockAt (σ : SB) (v1 : Int32) : Option (Int32) :=
  if ((sB_reached σ) - 1) - v1 < 0 ∨ 64 ≤ Int32.toNatClampNeg (((sB_reached σ) - 1) - v1) then none else (some (sB_left σ (Int32.toNatClampNeg (((sB_reached σ) - 1) - v1))))
def rm_Walk_blockAt : Room := { frames := 0, cells := 0, slots := 0, locals := 0 }
def lp_Walk_lastOf_2 : Nat → SB → Int64 → Int32 → Option (Sum (Int32) (Int32))
  | 0, _, _, _ => none
  | n + 1, σ, v1, v3 => if (sB_reached σ) ≤ v3 then (some (Sum.inl v3)) else (if v3 < 0 ∨ 64 ≤ Int32.toNatClampNeg v3 then none else (if (f_BlockRuler_holds v1 (sB_left σ (Int32.toNatClampNeg v3))) = 0 then (lp_Walk_lastOf_2 n σ v1 (v3 + 1)) else (some (Sum.inr v3))))
theorem lp_Walk_lastOf_2_s (n : Nat) (σ : SB) (v1 : Int64) (v3 : Int32) : lp_Walk_lastOf_2 (n + 1) σ v1 v3 = (if (sB_reached σ) ≤ v3 then (some (Sum.inl v3)) else (if v3 < 0 ∨ 64 ≤ Int32.toNatClampNeg v3 then none else (if (f_BlockRuler_holds v1 (sB_left σ (Int32.toNatClampNeg v3))) = 0 then (lp_Walk_lastOf_2 n σ v1 (v3 + 1)) else (some (Sum.inr v3))))) := rfl
def f_Walk_lastOf (σ : SB) (v1 : Int64) : Option (Int32) :=
  (lp_Walk_lastOf_2 100 σ v1 0).bind (Sum.elim (fun z5 => some (-1)) (fun z6 => if z6 < 0 ∨ 64 ≤ Int32.toNatClampNeg z6 then none else (some (sB_left σ (Int32.toNatClampNeg z6)))))
def rm_Walk_lastOf : Room := { frames := 1, cells := 0, slots := 0, locals := 22 }
def lp_Walk_clear_7 : Nat → SB → Int32 → Option (Int32 × SB)
  | 0, _, _ => none
  | n + 1, σ, v1 => if 64 ≤ v1 then (some (v1, σ)) else (if v1 < 0 ∨ 64 ≤ Int32.toNatClampNeg v1 then none else (lp_Walk_clear_7 n (uB_comings (uB_comers (uB_taken (uB_orders σ (upd (sB_orders σ) (Int32.toNatClampNeg v1) (-1))) (upd (sB_taken σ) (Int32.toNatClampNeg v1) 0)) (vp_updL (sB_comers σ) (Int32.toNatClampNeg v1) 0)) (upd (sB_comings σ) (Int32.toNatClampNeg v1) 0)) (v1 + 1)))
theorem lp_Walk_clear_7_s (n : Nat) (σ : SB) (v1 : Int32) : lp_Walk_clear_7 (n + 1) σ v1 = (if 64 ≤ v1 then (some (v1, σ)) else (if v1 < 0 ∨ 64 ≤ Int32.toNatClampNeg v1 then none else (lp_Walk_clear_7 n (uB_comings (uB_comers (uB_taken (uB_orders σ (upd (sB_orders σ) (Int32.toNatClampNeg v1) (-1))) (upd (sB_taken σ) (Int32.toNatClampNeg v1) 0)) (vp_updL (sB_comers σ) (Int32.toNatClampNeg v1) 0)) (upd (sB_comings σ) (Int32.toNatClampNeg v1) 0)) (v1 + 1)))) := rfl
def f_Walk_clear (σ : SB) : Option (SB) :=
  (lp_Walk_clear_7 100 (uB_reached σ 0) 0).bind (fun y3 => some y3.2)
def rm_Walk_clear : Room := { frames := 0, cells := 0, slots := 0, locals := 0 }
def lp_Walk_goDeep_19 : Nat → SB → Int32 → Int32 → Option (Int32 × Int32 × SB)
  | 0, _, _, _ => none
  | n + 1, σ, v1, v2 => if 576 ≤ v2 then (some (v1, v2, σ)) else (if v1 ≤ 0 then (some (v1, v2, σ)) else (if v1 - 1 < 0 ∨ 64 ≤ Int32.toNatClampNeg (v1 - 1) then none else (Lt (sB_open σ (Int32.toNatClampNeg (v1 - 1))) (fun x5 : Int32 => if x5 < 0 ∨ 64 ≤ Int32.toNatClampNeg x5 then none else (if (sB_taken σ (Int32.toNatClampNeg x5)) < (sB_deg σ (Int32.toNatClampNeg x5)) then ((f_Web_endOf σ x5 (sB_taken σ (Int32.toNatClampNeg x5))).bind (fun r8 => if (f_BlockRuler_holds (sB_rset σ) r8) = 0 then (if v1 < 0 ∨ 64 ≤ Int32.toNatClampNeg v1 then none else (lp_Walk_goDeep_19 n (uB_open (uB_rset (uB_taken σ (upd (sB_taken σ) (Int32.toNatClampNeg x5) ((sB_taken σ (Int32.toNatClampNeg x5)) + 1))) ((sB_rset σ) ||| (f_BlockRuler_only r8))) (upd (sB_open σ) (Int32.toNatClampNeg v1) r8)) (v1 + 1) (v2 + 1))) else (lp_Walk_goDeep_19 n (uB_taken σ (upd (sB_taken σ) (Int32.toNatClampNeg x5) ((sB_taken σ (Int32.toNatClampNeg x5)) + 1))) v1 (v2 + 1)))) else (if sB_reached σ < 0 ∨ 64 ≤ Int32.toNatClampNeg (sB_reached σ) then none else (lp_Walk_goDeep_19 n (uB_reached (uB_left σ (upd (sB_left σ) (Int32.toNatClampNeg (sB_reached σ)) x5)) ((sB_reached σ) + 1)) (v1 + (-1)) (v2 + 1))))))))
theorem lp_Walk_goDeep_19_s (n : Nat) (σ : SB) (v1 : Int32) (v2 : Int32) : lp_Walk_goDeep_19 (n + 1) σ v1 v2 = (if 576 ≤ v2 then (some (v1, v2, σ)) else (if v1 ≤ 0 then (some (v1, v2, σ)) else (if v1 - 1 < 0 ∨ 64 ≤ Int32.toNatClampNeg (v1 - 1) then none else (Lt (sB_open σ (Int32.toNatClampNeg (v1 - 1))) (fun x5 : Int32 => if x5 < 0 ∨ 64 ≤ Int32.toNatClampNeg x5 then none else (if (sB_taken σ (Int32.toNatClampNeg x5)) < (sB_deg σ (Int32.toNatClampNeg x5)) then ((f_Web_endOf σ x5 (sB_taken σ (Int32.toNatClampNeg x5))).bind (fun r8 => if (f_BlockRuler_holds (sB_rset σ) r8) = 0 then (if v1 < 0 ∨ 64 ≤ Int32.toNatClampNeg v1 then none else (lp_Walk_goDeep_19 n (uB_open (uB_rset (uB_taken σ (upd (sB_taken σ) (Int32.toNatClampNeg x5) ((sB_taken σ (Int32.toNatClampNeg x5)) + 1))) ((sB_rset σ) ||| (f_BlockRuler_only r8))) (upd (sB_open σ) (Int32.toNatClampNeg v1) r8)) (v1 + 1) (v2 + 1))) else (lp_Walk_goDeep_19 n (uB_taken σ (upd (sB_taken σ) (Int32.toNatClampNeg x5) ((sB_taken σ (Int32.toNatClampNeg x5)) + 1))) v1 (v2 + 1)))) else (if sB_reached σ < 0 ∨ 64 ≤ Int32.toNatClampNeg (sB_reached σ) then none else (lp_Walk_goDeep_19 n (uB_reached (uB_left σ (upd (sB_left σ) (Int32.toNatClampNeg (sB_reached σ)) x5)) ((sB_reached σ) + 1)) (v1 + (-1)) (v2 + 1))))))))) := rfl
def f_Walk_goDeep (σ : SB) : Option (SB) :=
  if (0 : Int32) < 0 ∨ 64 ≤ Int32.toNatClampNeg 0 then none else ((lp_Walk_goDeep_19 600 (uB_open (uB_rset σ (f_BlockRuler_only 0)) (upd (sB_open σ) (Int32.toNatClampNeg 0) 0)) 1 0).bind (fun y12 => some y12.2.2))
def rm_Walk_goDeep : Room := { frames := 1, cells := 0, slots := 0, locals := 22 }
def lp_Walk_markEndsOf_2 : Nat → SB → Int32 → Int32 → Option (Int32 × SB)
  | 0, _, _, _ => none
  | n + 1, σ, v1, v2 => if v1 < 0 ∨ 64 ≤ Int32.toNatClampNeg v1 then none else (if (sB_deg σ (Int32.toNatClampNeg v1)) ≤ v2 then (some (v2, σ)) else ((f_Web_endOf σ v1 v2).bind (fun r3 => if r3 < 0 ∨ 64 ≤ Int32.toNatClampNeg r3 then none else (lp_Walk_markEndsOf_2 n (uB_comings (uB_comers σ (vp_updL (sB_comers σ) (Int32.toNatClampNeg r3) ((sB_comers σ (Int32.toNatClampNeg r3)) ||| (f_BlockRuler_only v1)))) (upd (sB_comings σ) (Int32.toNatClampNeg r3) ((sB_comings σ (Int32.toNatClampNeg r3)) + 1))) v1 (v2 + 1)))))
theorem lp_Walk_markEndsOf_2_s (n : Nat) (σ : SB) (v1 : Int32) (v2 : Int32) : lp_Walk_markEndsOf_2 (n + 1) σ v1 v2 = (if v1 < 0 ∨ 64 ≤ Int32.toNatClampNeg v1 then none else (if (sB_deg σ (Int32.toNatClampNeg v1)) ≤ v2 then (some (v2, σ)) else ((f_Web_endOf σ v1 v2).bind (fun r3 => if r3 < 0 ∨ 64 ≤ Int32.toNatClampNeg r3 then none else (lp_Walk_markEndsOf_2 n (uB_comings (uB_comers σ (vp_updL (sB_comers σ) (Int32.toNatClampNeg r3) ((sB_comers σ (Int32.toNatClampNeg r3)) ||| (f_BlockRuler_only v1)))) (upd (sB_comings σ) (Int32.toNatClampNeg r3) ((sB_comings σ (Int32.toNatClampNeg r3)) + 1))) v1 (v2 + 1)))))) := rfl
def f_Walk_markEndsOf (σ : SB) (v1 : Int32) : Option (SB) :=
  (lp_Walk_markEndsOf_2 100 σ v1 0).bind (fun y5 => some y5.2)
def rm_Walk_markEndsOf : Room := { frames := 1, cells := 0, slots := 0, locals := 22 }
def lp_Walk_make_10 : Nat → SB → Int32 → Option (Int32 × SB)
  | 0, _, _ => none
  | n + 1, σ, v1 => if (sB_reached σ) ≤ v1 then (some (v1, σ)) else ((f_Walk_blockAt σ v1).bind (fun r4 => if r4 < 0 ∨ 64 ≤ Int32.toNatClampNeg r4 then none else ((f_Walk_markEndsOf (uB_orders σ (upd (sB_orders σ) (Int32.toNatClampNeg r4) v1)) r4).bind (fun r6 => lp_Walk_make_10 n r6 (v1 + 1)))))
theorem lp_Walk_make_10_s (n : Nat) (σ : SB) (v1 : Int32) : lp_Walk_make_10 (n + 1) σ v1 = (if (sB_reached σ) ≤ v1 then (some (v1, σ)) else ((f_Walk_blockAt σ v1).bind (fun r4 => if r4 < 0 ∨ 64 ≤ Int32.toNatClampNeg r4 then none else ((f_Walk_markEndsOf (uB_orders σ (upd (sB_orders σ) (Int32.toNatClampNeg r4) v1)) r4).bind (fun r6 => lp_Walk_make_10 n r6 (v1 + 1)))))) := rfl
def f_Walk_make (σ : SB) : Option (SB) :=
  (f_Walk_clear σ).bind (fun r1 => (f_Walk_goDeep r1).bind (fun r2 => (lp_Walk_make_10 100 r2 0).bind (fun y7 => some y7.2)))
def rm_Walk_make : Room := { frames := 2, cells := 0, slots := 0, locals := 46 }
def f_Rulers_isRuled (σ : SB) (v1 : Int32) (v2 : Int32) : Option (Int32) :=
  if v2 < 0 ∨ 64 ≤ Int32.toNatClampNeg v2 then none else (some (f_BlockRuler_holds (sB_rof σ (Int32.toNatClampNeg v2)) v1))
def rm_Rulers_isRuled : Room := { frames := 1, cells := 0, slots := 0, locals := 22 }
def lp_Rulers_realmOf_5 : Nat → SB → Int32 → Int64 → Int32 → Option (Int64 × Int32)
  | 0, _, _, _, _ => none
  | n + 1, σ, v1, v2, v4 => if 64 ≤ v4 then (some (v2, v4)) else ((f_Rulers_isRuled σ v1 v4).bind (fun r2 => if r2 = 0 then (lp_Rulers_realmOf_5 n σ v1 v2 (v4 + 1)) else (Lt (v2 ||| (f_BlockRuler_only v4)) (fun x4 : Int64 => lp_Rulers_realmOf_5 n σ v1 x4 (v4 + 1)))))
theorem lp_Rulers_realmOf_5_s (n : Nat) (σ : SB) (v1 : Int32) (v2 : Int64) (v4 : Int32) : lp_Rulers_realmOf_5 (n + 1) σ v1 v2 v4 = (if 64 ≤ v4 then (some (v2, v4)) else ((f_Rulers_isRuled σ v1 v4).bind (fun r2 => if r2 = 0 then (lp_Rulers_realmOf_5 n σ v1 v2 (v4 + 1)) else (Lt (v2 ||| (f_BlockRuler_only v4)) (fun x4 : Int64 => lp_Rulers_realmOf_5 n σ v1 x4 (v4 + 1)))))) := rfl
def f_Rulers_realmOf (σ : SB) (v1 : Int32) : Option (Int64) :=
  (lp_Rulers_realmOf_5 100 σ v1 0 0).bind (fun y5 => some y5.1)
def rm_Rulers_realmOf : Room := { frames := 2, cells := 0, slots := 0, locals := 44 }
def lp_Rulers_edgeOf_24 : Nat → SB → Int64 → Int64 → Int64 → Int32 → Option (Int64 × Int32)
  | 0, _, _, _, _, _ => none
  | n + 1, σ, v2, v4, v6, v8 => if 64 ≤ v8 then (some (v6, v8)) else (if v8 < 0 ∨ 64 ≤ Int32.toNatClampNeg v8 then none else (if (lg_cmp ((sB_comers σ (Int32.toNatClampNeg v8)) &&& v2) 0) = 0 then (lp_Rulers_edgeOf_24 n σ v2 v4 v6 (v8 + 1)) else (if (f_BlockRuler_holds v4 v8) = 0 then (Lt (v6 ||| (f_BlockRuler_only v8)) (fun x7 : Int64 => lp_Rulers_edgeOf_24 n σ v2 v4 x7 (v8 + 1))) else (lp_Rulers_edgeOf_24 n σ v2 v4 v6 (v8 + 1)))))
theorem lp_Rulers_edgeOf_24_s (n : Nat) (σ : SB) (v2 : Int64) (v4 : Int64) (v6 : Int64) (v8 : Int32) : lp_Rulers_edgeOf_24 (n + 1) σ v2 v4 v6 v8 = (if 64 ≤ v8 then (some (v6, v8)) else (if v8 < 0 ∨ 64 ≤ Int32.toNatClampNeg v8 then none else (if (lg_cmp ((sB_comers σ (Int32.toNatClampNeg v8)) &&& v2) 0) = 0 then (lp_Rulers_edgeOf_24 n σ v2 v4 v6 (v8 + 1)) else (if (f_BlockRuler_holds v4 v8) = 0 then (Lt (v6 ||| (f_BlockRuler_only v8)) (fun x7 : Int64 => lp_Rulers_edgeOf_24 n σ v2 v4 x7 (v8 + 1))) else (lp_Rulers_edgeOf_24 n σ v2 v4 v6 (v8 + 1)))))) := rfl
def f_Rulers_edgeOf (σ : SB) (v1 : Int32) : Option (Int64) :=
  (f_Rulers_realmOf σ v1).bind (fun r1 => Lt (r1 &&& ((f_BlockRuler_only v1) ^^^ (-1))) (fun x2 : Int64 => (lp_Rulers_edgeOf_24 100 σ r1 x2 0 0).bind (fun y8 => some y8.1)))
def rm_Rulers_edgeOf : Room := { frames := 3, cells := 0, slots := 0, locals := 68 }
def lp_Rulers_sharedBy_20 : Nat → SB → Int64 → Int64 → Int32 → Int32 → Option (Int64 × Int64 × Int32)
  | 0, _, _, _, _, _ => none
  | n + 1, σ, v3, v5, v7, v8 => if v7 ≤ v8 then (some (v3, v5, v8)) else (if f_BlockRuler_least v5 < 0 ∨ 64 ≤ Int32.toNatClampNeg (f_BlockRuler_least v5) then none else (Lt (v3 &&& (sB_rof σ (Int32.toNatClampNeg (f_BlockRuler_least v5)))) (fun x3 : Int64 => Lt (f_BlockRuler_withoutLeast v5) (fun x4 : Int64 => lp_Rulers_sharedBy_20 n σ x3 x4 v7 (v8 + 1)))))
theorem lp_Rulers_sharedBy_20_s (n : Nat) (σ : SB) (v3 : Int64) (v5 : Int64) (v7 : Int32) (v8 : Int32) : lp_Rulers_sharedBy_20 (n + 1) σ v3 v5 v7 v8 = (if v7 ≤ v8 then (some (v3, v5, v8)) else (if f_BlockRuler_least v5 < 0 ∨ 64 ≤ Int32.toNatClampNeg (f_BlockRuler_least v5) then none else (Lt (v3 &&& (sB_rof σ (Int32.toNatClampNeg (f_BlockRuler_least v5)))) (fun x3 : Int64 => Lt (f_BlockRuler_withoutLeast v5) (fun x4 : Int64 => lp_Rulers_sharedBy_20 n σ x3 x4 v7 (v8 + 1)))))) := rfl
def f_Rulers_sharedBy (σ : SB) (v1 : Int64) : Option (Int64) :=
  (lp_Rulers_sharedBy_20 100 σ (sB_rset σ) v1 (f_Long_bitCount v1) 0).bind (fun y5 => some y5.1)
def rm_Rulers_sharedBy : Room := { frames := 2, cells := 0, slots := 0, locals := 42 }
def lp_Rulers_narrow_4 : Nat → SB → Int32 → Int32 → Option (Int32 × Int32 × SB)
  | 0, _, _, _ => none
  | n + 1, σ, v1, v2 => if (sB_reached σ) ≤ v2 then (some (v1, v2, σ)) else ((f_Walk_blockAt σ v2).bind (fun r2 => if r2 < 0 ∨ 64 ≤ Int32.toNatClampNeg r2 then none else ((f_Rulers_sharedBy σ (sB_comers σ (Int32.toNatClampNeg r2))).bind (fun r4 => Lt (r4 ||| (f_BlockRuler_only r2)) (fun x5 : Int64 => if (lg_cmp x5 (sB_rof σ (Int32.toNatClampNeg r2))) = 0 then (lp_Rulers_narrow_4 n σ v1 (v2 + 1)) else (lp_Rulers_narrow_4 n (uB_rof σ (vp_updL (sB_rof σ) (Int32.toNatClampNeg r2) x5)) 1 (v2 + 1)))))))
theorem lp_Rulers_narrow_4_s (n : Nat) (σ : SB) (v1 : Int32) (v2 : Int32) : lp_Rulers_narrow_4 (n + 1) σ v1 v2 = (if (sB_reached σ) ≤ v2 then (some (v1, v2, σ)) else ((f_Walk_blockAt σ v2).bind (fun r2 => if r2 < 0 ∨ 64 ≤ Int32.toNatClampNeg r2 then none else ((f_Rulers_sharedBy σ (sB_comers σ (Int32.toNatClampNeg r2))).bind (fun r4 => Lt (r4 ||| (f_BlockRuler_only r2)) (fun x5 : Int64 => if (lg_cmp x5 (sB_rof σ (Int32.toNatClampNeg r2))) = 0 then (lp_Rulers_narrow_4 n σ v1 (v2 + 1)) else (lp_Rulers_narrow_4 n (uB_rof σ (vp_updL (sB_rof σ) (Int32.toNatClampNeg r2) x5)) 1 (v2 + 1)))))))) := rfl
def f_Rulers_narrow (σ : SB) : Option (Int32 × SB) :=
  (lp_Rulers_narrow_4 100 σ 0 1).bind (fun y7 => if y7.1 = 0 ∨ y7.1 = 1 then (some (y7.1, y7.2.2)) else none)
def rm_Rulers_narrow : Room := { frames := 3, cells := 0, slots := 0, locals := 70 }
def lp_Rulers_make_2 : Nat → SB → Int32 → Option (Int32 × SB)
  | 0, _, _ => none
  | n + 1, σ, v1 => if 64 ≤ v1 then (some (v1, σ)) else (if (f_BlockRuler_holds (sB_rset σ) v1) = 0 then (if v1 < 0 ∨ 64 ≤ Int32.toNatClampNeg v1 then none else (lp_Rulers_make_2 n (uB_rof σ (vp_updL (sB_rof σ) (Int32.toNatClampNeg v1) 0)) (v1 + 1))) else (if v1 < 0 ∨ 64 ≤ Int32.toNatClampNeg v1 then none else (lp_Rulers_make_2 n (uB_rof σ (vp_updL (sB_rof σ) (Int32.toNatClampNeg v1) (sB_rset σ))) (v1 + 1))))
theorem lp_Rulers_make_2_s (n : Nat) (σ : SB) (v1 : Int32) : lp_Rulers_make_2 (n + 1) σ v1 = (if 64 ≤ v1 then (some (v1, σ)) else (if (f_BlockRuler_holds (sB_rset σ) v1) = 0 then (if v1 < 0 ∨ 64 ≤ Int32.toNatClampNeg v1 then none else (lp_Rulers_make_2 n (uB_rof σ (vp_updL (sB_rof σ) (Int32.toNatClampNeg v1) 0)) (v1 + 1))) else (if v1 < 0 ∨ 64 ≤ Int32.toNatClampNeg v1 then none else (lp_Rulers_make_2 n (uB_rof σ (vp_updL (sB_rof σ) (Int32.toNatClampNeg v1) (sB_rset σ))) (v1 + 1))))) := rfl
def lp_Rulers_make_59 : Nat → SB → Int32 → Int32 → Option (Int32 × Int32 × SB)
  | 0, _, _, _ => none
  | n + 1, σ, v1, v2 => if 4097 ≤ v2 then (some (v1, v2, σ)) else (if v1 = 0 then (some (v1, v2, σ)) else ((f_Rulers_narrow σ).bind (fun r9 => lp_Rulers_make_59 n r9.2 r9.1 (v2 + 1))))
theorem lp_Rulers_make_59_s (n : Nat) (σ : SB) (v1 : Int32) (v2 : Int32) : lp_Rulers_make_59 (n + 1) σ v1 v2 = (if 4097 ≤ v2 then (some (v1, v2, σ)) else (if v1 = 0 then (some (v1, v2, σ)) else ((f_Rulers_narrow σ).bind (fun r9 => lp_Rulers_make_59 n r9.2 r9.1 (v2 + 1))))) := rfl
def f_Rulers_make (σ : SB) : Option (SB) :=
  (lp_Rulers_make_2 5000 σ 0).bind (fun y5 => if (0 : Int32) < 0 ∨ 64 ≤ Int32.toNatClampNeg 0 then none else ((lp_Rulers_make_59 5000 (uB_rof y5.2 (vp_updL (sB_rof y5.2) (Int32.toNatClampNeg 0) (f_BlockRuler_only 0))) 1 0).bind (fun y10 => some y10.2.2)))
def rm_Rulers_make : Room := { frames := 4, cells := 0, slots := 0, locals := 95 }
def f_Loops_kindOf (σ : SB) (v1 : Int32) (v2 : Int32) : Option (Int32) :=
  (f_Web_endOf σ v1 v2).bind (fun r1 => if r1 < 0 ∨ 64 ≤ Int32.toNatClampNeg r1 then none else (if v1 < 0 ∨ 64 ≤ Int32.toNatClampNeg v1 then none else (if (sB_orders σ (Int32.toNatClampNeg r1)) ≤ (sB_orders σ (Int32.toNatClampNeg v1)) then ((f_Rulers_isRuled σ r1 v1).bind (fun r5 => if r5 = 0 then (some 2) else (some 1))) else (some 0))))
def rm_Loops_kindOf : Room := { frames := 2, cells := 0, slots := 0, locals := 44 }
def lp_Loops_depthOf_4 : Nat → SB → Int32 → Int32 → Int32 → Option (Int32 × Int32)
  | 0, _, _, _, _ => none
  | n + 1, σ, v1, v2, v3 => if 64 ≤ v3 then (some (v2, v3)) else (if v3 < 0 ∨ 64 ≤ Int32.toNatClampNeg v3 then none else (if (f_BlockRuler_holds (sB_lof σ (Int32.toNatClampNeg v3)) v1) = 0 then (lp_Loops_depthOf_4 n σ v1 v2 (v3 + 1)) else (lp_Loops_depthOf_4 n σ v1 (v2 + 1) (v3 + 1))))
theorem lp_Loops_depthOf_4_s (n : Nat) (σ : SB) (v1 : Int32) (v2 : Int32) (v3 : Int32) : lp_Loops_depthOf_4 (n + 1) σ v1 v2 v3 = (if 64 ≤ v3 then (some (v2, v3)) else (if v3 < 0 ∨ 64 ≤ Int32.toNatClampNeg v3 then none else (if (f_BlockRuler_holds (sB_lof σ (Int32.toNatClampNeg v3)) v1) = 0 then (lp_Loops_depthOf_4 n σ v1 v2 (v3 + 1)) else (lp_Loops_depthOf_4 n σ v1 (v2 + 1) (v3 + 1))))) := rfl
def f_Loops_depthOf (σ : SB) (v1 : Int32) : Option (Int32) :=
  (lp_Loops_depthOf_4 100 σ v1 0 0).bind (fun y4 => some y4.1)
def rm_Loops_depthOf : Room := { frames := 1, cells := 0, slots := 0, locals := 22 }
def lp_Loops_greatestDepth_4 : Nat → SB → Int32 → Int32 → Option (Int32 × Int32)
  | 0, _, _, _ => none
  | n + 1, σ, v1, v2 => if 64 ≤ v2 then (some (v1, v2)) else ((f_Loops_depthOf σ v2).bind (fun r2 => Lt (if v1 < r2 then r2 else v1) (fun x3 : Int32 => lp_Loops_greatestDepth_4 n σ x3 (v2 + 1))))
theorem lp_Loops_greatestDepth_4_s (n : Nat) (σ : SB) (v1 : Int32) (v2 : Int32) : lp_Loops_greatestDepth_4 (n + 1) σ v1 v2 = (if 64 ≤ v2 then (some (v1, v2)) else ((f_Loops_depthOf σ v2).bind (fun r2 => Lt (if v1 < r2 then r2 else v1) (fun x3 : Int32 => lp_Loops_greatestDepth_4 n σ x3 (v2 + 1))))) := rfl
def f_Loops_greatestDepth (σ : SB) : Option (Int32) :=
  (lp_Loops_greatestDepth_4 100 σ 0 0).bind (fun y4 => some y4.1)
def rm_Loops_greatestDepth : Room := { frames := 2, cells := 0, slots := 0, locals := 45 }
def lp_Loops_innermostOf_16 : Nat → SB → Int32 → Int32 → Int32 → Int32 → Option (Int32 × Int32 × Int32)
  | 0, _, _, _, _, _ => none
  | n + 1, σ, v1, v2, v3, v4 => if v4 < 0 then (some (v2, v3, v4)) else ((f_Walk_blockAt σ v4).bind (fun r2 => if r2 < 0 ∨ 64 ≤ Int32.toNatClampNeg r2 then none else (Lt (f_Long_bitCount (sB_lof σ (Int32.toNatClampNeg r2))) (fun x4 : Int32 => if (f_BlockRuler_holds (sB_lof σ (Int32.toNatClampNeg r2)) v1) = 0 then (lp_Loops_innermostOf_16 n σ v1 v2 v3 (v4 + (-1))) else (if v3 ≤ x4 then (lp_Loops_innermostOf_16 n σ v1 v2 v3 (v4 + (-1))) else (lp_Loops_innermostOf_16 n σ v1 r2 x4 (v4 + (-1))))))))
theorem lp_Loops_innermostOf_16_s (n : Nat) (σ : SB) (v1 : Int32) (v2 : Int32) (v3 : Int32) (v4 : Int32) : lp_Loops_innermostOf_16 (n + 1) σ v1 v2 v3 v4 = (if v4 < 0 then (some (v2, v3, v4)) else ((f_Walk_blockAt σ v4).bind (fun r2 => if r2 < 0 ∨ 64 ≤ Int32.toNatClampNeg r2 then none else (Lt (f_Long_bitCount (sB_lof σ (Int32.toNatClampNeg r2))) (fun x4 : Int32 => if (f_BlockRuler_holds (sB_lof σ (Int32.toNatClampNeg r2)) v1) = 0 then (lp_Loops_innermostOf_16 n σ v1 v2 v3 (v4 + (-1))) else (if v3 ≤ x4 then (lp_Loops_innermostOf_16 n σ v1 v2 v3 (v4 + (-1))) else (lp_Loops_innermostOf_16 n σ v1 r2 x4 (v4 + (-1))))))))) := rfl
def f_Loops_innermostOf (σ : SB) (v1 : Int32) : Option (Int32) :=
  (lp_Loops_innermostOf_16 100 σ v1 (-1) 65 ((sB_reached σ) - 1)).bind (fun y7 => some y7.1)
def rm_Loops_innermostOf : Room := { frames := 1, cells := 0, slots := 0, locals := 22 }
def lp_Loops_clear_17 : Nat → SB → Int32 → Option (Int32 × SB)
  | 0, _, _ => none
  | n + 1, σ, v1 => if 64 ≤ v1 then (some (v1, σ)) else (if v1 < 0 ∨ 64 ≤ Int32.toNatClampNeg v1 then none else (lp_Loops_clear_17 n (uB_lof σ (vp_updL (sB_lof σ) (Int32.toNatClampNeg v1) 0)) (v1 + 1)))
theorem lp_Loops_clear_17_s (n : Nat) (σ : SB) (v1 : Int32) : lp_Loops_clear_17 (n + 1) σ v1 = (if 64 ≤ v1 then (some (v1, σ)) else (if v1 < 0 ∨ 64 ≤ Int32.toNatClampNeg v1 then none else (lp_Loops_clear_17 n (uB_lof σ (vp_updL (sB_lof σ) (Int32.toNatClampNeg v1) 0)) (v1 + 1)))) := rfl
def f_Loops_clear (σ : SB) : Option (SB) :=
  (lp_Loops_clear_17 100 (uB_knots (uB_backs (uB_heads σ 0) 0) 0) 0).bind (fun y3 => some y3.2)
def rm_Loops_clear : Room := { frames := 0, cells := 0, slots := 0, locals := 0 }
def lp_Loops_markWaysOf_2 : Nat → SB → Int32 → Int32 → Option (Int32 × SB)
  | 0, _, _, _ => none
  | n + 1, σ, v1, v2 => if v1 < 0 ∨ 64 ≤ Int32.toNatClampNeg v1 then none else (if (sB_deg σ (Int32.toNatClampNeg v1)) ≤ v2 then (some (v2, σ)) else ((f_Loops_kindOf σ v1 v2).bind (fun r3 => if r3 = 0 then (if r3 = 2 then (if r3 = 1 then ((f_Web_endOf (uB_knots σ ((sB_knots σ) + 1)) v1 v2).bind (fun r10 => if r10 < 0 ∨ 64 ≤ Int32.toNatClampNeg r10 then none else (lp_Loops_markWaysOf_2 n (uB_lof (uB_knots σ ((sB_knots σ) + 1)) (vp_updL (sB_lof σ) (Int32.toNatClampNeg r10) ((sB_lof σ (Int32.toNatClampNeg r10)) ||| (f_BlockRuler_only v1)))) v1 (v2 + 1)))) else (lp_Loops_markWaysOf_2 n (uB_knots σ ((sB_knots σ) + 1)) v1 (v2 + 1))) else (if r3 = 1 then ((f_Web_endOf σ v1 v2).bind (fun r7 => if r7 < 0 ∨ 64 ≤ Int32.toNatClampNeg r7 then none else (lp_Loops_markWaysOf_2 n (uB_lof σ (vp_updL (sB_lof σ) (Int32.toNatClampNeg r7) ((sB_lof σ (Int32.toNatClampNeg r7)) ||| (f_BlockRuler_only v1)))) v1 (v2 + 1)))) else (lp_Loops_markWaysOf_2 n σ v1 (v2 + 1)))) else (if r3 = 2 then (if r3 = 1 then ((f_Web_endOf (uB_knots (uB_backs σ ((sB_backs σ) + 1)) ((sB_knots σ) + 1)) v1 v2).bind (fun r17 => if r17 < 0 ∨ 64 ≤ Int32.toNatClampNeg r17 then none else (lp_Loops_markWaysOf_2 n (uB_lof (uB_knots (uB_backs σ ((sB_backs σ) + 1)) ((sB_knots σ) + 1)) (vp_updL (sB_lof σ) (Int32.toNatClampNeg r17) ((sB_lof σ (Int32.toNatClampNeg r17)) ||| (f_BlockRuler_only v1)))) v1 (v2 + 1)))) else (lp_Loops_markWaysOf_2 n (uB_knots (uB_backs σ ((sB_backs σ) + 1)) ((sB_knots σ) + 1)) v1 (v2 + 1))) else (if r3 = 1 then ((f_Web_endOf (uB_backs σ ((sB_backs σ) + 1)) v1 v2).bind (fun r14 => if r14 < 0 ∨ 64 ≤ Int32.toNatClampNeg r14 then none else (lp_Loops_markWaysOf_2 n (uB_lof (uB_backs σ ((sB_backs σ) + 1)) (vp_updL (sB_lof σ) (Int32.toNatClampNeg r14) ((sB_lof σ (Int32.toNatClampNeg r14)) ||| (f_BlockRuler_only v1)))) v1 (v2 + 1)))) else (lp_Loops_markWaysOf_2 n (uB_backs σ ((sB_backs σ) + 1)) v1 (v2 + 1)))))))
theorem lp_Loops_markWaysOf_2_s (n : Nat) (σ : SB) (v1 : Int32) (v2 : Int32) : lp_Loops_markWaysOf_2 (n + 1) σ v1 v2 = (if v1 < 0 ∨ 64 ≤ Int32.toNatClampNeg v1 then none else (if (sB_deg σ (Int32.toNatClampNeg v1)) ≤ v2 then (some (v2, σ)) else ((f_Loops_kindOf σ v1 v2).bind (fun r3 => if r3 = 0 then (if r3 = 2 then (if r3 = 1 then ((f_Web_endOf (uB_knots σ ((sB_knots σ) + 1)) v1 v2).bind (fun r10 => if r10 < 0 ∨ 64 ≤ Int32.toNatClampNeg r10 then none else (lp_Loops_markWaysOf_2 n (uB_lof (uB_knots σ ((sB_knots σ) + 1)) (vp_updL (sB_lof σ) (Int32.toNatClampNeg r10) ((sB_lof σ (Int32.toNatClampNeg r10)) ||| (f_BlockRuler_only v1)))) v1 (v2 + 1)))) else (lp_Loops_markWaysOf_2 n (uB_knots σ ((sB_knots σ) + 1)) v1 (v2 + 1))) else (if r3 = 1 then ((f_Web_endOf σ v1 v2).bind (fun r7 => if r7 < 0 ∨ 64 ≤ Int32.toNatClampNeg r7 then none else (lp_Loops_markWaysOf_2 n (uB_lof σ (vp_updL (sB_lof σ) (Int32.toNatClampNeg r7) ((sB_lof σ (Int32.toNatClampNeg r7)) ||| (f_BlockRuler_only v1)))) v1 (v2 + 1)))) else (lp_Loops_markWaysOf_2 n σ v1 (v2 + 1)))) else (if r3 = 2 then (if r3 = 1 then ((f_Web_endOf (uB_knots (uB_backs σ ((sB_backs σ) + 1)) ((sB_knots σ) + 1)) v1 v2).bind (fun r17 => if r17 < 0 ∨ 64 ≤ Int32.toNatClampNeg r17 then none else (lp_Loops_markWaysOf_2 n (uB_lof (uB_knots (uB_backs σ ((sB_backs σ) + 1)) ((sB_knots σ) + 1)) (vp_updL (sB_lof σ) (Int32.toNatClampNeg r17) ((sB_lof σ (Int32.toNatClampNeg r17)) ||| (f_BlockRuler_only v1)))) v1 (v2 + 1)))) else (lp_Loops_markWaysOf_2 n (uB_knots (uB_backs σ ((sB_backs σ) + 1)) ((sB_knots σ) + 1)) v1 (v2 + 1))) else (if r3 = 1 then ((f_Web_endOf (uB_backs σ ((sB_backs σ) + 1)) v1 v2).bind (fun r14 => if r14 < 0 ∨ 64 ≤ Int32.toNatClampNeg r14 then none else (lp_Loops_markWaysOf_2 n (uB_lof (uB_backs σ ((sB_backs σ) + 1)) (vp_updL (sB_lof σ) (Int32.toNatClampNeg r14) ((sB_lof σ (Int32.toNatClampNeg r14)) ||| (f_BlockRuler_only v1)))) v1 (v2 + 1)))) else (lp_Loops_markWaysOf_2 n (uB_backs σ ((sB_backs σ) + 1)) v1 (v2 + 1)))))))) := rfl
def f_Loops_markWaysOf (σ : SB) (v1 : Int32) : Option (SB) :=
  (lp_Loops_markWaysOf_2 100 σ v1 0).bind (fun y19 => some y19.2)
def rm_Loops_markWaysOf : Room := { frames := 3, cells := 0, slots := 0, locals := 67 }
def lp_Loops_grown_23 : Nat → SB → Int64 → Int64 → Int32 → Option (Int64 × Int64 × Int32)
  | 0, _, _, _, _ => none
  | n + 1, σ, v4, v6, v8 => if 64 ≤ v8 then (some (v4, v6, v8)) else (if (lg_cmp v6 0) = 0 then (some (v4, v6, v8)) else (if f_BlockRuler_least v6 < 0 ∨ 64 ≤ Int32.toNatClampNeg (f_BlockRuler_least v6) then none else (Lt ((sB_comers σ (Int32.toNatClampNeg (f_BlockRuler_least v6))) &&& (v4 ^^^ (-1))) (fun x6 : Int64 => Lt ((f_BlockRuler_withoutLeast v6) ||| x6) (fun x7 : Int64 => lp_Loops_grown_23 n σ (v4 ||| x6) x7 (v8 + 1))))))
theorem lp_Loops_grown_23_s (n : Nat) (σ : SB) (v4 : Int64) (v6 : Int64) (v8 : Int32) : lp_Loops_grown_23 (n + 1) σ v4 v6 v8 = (if 64 ≤ v8 then (some (v4, v6, v8)) else (if (lg_cmp v6 0) = 0 then (some (v4, v6, v8)) else (if f_BlockRuler_least v6 < 0 ∨ 64 ≤ Int32.toNatClampNeg (f_BlockRuler_least v6) then none else (Lt ((sB_comers σ (Int32.toNatClampNeg (f_BlockRuler_least v6))) &&& (v4 ^^^ (-1))) (fun x6 : Int64 => Lt ((f_BlockRuler_withoutLeast v6) ||| x6) (fun x7 : Int64 => lp_Loops_grown_23 n σ (v4 ||| x6) x7 (v8 + 1))))))) := rfl
def f_Loops_grown (σ : SB) (v1 : Int32) (v2 : Int64) : Option (Int64) :=
  Lt (v2 ||| (f_BlockRuler_only v1)) (fun x1 : Int64 => Lt (v2 &&& ((f_BlockRuler_only v1) ^^^ (-1))) (fun x2 : Int64 => (lp_Loops_grown_23 100 σ x1 x2 0).bind (fun y8 => some y8.1)))
def rm_Loops_grown : Room := { frames := 2, cells := 0, slots := 0, locals := 42 }
def lp_Loops_make_6 : Nat → SB → Int32 → Option (Int32 × SB)
  | 0, _, _ => none
  | n + 1, σ, v1 => if (sB_reached σ) ≤ v1 then (some (v1, σ)) else ((f_Walk_blockAt σ v1).bind (fun r3 => (f_Loops_markWaysOf σ r3).bind (fun r4 => lp_Loops_make_6 n r4 (v1 + 1))))
theorem lp_Loops_make_6_s (n : Nat) (σ : SB) (v1 : Int32) : lp_Loops_make_6 (n + 1) σ v1 = (if (sB_reached σ) ≤ v1 then (some (v1, σ)) else ((f_Walk_blockAt σ v1).bind (fun r3 => (f_Loops_markWaysOf σ r3).bind (fun r4 => lp_Loops_make_6 n r4 (v1 + 1))))) := rfl
def lp_Loops_make_37 : Nat → SB → Int32 → Option (Int32 × SB)
  | 0, _, _ => none
  | n + 1, σ, v1 => if 64 ≤ v1 then (some (v1, σ)) else (if v1 < 0 ∨ 64 ≤ Int32.toNatClampNeg v1 then none else (if (lg_cmp (sB_lof σ (Int32.toNatClampNeg v1)) 0) = 0 then (lp_Loops_make_37 n σ (v1 + 1)) else ((f_Loops_grown (uB_heads σ ((sB_heads σ) + 1)) v1 (sB_lof σ (Int32.toNatClampNeg v1))).bind (fun r9 => lp_Loops_make_37 n (uB_lof (uB_heads σ ((sB_heads σ) + 1)) (vp_updL (sB_lof σ) (Int32.toNatClampNeg v1) r9)) (v1 + 1)))))
theorem lp_Loops_make_37_s (n : Nat) (σ : SB) (v1 : Int32) : lp_Loops_make_37 (n + 1) σ v1 = (if 64 ≤ v1 then (some (v1, σ)) else (if v1 < 0 ∨ 64 ≤ Int32.toNatClampNeg v1 then none else (if (lg_cmp (sB_lof σ (Int32.toNatClampNeg v1)) 0) = 0 then (lp_Loops_make_37 n σ (v1 + 1)) else ((f_Loops_grown (uB_heads σ ((sB_heads σ) + 1)) v1 (sB_lof σ (Int32.toNatClampNeg v1))).bind (fun r9 => lp_Loops_make_37 n (uB_lof (uB_heads σ ((sB_heads σ) + 1)) (vp_updL (sB_lof σ) (Int32.toNatClampNeg v1) r9)) (v1 + 1)))))) := rfl
def f_Loops_make (σ : SB) : Option (SB) :=
  (f_Loops_clear σ).bind (fun r1 => (lp_Loops_make_6 100 r1 0).bind (fun y5 => (lp_Loops_make_37 100 y5.2 0).bind (fun y10 => some y10.2)))
def rm_Loops_make : Room := { frames := 4, cells := 0, slots := 0, locals := 90 }
def f_BlockRuler_refresh (σ : SB) : Option (SB) :=
  if (sB_stale σ) = 0 then (some σ) else ((f_Walk_make σ).bind (fun r2 => (f_Rulers_make r2).bind (fun r3 => (f_Loops_make r3).bind (fun r4 => some (uB_stale r4 0)))))
def rm_BlockRuler_refresh : Room := { frames := 5, cells := 0, slots := 0, locals := 117 }
def f_BlockRuler_isReached (σ : SB) (v1 : Int32) : Option (Int32) :=
  if (f_Web_hasBlock σ v1) = 0 then (some 0) else (if v1 < 0 ∨ 64 ≤ Int32.toNatClampNeg v1 then none else (if (sB_orders σ (Int32.toNatClampNeg v1)) = (-1) then (some 0) else (some 1)))
def rm_BlockRuler_isReached : Room := { frames := 1, cells := 0, slots := 0, locals := 21 }
def f_BlockRuler_block (σ : SB) : Option ((Sum Nat Int32) × SB) :=
  if (sB_blocks σ) < 64 then (some (Sum.inr ((f_Web_addBlock (uB_stale σ 1)).1), (f_Web_addBlock (uB_stale σ 1)).2)) else (some (Sum.inl 0, σ))
def rm_BlockRuler_block : Room := { frames := 1, cells := 0, slots := 0, locals := 21 }
def f_BlockRuler_way (σ : SB) (v1 : Int32) (v2 : Int32) : Option ((Sum Nat Int32) × SB) :=
  if (f_Web_hasBlock σ v1) = 0 then (some (Sum.inl 1, σ)) else (if (f_Web_hasBlock σ v2) = 0 then (some (Sum.inl 1, σ)) else (if v1 < 0 ∨ 64 ≤ Int32.toNatClampNeg v1 then none else (if (sB_deg σ (Int32.toNatClampNeg v1)) < 8 then ((f_Web_addWay (uB_stale σ 1) v1 v2).bind (fun r5 => some (Sum.inr r5.1, r5.2))) else (some (Sum.inl 0, σ)))))
def rm_BlockRuler_way : Room := { frames := 1, cells := 0, slots := 0, locals := 23 }
def f_BlockRuler_cut (σ : SB) (v1 : Int32) (v2 : Int32) : Option ((Sum Nat Int32) × SB) :=
  (f_Web_hasWay σ v1 v2).bind (fun r1 => if r1 = 0 then (some (Sum.inl 2, σ)) else ((f_Web_removeWay (uB_stale σ 1) v1 v2).bind (fun r3 => some (Sum.inr r3.1, r3.2))))
def rm_BlockRuler_cut : Room := { frames := 2, cells := 0, slots := 0, locals := 47 }
def f_BlockRuler_turn (σ : SB) (v1 : Int32) (v2 : Int32) (v3 : Int32) : Option ((Sum Nat Int32) × SB) :=
  (f_Web_hasWay σ v1 v2).bind (fun r1 => if r1 = 0 then (some (Sum.inl 2, σ)) else (if (f_Web_hasBlock σ v3) = 0 then (some (Sum.inl 1, σ)) else ((f_Web_moveWay (uB_stale σ 1) v1 v2 v3).bind (fun r4 => some (Sum.inr r4.1, r4.2)))))
def rm_BlockRuler_turn : Room := { frames := 2, cells := 0, slots := 0, locals := 46 }
def f_BlockRuler_common (σ : SB) (v1 : Int32) (v2 : Int32) : Option ((Sum Nat Int32) × SB) :=
  (f_BlockRuler_refresh σ).bind (fun r1 => (f_BlockRuler_isReached r1 v1).bind (fun r2 => if r2 = 0 then (some (Sum.inl 1, r1)) else ((f_BlockRuler_isReached r1 v2).bind (fun r4 => if r4 = 0 then (some (Sum.inl 1, r1)) else (if v1 < 0 ∨ 64 ≤ Int32.toNatClampNeg v1 then none else (if v2 < 0 ∨ 64 ≤ Int32.toNatClampNeg v2 then none else ((f_Walk_lastOf r1 ((sB_rof r1 (Int32.toNatClampNeg v1)) &&& (sB_rof r1 (Int32.toNatClampNeg v2)))).bind (fun r8 => some (Sum.inr r8, r1)))))))))
def rm_BlockRuler_common : Room := { frames := 6, cells := 0, slots := 0, locals := 137 }
def f_BlockRuler_end (σ : SB) (v1 : Int32) (v2 : Int32) : Option (Int32) :=
  (f_Web_hasWay σ v1 v2).bind (fun r1 => if r1 = 0 then (some (-1)) else ((f_Web_endOf σ v1 v2).bind (fun r3 => some r3)))
def rm_BlockRuler_end : Room := { frames := 2, cells := 0, slots := 0, locals := 43 }
def f_BlockRuler_order (σ : SB) (v1 : Int32) : Option (Int32 × SB) :=
  (f_BlockRuler_refresh σ).bind (fun r1 => if (f_Web_hasBlock r1 v1) = 0 then (some (-1, r1)) else (if v1 < 0 ∨ 64 ≤ Int32.toNatClampNeg v1 then none else (some (sB_orders r1 (Int32.toNatClampNeg v1), r1))))
def rm_BlockRuler_order : Room := { frames := 6, cells := 0, slots := 0, locals := 137 }
def f_BlockRuler_at (σ : SB) (v1 : Int32) : Option (Int32 × SB) :=
  (f_BlockRuler_refresh σ).bind (fun r1 => if v1 < 0 then (some (-1, r1)) else (if (sB_reached r1) ≤ v1 then (some (-1, r1)) else ((f_Walk_blockAt r1 v1).bind (fun r4 => some (r4, r1)))))
def rm_BlockRuler_at : Room := { frames := 6, cells := 0, slots := 0, locals := 137 }
def f_BlockRuler_parent (σ : SB) (v1 : Int32) : Option (Int32 × SB) :=
  (f_BlockRuler_refresh σ).bind (fun r1 => if (f_Web_hasBlock r1 v1) = 0 then (some (-1, r1)) else (if v1 < 0 ∨ 64 ≤ Int32.toNatClampNeg v1 then none else ((f_Walk_lastOf r1 ((sB_rof r1 (Int32.toNatClampNeg v1)) &&& ((f_BlockRuler_only v1) ^^^ (-1)))).bind (fun r4 => some (r4, r1)))))
def rm_BlockRuler_parent : Room := { frames := 6, cells := 0, slots := 0, locals := 137 }
def f_BlockRuler_rules (σ : SB) (v1 : Int32) (v2 : Int32) : Option (Int32 × SB) :=
  (f_BlockRuler_refresh σ).bind (fun r1 => if (f_Web_hasBlock r1 v1) = 0 then (some (0, r1)) else (if (f_Web_hasBlock r1 v2) = 0 then (some (0, r1)) else ((f_Rulers_isRuled r1 v1 v2).bind (fun r4 => if r4 = 0 then (some (0, r1)) else (some (1, r1))))))
def rm_BlockRuler_rules : Room := { frames := 6, cells := 0, slots := 0, locals := 137 }
def f_BlockRuler_sort (σ : SB) (v1 : Int32) (v2 : Int32) : Option (Int32 × SB) :=
  (f_BlockRuler_refresh σ).bind (fun r1 => (f_BlockRuler_isReached r1 v1).bind (fun r2 => if r2 = 0 then (some (-1, r1)) else ((f_Web_hasWay r1 v1 v2).bind (fun r4 => if r4 = 0 then (some (-1, r1)) else ((f_Loops_kindOf r1 v1 v2).bind (fun r6 => some (r6, r1)))))))
def rm_BlockRuler_sort : Room := { frames := 6, cells := 0, slots := 0, locals := 137 }
def f_BlockRuler_inLoop (σ : SB) (v1 : Int32) (v2 : Int32) : Option (Int32 × SB) :=
  (f_BlockRuler_refresh σ).bind (fun r1 => if (f_Web_hasBlock r1 v1) = 0 then (some (0, r1)) else (if (f_Web_hasBlock r1 v2) = 0 then (some (0, r1)) else (if v1 < 0 ∨ 64 ≤ Int32.toNatClampNeg v1 then none else (if (f_BlockRuler_holds (sB_lof r1 (Int32.toNatClampNeg v1)) v2) = 0 then (some (0, r1)) else (some (1, r1))))))
def rm_BlockRuler_inLoop : Room := { frames := 6, cells := 0, slots := 0, locals := 137 }
def f_BlockRuler_look (σ : SB) (v1 : Int32) (v2 : Int32) : Option (Int32 × SB) :=
  (f_BlockRuler_refresh σ).bind (fun r1 => if (f_Web_hasBlock r1 v1) = 0 then (some (-1, r1)) else (Lt (v2) (fun x3 : Int32 => if x3 = 0 then (if v1 < 0 ∨ 64 ≤ Int32.toNatClampNeg v1 then none else (some (sB_deg r1 (Int32.toNatClampNeg v1), r1))) else (if x3 = 1 then (if v1 < 0 ∨ 64 ≤ Int32.toNatClampNeg v1 then none else (if (lg_cmp (sB_lof r1 (Int32.toNatClampNeg v1)) 0) = 0 then (some (0, r1)) else (some (1, r1)))) else (if x3 = 2 then (if v1 < 0 ∨ 64 ≤ Int32.toNatClampNeg v1 then none else (some (f_Long_bitCount (sB_lof r1 (Int32.toNatClampNeg v1)), r1))) else (if x3 = 3 then ((f_Loops_depthOf r1 v1).bind (fun r11 => some (r11, r1))) else (if x3 = 4 then ((f_Loops_innermostOf r1 v1).bind (fun r13 => some (r13, r1))) else (if x3 = 5 then ((f_Rulers_realmOf r1 v1).bind (fun r15 => some (f_Long_bitCount r15, r1))) else (if x3 = 6 then (if v1 < 0 ∨ 64 ≤ Int32.toNatClampNeg v1 then none else (some (sB_comings r1 (Int32.toNatClampNeg v1), r1))) else (some (-1, r1)))))))))))
def rm_BlockRuler_look : Room := { frames := 6, cells := 0, slots := 0, locals := 137 }
def f_BlockRuler_edge (σ : SB) (v1 : Int32) (v2 : Int32) : Option (Int32 × SB) :=
  (f_BlockRuler_refresh σ).bind (fun r1 => if (f_Web_hasBlock r1 v1) = 0 then (some (-1, r1)) else ((f_Rulers_edgeOf r1 v1).bind (fun r3 => (f_BlockRuler_nth r3 v2).bind (fun r4 => some (r4, r1)))))
def rm_BlockRuler_edge : Room := { frames := 6, cells := 0, slots := 0, locals := 137 }
def f_BlockRuler_count (σ : SB) (v1 : Int32) : Option (Int32 × SB) :=
  (f_BlockRuler_refresh σ).bind (fun r1 => Lt (v1) (fun x2 : Int32 => if x2 = 0 then (some (sB_blocks r1, r1)) else (if x2 = 1 then (some (sB_ways r1, r1)) else (if x2 = 2 then (some (sB_reached r1, r1)) else (if x2 = 3 then (some (sB_heads r1, r1)) else (if x2 = 4 then (some (sB_backs r1, r1)) else (if x2 = 5 then (some (sB_knots r1, r1)) else (if x2 = 6 then ((f_Loops_greatestDepth r1).bind (fun r9 => some (r9, r1))) else (some (-1, r1))))))))))
def rm_BlockRuler_count : Room := { frames := 6, cells := 0, slots := 0, locals := 137 }
end
section
-- written by wip/gen (blockruler.py)
set_option maxHeartbeats 4000000 in
set_option maxRecDepth 100000 in
theorem c_Long_bitCount (l : Launch) (v0 : Int64) (r : Int32) (h : f_Long_bitCount v0 = r) : Met l y_Long_bitCount w_Long_bitCount rm_Long_bitCount (va_Pc [.long v0] (fun _ => True)) (QcV (.int r)) 0 0 (fun _ => False) := by
  refine Met.ofW (cc := b_Long_bitCount) (maxL := 2) (ret := (some .int)) (by decide) rfl ?_
  intro p e s m args below meth c s₁ B hml hv
  obtain ⟨rfl, -⟩ := hv
  have hx := B.exec
  have hb := B.bytes
  have hr := B.returns
  have hg : ∀ w ∈ G_, w.before _ s = true := fun w hw => atoms_spec (ws := w_Long_bitCount) B.pre w (List.mem_cons_of_mem _ hw)
  have hown : s.vm.findClass "java/lang/Long" = some m.cls := findClass_of_methodNamed B.named
  have hlocks := B.notSynchronized
  have C0 : Cx "java/lang/Long" b_Long_bitCount 2 p s m _ meth c := ⟨hx, hb, hml, hown, hg, hlocks⟩
  have hl := lv_entry ([.long v0]) (n := 2) (Nat.le_of_ble_eq_true rfl)
  rw [lg_entry_eq]
  generalize (lg_sl ([.long v0]) ++ List.replicate (2 - (lg_sl ([.long v0])).length) Slot.unset).toArray = ls at hl ⊢
  have hl : lv_has ls 2 [(0, .long v0)] := hl
  unfold f_Long_bitCount at h
  refine lv_lload_n hx hb d_Long_bitCount_0 rfl (lv_at hl 0 rfl) ?_
  refine lv_lload_n hx hb d_Long_bitCount_1 rfl (lv_at hl 0 rfl) ?_
  refine lv_iconst (v := 1) hx hb d_Long_bitCount_2 (by decide) ?_
  refine lv_lushr (v := jushr v0 1) hx hb d_Long_bitCount_3 rfl ?_
  refine lv_ldc2 (v := 6148914691236517205) hx hb hown (hg _ wd0) d_Long_bitCount_4 ?_
  refine lv_land hx hb d_Long_bitCount_7 ?_
  refine lv_lsub hx hb d_Long_bitCount_8 ?_
  refine lv_topl (fun x1 ex1 => ?_)
  have h := lt_ h x1 ex1
  refine lv_lstore_n (lv' := [(0, .long x1)]) hx hb d_Long_bitCount_9 rfl hl (by decide) rfl (fun ls hl => ?_)
  refine lv_lload_n hx hb d_Long_bitCount_10 rfl (lv_at hl 0 rfl) ?_
  refine lv_ldc2 (v := 3689348814741910323) hx hb hown (hg _ wd1) d_Long_bitCount_11 ?_
  refine lv_land hx hb d_Long_bitCount_14 ?_
  refine lv_lload_n hx hb d_Long_bitCount_15 rfl (lv_at hl 0 rfl) ?_
  refine lv_iconst (v := 2) hx hb d_Long_bitCount_16 (by decide) ?_
  refine lv_lushr (v := jushr x1 2) hx hb d_Long_bitCount_17 rfl ?_
  refine lv_ldc2 (v := 3689348814741910323) hx hb hown (hg _ wd1) d_Long_bitCount_18 ?_
  refine lv_land hx hb d_Long_bitCount_21 ?_
  refine lv_ladd hx hb d_Long_bitCount_22 ?_
  refine lv_topl (fun x2 ex2 => ?_)
  have h := lt_ h x2 ex2
  refine lv_lstore_n (lv' := [(0, .long x2)]) hx hb d_Long_bitCount_23 rfl hl (by decide) rfl (fun ls hl => ?_)
  refine lv_lload_n hx hb d_Long_bitCount_24 rfl (lv_at hl 0 rfl) ?_
  refine lv_lload_n hx hb d_Long_bitCount_25 rfl (lv_at hl 0 rfl) ?_
  refine lv_iconst (v := 4) hx hb d_Long_bitCount_26 (by decide) ?_
  refine lv_lushr (v := jushr x2 4) hx hb d_Long_bitCount_27 rfl ?_
  refine lv_ladd hx hb d_Long_bitCount_28 ?_
  refine lv_ldc2 (v := 1085102592571150095) hx hb hown (hg _ wd2) d_Long_bitCount_29 ?_
  refine lv_land hx hb d_Long_bitCount_32 ?_
  refine lv_topl (fun x3 ex3 => ?_)
  have h := lt_ h x3 ex3
  refine lv_lstore_n (lv' := [(0, .long x3)]) hx hb d_Long_bitCount_33 rfl hl (by decide) rfl (fun ls hl => ?_)
  refine lv_lload_n hx hb d_Long_bitCount_34 rfl (lv_at hl 0 rfl) ?_
  refine lv_lload_n hx hb d_Long_bitCount_35 rfl (lv_at hl 0 rfl) ?_
  refine lv_bipush (v := 8) hx hb d_Long_bitCount_36 (by decide) ?_
  refine lv_lushr (v := jushr x3 8) hx hb d_Long_bitCount_38 rfl ?_
  refine lv_ladd hx hb d_Long_bitCount_39 ?_
  refine lv_lstore_n (lv' := [(0, .long (x3 + (jushr x3 8)))]) hx hb d_Long_bitCount_40 rfl hl (by decide) rfl (fun ls hl => ?_)
  refine lv_lload_n hx hb d_Long_bitCount_41 rfl (lv_at hl 0 rfl) ?_
  refine lv_lload_n hx hb d_Long_bitCount_42 rfl (lv_at hl 0 rfl) ?_
  refine lv_bipush (v := 16) hx hb d_Long_bitCount_43 (by decide) ?_
  refine lv_lushr (v := jushr (x3 + (jushr x3 8)) 16) hx hb d_Long_bitCount_45 rfl ?_
  refine lv_ladd hx hb d_Long_bitCount_46 ?_
  refine lv_topl (fun x4 ex4 => ?_)
  have h := lt_ h x4 ex4
  refine lv_lstore_n (lv' := [(0, .long x4)]) hx hb d_Long_bitCount_47 rfl hl (by decide) rfl (fun ls hl => ?_)
  refine lv_lload_n hx hb d_Long_bitCount_48 rfl (lv_at hl 0 rfl) ?_
  refine lv_lload_n hx hb d_Long_bitCount_49 rfl (lv_at hl 0 rfl) ?_
  refine lv_bipush (v := 32) hx hb d_Long_bitCount_50 (by decide) ?_
  refine lv_lushr (v := jushr x4 32) hx hb d_Long_bitCount_52 rfl ?_
  refine lv_ladd hx hb d_Long_bitCount_53 ?_
  refine lv_lstore_n (lv' := [(0, .long (x4 + (jushr x4 32)))]) hx hb d_Long_bitCount_54 rfl hl (by decide) rfl (fun ls hl => ?_)
  refine lv_lload_n hx hb d_Long_bitCount_55 rfl (lv_at hl 0 rfl) ?_
  refine lv_l2i (v := Int64.toInt32 (x4 + (jushr x4 32))) hx hb d_Long_bitCount_56 rfl ?_
  refine lv_bipush (v := 127) hx hb d_Long_bitCount_57 (by decide) ?_
  refine lv_iand hx hb d_Long_bitCount_59 ?_
  exact W.iret (v := (Int64.toInt32 (x4 + (jushr x4 32))) &&& 127) hx hb hr (fun t ht _ => ⟨by rw [h], ht⟩) (fun q hq => by cases hq) d_Long_bitCount_60
set_option maxHeartbeats 4000000 in
set_option maxRecDepth 100000 in
theorem c_Web_hasBlock (l : Launch) (dC : Nat → ClassId) (dI : Nat → Nat → Nat) (a : Nat → Nat) (cs : Nat → ClassId) (σ : SB) (v1 : Int32) (r : Int32) (h : f_Web_hasBlock σ v1 = r) : Met l y_Web_hasBlock w_Web_hasBlock rm_Web_hasBlock (va_Pc [.ref (a 1), .int v1] (WBB dC dI a cs σ)) (QcV (.int r)) 0 0 (fun _ => False) := by
  refine Met.ofW (cc := b_Web_hasBlock) (maxL := 2) (ret := (some .boolean)) (by decide) rfl ?_
  intro p e s m args below meth c s₁ B hml hv
  obtain ⟨rfl, hP, hK, hN⟩ := hv
  have hx := B.exec
  have hb := B.bytes
  have hr := B.returns
  have hg : ∀ w ∈ G_, w.before _ s = true := fun w hw => atoms_spec (ws := w_Web_hasBlock) B.pre w (List.mem_cons_of_mem _ hw)
  have hown : s.vm.findClass "BlockRuler$Web" = some m.cls := findClass_of_methodNamed B.named
  have hlocks := B.notSynchronized
  have C0 : Cx "BlockRuler$Web" b_Web_hasBlock 2 p s m _ meth c := ⟨hx, hb, hml, hown, hg, hlocks⟩
  have hl := lv_entry ([.ref (a 1), .int v1]) (n := 2) (Nat.le_of_ble_eq_true rfl)
  rw [lg_entry_eq]
  generalize (lg_sl ([.ref (a 1), .int v1]) ++ List.replicate (2 - (lg_sl ([.ref (a 1), .int v1])).length) Slot.unset).toArray = ls at hl ⊢
  have hl : lv_has ls 2 [(0, .ref (a 1)), (1, .int v1)] := hl
  unfold f_Web_hasBlock at h
  refine lv_iload_n hx hb d_Web_hasBlock_0 rfl (lv_at hl 1 rfl) ?_
  refine lv_if_lt (tgt := 16) hx hb d_Web_hasBlock_1 (by decide) (fun c1 => ?_) (fun c1 => ?_)
  · have h := b_t h c1
    refine lv_iconst (v := 0) hx hb d_Web_hasBlock_16 (by decide) ?_
    exact W.zret (v := 0) (ty := .boolean) hx hb hr rfl (fun t ht _ => ⟨by rw [h], ht⟩) (fun q hq => by cases hq) d_Web_hasBlock_17
  · have h := b_f h c1
    refine lv_iload_n hx hb d_Web_hasBlock_4 rfl (lv_at hl 1 rfl) ?_
    refine lv_aload_n hx hb d_Web_hasBlock_5 rfl (lv_at hl 0 rfl) ?_
    refine va_get (D := (dC, dI)) (ci := 1) (v := .int (sB_blocks σ)) (C := "BlockRuler$Web") (T := F_Web) (N := 4) hx hb hg i_Web hown hK hP 1 rfl rfl 2 (by decide) (hg _ wd3) (fun _ h9 => h9) rfl d_Web_hasBlock_6 ?_
    refine lv_icmp_ge (tgt := 16) hx hb d_Web_hasBlock_9 (by decide) (fun c2 => ?_) (fun c2 => ?_)
    · have h := b_t h c2
      refine lv_iconst (v := 0) hx hb d_Web_hasBlock_16 (by decide) ?_
      exact W.zret (v := 0) (ty := .boolean) hx hb hr rfl (fun t ht _ => ⟨by rw [h], ht⟩) (fun q hq => by cases hq) d_Web_hasBlock_17
    · have h := b_f h c2
      refine lv_iconst (v := 1) hx hb d_Web_hasBlock_12 (by decide) ?_
      refine lv_goto (tgt := 17) hx hb d_Web_hasBlock_13 (by decide) ?_
      exact W.zret (v := 1) (ty := .boolean) hx hb hr rfl (fun t ht _ => ⟨by rw [h], ht⟩) (fun q hq => by cases hq) d_Web_hasBlock_17
set_option maxHeartbeats 4000000 in
set_option maxRecDepth 100000 in
theorem c_Web_hasWay (l : Launch) (dC : Nat → ClassId) (dI : Nat → Nat → Nat) (a : Nat → Nat) (cs : Nat → ClassId) (σ : SB) (v1 : Int32) (v2 : Int32) (r : Int32) (h : f_Web_hasWay σ v1 v2 = some r) : Met l y_Web_hasWay w_Web_hasWay rm_Web_hasWay (va_Pc [.ref (a 1), .int v1, .int v2] (WBB dC dI a cs σ)) (QcV (.int r)) 0 0 (fun _ => False) := by
  refine Met.ofW (cc := b_Web_hasWay) (maxL := 3) (ret := (some .boolean)) (by decide) rfl ?_
  intro p e s m args below meth c s₁ B hml hv
  obtain ⟨rfl, hP, hK, hN⟩ := hv
  have hx := B.exec
  have hb := B.bytes
  have hr := B.returns
  have hg : ∀ w ∈ G_, w.before _ s = true := fun w hw => atoms_spec (ws := w_Web_hasWay) B.pre w (List.mem_cons_of_mem _ hw)
  have hown : s.vm.findClass "BlockRuler$Web" = some m.cls := findClass_of_methodNamed B.named
  have hlocks := B.notSynchronized
  have C0 : Cx "BlockRuler$Web" b_Web_hasWay 3 p s m _ meth c := ⟨hx, hb, hml, hown, hg, hlocks⟩
  have hl := lv_entry ([.ref (a 1), .int v1, .int v2]) (n := 3) (Nat.le_of_ble_eq_true rfl)
  rw [lg_entry_eq]
  generalize (lg_sl ([.ref (a 1), .int v1, .int v2]) ++ List.replicate (3 - (lg_sl ([.ref (a 1), .int v1, .int v2])).length) Slot.unset).toArray = ls at hl ⊢
  have hl : lv_has ls 3 [(0, .ref (a 1)), (1, .int v1), (2, .int v2)] := hl
  unfold f_Web_hasWay at h
  refine lv_aload_n hx hb d_Web_hasWay_0 rfl (lv_at hl 0 rfl) ?_
  refine lv_iload_n hx hb d_Web_hasWay_1 rfl (lv_at hl 1 rfl) ?_
  refine ro_call (v := .int (f_Web_hasBlock σ v1)) (va_runV (C := "BlockRuler$Web") (As := [.int v1]) (rest := []) ⟨hx, hb, hml, hown, hg⟩ (c_Web_hasBlock l dC dI a cs σ v1 _ rfl) (cwV 1 hg (gdV wd6 wd5 wd4 wd7 wd8) rfl rfl rfl (by decide +kernel) ⟨Nat.le_of_ble_eq_true rfl, Nat.le_of_ble_eq_true rfl⟩) ⟨wb_blind, va_recv hK hP (ci := 1) (q0 := 1) rfl rfl, fun U hU hW => ⟨rfl, wb_pre hU hW hP hK hN⟩⟩ rfl rfl hl.1 rfl (lv_room (Nat.le_of_ble_eq_true rfl)) d_Web_hasWay_2 ⟨Nat.zero_le _, Nat.zero_le _⟩) ?_
  refine lv_if_eq (tgt := 26) hx hb d_Web_hasWay_5 (by decide) (fun c1 => ?_) (fun c1 => ?_)
  · have h := b_t h c1
    refine lv_iconst (v := 0) hx hb d_Web_hasWay_26 (by decide) ?_
    exact W.zret (v := 0) (ty := .boolean) hx hb hr rfl (fun t ht _ => ⟨by rw [Option.some.inj h], ht⟩) (fun q hq => by cases hq) d_Web_hasWay_27
  · have h := b_f h c1
    refine lv_iload_n hx hb d_Web_hasWay_8 rfl (lv_at hl 2 rfl) ?_
    refine lv_if_lt (tgt := 26) hx hb d_Web_hasWay_9 (by decide) (fun c2 => ?_) (fun c2 => ?_)
    · have h := b_t h c2
      refine lv_iconst (v := 0) hx hb d_Web_hasWay_26 (by decide) ?_
      exact W.zret (v := 0) (ty := .boolean) hx hb hr rfl (fun t ht _ => ⟨by rw [Option.some.inj h], ht⟩) (fun q hq => by cases hq) d_Web_hasWay_27
    · have h := b_f h c2
      refine lv_iload_n hx hb d_Web_hasWay_12 rfl (lv_at hl 2 rfl) ?_
      refine lv_aload_n hx hb d_Web_hasWay_13 rfl (lv_at hl 0 rfl) ?_
      refine va_get (D := (dC, dI)) (ci := 1) (v := .ref (a 5)) (C := "BlockRuler$Web") (T := F_Web) (N := 4) hx hb hg i_Web hown hK hP 1 rfl rfl 0 (by decide) (hg _ wd9) (fun _ h9 => h9) rfl d_Web_hasWay_14 ?_
      refine lv_iload_n hx hb d_Web_hasWay_17 rfl (lv_at hl 1 rfl) ?_
      obtain ⟨hi3, h⟩ := gd h
      refine va_iald (f := sB_deg σ) (n := 64) hx hb hK hP 5 0 rfl rfl hi3 d_Web_hasWay_18 ?_
      refine lv_icmp_ge (tgt := 26) hx hb d_Web_hasWay_19 (by decide) (fun c4 => ?_) (fun c4 => ?_)
      · have h := b_t h c4
        refine lv_iconst (v := 0) hx hb d_Web_hasWay_26 (by decide) ?_
        exact W.zret (v := 0) (ty := .boolean) hx hb hr rfl (fun t ht _ => ⟨by rw [Option.some.inj h], ht⟩) (fun q hq => by cases hq) d_Web_hasWay_27
      · have h := b_f h c4
        refine lv_iconst (v := 1) hx hb d_Web_hasWay_22 (by decide) ?_
        refine lv_goto (tgt := 27) hx hb d_Web_hasWay_23 (by decide) ?_
        exact W.zret (v := 1) (ty := .boolean) hx hb hr rfl (fun t ht _ => ⟨by rw [Option.some.inj h], ht⟩) (fun q hq => by cases hq) d_Web_hasWay_27
set_option maxHeartbeats 4000000 in
set_option maxRecDepth 100000 in
theorem c_Web_endOf (l : Launch) (dC : Nat → ClassId) (dI : Nat → Nat → Nat) (a : Nat → Nat) (cs : Nat → ClassId) (σ : SB) (v1 : Int32) (v2 : Int32) (r : Int32) (h : f_Web_endOf σ v1 v2 = some r) : Met l y_Web_endOf w_Web_endOf rm_Web_endOf (va_Pc [.ref (a 1), .int v1, .int v2] (WBB dC dI a cs σ)) (QcV (.int r)) 0 0 (fun _ => False) := by
  refine Met.ofW (cc := b_Web_endOf) (maxL := 3) (ret := (some .int)) (by decide) rfl ?_
  intro p e s m args below meth c s₁ B hml hv
  obtain ⟨rfl, hP, hK, hN⟩ := hv
  have hx := B.exec
  have hb := B.bytes
  have hr := B.returns
  have hg : ∀ w ∈ G_, w.before _ s = true := fun w hw => atoms_spec (ws := w_Web_endOf) B.pre w (List.mem_cons_of_mem _ hw)
  have hown : s.vm.findClass "BlockRuler$Web" = some m.cls := findClass_of_methodNamed B.named
  have hlocks := B.notSynchronized
  have C0 : Cx "BlockRuler$Web" b_Web_endOf 3 p s m _ meth c := ⟨hx, hb, hml, hown, hg, hlocks⟩
  have hl := lv_entry ([.ref (a 1), .int v1, .int v2]) (n := 3) (Nat.le_of_ble_eq_true rfl)
  rw [lg_entry_eq]
  generalize (lg_sl ([.ref (a 1), .int v1, .int v2]) ++ List.replicate (3 - (lg_sl ([.ref (a 1), .int v1, .int v2])).length) Slot.unset).toArray = ls at hl ⊢
  have hl : lv_has ls 3 [(0, .ref (a 1)), (1, .int v1), (2, .int v2)] := hl
  unfold f_Web_endOf at h
  refine lv_aload_n hx hb d_Web_endOf_0 rfl (lv_at hl 0 rfl) ?_
  refine va_get (D := (dC, dI)) (ci := 1) (v := .ref (a 6)) (C := "BlockRuler$Web") (T := F_Web) (N := 4) hx hb hg i_Web hown hK hP 1 rfl rfl 1 (by decide) (hg _ wd10) (fun _ h9 => h9) rfl d_Web_endOf_1 ?_
  refine lv_iload_n hx hb d_Web_endOf_4 rfl (lv_at hl 1 rfl) ?_
  refine lv_bipush (v := 8) hx hb d_Web_endOf_5 (by decide) ?_
  refine lv_imul hx hb d_Web_endOf_7 ?_
  refine lv_iload_n hx hb d_Web_endOf_8 rfl (lv_at hl 2 rfl) ?_
  refine lv_iadd hx hb d_Web_endOf_9 ?_
  obtain ⟨hi1, h⟩ := gd h
  refine va_iald (f := sB_ends σ) (n := 512) hx hb hK hP 6 1 rfl rfl hi1 d_Web_endOf_10 ?_
  exact W.iret (v := sB_ends σ (Int32.toNatClampNeg ((v1 * 8) + v2))) hx hb hr (fun t ht _ => ⟨by rw [Option.some.inj h], ht⟩) (fun q hq => by cases hq) d_Web_endOf_11
set_option maxHeartbeats 4000000 in
set_option maxRecDepth 100000 in
theorem c_Web_addBlock (l : Launch) (dC : Nat → ClassId) (dI : Nat → Nat → Nat) (a : Nat → Nat) (cs : Nat → ClassId) (sz : Nat) (σ : SB) (r : Int32 × SB) (h : f_Web_addBlock σ = r) : Met l y_Web_addBlock w_Web_addBlock rm_Web_addBlock (va_Pc [.ref (a 1)] (fun U => U.heap.size = sz ∧ WDB dC dI a cs σ U)) (va_Qi (fun (x : Int32) (u : SB) => (x, u) = r) (atB dC dI a cs (va_A (wsB a cs σ) sz)) (va_A (wsB a cs σ) sz)) 0 0 (va_A (wsB a cs σ) sz) := by
  refine Met.ofW (cc := b_Web_addBlock) (maxL := 2) (ret := (some .int)) (by decide) rfl ?_
  intro p e s m args below meth c s₁ B hml hv
  obtain ⟨rfl, hsz, hP, hK, hN, hD0⟩ := hv
  have hx := B.exec
  have hb := B.bytes
  have hr := B.returns
  have hg : ∀ w ∈ G_, w.before _ s = true := fun w hw => atoms_spec (ws := w_Web_addBlock) B.pre w (List.mem_cons_of_mem _ hw)
  have hown : s.vm.findClass "BlockRuler$Web" = some m.cls := findClass_of_methodNamed B.named
  have hlocks := B.notSynchronized
  have C0 : Cx "BlockRuler$Web" b_Web_addBlock 2 p s m _ meth c := ⟨hx, hb, hml, hown, hg, hlocks⟩
  subst hsz
  have hD := hD0.self (sz := s.heap.size)
  generalize hAe : va_A (wsB a cs σ) s.heap.size = A at hD ⊢
  have hA : ∀ q : Nat, s.heap.size ≤ q → A q := fun q h => by rw [← hAe]; exact Or.inr h
  have hS : va_S A s.heap s.heap [] := va_S.rf
  have hl := lv_entry ([.ref (a 1)]) (n := 2) (Nat.le_of_ble_eq_true rfl)
  rw [lg_entry_eq]
  generalize (lg_sl ([.ref (a 1)]) ++ List.replicate (2 - (lg_sl ([.ref (a 1)])).length) Slot.unset).toArray = ls at hl ⊢
  have hl : lv_has ls 2 [(0, .ref (a 1))] := hl
  unfold f_Web_addBlock at h
  refine lv_aload_n hx hb d_Web_addBlock_0 rfl (lv_at hl 0 rfl) ?_
  refine va_get (D := (dC, dI)) (ci := 1) (v := .int (sB_blocks σ)) (C := "BlockRuler$Web") (T := F_Web) (N := 4) hx hb hg i_Web hown hK hP 1 rfl rfl 2 (by decide) (hg _ wd3) (fun _ h9 => h9) rfl d_Web_addBlock_1 ?_
  refine lv_istore_n (lv' := [(1, .int (sB_blocks σ)), (0, .ref (a 1))]) hx hb d_Web_addBlock_4 rfl hl (by decide) rfl (fun ls hl => ?_)
  refine lv_aload_n hx hb d_Web_addBlock_5 rfl (lv_at hl 1 rfl) ?_
  refine lv_dup hx hb d_Web_addBlock_6 rfl ?_
  refine va_get (D := (dC, dI)) (ci := 1) (v := .int (sB_blocks σ)) (C := "BlockRuler$Web") (T := F_Web) (N := 4) hx hb hg i_Web hown hK hP 1 rfl rfl 2 (by decide) (hg _ wd3) (fun _ h9 => h9) rfl d_Web_addBlock_7 ?_
  refine lv_iconst (v := 1) hx hb d_Web_addBlock_10 (by decide) ?_
  refine lv_iadd hx hb d_Web_addBlock_11 ?_
  refine va_put (D := (dC, dI)) (ci := 1) (v := .int ((sB_blocks σ) + 1)) (ty := .int) (C := "BlockRuler$Web") (T := F_Web) (N := 4) hx hb hg i_Web t_Web t_Web_ok n_Web hown hK hP hD hS 1 rfl rfl 2 (by decide) (hg _ wd3) (fun _ h9 => h9) rfl (by decide +kernel) rfl rfl (Nat.le_of_ble_eq_true rfl) d_Web_addBlock_12 (fun H locs hP hD hS => ?_)
  have hP := va_Pe (setB_blocks a cs σ ((sB_blocks σ) + 1)) hP
  have hD := va_De (setB_blocks a cs σ ((sB_blocks σ) + 1)) hD
  refine lv_iload_n hx hb d_Web_addBlock_15 rfl (lv_at hl 0 rfl) ?_
  exact W.iret (v := sB_blocks σ) hx hb hr (fun t ht hW => ⟨⟨sB_blocks σ, uB_blocks σ ((sB_blocks σ) + 1), rfl, h, by rw [ht]; exact hP, hD⟩, hS.F ht⟩) hS.2.2 d_Web_addBlock_16
set_option maxHeartbeats 4000000 in
set_option maxRecDepth 100000 in
theorem c_Web_addWay (l : Launch) (dC : Nat → ClassId) (dI : Nat → Nat → Nat) (a : Nat → Nat) (cs : Nat → ClassId) (sz : Nat) (σ : SB) (v1 : Int32) (v2 : Int32) (r : Int32 × SB) (h : f_Web_addWay σ v1 v2 = some r) : Met l y_Web_addWay w_Web_addWay rm_Web_addWay (va_Pc [.ref (a 1), .int v1, .int v2] (fun U => U.heap.size = sz ∧ WDB dC dI a cs σ U)) (va_Qi (fun (x : Int32) (u : SB) => (x, u) = r) (atB dC dI a cs (va_A (wsB a cs σ) sz)) (va_A (wsB a cs σ) sz)) 0 0 (va_A (wsB a cs σ) sz) := by
  refine Met.ofW (cc := b_Web_addWay) (maxL := 4) (ret := (some .int)) (by decide) rfl ?_
  intro p e s m args below meth c s₁ B hml hv
  obtain ⟨rfl, hsz, hP, hK, hN, hD0⟩ := hv
  have hx := B.exec
  have hb := B.bytes
  have hr := B.returns
  have hg : ∀ w ∈ G_, w.before _ s = true := fun w hw => atoms_spec (ws := w_Web_addWay) B.pre w (List.mem_cons_of_mem _ hw)
  have hown : s.vm.findClass "BlockRuler$Web" = some m.cls := findClass_of_methodNamed B.named
  have hlocks := B.notSynchronized
  have C0 : Cx "BlockRuler$Web" b_Web_addWay 4 p s m _ meth c := ⟨hx, hb, hml, hown, hg, hlocks⟩
  subst hsz
  have hD := hD0.self (sz := s.heap.size)
  generalize hAe : va_A (wsB a cs σ) s.heap.size = A at hD ⊢
  have hA : ∀ q : Nat, s.heap.size ≤ q → A q := fun q h => by rw [← hAe]; exact Or.inr h
  have hS : va_S A s.heap s.heap [] := va_S.rf
  have hl := lv_entry ([.ref (a 1), .int v1, .int v2]) (n := 4) (Nat.le_of_ble_eq_true rfl)
  rw [lg_entry_eq]
  generalize (lg_sl ([.ref (a 1), .int v1, .int v2]) ++ List.replicate (4 - (lg_sl ([.ref (a 1), .int v1, .int v2])).length) Slot.unset).toArray = ls at hl ⊢
  have hl : lv_has ls 4 [(0, .ref (a 1)), (1, .int v1), (2, .int v2)] := hl
  unfold f_Web_addWay at h
  refine lv_aload_n hx hb d_Web_addWay_0 rfl (lv_at hl 0 rfl) ?_
  refine va_get (D := (dC, dI)) (ci := 1) (v := .ref (a 5)) (C := "BlockRuler$Web") (T := F_Web) (N := 4) hx hb hg i_Web hown hK hP 1 rfl rfl 0 (by decide) (hg _ wd9) (fun _ h9 => h9) rfl d_Web_addWay_1 ?_
  refine lv_iload_n hx hb d_Web_addWay_4 rfl (lv_at hl 1 rfl) ?_
  obtain ⟨hi1, h⟩ := gd h
  refine va_iald (f := sB_deg σ) (n := 64) hx hb hK hP 5 0 rfl rfl hi1 d_Web_addWay_5 ?_
  refine lv_topi (fun x2 ex2 => ?_)
  have h := lt_ h x2 ex2
  refine lv_istore_n (lv' := [(3, .int x2), (0, .ref (a 1)), (1, .int v1), (2, .int v2)]) hx hb d_Web_addWay_6 rfl hl (by decide) rfl (fun ls hl => ?_)
  refine lv_aload_n hx hb d_Web_addWay_7 rfl (lv_at hl 1 rfl) ?_
  refine va_get (D := (dC, dI)) (ci := 1) (v := .ref (a 6)) (C := "BlockRuler$Web") (T := F_Web) (N := 4) hx hb hg i_Web hown hK hP 1 rfl rfl 1 (by decide) (hg _ wd10) (fun _ h9 => h9) rfl d_Web_addWay_8 ?_
  refine lv_iload_n hx hb d_Web_addWay_11 rfl (lv_at hl 2 rfl) ?_
  refine lv_bipush (v := 8) hx hb d_Web_addWay_12 (by decide) ?_
  refine lv_imul hx hb d_Web_addWay_14 ?_
  refine lv_iload_n hx hb d_Web_addWay_15 rfl (lv_at hl 0 rfl) ?_
  refine lv_iadd hx hb d_Web_addWay_16 ?_
  refine lv_iload_n hx hb d_Web_addWay_17 rfl (lv_at hl 3 rfl) ?_
  obtain ⟨hi3, h⟩ := gd h
  refine va_iast (f := sB_ends σ) (n := 512) hx hb hK hP hD hS 6 1 rfl rfl hi3 d_Web_addWay_18 (fun H locs hP hD hS => ?_)
  have hP := va_Pe (setB_ends a cs σ (upd (sB_ends σ) (Int32.toNatClampNeg ((v1 * 8) + x2)) v2)) hP
  have hD := va_De (setB_ends a cs σ (upd (sB_ends σ) (Int32.toNatClampNeg ((v1 * 8) + x2)) v2)) hD
  refine lv_aload_n hx hb d_Web_addWay_19 rfl (lv_at hl 1 rfl) ?_
  refine va_get (D := (dC, dI)) (ci := 1) (v := .ref (a 5)) (C := "BlockRuler$Web") (T := F_Web) (N := 4) hx hb hg i_Web hown hK hP 1 rfl rfl 0 (by decide) (hg _ wd9) (fun _ h9 => h9) rfl d_Web_addWay_20 ?_
  refine lv_iload_n hx hb d_Web_addWay_23 rfl (lv_at hl 2 rfl) ?_
  refine lv_dup2_11 hx hb d_Web_addWay_24 rfl rfl ?_
  refine va_iald (f := sB_deg σ) (n := 64) hx hb hK hP 5 0 (rdB_deg a cs (uB_ends σ (upd (sB_ends σ) (Int32.toNatClampNeg ((v1 * 8) + x2)) v2)) (gB_deg_ends _ _)) rfl hi1 d_Web_addWay_25 ?_
  refine lv_iconst (v := 1) hx hb d_Web_addWay_26 (by decide) ?_
  refine lv_iadd hx hb d_Web_addWay_27 ?_
  refine va_iast (f := sB_deg σ) (n := 64) hx hb hK hP hD hS 5 0 (rdB_deg a cs (uB_ends σ (upd (sB_ends σ) (Int32.toNatClampNeg ((v1 * 8) + x2)) v2)) (gB_deg_ends _ _)) rfl hi1 d_Web_addWay_28 (fun H locs hP hD hS => ?_)
  have hP := va_Pe (setB_deg a cs (uB_ends σ (upd (sB_ends σ) (Int32.toNatClampNeg ((v1 * 8) + x2)) v2)) (upd (sB_deg σ) (Int32.toNatClampNeg v1) ((sB_deg σ (Int32.toNatClampNeg v1)) + 1))) hP
  have hD := va_De (setB_deg a cs (uB_ends σ (upd (sB_ends σ) (Int32.toNatClampNeg ((v1 * 8) + x2)) v2)) (upd (sB_deg σ) (Int32.toNatClampNeg v1) ((sB_deg σ (Int32.toNatClampNeg v1)) + 1))) hD
  refine lv_aload_n hx hb d_Web_addWay_29 rfl (lv_at hl 1 rfl) ?_
  refine lv_dup hx hb d_Web_addWay_30 rfl ?_
  refine va_get (D := (dC, dI)) (ci := 1) (v := .int (sB_ways σ)) (C := "BlockRuler$Web") (T := F_Web) (N := 4) hx hb hg i_Web hown hK hP 1 rfl rfl 3 (by decide) (hg _ wd11) (fun _ h9 => h9) (rfB_ways a cs (uB_deg (uB_ends σ (upd (sB_ends σ) (Int32.toNatClampNeg ((v1 * 8) + x2)) v2)) (upd (sB_deg σ) (Int32.toNatClampNeg v1) ((sB_deg σ (Int32.toNatClampNeg v1)) + 1))) ((gB_ways_deg _ _).trans (gB_ways_ends _ _))) d_Web_addWay_31 ?_
  refine lv_iconst (v := 1) hx hb d_Web_addWay_34 (by decide) ?_
  refine lv_iadd hx hb d_Web_addWay_35 ?_
  refine va_put (D := (dC, dI)) (ci := 1) (v := .int ((sB_ways σ) + 1)) (ty := .int) (C := "BlockRuler$Web") (T := F_Web) (N := 4) hx hb hg i_Web t_Web t_Web_ok n_Web hown hK hP hD hS 1 rfl rfl 3 (by decide) (hg _ wd11) (fun _ h9 => h9) rfl (by decide +kernel) rfl rfl (Nat.le_of_ble_eq_true rfl) d_Web_addWay_36 (fun H locs hP hD hS => ?_)
  have hP := va_Pe (setB_ways a cs (uB_deg (uB_ends σ (upd (sB_ends σ) (Int32.toNatClampNeg ((v1 * 8) + x2)) v2)) (upd (sB_deg σ) (Int32.toNatClampNeg v1) ((sB_deg σ (Int32.toNatClampNeg v1)) + 1))) ((sB_ways σ) + 1)) hP
  have hD := va_De (setB_ways a cs (uB_deg (uB_ends σ (upd (sB_ends σ) (Int32.toNatClampNeg ((v1 * 8) + x2)) v2)) (upd (sB_deg σ) (Int32.toNatClampNeg v1) ((sB_deg σ (Int32.toNatClampNeg v1)) + 1))) ((sB_ways σ) + 1)) hD
  refine lv_iload_n hx hb d_Web_addWay_39 rfl (lv_at hl 0 rfl) ?_
  exact W.iret (v := x2) hx hb hr (fun t ht hW => ⟨⟨x2, uB_ways (uB_deg (uB_ends σ (upd (sB_ends σ) (Int32.toNatClampNeg ((v1 * 8) + x2)) v2)) (upd (sB_deg σ) (Int32.toNatClampNeg v1) ((sB_deg σ (Int32.toNatClampNeg v1)) + 1))) ((sB_ways σ) + 1), rfl, Option.some.inj h, by rw [ht]; exact hP, hD⟩, hS.F ht⟩) hS.2.2 d_Web_addWay_40
set_option maxHeartbeats 4000000 in
set_option maxRecDepth 100000 in
theorem lpW_Web_removeWay_18 {p : Program} {l : Launch} {e : Env} {s : State} {m : MethodId} {args : Array Value} {below : List Frame} {meth : Method} {c : Code} {Q : State → Prop} {dC : Nat → ClassId} {dI : Nat → Nat → Nat} {a : Nat → Nat} {cs : Nat → ClassId} {A : Nat → Prop} (C0 : Cx "BlockRuler$Web" b_Web_removeWay 6 p s m args meth c) (hK : va_K (dC, dI) classes (tyB cs) s) (hN : NW s) (hA : ∀ q : Nat, s.heap.size ≤ q → A q) : ∀ (n : Nat) (σ : SB) (v1 : Int32) (v3 : Int32) (v4 : Int32) (v5 : Int32) (y : Int32 × SB), lp_Web_removeWay_18 n σ v1 v3 v4 v5 = some y → ∀ (H : Heap) (locs : List Loc) (ls : Array Slot), va_P (dC, dI) classes (wsB a cs σ) H → va_D A (wsB a cs σ) → va_S A s.heap H locs → lv_has ls 6 [(0, .ref (a 1)), (1, .int v1), (3, .int v3), (4, .int v4), (5, .int v5)] → (∀ (H : Heap) (locs : List Loc) (ls : Array Slot), va_P (dC, dI) classes (wsB a cs y.2) H → va_D A (wsB a cs y.2) → va_S A s.heap H locs → lv_has ls 6 [(0, .ref (a 1)), (1, .int v1), (3, .int v3), (4, .int v4), (5, .int y.1)] → W p l e (headSpec w_Web_removeWay rm_Web_removeWay).room s m args below meth c H locs 0 0 Q (F0 m 57 ls [])) → W p l e (headSpec w_Web_removeWay rm_Web_removeWay).room s m args below meth c H locs 0 0 Q (F0 m 18 ls []) := by
  have C1 := C0
  obtain ⟨hx, hb, hml, hown, hg, hlocks⟩ := C1
  intro n
  induction n with
  | zero => intro σ v1 v3 v4 v5 y h; exact absurd (show (none : Option (Int32 × SB)) = some y from h) (fun q => by cases q)
  | succ n ih =>
    intro σ v1 v3 v4 v5 y h H locs ls hP hD hS hl k0
    rw [lp_Web_removeWay_18_s] at h
    refine lv_iload hx hb d_Web_removeWay_18 (lv_at hl 4 rfl) ?_
    refine lv_aload_n hx hb d_Web_removeWay_20 rfl (lv_at hl 0 rfl) ?_
    refine va_get (D := (dC, dI)) (ci := 1) (v := .ref (a 5)) (C := "BlockRuler$Web") (T := F_Web) (N := 4) hx hb hg i_Web hown hK hP 1 rfl rfl 0 (by decide) (hg _ wd9) (fun _ h9 => h9) rfl d_Web_removeWay_21 ?_
    refine lv_iload_n hx hb d_Web_removeWay_24 rfl (lv_at hl 1 rfl) ?_
    obtain ⟨hi2, h⟩ := gd h
    refine va_iald (f := sB_deg σ) (n := 64) hx hb hK hP 5 0 rfl rfl hi2 d_Web_removeWay_25 ?_
    refine lv_icmp_ge (tgt := 57) hx hb d_Web_removeWay_26 (by decide) (fun c3 => ?_) (fun c3 => ?_)
    · have h := b_t h c3
      obtain rfl := Option.some.inj h
      exact k0 _ _ ls hP hD hS (lv_sub hl [0, 1, 2, 3, 4] rfl)
    · have h := b_f h c3
      refine lv_aload_n hx hb d_Web_removeWay_29 rfl (lv_at hl 0 rfl) ?_
      refine va_get (D := (dC, dI)) (ci := 1) (v := .ref (a 6)) (C := "BlockRuler$Web") (T := F_Web) (N := 4) hx hb hg i_Web hown hK hP 1 rfl rfl 1 (by decide) (hg _ wd10) (fun _ h9 => h9) rfl d_Web_removeWay_30 ?_
      refine lv_iload hx hb d_Web_removeWay_33 (lv_at hl 3 rfl) ?_
      refine lv_iload hx hb d_Web_removeWay_35 (lv_at hl 4 rfl) ?_
      refine lv_iadd hx hb d_Web_removeWay_37 ?_
      refine lv_iconst (v := 1) hx hb d_Web_removeWay_38 (by decide) ?_
      refine lv_isub hx hb d_Web_removeWay_39 ?_
      refine lv_aload_n hx hb d_Web_removeWay_40 rfl (lv_at hl 0 rfl) ?_
      refine va_get (D := (dC, dI)) (ci := 1) (v := .ref (a 6)) (C := "BlockRuler$Web") (T := F_Web) (N := 4) hx hb hg i_Web hown hK hP 1 rfl rfl 1 (by decide) (hg _ wd10) (fun _ h9 => h9) rfl d_Web_removeWay_41 ?_
      refine lv_iload hx hb d_Web_removeWay_44 (lv_at hl 3 rfl) ?_
      refine lv_iload hx hb d_Web_removeWay_46 (lv_at hl 4 rfl) ?_
      refine lv_iadd hx hb d_Web_removeWay_48 ?_
      obtain ⟨hi4, h⟩ := gd h
      refine va_iald (f := sB_ends σ) (n := 512) hx hb hK hP 6 1 rfl rfl hi4 d_Web_removeWay_49 ?_
      obtain ⟨hi5, h⟩ := gd h
      refine va_iast (f := sB_ends σ) (n := 512) hx hb hK hP hD hS 6 1 rfl rfl hi5 d_Web_removeWay_50 (fun H locs hP hD hS => ?_)
      have hP := va_Pe (setB_ends a cs σ (upd (sB_ends σ) (Int32.toNatClampNeg ((v4 + v5) - 1)) (sB_ends σ (Int32.toNatClampNeg (v4 + v5))))) hP
      have hD := va_De (setB_ends a cs σ (upd (sB_ends σ) (Int32.toNatClampNeg ((v4 + v5) - 1)) (sB_ends σ (Int32.toNatClampNeg (v4 + v5))))) hD
      refine lv_iinc (v := v5 + 1) (lv' := [(5, .int (v5 + 1)), (0, .ref (a 1)), (1, .int v1), (3, .int v3), (4, .int v4)]) hx hb d_Web_removeWay_51 hl (k := 4) rfl rfl (by decide) rfl (fun ls hl => ?_)
      refine lv_goto (tgt := 18) hx hb d_Web_removeWay_54 (by decide) ?_
      exact ih (uB_ends σ (upd (sB_ends σ) (Int32.toNatClampNeg ((v4 + v5) - 1)) (sB_ends σ (Int32.toNatClampNeg (v4 + v5))))) v1 v3 v4 (v5 + 1) y h _ _ ls hP hD hS (lv_sub hl [1, 2, 3, 4, 0] rfl) k0
set_option maxHeartbeats 4000000 in
set_option maxRecDepth 100000 in
theorem c_Web_removeWay (l : Launch) (dC : Nat → ClassId) (dI : Nat → Nat → Nat) (a : Nat → Nat) (cs : Nat → ClassId) (sz : Nat) (σ : SB) (v1 : Int32) (v2 : Int32) (r : Int32 × SB) (h : f_Web_removeWay σ v1 v2 = some r) : Met l y_Web_removeWay w_Web_removeWay rm_Web_removeWay (va_Pc [.ref (a 1), .int v1, .int v2] (fun U => U.heap.size = sz ∧ WDB dC dI a cs σ U)) (va_Qi (fun (x : Int32) (u : SB) => (x, u) = r) (atB dC dI a cs (va_A (wsB a cs σ) sz)) (va_A (wsB a cs σ) sz)) 0 0 (va_A (wsB a cs σ) sz) := by
  refine Met.ofW (cc := b_Web_removeWay) (maxL := 6) (ret := (some .int)) (by decide) rfl ?_
  intro p e s m args below meth c s₁ B hml hv
  obtain ⟨rfl, hsz, hP, hK, hN, hD0⟩ := hv
  have hx := B.exec
  have hb := B.bytes
  have hr := B.returns
  have hg : ∀ w ∈ G_, w.before _ s = true := fun w hw => atoms_spec (ws := w_Web_removeWay) B.pre w (List.mem_cons_of_mem _ hw)
  have hown : s.vm.findClass "BlockRuler$Web" = some m.cls := findClass_of_methodNamed B.named
  have hlocks := B.notSynchronized
  have C0 : Cx "BlockRuler$Web" b_Web_removeWay 6 p s m _ meth c := ⟨hx, hb, hml, hown, hg, hlocks⟩
  subst hsz
  have hD := hD0.self (sz := s.heap.size)
  generalize hAe : va_A (wsB a cs σ) s.heap.size = A at hD ⊢
  have hA : ∀ q : Nat, s.heap.size ≤ q → A q := fun q h => by rw [← hAe]; exact Or.inr h
  have hS : va_S A s.heap s.heap [] := va_S.rf
  have hl := lv_entry ([.ref (a 1), .int v1, .int v2]) (n := 6) (Nat.le_of_ble_eq_true rfl)
  rw [lg_entry_eq]
  generalize (lg_sl ([.ref (a 1), .int v1, .int v2]) ++ List.replicate (6 - (lg_sl ([.ref (a 1), .int v1, .int v2])).length) Slot.unset).toArray = ls at hl ⊢
  have hl : lv_has ls 6 [(0, .ref (a 1)), (1, .int v1), (2, .int v2)] := hl
  unfold f_Web_removeWay at h
  refine lv_aload_n hx hb d_Web_removeWay_0 rfl (lv_at hl 0 rfl) ?_
  refine lv_iload_n hx hb d_Web_removeWay_1 rfl (lv_at hl 1 rfl) ?_
  refine lv_iload_n hx hb d_Web_removeWay_2 rfl (lv_at hl 2 rfl) ?_
  obtain ⟨r1, hr1, h⟩ := bd h
  refine ro_call (v := .int r1) (va_runV (C := "BlockRuler$Web") (As := [.int v1, .int v2]) (rest := []) ⟨hx, hb, hml, hown, hg⟩ (c_Web_endOf l dC dI a cs σ v1 v2 _ hr1) (cwV 2 hg (gdV wd14 wd13 wd12 wd7 wd15) rfl rfl rfl (by decide +kernel) ⟨Nat.le_of_ble_eq_true rfl, Nat.le_of_ble_eq_true rfl⟩) ⟨wb_blind, va_recv hK hP (ci := 1) (q0 := 1) rfl rfl, fun U hU hW => ⟨rfl, wb_pre hU hW hP hK hN⟩⟩ rfl rfl hl.1 rfl (lv_room (Nat.le_of_ble_eq_true rfl)) d_Web_removeWay_3 ⟨Nat.zero_le _, Nat.zero_le _⟩) ?_
  refine lv_istore_n (lv' := [(3, .int r1), (0, .ref (a 1)), (1, .int v1), (2, .int v2)]) hx hb d_Web_removeWay_6 rfl hl (by decide) rfl (fun ls hl => ?_)
  refine lv_iload_n hx hb d_Web_removeWay_7 rfl (lv_at hl 2 rfl) ?_
  refine lv_bipush (v := 8) hx hb d_Web_removeWay_8 (by decide) ?_
  refine lv_imul hx hb d_Web_removeWay_10 ?_
  refine lv_istore (lv' := [(4, .int (v1 * 8)), (3, .int r1), (0, .ref (a 1)), (1, .int v1), (2, .int v2)]) hx hb d_Web_removeWay_11 hl (by decide) rfl (fun ls hl => ?_)
  refine lv_iload_n hx hb d_Web_removeWay_13 rfl (lv_at hl 4 rfl) ?_
  refine lv_iconst (v := 1) hx hb d_Web_removeWay_14 (by decide) ?_
  refine lv_iadd hx hb d_Web_removeWay_15 ?_
  refine lv_istore (lv' := [(5, .int (v2 + 1)), (4, .int (v1 * 8)), (3, .int r1), (0, .ref (a 1)), (1, .int v1), (2, .int v2)]) hx hb d_Web_removeWay_16 hl (by decide) rfl (fun ls hl => ?_)
  obtain ⟨y6, hy6, h⟩ := bd h
  refine lpW_Web_removeWay_18 C0 hK hN hA 100 σ v1 r1 (v1 * 8) (v2 + 1) y6 hy6 _ _ ls hP hD hS (lv_sub hl [3, 4, 2, 1, 0] rfl) (fun H locs ls hP hD hS hl => ?_)
  refine lv_aload_n hx hb d_Web_removeWay_57 rfl (lv_at hl 0 rfl) ?_
  refine va_get (D := (dC, dI)) (ci := 1) (v := .ref (a 5)) (C := "BlockRuler$Web") (T := F_Web) (N := 4) hx hb hg i_Web hown hK hP 1 rfl rfl 0 (by decide) (hg _ wd9) (fun _ h9 => h9) rfl d_Web_removeWay_58 ?_
  refine lv_iload_n hx hb d_Web_removeWay_61 rfl (lv_at hl 1 rfl) ?_
  refine lv_dup2_11 hx hb d_Web_removeWay_62 rfl rfl ?_
  obtain ⟨hi7, h⟩ := gd h
  refine va_iald (f := sB_deg y6.2) (n := 64) hx hb hK hP 5 0 rfl rfl hi7 d_Web_removeWay_63 ?_
  refine lv_iconst (v := 1) hx hb d_Web_removeWay_64 (by decide) ?_
  refine lv_isub hx hb d_Web_removeWay_65 ?_
  refine va_iast (f := sB_deg y6.2) (n := 64) hx hb hK hP hD hS 5 0 rfl rfl hi7 d_Web_removeWay_66 (fun H locs hP hD hS => ?_)
  have hP := va_Pe (setB_deg a cs y6.2 (upd (sB_deg y6.2) (Int32.toNatClampNeg v1) ((sB_deg y6.2 (Int32.toNatClampNeg v1)) - 1))) hP
  have hD := va_De (setB_deg a cs y6.2 (upd (sB_deg y6.2) (Int32.toNatClampNeg v1) ((sB_deg y6.2 (Int32.toNatClampNeg v1)) - 1))) hD
  refine lv_aload_n hx hb d_Web_removeWay_67 rfl (lv_at hl 0 rfl) ?_
  refine lv_dup hx hb d_Web_removeWay_68 rfl ?_
  refine va_get (D := (dC, dI)) (ci := 1) (v := .int (sB_ways y6.2)) (C := "BlockRuler$Web") (T := F_Web) (N := 4) hx hb hg i_Web hown hK hP 1 rfl rfl 3 (by decide) (hg _ wd11) (fun _ h9 => h9) (rfB_ways a cs (uB_deg y6.2 (upd (sB_deg y6.2) (Int32.toNatClampNeg v1) ((sB_deg y6.2 (Int32.toNatClampNeg v1)) - 1))) (gB_ways_deg _ _)) d_Web_removeWay_69 ?_
  refine lv_iconst (v := 1) hx hb d_Web_removeWay_72 (by decide) ?_
  refine lv_isub hx hb d_Web_removeWay_73 ?_
  refine va_put (D := (dC, dI)) (ci := 1) (v := .int ((sB_ways y6.2) - 1)) (ty := .int) (C := "BlockRuler$Web") (T := F_Web) (N := 4) hx hb hg i_Web t_Web t_Web_ok n_Web hown hK hP hD hS 1 rfl rfl 3 (by decide) (hg _ wd11) (fun _ h9 => h9) rfl (by decide +kernel) rfl rfl (Nat.le_of_ble_eq_true rfl) d_Web_removeWay_74 (fun H locs hP hD hS => ?_)
  have hP := va_Pe (setB_ways a cs (uB_deg y6.2 (upd (sB_deg y6.2) (Int32.toNatClampNeg v1) ((sB_deg y6.2 (Int32.toNatClampNeg v1)) - 1))) ((sB_ways y6.2) - 1)) hP
  have hD := va_De (setB_ways a cs (uB_deg y6.2 (upd (sB_deg y6.2) (Int32.toNatClampNeg v1) ((sB_deg y6.2 (Int32.toNatClampNeg v1)) - 1))) ((sB_ways y6.2) - 1)) hD
  refine lv_iload_n hx hb d_Web_removeWay_77 rfl (lv_at hl 2 rfl) ?_
  exact W.iret (v := r1) hx hb hr (fun t ht hW => ⟨⟨r1, uB_ways (uB_deg y6.2 (upd (sB_deg y6.2) (Int32.toNatClampNeg v1) ((sB_deg y6.2 (Int32.toNatClampNeg v1)) - 1))) ((sB_ways y6.2) - 1), rfl, Option.some.inj h, by rw [ht]; exact hP, hD⟩, hS.F ht⟩) hS.2.2 d_Web_removeWay_78
set_option maxHeartbeats 4000000 in
set_option maxRecDepth 100000 in
theorem c_Web_moveWay (l : Launch) (dC : Nat → ClassId) (dI : Nat → Nat → Nat) (a : Nat → Nat) (cs : Nat → ClassId) (sz : Nat) (σ : SB) (v1 : Int32) (v2 : Int32) (v3 : Int32) (r : Int32 × SB) (h : f_Web_moveWay σ v1 v2 v3 = some r) : Met l y_Web_moveWay w_Web_moveWay rm_Web_moveWay (va_Pc [.ref (a 1), .int v1, .int v2, .int v3] (fun U => U.heap.size = sz ∧ WDB dC dI a cs σ U)) (va_Qi (fun (x : Int32) (u : SB) => (x, u) = r) (atB dC dI a cs (va_A (wsB a cs σ) sz)) (va_A (wsB a cs σ) sz)) 0 0 (va_A (wsB a cs σ) sz) := by
  refine Met.ofW (cc := b_Web_moveWay) (maxL := 5) (ret := (some .int)) (by decide) rfl ?_
  intro p e s m args below meth c s₁ B hml hv
  obtain ⟨rfl, hsz, hP, hK, hN, hD0⟩ := hv
  have hx := B.exec
  have hb := B.bytes
  have hr := B.returns
  have hg : ∀ w ∈ G_, w.before _ s = true := fun w hw => atoms_spec (ws := w_Web_moveWay) B.pre w (List.mem_cons_of_mem _ hw)
  have hown : s.vm.findClass "BlockRuler$Web" = some m.cls := findClass_of_methodNamed B.named
  have hlocks := B.notSynchronized
  have C0 : Cx "BlockRuler$Web" b_Web_moveWay 5 p s m _ meth c := ⟨hx, hb, hml, hown, hg, hlocks⟩
  subst hsz
  have hD := hD0.self (sz := s.heap.size)
  generalize hAe : va_A (wsB a cs σ) s.heap.size = A at hD ⊢
  have hA : ∀ q : Nat, s.heap.size ≤ q → A q := fun q h => by rw [← hAe]; exact Or.inr h
  have hS : va_S A s.heap s.heap [] := va_S.rf
  have hl := lv_entry ([.ref (a 1), .int v1, .int v2, .int v3]) (n := 5) (Nat.le_of_ble_eq_true rfl)
  rw [lg_entry_eq]
  generalize (lg_sl ([.ref (a 1), .int v1, .int v2, .int v3]) ++ List.replicate (5 - (lg_sl ([.ref (a 1), .int v1, .int v2, .int v3])).length) Slot.unset).toArray = ls at hl ⊢
  have hl : lv_has ls 5 [(0, .ref (a 1)), (1, .int v1), (2, .int v2), (3, .int v3)] := hl
  unfold f_Web_moveWay at h
  refine lv_aload_n hx hb d_Web_moveWay_0 rfl (lv_at hl 0 rfl) ?_
  refine lv_iload_n hx hb d_Web_moveWay_1 rfl (lv_at hl 1 rfl) ?_
  refine lv_iload_n hx hb d_Web_moveWay_2 rfl (lv_at hl 2 rfl) ?_
  obtain ⟨r1, hr1, h⟩ := bd h
  refine ro_call (v := .int r1) (va_runV (C := "BlockRuler$Web") (As := [.int v1, .int v2]) (rest := []) ⟨hx, hb, hml, hown, hg⟩ (c_Web_endOf l dC dI a cs σ v1 v2 _ hr1) (cwV 2 hg (gdV wd14 wd13 wd12 wd7 wd15) rfl rfl rfl (by decide +kernel) ⟨Nat.le_of_ble_eq_true rfl, Nat.le_of_ble_eq_true rfl⟩) ⟨wb_blind, va_recv hK hP (ci := 1) (q0 := 1) rfl rfl, fun U hU hW => ⟨rfl, wb_pre hU hW hP hK hN⟩⟩ rfl rfl hl.1 rfl (lv_room (Nat.le_of_ble_eq_true rfl)) d_Web_moveWay_3 ⟨Nat.zero_le _, Nat.zero_le _⟩) ?_
  refine lv_istore (lv' := [(4, .int r1), (0, .ref (a 1)), (1, .int v1), (2, .int v2), (3, .int v3)]) hx hb d_Web_moveWay_6 hl (by decide) rfl (fun ls hl => ?_)
  refine lv_aload_n hx hb d_Web_moveWay_8 rfl (lv_at hl 1 rfl) ?_
  refine va_get (D := (dC, dI)) (ci := 1) (v := .ref (a 6)) (C := "BlockRuler$Web") (T := F_Web) (N := 4) hx hb hg i_Web hown hK hP 1 rfl rfl 1 (by decide) (hg _ wd10) (fun _ h9 => h9) rfl d_Web_moveWay_9 ?_
  refine lv_iload_n hx hb d_Web_moveWay_12 rfl (lv_at hl 2 rfl) ?_
  refine lv_bipush (v := 8) hx hb d_Web_moveWay_13 (by decide) ?_
  refine lv_imul hx hb d_Web_moveWay_15 ?_
  refine lv_iload_n hx hb d_Web_moveWay_16 rfl (lv_at hl 3 rfl) ?_
  refine lv_iadd hx hb d_Web_moveWay_17 ?_
  refine lv_iload_n hx hb d_Web_moveWay_18 rfl (lv_at hl 4 rfl) ?_
  obtain ⟨hi2, h⟩ := gd h
  refine va_iast (f := sB_ends σ) (n := 512) hx hb hK hP hD hS 6 1 rfl rfl hi2 d_Web_moveWay_19 (fun H locs hP hD hS => ?_)
  have hP := va_Pe (setB_ends a cs σ (upd (sB_ends σ) (Int32.toNatClampNeg ((v1 * 8) + v2)) v3)) hP
  have hD := va_De (setB_ends a cs σ (upd (sB_ends σ) (Int32.toNatClampNeg ((v1 * 8) + v2)) v3)) hD
  refine lv_iload hx hb d_Web_moveWay_20 (lv_at hl 0 rfl) ?_
  exact W.iret (v := r1) hx hb hr (fun t ht hW => ⟨⟨r1, uB_ends σ (upd (sB_ends σ) (Int32.toNatClampNeg ((v1 * 8) + v2)) v3), rfl, Option.some.inj h, by rw [ht]; exact hP, hD⟩, hS.F ht⟩) hS.2.2 d_Web_moveWay_22
end
section
-- written by wip/gen (blockruler.py)
set_option maxHeartbeats 4000000 in
set_option maxRecDepth 100000 in
theorem c_BlockRuler_only (l : Launch) (v0 : Int32) (r : Int64) (h : f_BlockRuler_only v0 = r) : Met l y_BlockRuler_only w_BlockRuler_only rm_BlockRuler_only (va_Pc [.int v0] (fun _ => True)) (QcV (.long r)) 0 0 (fun _ => False) := by
  refine Met.ofW (cc := b_BlockRuler_only) (maxL := 1) (ret := (some .long)) (by decide) rfl ?_
  intro p e s m args below meth c s₁ B hml hv
  obtain ⟨rfl, -⟩ := hv
  have hx := B.exec
  have hb := B.bytes
  have hr := B.returns
  have hg : ∀ w ∈ G_, w.before _ s = true := fun w hw => atoms_spec (ws := w_BlockRuler_only) B.pre w (List.mem_cons_of_mem _ hw)
  have hown : s.vm.findClass "BlockRuler" = some m.cls := findClass_of_methodNamed B.named
  have hlocks := B.notSynchronized
  have C0 : Cx "BlockRuler" b_BlockRuler_only 1 p s m _ meth c := ⟨hx, hb, hml, hown, hg, hlocks⟩
  have hl := lv_entry ([.int v0]) (n := 1) (Nat.le_of_ble_eq_true rfl)
  rw [lg_entry_eq]
  generalize (lg_sl ([.int v0]) ++ List.replicate (1 - (lg_sl ([.int v0])).length) Slot.unset).toArray = ls at hl ⊢
  have hl : lv_has ls 1 [(0, .int v0)] := hl
  unfold f_BlockRuler_only at h
  refine lv_lconst (v := 1) hx hb d_BlockRuler_only_0 (by decide) ?_
  refine lv_iload_n hx hb d_BlockRuler_only_1 rfl (lv_at hl 0 rfl) ?_
  refine lv_lshl (v := jshl 1 v0) hx hb d_BlockRuler_only_2 rfl ?_
  exact W.lret (v := jshl 1 v0) hx hb hr (fun t ht _ => ⟨by rw [h], ht⟩) (fun q hq => by cases hq) d_BlockRuler_only_3
set_option maxHeartbeats 4000000 in
set_option maxRecDepth 100000 in
theorem c_BlockRuler_holds (l : Launch) (v0 : Int64) (v2 : Int32) (r : Int32) (h : f_BlockRuler_holds v0 v2 = r) : Met l y_BlockRuler_holds w_BlockRuler_holds rm_BlockRuler_holds (va_Pc [.long v0, .int v2] (fun _ => True)) (QcV (.int r)) 0 0 (fun _ => False) := by
  refine Met.ofW (cc := b_BlockRuler_holds) (maxL := 3) (ret := (some .boolean)) (by decide) rfl ?_
  intro p e s m args below meth c s₁ B hml hv
  obtain ⟨rfl, -⟩ := hv
  have hx := B.exec
  have hb := B.bytes
  have hr := B.returns
  have hg : ∀ w ∈ G_, w.before _ s = true := fun w hw => atoms_spec (ws := w_BlockRuler_holds) B.pre w (List.mem_cons_of_mem _ hw)
  have hown : s.vm.findClass "BlockRuler" = some m.cls := findClass_of_methodNamed B.named
  have hlocks := B.notSynchronized
  have C0 : Cx "BlockRuler" b_BlockRuler_holds 3 p s m _ meth c := ⟨hx, hb, hml, hown, hg, hlocks⟩
  have hl := lv_entry ([.long v0, .int v2]) (n := 3) (Nat.le_of_ble_eq_true rfl)
  rw [lg_entry_eq]
  generalize (lg_sl ([.long v0, .int v2]) ++ List.replicate (3 - (lg_sl ([.long v0, .int v2])).length) Slot.unset).toArray = ls at hl ⊢
  have hl : lv_has ls 3 [(0, .long v0), (2, .int v2)] := hl
  unfold f_BlockRuler_holds at h
  refine lv_lload_n hx hb d_BlockRuler_holds_0 rfl (lv_at hl 0 rfl) ?_
  refine lv_iload_n hx hb d_BlockRuler_holds_1 rfl (lv_at hl 1 rfl) ?_
  refine lv_lushr (v := jushr v0 v2) hx hb d_BlockRuler_holds_2 rfl ?_
  refine lv_lconst (v := 1) hx hb d_BlockRuler_holds_3 (by decide) ?_
  refine lv_land hx hb d_BlockRuler_holds_4 ?_
  refine lv_lconst (v := 0) hx hb d_BlockRuler_holds_5 (by decide) ?_
  refine W.lcmp hx hb d_BlockRuler_holds_6 ?_
  refine lv_if_eq (tgt := 14) hx hb d_BlockRuler_holds_7 (by decide) (fun c1 => ?_) (fun c1 => ?_)
  · have h := b_t h c1
    refine lv_iconst (v := 0) hx hb d_BlockRuler_holds_14 (by decide) ?_
    exact W.zret (v := 0) (ty := .boolean) hx hb hr rfl (fun t ht _ => ⟨by rw [h], ht⟩) (fun q hq => by cases hq) d_BlockRuler_holds_15
  · have h := b_f h c1
    refine lv_iconst (v := 1) hx hb d_BlockRuler_holds_10 (by decide) ?_
    refine lv_goto (tgt := 15) hx hb d_BlockRuler_holds_11 (by decide) ?_
    exact W.zret (v := 1) (ty := .boolean) hx hb hr rfl (fun t ht _ => ⟨by rw [h], ht⟩) (fun q hq => by cases hq) d_BlockRuler_holds_15
set_option maxHeartbeats 4000000 in
set_option maxRecDepth 100000 in
theorem c_BlockRuler_least (l : Launch) (v0 : Int64) (r : Int32) (h : f_BlockRuler_least v0 = r) : Met l y_BlockRuler_least w_BlockRuler_least rm_BlockRuler_least (va_Pc [.long v0] (fun _ => True)) (QcV (.int r)) 0 0 (fun _ => False) := by
  refine Met.ofW (cc := b_BlockRuler_least) (maxL := 2) (ret := (some .int)) (by decide) rfl ?_
  intro p e s m args below meth c s₁ B hml hv
  obtain ⟨rfl, -⟩ := hv
  have hx := B.exec
  have hb := B.bytes
  have hr := B.returns
  have hg : ∀ w ∈ G_, w.before _ s = true := fun w hw => atoms_spec (ws := w_BlockRuler_least) B.pre w (List.mem_cons_of_mem _ hw)
  have hown : s.vm.findClass "BlockRuler" = some m.cls := findClass_of_methodNamed B.named
  have hlocks := B.notSynchronized
  have C0 : Cx "BlockRuler" b_BlockRuler_least 2 p s m _ meth c := ⟨hx, hb, hml, hown, hg, hlocks⟩
  have hl := lv_entry ([.long v0]) (n := 2) (Nat.le_of_ble_eq_true rfl)
  rw [lg_entry_eq]
  generalize (lg_sl ([.long v0]) ++ List.replicate (2 - (lg_sl ([.long v0])).length) Slot.unset).toArray = ls at hl ⊢
  have hl : lv_has ls 2 [(0, .long v0)] := hl
  unfold f_BlockRuler_least at h
  refine lv_lload_n hx hb d_BlockRuler_least_0 rfl (lv_at hl 0 rfl) ?_
  refine lv_lload_n hx hb d_BlockRuler_least_1 rfl (lv_at hl 0 rfl) ?_
  refine lv_lneg hx hb d_BlockRuler_least_2 ?_
  refine lv_land hx hb d_BlockRuler_least_3 ?_
  refine lv_lconst (v := 1) hx hb d_BlockRuler_least_4 (by decide) ?_
  refine lv_lsub hx hb d_BlockRuler_least_5 ?_
  refine ro_call (v := .int (f_Long_bitCount ((v0 &&& (-v0)) - 1))) (va_runS (As := [.long ((v0 &&& (-v0)) - 1)]) (rest := []) ⟨hx, hb, hml, hown, hg⟩ (c_Long_bitCount l ((v0 &&& (-v0)) - 1) _ rfl) (va_cwS 1 hg (gdSX wd16 wd17 wd18 wd19) rfl rfl rfl (by decide +kernel) ⟨Nat.le_of_ble_eq_true rfl, Nat.le_of_ble_eq_true rfl⟩) ⟨va_blind0, fun U hU hW => ⟨rfl, trivial⟩⟩ rfl rfl hl.1 rfl (lv_room (Nat.le_of_ble_eq_true rfl)) d_BlockRuler_least_6 ⟨Nat.zero_le _, Nat.zero_le _⟩) ?_
  exact W.iret (v := f_Long_bitCount ((v0 &&& (-v0)) - 1)) hx hb hr (fun t ht _ => ⟨by rw [h], ht⟩) (fun q hq => by cases hq) d_BlockRuler_least_9
set_option maxHeartbeats 4000000 in
set_option maxRecDepth 100000 in
theorem c_BlockRuler_withoutLeast (l : Launch) (v0 : Int64) (r : Int64) (h : f_BlockRuler_withoutLeast v0 = r) : Met l y_BlockRuler_withoutLeast w_BlockRuler_withoutLeast rm_BlockRuler_withoutLeast (va_Pc [.long v0] (fun _ => True)) (QcV (.long r)) 0 0 (fun _ => False) := by
  refine Met.ofW (cc := b_BlockRuler_withoutLeast) (maxL := 2) (ret := (some .long)) (by decide) rfl ?_
  intro p e s m args below meth c s₁ B hml hv
  obtain ⟨rfl, -⟩ := hv
  have hx := B.exec
  have hb := B.bytes
  have hr := B.returns
  have hg : ∀ w ∈ G_, w.before _ s = true := fun w hw => atoms_spec (ws := w_BlockRuler_withoutLeast) B.pre w (List.mem_cons_of_mem _ hw)
  have hown : s.vm.findClass "BlockRuler" = some m.cls := findClass_of_methodNamed B.named
  have hlocks := B.notSynchronized
  have C0 : Cx "BlockRuler" b_BlockRuler_withoutLeast 2 p s m _ meth c := ⟨hx, hb, hml, hown, hg, hlocks⟩
  have hl := lv_entry ([.long v0]) (n := 2) (Nat.le_of_ble_eq_true rfl)
  rw [lg_entry_eq]
  generalize (lg_sl ([.long v0]) ++ List.replicate (2 - (lg_sl ([.long v0])).length) Slot.unset).toArray = ls at hl ⊢
  have hl : lv_has ls 2 [(0, .long v0)] := hl
  unfold f_BlockRuler_withoutLeast at h
  refine lv_lload_n hx hb d_BlockRuler_withoutLeast_0 rfl (lv_at hl 0 rfl) ?_
  refine lv_lload_n hx hb d_BlockRuler_withoutLeast_1 rfl (lv_at hl 0 rfl) ?_
  refine lv_lconst (v := 1) hx hb d_BlockRuler_withoutLeast_2 (by decide) ?_
  refine lv_lsub hx hb d_BlockRuler_withoutLeast_3 ?_
  refine lv_land hx hb d_BlockRuler_withoutLeast_4 ?_
  exact W.lret (v := v0 &&& (v0 - 1)) hx hb hr (fun t ht _ => ⟨by rw [h], ht⟩) (fun q hq => by cases hq) d_BlockRuler_withoutLeast_5
set_option maxHeartbeats 4000000 in
set_option maxRecDepth 100000 in
theorem lpW_BlockRuler_nth_19 {p : Program} {l : Launch} {e : Env} {s : State} {m : MethodId} {args : Array Value} {below : List Frame} {meth : Method} {c : Code} {Q : State → Prop} {H : Heap} {locs : List Loc} (C0 : Cx "BlockRuler" b_BlockRuler_nth 6 p s m args meth c) : ∀ (n : Nat) (v2 : Int32) (v3 : Int64) (v5 : Int32) (y : Int64 × Int32), lp_BlockRuler_nth_19 n v2 v3 v5 = some y → ∀ (ls : Array Slot), lv_has ls 6 [(2, .int v2), (3, .long v3), (5, .int v5)] → (∀ (ls : Array Slot), lv_has ls 6 [(2, .int v2), (3, .long y.1), (5, .int y.2)] → W p l e (headSpec w_BlockRuler_nth rm_BlockRuler_nth).room s m args below meth c H locs 0 0 Q (F0 m 36 ls [])) → W p l e (headSpec w_BlockRuler_nth rm_BlockRuler_nth).room s m args below meth c H locs 0 0 Q (F0 m 19 ls []) := by
  have C1 := C0
  obtain ⟨hx, hb, hml, hown, hg, hlocks⟩ := C1
  intro n
  induction n with
  | zero => intro v2 v3 v5 y h; exact absurd (show (none : Option (Int64 × Int32)) = some y from h) (fun q => by cases q)
  | succ n ih =>
    intro v2 v3 v5 y h ls hl k0
    rw [lp_BlockRuler_nth_19_s] at h
    refine lv_iload hx hb d_BlockRuler_nth_19 (lv_at hl 2 rfl) ?_
    refine lv_iload_n hx hb d_BlockRuler_nth_21 rfl (lv_at hl 0 rfl) ?_
    refine lv_icmp_ge (tgt := 36) hx hb d_BlockRuler_nth_22 (by decide) (fun c3 => ?_) (fun c3 => ?_)
    · have h := b_t h c3
      obtain rfl := Option.some.inj h
      exact k0 ls (lv_sub hl [0, 1, 2] rfl)
    · have h := b_f h c3
      refine lv_lload_n hx hb d_BlockRuler_nth_25 rfl (lv_at hl 1 rfl) ?_
      refine ro_call (v := .long (f_BlockRuler_withoutLeast v3)) (va_runS (As := [.long v3]) (rest := []) ⟨hx, hb, hml, hown, hg⟩ (c_BlockRuler_withoutLeast l v3 _ rfl) (cwS 1 hg (gdS wd20 wd21 wd22 wd23) rfl rfl rfl (by decide +kernel) ⟨Nat.le_of_ble_eq_true rfl, Nat.le_of_ble_eq_true rfl⟩) ⟨va_blind0, fun U hU hW => ⟨rfl, trivial⟩⟩ rfl rfl hl.1 rfl (lv_room (Nat.le_of_ble_eq_true rfl)) d_BlockRuler_nth_26 ⟨Nat.zero_le _, Nat.zero_le _⟩) ?_
      refine lv_topl (fun x4 ex4 => ?_)
      have h := lt_ h x4 ex4
      refine lv_lstore_n (lv' := [(3, .long x4), (2, .int v2), (5, .int v5)]) hx hb d_BlockRuler_nth_29 rfl hl (by decide) rfl (fun ls hl => ?_)
      refine lv_iinc (v := v5 + 1) (lv' := [(5, .int (v5 + 1)), (3, .long x4), (2, .int v2)]) hx hb d_BlockRuler_nth_30 hl (k := 2) rfl rfl (by decide) rfl (fun ls hl => ?_)
      refine lv_goto (tgt := 19) hx hb d_BlockRuler_nth_33 (by decide) ?_
      exact ih v2 x4 (v5 + 1) y h ls (lv_sub hl [2, 1, 0] rfl) k0
set_option maxHeartbeats 4000000 in
set_option maxRecDepth 100000 in
theorem c_BlockRuler_nth (l : Launch) (v0 : Int64) (v2 : Int32) (r : Int32) (h : f_BlockRuler_nth v0 v2 = some r) : Met l y_BlockRuler_nth w_BlockRuler_nth rm_BlockRuler_nth (va_Pc [.long v0, .int v2] (fun _ => True)) (QcV (.int r)) 0 0 (fun _ => False) := by
  refine Met.ofW (cc := b_BlockRuler_nth) (maxL := 6) (ret := (some .int)) (by decide) rfl ?_
  intro p e s m args below meth c s₁ B hml hv
  obtain ⟨rfl, -⟩ := hv
  have hx := B.exec
  have hb := B.bytes
  have hr := B.returns
  have hg : ∀ w ∈ G_, w.before _ s = true := fun w hw => atoms_spec (ws := w_BlockRuler_nth) B.pre w (List.mem_cons_of_mem _ hw)
  have hown : s.vm.findClass "BlockRuler" = some m.cls := findClass_of_methodNamed B.named
  have hlocks := B.notSynchronized
  have C0 : Cx "BlockRuler" b_BlockRuler_nth 6 p s m _ meth c := ⟨hx, hb, hml, hown, hg, hlocks⟩
  have hl := lv_entry ([.long v0, .int v2]) (n := 6) (Nat.le_of_ble_eq_true rfl)
  rw [lg_entry_eq]
  generalize (lg_sl ([.long v0, .int v2]) ++ List.replicate (6 - (lg_sl ([.long v0, .int v2])).length) Slot.unset).toArray = ls at hl ⊢
  have hl : lv_has ls 6 [(0, .long v0), (2, .int v2)] := hl
  unfold f_BlockRuler_nth at h
  refine lv_iload_n hx hb d_BlockRuler_nth_0 rfl (lv_at hl 1 rfl) ?_
  refine lv_if_lt (tgt := 12) hx hb d_BlockRuler_nth_1 (by decide) (fun c1 => ?_) (fun c1 => ?_)
  · have h := b_t h c1
    refine lv_iconst (v := -1) hx hb d_BlockRuler_nth_12 (by decide) ?_
    exact W.iret (v := -1) hx hb hr (fun t ht _ => ⟨by rw [Option.some.inj h], ht⟩) (fun q hq => by cases hq) d_BlockRuler_nth_13
  · have h := b_f h c1
    refine lv_iload_n hx hb d_BlockRuler_nth_4 rfl (lv_at hl 1 rfl) ?_
    refine lv_lload_n hx hb d_BlockRuler_nth_5 rfl (lv_at hl 0 rfl) ?_
    refine ro_call (v := .int (f_Long_bitCount v0)) (va_runS (As := [.long v0]) (rest := [.int v2]) ⟨hx, hb, hml, hown, hg⟩ (c_Long_bitCount l v0 _ rfl) (va_cwS 1 hg (gdSX wd16 wd17 wd18 wd19) rfl rfl rfl (by decide +kernel) ⟨Nat.le_of_ble_eq_true rfl, Nat.le_of_ble_eq_true rfl⟩) ⟨va_blind0, fun U hU hW => ⟨rfl, trivial⟩⟩ rfl rfl hl.1 rfl (lv_room (Nat.le_of_ble_eq_true rfl)) d_BlockRuler_nth_6 ⟨Nat.zero_le _, Nat.zero_le _⟩) ?_
    refine lv_icmp_lt (tgt := 14) hx hb d_BlockRuler_nth_9 (by decide) (fun c2 => ?_) (fun c2 => ?_)
    · have h := b_t h c2
      refine lv_lload_n hx hb d_BlockRuler_nth_14 rfl (lv_at hl 0 rfl) ?_
      refine lv_lstore_n (lv' := [(3, .long v0), (0, .long v0), (2, .int v2)]) hx hb d_BlockRuler_nth_15 rfl hl (by decide) rfl (fun ls hl => ?_)
      refine lv_iconst (v := 0) hx hb d_BlockRuler_nth_16 (by decide) ?_
      refine lv_istore (lv' := [(5, .int 0), (3, .long v0), (0, .long v0), (2, .int v2)]) hx hb d_BlockRuler_nth_17 hl (by decide) rfl (fun ls hl => ?_)
      obtain ⟨y5, hy5, h⟩ := bd h
      refine lpW_BlockRuler_nth_19 C0 100 v2 v0 0 y5 hy5 ls (lv_sub hl [3, 1, 0] rfl) (fun ls hl => ?_)
      refine lv_lload_n hx hb d_BlockRuler_nth_36 rfl (lv_at hl 1 rfl) ?_
      refine ro_call (v := .int (f_BlockRuler_least y5.1)) (va_runS (As := [.long y5.1]) (rest := []) ⟨hx, hb, hml, hown, hg⟩ (c_BlockRuler_least l y5.1 _ rfl) (cwS 1 hg (gdS wd24 wd25 wd22 wd26) rfl rfl rfl (by decide +kernel) ⟨Nat.le_of_ble_eq_true rfl, Nat.le_of_ble_eq_true rfl⟩) ⟨va_blind0, fun U hU hW => ⟨rfl, trivial⟩⟩ rfl rfl hl.1 rfl (lv_room (Nat.le_of_ble_eq_true rfl)) d_BlockRuler_nth_37 ⟨Nat.zero_le _, Nat.zero_le _⟩) ?_
      exact W.iret (v := f_BlockRuler_least y5.1) hx hb hr (fun t ht _ => ⟨by rw [Option.some.inj h], ht⟩) (fun q hq => by cases hq) d_BlockRuler_nth_40
    · have h := b_f h c2
      refine lv_iconst (v := -1) hx hb d_BlockRuler_nth_12 (by decide) ?_
      exact W.iret (v := -1) hx hb hr (fun t ht _ => ⟨by rw [Option.some.inj h], ht⟩) (fun q hq => by cases hq) d_BlockRuler_nth_13
set_option maxHeartbeats 4000000 in
set_option maxRecDepth 100000 in
theorem c_Walk_blockAt (l : Launch) (dC : Nat → ClassId) (dI : Nat → Nat → Nat) (a : Nat → Nat) (cs : Nat → ClassId) (σ : SB) (v1 : Int32) (r : Int32) (h : f_Walk_blockAt σ v1 = some r) : Met l y_Walk_blockAt w_Walk_blockAt rm_Walk_blockAt (va_Pc [.ref (a 2), .int v1] (WBB dC dI a cs σ)) (QcV (.int r)) 0 0 (fun _ => False) := by
  refine Met.ofW (cc := b_Walk_blockAt) (maxL := 2) (ret := (some .int)) (by decide) rfl ?_
  intro p e s m args below meth c s₁ B hml hv
  obtain ⟨rfl, hP, hK, hN⟩ := hv
  have hx := B.exec
  have hb := B.bytes
  have hr := B.returns
  have hg : ∀ w ∈ G_, w.before _ s = true := fun w hw => atoms_spec (ws := w_Walk_blockAt) B.pre w (List.mem_cons_of_mem _ hw)
  have hown : s.vm.findClass "BlockRuler$Walk" = some m.cls := findClass_of_methodNamed B.named
  have hlocks := B.notSynchronized
  have C0 : Cx "BlockRuler$Walk" b_Walk_blockAt 2 p s m _ meth c := ⟨hx, hb, hml, hown, hg, hlocks⟩
  have hl := lv_entry ([.ref (a 2), .int v1]) (n := 2) (Nat.le_of_ble_eq_true rfl)
  rw [lg_entry_eq]
  generalize (lg_sl ([.ref (a 2), .int v1]) ++ List.replicate (2 - (lg_sl ([.ref (a 2), .int v1])).length) Slot.unset).toArray = ls at hl ⊢
  have hl : lv_has ls 2 [(0, .ref (a 2)), (1, .int v1)] := hl
  unfold f_Walk_blockAt at h
  refine lv_aload_n hx hb d_Walk_blockAt_0 rfl (lv_at hl 0 rfl) ?_
  refine va_get (D := (dC, dI)) (ci := 2) (v := .ref (a 8)) (C := "BlockRuler$Walk") (T := F_Walk) (N := 9) hx hb hg i_Walk hown hK hP 2 rfl rfl 2 (by decide) (hg _ wd27) (fun _ h9 => h9) rfl d_Walk_blockAt_1 ?_
  refine lv_aload_n hx hb d_Walk_blockAt_4 rfl (lv_at hl 0 rfl) ?_
  refine va_get (D := (dC, dI)) (ci := 2) (v := .int (sB_reached σ)) (C := "BlockRuler$Walk") (T := F_Walk) (N := 9) hx hb hg i_Walk hown hK hP 2 rfl rfl 7 (by decide) (hg _ wd28) (fun _ h9 => h9) rfl d_Walk_blockAt_5 ?_
  refine lv_iconst (v := 1) hx hb d_Walk_blockAt_8 (by decide) ?_
  refine lv_isub hx hb d_Walk_blockAt_9 ?_
  refine lv_iload_n hx hb d_Walk_blockAt_10 rfl (lv_at hl 1 rfl) ?_
  refine lv_isub hx hb d_Walk_blockAt_11 ?_
  obtain ⟨hi1, h⟩ := gd h
  refine va_iald (f := sB_left σ) (n := 64) hx hb hK hP 8 3 rfl rfl hi1 d_Walk_blockAt_12 ?_
  exact W.iret (v := sB_left σ (Int32.toNatClampNeg (((sB_reached σ) - 1) - v1))) hx hb hr (fun t ht _ => ⟨by rw [Option.some.inj h], ht⟩) (fun q hq => by cases hq) d_Walk_blockAt_13
set_option maxHeartbeats 4000000 in
set_option maxRecDepth 100000 in
theorem lpW_Walk_lastOf_2 {p : Program} {l : Launch} {e : Env} {s : State} {m : MethodId} {args : Array Value} {below : List Frame} {meth : Method} {c : Code} {Q : State → Prop} {dC : Nat → ClassId} {dI : Nat → Nat → Nat} {a : Nat → Nat} {cs : Nat → ClassId} {H : Heap} {locs : List Loc} (C0 : Cx "BlockRuler$Walk" b_Walk_lastOf 4 p s m args meth c) (hK : va_K (dC, dI) classes (tyB cs) s) (hN : NW s) : ∀ (n : Nat) (σ : SB) (v1 : Int64) (v3 : Int32) (y : Sum (Int32) (Int32)), lp_Walk_lastOf_2 n σ v1 v3 = some y → va_P (dC, dI) classes (wsB a cs σ) H → ∀ (ls : Array Slot), lv_has ls 4 [(0, .ref (a 2)), (1, .long v1), (3, .int v3)] → (∀ (z : Int32), y = Sum.inl z → ∀ (ls : Array Slot), lv_has ls 4 [(0, .ref (a 2)), (1, .long v1), (3, .int z)] → W p l e (headSpec w_Walk_lastOf rm_Walk_lastOf).room s m args below meth c H locs 0 0 Q (F0 m 36 ls [])) → (∀ (z : Int32), y = Sum.inr z → ∀ (ls : Array Slot), lv_has ls 4 [(0, .ref (a 2)), (1, .long v1), (3, .int z)] → W p l e (headSpec w_Walk_lastOf rm_Walk_lastOf).room s m args below meth c H locs 0 0 Q (F0 m 23 ls [])) → W p l e (headSpec w_Walk_lastOf rm_Walk_lastOf).room s m args below meth c H locs 0 0 Q (F0 m 2 ls []) := by
  have C1 := C0
  obtain ⟨hx, hb, hml, hown, hg, hlocks⟩ := C1
  intro n
  induction n with
  | zero => intro σ v1 v3 y h; exact absurd (show (none : Option (Sum (Int32) (Int32))) = some y from h) (fun q => by cases q)
  | succ n ih =>
    intro σ v1 v3 y h hP ls hl k0 k1
    rw [lp_Walk_lastOf_2_s] at h
    refine lv_iload_n hx hb d_Walk_lastOf_2 rfl (lv_at hl 2 rfl) ?_
    refine lv_aload_n hx hb d_Walk_lastOf_3 rfl (lv_at hl 0 rfl) ?_
    refine va_get (D := (dC, dI)) (ci := 2) (v := .int (sB_reached σ)) (C := "BlockRuler$Walk") (T := F_Walk) (N := 9) hx hb hg i_Walk hown hK hP 2 rfl rfl 7 (by decide) (hg _ wd28) (fun _ h9 => h9) rfl d_Walk_lastOf_4 ?_
    refine lv_icmp_ge (tgt := 36) hx hb d_Walk_lastOf_7 (by decide) (fun c1 => ?_) (fun c1 => ?_)
    · have h := b_t h c1
      obtain rfl := Option.some.inj h
      exact k0 v3 rfl ls (lv_sub hl [0, 1, 2] rfl)
    · have h := b_f h c1
      refine lv_lload_n hx hb d_Walk_lastOf_10 rfl (lv_at hl 1 rfl) ?_
      refine lv_aload_n hx hb d_Walk_lastOf_11 rfl (lv_at hl 0 rfl) ?_
      refine va_get (D := (dC, dI)) (ci := 2) (v := .ref (a 8)) (C := "BlockRuler$Walk") (T := F_Walk) (N := 9) hx hb hg i_Walk hown hK hP 2 rfl rfl 2 (by decide) (hg _ wd27) (fun _ h9 => h9) rfl d_Walk_lastOf_12 ?_
      refine lv_iload_n hx hb d_Walk_lastOf_15 rfl (lv_at hl 2 rfl) ?_
      obtain ⟨hi2, h⟩ := gd h
      refine va_iald (f := sB_left σ) (n := 64) hx hb hK hP 8 3 rfl rfl hi2 d_Walk_lastOf_16 ?_
      refine ro_call (v := .int (f_BlockRuler_holds v1 (sB_left σ (Int32.toNatClampNeg v3)))) (va_runSN (As := [.long v1, .int (sB_left σ (Int32.toNatClampNeg v3))]) (rest := []) ⟨hx, hb, hml, hown, hg⟩ (c_BlockRuler_holds l v1 (sB_left σ (Int32.toNatClampNeg v3)) _ rfl) ⟨va_cnB 2 hg (gdC wd29) rfl rfl rfl (hN _ nw0) (hg _ wd22) (by decide +kernel) ⟨Nat.le_of_ble_eq_true rfl, Nat.le_of_ble_eq_true rfl⟩, hg _ wd30, trivial⟩ ⟨va_blind0, fun U hU hW => ⟨rfl, trivial⟩⟩ rfl rfl hl.1 rfl (lv_room (Nat.le_of_ble_eq_true rfl)) d_Walk_lastOf_17 ⟨Nat.zero_le _, Nat.zero_le _⟩) ?_
      refine lv_if_eq (tgt := 30) hx hb d_Walk_lastOf_20 (by decide) (fun c3 => ?_) (fun c3 => ?_)
      · have h := b_t h c3
        refine lv_iinc (v := v3 + 1) (lv' := [(3, .int (v3 + 1)), (0, .ref (a 2)), (1, .long v1)]) hx hb d_Walk_lastOf_30 hl (k := 2) rfl rfl (by decide) rfl (fun ls hl => ?_)
        refine lv_goto (tgt := 2) hx hb d_Walk_lastOf_33 (by decide) ?_
        exact ih σ v1 (v3 + 1) y h hP ls (lv_sub hl [1, 2, 0] rfl) k0 k1
      · have h := b_f h c3
        obtain rfl := Option.some.inj h
        exact k1 v3 rfl ls (lv_sub hl [0, 1, 2] rfl)
set_option maxHeartbeats 4000000 in
set_option maxRecDepth 100000 in
theorem c_Walk_lastOf (l : Launch) (dC : Nat → ClassId) (dI : Nat → Nat → Nat) (a : Nat → Nat) (cs : Nat → ClassId) (σ : SB) (v1 : Int64) (r : Int32) (h : f_Walk_lastOf σ v1 = some r) : Met l y_Walk_lastOf w_Walk_lastOf rm_Walk_lastOf (va_Pc [.ref (a 2), .long v1] (WBB dC dI a cs σ)) (QcV (.int r)) 0 0 (fun _ => False) := by
  refine Met.ofW (cc := b_Walk_lastOf) (maxL := 4) (ret := (some .int)) (by decide) rfl ?_
  intro p e s m args below meth c s₁ B hml hv
  obtain ⟨rfl, hP, hK, hN⟩ := hv
  have hx := B.exec
  have hb := B.bytes
  have hr := B.returns
  have hg : ∀ w ∈ G_, w.before _ s = true := fun w hw => atoms_spec (ws := w_Walk_lastOf) B.pre w (List.mem_cons_of_mem _ hw)
  have hown : s.vm.findClass "BlockRuler$Walk" = some m.cls := findClass_of_methodNamed B.named
  have hlocks := B.notSynchronized
  have C0 : Cx "BlockRuler$Walk" b_Walk_lastOf 4 p s m _ meth c := ⟨hx, hb, hml, hown, hg, hlocks⟩
  have hl := lv_entry ([.ref (a 2), .long v1]) (n := 4) (Nat.le_of_ble_eq_true rfl)
  rw [lg_entry_eq]
  generalize (lg_sl ([.ref (a 2), .long v1]) ++ List.replicate (4 - (lg_sl ([.ref (a 2), .long v1])).length) Slot.unset).toArray = ls at hl ⊢
  have hl : lv_has ls 4 [(0, .ref (a 2)), (1, .long v1)] := hl
  unfold f_Walk_lastOf at h
  refine lv_iconst (v := 0) hx hb d_Walk_lastOf_0 (by decide) ?_
  refine lv_istore_n (lv' := [(3, .int 0), (0, .ref (a 2)), (1, .long v1)]) hx hb d_Walk_lastOf_1 rfl hl (by decide) rfl (fun ls hl => ?_)
  obtain ⟨y4, hy4, h⟩ := bd h
  refine lpW_Walk_lastOf_2 C0 hK hN 100 σ v1 0 y4 hy4 hP ls (lv_sub hl [1, 2, 0] rfl) (fun z5 ez5 ls hl => ?_) (fun z6 ez6 ls hl => ?_)
  · subst ez5
    have h := s_l h
    refine lv_iconst (v := -1) hx hb d_Walk_lastOf_36 (by decide) ?_
    exact W.iret (v := -1) hx hb hr (fun t ht _ => ⟨by rw [Option.some.inj h], ht⟩) (fun q hq => by cases hq) d_Walk_lastOf_37
  · subst ez6
    have h := s_r h
    refine lv_aload_n hx hb d_Walk_lastOf_23 rfl (lv_at hl 0 rfl) ?_
    refine va_get (D := (dC, dI)) (ci := 2) (v := .ref (a 8)) (C := "BlockRuler$Walk") (T := F_Walk) (N := 9) hx hb hg i_Walk hown hK hP 2 rfl rfl 2 (by decide) (hg _ wd27) (fun _ h9 => h9) rfl d_Walk_lastOf_24 ?_
    refine lv_iload_n hx hb d_Walk_lastOf_27 rfl (lv_at hl 2 rfl) ?_
    obtain ⟨hi7, h⟩ := gd h
    refine va_iald (f := sB_left σ) (n := 64) hx hb hK hP 8 3 rfl rfl hi7 d_Walk_lastOf_28 ?_
    exact W.iret (v := sB_left σ (Int32.toNatClampNeg z6)) hx hb hr (fun t ht _ => ⟨by rw [Option.some.inj h], ht⟩) (fun q hq => by cases hq) d_Walk_lastOf_29
set_option maxHeartbeats 4000000 in
set_option maxRecDepth 100000 in
theorem lpW_Walk_clear_7 {p : Program} {l : Launch} {e : Env} {s : State} {m : MethodId} {args : Array Value} {below : List Frame} {meth : Method} {c : Code} {Q : State → Prop} {dC : Nat → ClassId} {dI : Nat → Nat → Nat} {a : Nat → Nat} {cs : Nat → ClassId} {A : Nat → Prop} (C0 : Cx "BlockRuler$Walk" b_Walk_clear 2 p s m args meth c) (hK : va_K (dC, dI) classes (tyB cs) s) (hN : NW s) (hA : ∀ q : Nat, s.heap.size ≤ q → A q) : ∀ (n : Nat) (σ : SB) (v1 : Int32) (y : Int32 × SB), lp_Walk_clear_7 n σ v1 = some y → ∀ (H : Heap) (locs : List Loc) (ls : Array Slot), va_P (dC, dI) classes (wsB a cs σ) H → va_D A (wsB a cs σ) → va_S A s.heap H locs → lv_has ls 2 [(0, .ref (a 2)), (1, .int v1)] → (∀ (H : Heap) (locs : List Loc) (ls : Array Slot), va_P (dC, dI) classes (wsB a cs y.2) H → va_D A (wsB a cs y.2) → va_S A s.heap H locs → lv_has ls 2 [(0, .ref (a 2)), (1, .int y.1)] → W p l e (headSpec w_Walk_clear rm_Walk_clear).room s m args below meth c H locs 0 0 Q (F0 m 47 ls [])) → W p l e (headSpec w_Walk_clear rm_Walk_clear).room s m args below meth c H locs 0 0 Q (F0 m 7 ls []) := by
  have C1 := C0
  obtain ⟨hx, hb, hml, hown, hg, hlocks⟩ := C1
  intro n
  induction n with
  | zero => intro σ v1 y h; exact absurd (show (none : Option (Int32 × SB)) = some y from h) (fun q => by cases q)
  | succ n ih =>
    intro σ v1 y h H locs ls hP hD hS hl k0
    rw [lp_Walk_clear_7_s] at h
    refine lv_iload_n hx hb d_Walk_clear_7 rfl (lv_at hl 1 rfl) ?_
    refine lv_bipush (v := 64) hx hb d_Walk_clear_8 (by decide) ?_
    refine lv_icmp_ge (tgt := 47) hx hb d_Walk_clear_10 (by decide) (fun c1 => ?_) (fun c1 => ?_)
    · have h := b_t h c1
      obtain rfl := Option.some.inj h
      exact k0 _ _ ls hP hD hS (lv_sub hl [0, 1] rfl)
    · have h := b_f h c1
      refine lv_aload_n hx hb d_Walk_clear_13 rfl (lv_at hl 0 rfl) ?_
      refine va_get (D := (dC, dI)) (ci := 2) (v := .ref (a 7)) (C := "BlockRuler$Walk") (T := F_Walk) (N := 9) hx hb hg i_Walk hown hK hP 2 rfl rfl 1 (by decide) (hg _ wd31) (fun _ h9 => h9) rfl d_Walk_clear_14 ?_
      refine lv_iload_n hx hb d_Walk_clear_17 rfl (lv_at hl 1 rfl) ?_
      refine lv_iconst (v := -1) hx hb d_Walk_clear_18 (by decide) ?_
      obtain ⟨hi2, h⟩ := gd h
      refine va_iast (f := sB_orders σ) (n := 64) hx hb hK hP hD hS 7 2 rfl rfl hi2 d_Walk_clear_19 (fun H locs hP hD hS => ?_)
      have hP := va_Pe (setB_orders a cs σ (upd (sB_orders σ) (Int32.toNatClampNeg v1) (-1))) hP
      have hD := va_De (setB_orders a cs σ (upd (sB_orders σ) (Int32.toNatClampNeg v1) (-1))) hD
      refine lv_aload_n hx hb d_Walk_clear_20 rfl (lv_at hl 0 rfl) ?_
      refine va_get (D := (dC, dI)) (ci := 2) (v := .ref (a 10)) (C := "BlockRuler$Walk") (T := F_Walk) (N := 9) hx hb hg i_Walk hown hK hP 2 rfl rfl 4 (by decide) (hg _ wd32) (fun _ h9 => h9) rfl d_Walk_clear_21 ?_
      refine lv_iload_n hx hb d_Walk_clear_24 rfl (lv_at hl 1 rfl) ?_
      refine lv_iconst (v := 0) hx hb d_Walk_clear_25 (by decide) ?_
      refine va_iast (f := sB_taken σ) (n := 64) hx hb hK hP hD hS 10 5 (rdB_taken a cs (uB_orders σ (upd (sB_orders σ) (Int32.toNatClampNeg v1) (-1))) (gB_taken_orders _ _)) rfl hi2 d_Walk_clear_26 (fun H locs hP hD hS => ?_)
      have hP := va_Pe (setB_taken a cs (uB_orders σ (upd (sB_orders σ) (Int32.toNatClampNeg v1) (-1))) (upd (sB_taken σ) (Int32.toNatClampNeg v1) 0)) hP
      have hD := va_De (setB_taken a cs (uB_orders σ (upd (sB_orders σ) (Int32.toNatClampNeg v1) (-1))) (upd (sB_taken σ) (Int32.toNatClampNeg v1) 0)) hD
      refine lv_aload_n hx hb d_Walk_clear_27 rfl (lv_at hl 0 rfl) ?_
      refine va_get (D := (dC, dI)) (ci := 2) (v := .ref (a 11)) (C := "BlockRuler$Walk") (T := F_Walk) (N := 9) hx hb hg i_Walk hown hK hP 2 rfl rfl 5 (by decide) (hg _ wd33) (fun _ h9 => h9) rfl d_Walk_clear_28 ?_
      refine lv_iload_n hx hb d_Walk_clear_31 rfl (lv_at hl 1 rfl) ?_
      refine lv_lconst (v := 0) hx hb d_Walk_clear_32 (by decide) ?_
      refine va_last (f := sB_comers σ) (n := 64) hx hb hK hP hD hS 11 6 (rdB_comers a cs (uB_taken (uB_orders σ (upd (sB_orders σ) (Int32.toNatClampNeg v1) (-1))) (upd (sB_taken σ) (Int32.toNatClampNeg v1) 0)) ((gB_comers_taken _ _).trans (gB_comers_orders _ _))) rfl hi2 d_Walk_clear_33 (fun H locs hP hD hS => ?_)
      have hP := va_Pe (setB_comers a cs (uB_taken (uB_orders σ (upd (sB_orders σ) (Int32.toNatClampNeg v1) (-1))) (upd (sB_taken σ) (Int32.toNatClampNeg v1) 0)) (vp_updL (sB_comers σ) (Int32.toNatClampNeg v1) 0)) hP
      have hD := va_De (setB_comers a cs (uB_taken (uB_orders σ (upd (sB_orders σ) (Int32.toNatClampNeg v1) (-1))) (upd (sB_taken σ) (Int32.toNatClampNeg v1) 0)) (vp_updL (sB_comers σ) (Int32.toNatClampNeg v1) 0)) hD
      refine lv_aload_n hx hb d_Walk_clear_34 rfl (lv_at hl 0 rfl) ?_
      refine va_get (D := (dC, dI)) (ci := 2) (v := .ref (a 12)) (C := "BlockRuler$Walk") (T := F_Walk) (N := 9) hx hb hg i_Walk hown hK hP 2 rfl rfl 6 (by decide) (hg _ wd34) (fun _ h9 => h9) rfl d_Walk_clear_35 ?_
      refine lv_iload_n hx hb d_Walk_clear_38 rfl (lv_at hl 1 rfl) ?_
      refine lv_iconst (v := 0) hx hb d_Walk_clear_39 (by decide) ?_
      refine va_iast (f := sB_comings σ) (n := 64) hx hb hK hP hD hS 12 7 (rdB_comings a cs (uB_comers (uB_taken (uB_orders σ (upd (sB_orders σ) (Int32.toNatClampNeg v1) (-1))) (upd (sB_taken σ) (Int32.toNatClampNeg v1) 0)) (vp_updL (sB_comers σ) (Int32.toNatClampNeg v1) 0)) ((gB_comings_comers _ _).trans ((gB_comings_taken _ _).trans (gB_comings_orders _ _)))) rfl hi2 d_Walk_clear_40 (fun H locs hP hD hS => ?_)
      have hP := va_Pe (setB_comings a cs (uB_comers (uB_taken (uB_orders σ (upd (sB_orders σ) (Int32.toNatClampNeg v1) (-1))) (upd (sB_taken σ) (Int32.toNatClampNeg v1) 0)) (vp_updL (sB_comers σ) (Int32.toNatClampNeg v1) 0)) (upd (sB_comings σ) (Int32.toNatClampNeg v1) 0)) hP
      have hD := va_De (setB_comings a cs (uB_comers (uB_taken (uB_orders σ (upd (sB_orders σ) (Int32.toNatClampNeg v1) (-1))) (upd (sB_taken σ) (Int32.toNatClampNeg v1) 0)) (vp_updL (sB_comers σ) (Int32.toNatClampNeg v1) 0)) (upd (sB_comings σ) (Int32.toNatClampNeg v1) 0)) hD
      refine lv_iinc (v := v1 + 1) (lv' := [(1, .int (v1 + 1)), (0, .ref (a 2))]) hx hb d_Walk_clear_41 hl (k := 1) rfl rfl (by decide) rfl (fun ls hl => ?_)
      refine lv_goto (tgt := 7) hx hb d_Walk_clear_44 (by decide) ?_
      exact ih (uB_comings (uB_comers (uB_taken (uB_orders σ (upd (sB_orders σ) (Int32.toNatClampNeg v1) (-1))) (upd (sB_taken σ) (Int32.toNatClampNeg v1) 0)) (vp_updL (sB_comers σ) (Int32.toNatClampNeg v1) 0)) (upd (sB_comings σ) (Int32.toNatClampNeg v1) 0)) (v1 + 1) y h _ _ ls hP hD hS (lv_sub hl [1, 0] rfl) k0
set_option maxHeartbeats 4000000 in
set_option maxRecDepth 100000 in
theorem c_Walk_clear (l : Launch) (dC : Nat → ClassId) (dI : Nat → Nat → Nat) (a : Nat → Nat) (cs : Nat → ClassId) (sz : Nat) (σ : SB) (r : SB) (h : f_Walk_clear σ = some r) : Met l y_Walk_clear w_Walk_clear rm_Walk_clear (va_Pc [.ref (a 2)] (fun U => U.heap.size = sz ∧ WDB dC dI a cs σ U)) (va_Qv (fun u : SB => u = r) (atB dC dI a cs (va_A (wsB a cs σ) sz)) (va_A (wsB a cs σ) sz)) 0 0 (va_A (wsB a cs σ) sz) := by
  refine Met.ofW (cc := b_Walk_clear) (maxL := 2) (ret := none) (by decide) rfl ?_
  intro p e s m args below meth c s₁ B hml hv
  obtain ⟨rfl, hsz, hP, hK, hN, hD0⟩ := hv
  have hx := B.exec
  have hb := B.bytes
  have hr := B.returns
  have hg : ∀ w ∈ G_, w.before _ s = true := fun w hw => atoms_spec (ws := w_Walk_clear) B.pre w (List.mem_cons_of_mem _ hw)
  have hown : s.vm.findClass "BlockRuler$Walk" = some m.cls := findClass_of_methodNamed B.named
  have hlocks := B.notSynchronized
  have C0 : Cx "BlockRuler$Walk" b_Walk_clear 2 p s m _ meth c := ⟨hx, hb, hml, hown, hg, hlocks⟩
  subst hsz
  have hD := hD0.self (sz := s.heap.size)
  generalize hAe : va_A (wsB a cs σ) s.heap.size = A at hD ⊢
  have hA : ∀ q : Nat, s.heap.size ≤ q → A q := fun q h => by rw [← hAe]; exact Or.inr h
  have hS : va_S A s.heap s.heap [] := va_S.rf
  have hl := lv_entry ([.ref (a 2)]) (n := 2) (Nat.le_of_ble_eq_true rfl)
  rw [lg_entry_eq]
  generalize (lg_sl ([.ref (a 2)]) ++ List.replicate (2 - (lg_sl ([.ref (a 2)])).length) Slot.unset).toArray = ls at hl ⊢
  have hl : lv_has ls 2 [(0, .ref (a 2))] := hl
  unfold f_Walk_clear at h
  refine lv_aload_n hx hb d_Walk_clear_0 rfl (lv_at hl 0 rfl) ?_
  refine lv_iconst (v := 0) hx hb d_Walk_clear_1 (by decide) ?_
  refine va_put (D := (dC, dI)) (ci := 2) (v := .int 0) (ty := .int) (C := "BlockRuler$Walk") (T := F_Walk) (N := 9) hx hb hg i_Walk t_Walk t_Walk_ok n_Walk hown hK hP hD hS 2 rfl rfl 7 (by decide) (hg _ wd28) (fun _ h9 => h9) rfl (by decide +kernel) rfl rfl (Nat.le_of_ble_eq_true rfl) d_Walk_clear_2 (fun H locs hP hD hS => ?_)
  have hP := va_Pe (setB_reached a cs σ 0) hP
  have hD := va_De (setB_reached a cs σ 0) hD
  refine lv_iconst (v := 0) hx hb d_Walk_clear_5 (by decide) ?_
  refine lv_istore_n (lv' := [(1, .int 0), (0, .ref (a 2))]) hx hb d_Walk_clear_6 rfl hl (by decide) rfl (fun ls hl => ?_)
  obtain ⟨y3, hy3, h⟩ := bd h
  refine lpW_Walk_clear_7 C0 hK hN hA 100 (uB_reached σ 0) 0 y3 hy3 _ _ ls hP hD hS (lv_sub hl [1, 0] rfl) (fun H locs ls hP hD hS hl => ?_)
  exact W.vret hx hb hr (fun t ht hW => ⟨⟨y3.2, rfl, Option.some.inj h, by rw [ht]; exact hP, hD⟩, hS.F ht⟩) hS.2.2 d_Walk_clear_47
set_option maxHeartbeats 4000000 in
set_option maxRecDepth 100000 in
theorem lpW_Walk_goDeep_19 {p : Program} {l : Launch} {e : Env} {s : State} {m : MethodId} {args : Array Value} {below : List Frame} {meth : Method} {c : Code} {Q : State → Prop} {dC : Nat → ClassId} {dI : Nat → Nat → Nat} {a : Nat → Nat} {cs : Nat → ClassId} {A : Nat → Prop} (C0 : Cx "BlockRuler$Walk" b_Walk_goDeep 5 p s m args meth c) (hK : va_K (dC, dI) classes (tyB cs) s) (hN : NW s) (hA : ∀ q : Nat, s.heap.size ≤ q → A q) : ∀ (n : Nat) (σ : SB) (v1 : Int32) (v2 : Int32) (y : Int32 × Int32 × SB), lp_Walk_goDeep_19 n σ v1 v2 = some y → ∀ (H : Heap) (locs : List Loc) (ls : Array Slot), va_P (dC, dI) classes (wsB a cs σ) H → va_D A (wsB a cs σ) → va_S A s.heap H locs → lv_has ls 5 [(0, .ref (a 2)), (1, .int v1), (2, .int v2)] → (∀ (H : Heap) (locs : List Loc) (ls : Array Slot), va_P (dC, dI) classes (wsB a cs y.2.2) H → va_D A (wsB a cs y.2.2) → va_S A s.heap H locs → lv_has ls 5 [(0, .ref (a 2)), (1, .int y.1), (2, .int y.2.1)] → W p l e (headSpec w_Walk_goDeep rm_Walk_goDeep).room s m args below meth c H locs 0 0 Q (F0 m 152 ls [])) → W p l e (headSpec w_Walk_goDeep rm_Walk_goDeep).room s m args below meth c H locs 0 0 Q (F0 m 19 ls []) := by
  have C1 := C0
  obtain ⟨hx, hb, hml, hown, hg, hlocks⟩ := C1
  intro n
  induction n with
  | zero => intro σ v1 v2 y h; exact absurd (show (none : Option (Int32 × Int32 × SB)) = some y from h) (fun q => by cases q)
  | succ n ih =>
    intro σ v1 v2 y h H locs ls hP hD hS hl k0
    rw [lp_Walk_goDeep_19_s] at h
    refine lv_iload_n hx hb d_Walk_goDeep_19 rfl (lv_at hl 2 rfl) ?_
    refine lv_sipush (v := 576) hx hb d_Walk_goDeep_20 (by decide) ?_
    refine lv_icmp_ge (tgt := 152) hx hb d_Walk_goDeep_23 (by decide) (fun c2 => ?_) (fun c2 => ?_)
    · have h := b_t h c2
      obtain rfl := Option.some.inj h
      exact k0 _ _ ls hP hD hS (lv_sub hl [0, 1, 2] rfl)
    · have h := b_f h c2
      refine lv_iload_n hx hb d_Walk_goDeep_26 rfl (lv_at hl 1 rfl) ?_
      refine lv_if_le (tgt := 152) hx hb d_Walk_goDeep_27 (by decide) (fun c3 => ?_) (fun c3 => ?_)
      · have h := b_t h c3
        obtain rfl := Option.some.inj h
        exact k0 _ _ ls hP hD hS (lv_sub hl [0, 1, 2] rfl)
      · have h := b_f h c3
        refine lv_aload_n hx hb d_Walk_goDeep_30 rfl (lv_at hl 0 rfl) ?_
        refine va_get (D := (dC, dI)) (ci := 2) (v := .ref (a 9)) (C := "BlockRuler$Walk") (T := F_Walk) (N := 9) hx hb hg i_Walk hown hK hP 2 rfl rfl 3 (by decide) (hg _ wd38) (fun _ h9 => h9) rfl d_Walk_goDeep_31 ?_
        refine lv_iload_n hx hb d_Walk_goDeep_34 rfl (lv_at hl 1 rfl) ?_
        refine lv_iconst (v := 1) hx hb d_Walk_goDeep_35 (by decide) ?_
        refine lv_isub hx hb d_Walk_goDeep_36 ?_
        obtain ⟨hi4, h⟩ := gd h
        refine va_iald (f := sB_open σ) (n := 64) hx hb hK hP 9 4 rfl rfl hi4 d_Walk_goDeep_37 ?_
        refine lv_topi (fun x5 ex5 => ?_)
        have h := lt_ h x5 ex5
        refine lv_istore_n (lv' := [(3, .int x5), (0, .ref (a 2)), (1, .int v1), (2, .int v2)]) hx hb d_Walk_goDeep_38 rfl hl (by decide) rfl (fun ls hl => ?_)
        refine lv_aload_n hx hb d_Walk_goDeep_39 rfl (lv_at hl 1 rfl) ?_
        refine va_get (D := (dC, dI)) (ci := 2) (v := .ref (a 10)) (C := "BlockRuler$Walk") (T := F_Walk) (N := 9) hx hb hg i_Walk hown hK hP 2 rfl rfl 4 (by decide) (hg _ wd32) (fun _ h9 => h9) rfl d_Walk_goDeep_40 ?_
        refine lv_iload_n hx hb d_Walk_goDeep_43 rfl (lv_at hl 0 rfl) ?_
        obtain ⟨hi6, h⟩ := gd h
        refine va_iald (f := sB_taken σ) (n := 64) hx hb hK hP 10 5 rfl rfl hi6 d_Walk_goDeep_44 ?_
        refine lv_aload_n hx hb d_Walk_goDeep_45 rfl (lv_at hl 1 rfl) ?_
        refine va_get (D := (dC, dI)) (ci := 2) (v := .ref (a 1)) (C := "BlockRuler$Walk") (T := F_Walk) (N := 9) hx hb hg i_Walk hown hK hP 2 rfl rfl 0 (by decide) (hg _ wd39) (fun _ h9 => h9) rfl d_Walk_goDeep_46 ?_
        refine va_get (D := (dC, dI)) (ci := 1) (v := .ref (a 5)) (C := "BlockRuler$Web") (T := F_Web) (N := 4) hx hb hg i_Web hown hK hP 1 rfl rfl 0 (by decide) (hg _ wd40) (fun _ h9 => h9) rfl d_Walk_goDeep_49 ?_
        refine lv_iload_n hx hb d_Walk_goDeep_52 rfl (lv_at hl 0 rfl) ?_
        refine va_iald (f := sB_deg σ) (n := 64) hx hb hK hP 5 0 rfl rfl hi6 d_Walk_goDeep_53 ?_
        refine lv_icmp_lt (tgt := 83) hx hb d_Walk_goDeep_54 (by decide) (fun c7 => ?_) (fun c7 => ?_)
        · have h := b_t h c7
          refine lv_aload_n hx hb d_Walk_goDeep_83 rfl (lv_at hl 1 rfl) ?_
          refine va_get (D := (dC, dI)) (ci := 2) (v := .ref (a 1)) (C := "BlockRuler$Walk") (T := F_Walk) (N := 9) hx hb hg i_Walk hown hK hP 2 rfl rfl 0 (by decide) (hg _ wd39) (fun _ h9 => h9) rfl d_Walk_goDeep_84 ?_
          refine lv_iload_n hx hb d_Walk_goDeep_87 rfl (lv_at hl 0 rfl) ?_
          refine lv_aload_n hx hb d_Walk_goDeep_88 rfl (lv_at hl 1 rfl) ?_
          refine va_get (D := (dC, dI)) (ci := 2) (v := .ref (a 10)) (C := "BlockRuler$Walk") (T := F_Walk) (N := 9) hx hb hg i_Walk hown hK hP 2 rfl rfl 4 (by decide) (hg _ wd32) (fun _ h9 => h9) rfl d_Walk_goDeep_89 ?_
          refine lv_iload_n hx hb d_Walk_goDeep_92 rfl (lv_at hl 0 rfl) ?_
          refine va_iald (f := sB_taken σ) (n := 64) hx hb hK hP 10 5 rfl rfl hi6 d_Walk_goDeep_93 ?_
          obtain ⟨r8, hr8, h⟩ := bd h
          refine ro_call (v := .int r8) (va_runV (C := "BlockRuler$Web") (As := [.int x5, .int (sB_taken σ (Int32.toNatClampNeg x5))]) (rest := []) ⟨hx, hb, hml, hown, hg⟩ (c_Web_endOf l dC dI a cs σ x5 (sB_taken σ (Int32.toNatClampNeg x5)) _ hr8) (cwV 2 hg (gdV wd41 wd13 wd12 wd7 wd15) rfl rfl rfl (by decide +kernel) ⟨Nat.le_of_ble_eq_true rfl, Nat.le_of_ble_eq_true rfl⟩) ⟨wb_blind, va_recv hK hP (ci := 1) (q0 := 1) rfl rfl, fun U hU hW => ⟨rfl, wb_pre hU hW hP hK hN⟩⟩ rfl rfl hl.1 rfl (lv_room (Nat.le_of_ble_eq_true rfl)) d_Walk_goDeep_94 ⟨Nat.zero_le _, Nat.zero_le _⟩) ?_
          refine lv_istore (lv' := [(4, .int r8), (3, .int x5), (0, .ref (a 2)), (1, .int v1), (2, .int v2)]) hx hb d_Walk_goDeep_97 hl (by decide) rfl (fun ls hl => ?_)
          refine lv_aload_n hx hb d_Walk_goDeep_99 rfl (lv_at hl 2 rfl) ?_
          refine va_get (D := (dC, dI)) (ci := 2) (v := .ref (a 10)) (C := "BlockRuler$Walk") (T := F_Walk) (N := 9) hx hb hg i_Walk hown hK hP 2 rfl rfl 4 (by decide) (hg _ wd32) (fun _ h9 => h9) rfl d_Walk_goDeep_100 ?_
          refine lv_iload_n hx hb d_Walk_goDeep_103 rfl (lv_at hl 1 rfl) ?_
          refine lv_dup2_11 hx hb d_Walk_goDeep_104 rfl rfl ?_
          refine va_iald (f := sB_taken σ) (n := 64) hx hb hK hP 10 5 rfl rfl hi6 d_Walk_goDeep_105 ?_
          refine lv_iconst (v := 1) hx hb d_Walk_goDeep_106 (by decide) ?_
          refine lv_iadd hx hb d_Walk_goDeep_107 ?_
          refine va_iast (f := sB_taken σ) (n := 64) hx hb hK hP hD hS 10 5 rfl rfl hi6 d_Walk_goDeep_108 (fun H locs hP hD hS => ?_)
          have hP := va_Pe (setB_taken a cs σ (upd (sB_taken σ) (Int32.toNatClampNeg x5) ((sB_taken σ (Int32.toNatClampNeg x5)) + 1))) hP
          have hD := va_De (setB_taken a cs σ (upd (sB_taken σ) (Int32.toNatClampNeg x5) ((sB_taken σ (Int32.toNatClampNeg x5)) + 1))) hD
          refine lv_aload_n hx hb d_Walk_goDeep_109 rfl (lv_at hl 2 rfl) ?_
          refine va_get (D := (dC, dI)) (ci := 2) (v := .long (sB_rset σ)) (C := "BlockRuler$Walk") (T := F_Walk) (N := 9) hx hb hg i_Walk hown hK hP 2 rfl rfl 8 (by decide) (hg _ wd37) (fun _ h9 => h9) (rfB_rset a cs (uB_taken σ (upd (sB_taken σ) (Int32.toNatClampNeg x5) ((sB_taken σ (Int32.toNatClampNeg x5)) + 1))) (gB_rset_taken _ _)) d_Walk_goDeep_110 ?_
          refine lv_iload hx hb d_Walk_goDeep_113 (lv_at hl 0 rfl) ?_
          refine ro_call (v := .int (f_BlockRuler_holds (sB_rset σ) r8)) (va_runSN (As := [.long (sB_rset σ), .int r8]) (rest := []) ⟨hx, hb, hml, hown, hg⟩ (c_BlockRuler_holds l (sB_rset σ) r8 _ rfl) ⟨va_cnB 2 hg (gdC wd29) rfl rfl rfl (hN _ nw0) (hg _ wd22) (by decide +kernel) ⟨Nat.le_of_ble_eq_true rfl, Nat.le_of_ble_eq_true rfl⟩, hg _ wd30, trivial⟩ ⟨va_blind0, fun U hU hW => ⟨rfl, trivial⟩⟩ rfl rfl hl.1 rfl (lv_room (Nat.le_of_ble_eq_true rfl)) d_Walk_goDeep_115 ⟨Nat.zero_le _, Nat.zero_le _⟩) ?_
          refine lv_if_ne (tgt := 146) hx hb d_Walk_goDeep_118 (by decide) (fun c9 => ?_) (fun c9 => ?_)
          · have h := b_f h c9
            refine lv_iinc (v := v2 + 1) (lv' := [(2, .int (v2 + 1)), (4, .int r8), (3, .int x5), (0, .ref (a 2)), (1, .int v1)]) hx hb d_Walk_goDeep_146 hl (k := 4) rfl rfl (by decide) rfl (fun ls hl => ?_)
            refine lv_goto (tgt := 19) hx hb d_Walk_goDeep_149 (by decide) ?_
            exact ih (uB_taken σ (upd (sB_taken σ) (Int32.toNatClampNeg x5) ((sB_taken σ (Int32.toNatClampNeg x5)) + 1))) v1 (v2 + 1) y h _ _ ls hP hD hS (lv_sub hl [3, 4, 0] rfl) k0
          · have h := b_t h c9
            refine lv_aload_n hx hb d_Walk_goDeep_121 rfl (lv_at hl 2 rfl) ?_
            refine lv_dup hx hb d_Walk_goDeep_122 rfl ?_
            refine va_get (D := (dC, dI)) (ci := 2) (v := .long (sB_rset σ)) (C := "BlockRuler$Walk") (T := F_Walk) (N := 9) hx hb hg i_Walk hown hK hP 2 rfl rfl 8 (by decide) (hg _ wd37) (fun _ h9 => h9) (rfB_rset a cs (uB_taken σ (upd (sB_taken σ) (Int32.toNatClampNeg x5) ((sB_taken σ (Int32.toNatClampNeg x5)) + 1))) (gB_rset_taken _ _)) d_Walk_goDeep_123 ?_
            refine lv_iload hx hb d_Walk_goDeep_126 (lv_at hl 0 rfl) ?_
            refine ro_call (v := .long (f_BlockRuler_only r8)) (va_runSN (As := [.int r8]) (rest := [.long (sB_rset σ), .ref (a 2)]) ⟨hx, hb, hml, hown, hg⟩ (c_BlockRuler_only l r8 _ rfl) ⟨va_cnB 1 hg (gdC wd35) rfl rfl rfl (hN _ nw1) (hg _ wd22) (by decide +kernel) ⟨Nat.le_of_ble_eq_true rfl, Nat.le_of_ble_eq_true rfl⟩, hg _ wd36, trivial⟩ ⟨va_blind0, fun U hU hW => ⟨rfl, trivial⟩⟩ rfl rfl hl.1 rfl (lv_room (Nat.le_of_ble_eq_true rfl)) d_Walk_goDeep_128 ⟨Nat.zero_le _, Nat.zero_le _⟩) ?_
            refine lv_lor hx hb d_Walk_goDeep_131 ?_
            refine va_put (D := (dC, dI)) (ci := 2) (v := .long ((sB_rset σ) ||| (f_BlockRuler_only r8))) (ty := .long) (C := "BlockRuler$Walk") (T := F_Walk) (N := 9) hx hb hg i_Walk t_Walk t_Walk_ok n_Walk hown hK hP hD hS 2 rfl rfl 8 (by decide) (hg _ wd37) (fun _ h9 => h9) rfl (by decide +kernel) rfl rfl (Nat.le_of_ble_eq_true rfl) d_Walk_goDeep_132 (fun H locs hP hD hS => ?_)
            have hP := va_Pe (setB_rset a cs (uB_taken σ (upd (sB_taken σ) (Int32.toNatClampNeg x5) ((sB_taken σ (Int32.toNatClampNeg x5)) + 1))) ((sB_rset σ) ||| (f_BlockRuler_only r8))) hP
            have hD := va_De (setB_rset a cs (uB_taken σ (upd (sB_taken σ) (Int32.toNatClampNeg x5) ((sB_taken σ (Int32.toNatClampNeg x5)) + 1))) ((sB_rset σ) ||| (f_BlockRuler_only r8))) hD
            refine lv_aload_n hx hb d_Walk_goDeep_135 rfl (lv_at hl 2 rfl) ?_
            refine va_get (D := (dC, dI)) (ci := 2) (v := .ref (a 9)) (C := "BlockRuler$Walk") (T := F_Walk) (N := 9) hx hb hg i_Walk hown hK hP 2 rfl rfl 3 (by decide) (hg _ wd38) (fun _ h9 => h9) rfl d_Walk_goDeep_136 ?_
            refine lv_iload_n hx hb d_Walk_goDeep_139 rfl (lv_at hl 3 rfl) ?_
            refine lv_iload hx hb d_Walk_goDeep_140 (lv_at hl 0 rfl) ?_
            obtain ⟨hi10, h⟩ := gd h
            refine va_iast (f := sB_open σ) (n := 64) hx hb hK hP hD hS 9 4 (rdB_open a cs (uB_rset (uB_taken σ (upd (sB_taken σ) (Int32.toNatClampNeg x5) ((sB_taken σ (Int32.toNatClampNeg x5)) + 1))) ((sB_rset σ) ||| (f_BlockRuler_only r8))) ((gB_open_rset _ _).trans (gB_open_taken _ _))) rfl hi10 d_Walk_goDeep_142 (fun H locs hP hD hS => ?_)
            have hP := va_Pe (setB_open a cs (uB_rset (uB_taken σ (upd (sB_taken σ) (Int32.toNatClampNeg x5) ((sB_taken σ (Int32.toNatClampNeg x5)) + 1))) ((sB_rset σ) ||| (f_BlockRuler_only r8))) (upd (sB_open σ) (Int32.toNatClampNeg v1) r8)) hP
            have hD := va_De (setB_open a cs (uB_rset (uB_taken σ (upd (sB_taken σ) (Int32.toNatClampNeg x5) ((sB_taken σ (Int32.toNatClampNeg x5)) + 1))) ((sB_rset σ) ||| (f_BlockRuler_only r8))) (upd (sB_open σ) (Int32.toNatClampNeg v1) r8)) hD
            refine lv_iinc (v := v1 + 1) (lv' := [(1, .int (v1 + 1)), (4, .int r8), (3, .int x5), (0, .ref (a 2)), (2, .int v2)]) hx hb d_Walk_goDeep_143 hl (k := 3) rfl rfl (by decide) rfl (fun ls hl => ?_)
            refine lv_iinc (v := v2 + 1) (lv' := [(2, .int (v2 + 1)), (1, .int (v1 + 1)), (4, .int r8), (3, .int x5), (0, .ref (a 2))]) hx hb d_Walk_goDeep_146 hl (k := 4) rfl rfl (by decide) rfl (fun ls hl => ?_)
            refine lv_goto (tgt := 19) hx hb d_Walk_goDeep_149 (by decide) ?_
            exact ih (uB_open (uB_rset (uB_taken σ (upd (sB_taken σ) (Int32.toNatClampNeg x5) ((sB_taken σ (Int32.toNatClampNeg x5)) + 1))) ((sB_rset σ) ||| (f_BlockRuler_only r8))) (upd (sB_open σ) (Int32.toNatClampNeg v1) r8)) (v1 + 1) (v2 + 1) y h _ _ ls hP hD hS (lv_sub hl [4, 1, 0] rfl) k0
        · have h := b_f h c7
          refine lv_aload_n hx hb d_Walk_goDeep_57 rfl (lv_at hl 1 rfl) ?_
          refine va_get (D := (dC, dI)) (ci := 2) (v := .ref (a 8)) (C := "BlockRuler$Walk") (T := F_Walk) (N := 9) hx hb hg i_Walk hown hK hP 2 rfl rfl 2 (by decide) (hg _ wd27) (fun _ h9 => h9) rfl d_Walk_goDeep_58 ?_
          refine lv_aload_n hx hb d_Walk_goDeep_61 rfl (lv_at hl 1 rfl) ?_
          refine va_get (D := (dC, dI)) (ci := 2) (v := .int (sB_reached σ)) (C := "BlockRuler$Walk") (T := F_Walk) (N := 9) hx hb hg i_Walk hown hK hP 2 rfl rfl 7 (by decide) (hg _ wd28) (fun _ h9 => h9) rfl d_Walk_goDeep_62 ?_
          refine lv_iload_n hx hb d_Walk_goDeep_65 rfl (lv_at hl 0 rfl) ?_
          obtain ⟨hi11, h⟩ := gd h
          refine va_iast (f := sB_left σ) (n := 64) hx hb hK hP hD hS 8 3 rfl rfl hi11 d_Walk_goDeep_66 (fun H locs hP hD hS => ?_)
          have hP := va_Pe (setB_left a cs σ (upd (sB_left σ) (Int32.toNatClampNeg (sB_reached σ)) x5)) hP
          have hD := va_De (setB_left a cs σ (upd (sB_left σ) (Int32.toNatClampNeg (sB_reached σ)) x5)) hD
          refine lv_aload_n hx hb d_Walk_goDeep_67 rfl (lv_at hl 1 rfl) ?_
          refine lv_dup hx hb d_Walk_goDeep_68 rfl ?_
          refine va_get (D := (dC, dI)) (ci := 2) (v := .int (sB_reached σ)) (C := "BlockRuler$Walk") (T := F_Walk) (N := 9) hx hb hg i_Walk hown hK hP 2 rfl rfl 7 (by decide) (hg _ wd28) (fun _ h9 => h9) (rfB_reached a cs (uB_left σ (upd (sB_left σ) (Int32.toNatClampNeg (sB_reached σ)) x5)) (gB_reached_left _ _)) d_Walk_goDeep_69 ?_
          refine lv_iconst (v := 1) hx hb d_Walk_goDeep_72 (by decide) ?_
          refine lv_iadd hx hb d_Walk_goDeep_73 ?_
          refine va_put (D := (dC, dI)) (ci := 2) (v := .int ((sB_reached σ) + 1)) (ty := .int) (C := "BlockRuler$Walk") (T := F_Walk) (N := 9) hx hb hg i_Walk t_Walk t_Walk_ok n_Walk hown hK hP hD hS 2 rfl rfl 7 (by decide) (hg _ wd28) (fun _ h9 => h9) rfl (by decide +kernel) rfl rfl (Nat.le_of_ble_eq_true rfl) d_Walk_goDeep_74 (fun H locs hP hD hS => ?_)
          have hP := va_Pe (setB_reached a cs (uB_left σ (upd (sB_left σ) (Int32.toNatClampNeg (sB_reached σ)) x5)) ((sB_reached σ) + 1)) hP
          have hD := va_De (setB_reached a cs (uB_left σ (upd (sB_left σ) (Int32.toNatClampNeg (sB_reached σ)) x5)) ((sB_reached σ) + 1)) hD
          refine lv_iinc (v := v1 + (-1)) (lv' := [(1, .int (v1 + (-1))), (3, .int x5), (0, .ref (a 2)), (2, .int v2)]) hx hb d_Walk_goDeep_77 hl (k := 2) rfl rfl (by decide) rfl (fun ls hl => ?_)
          refine lv_goto (tgt := 146) hx hb d_Walk_goDeep_80 (by decide) ?_
          refine lv_iinc (v := v2 + 1) (lv' := [(2, .int (v2 + 1)), (1, .int (v1 + (-1))), (3, .int x5), (0, .ref (a 2))]) hx hb d_Walk_goDeep_146 hl (k := 3) rfl rfl (by decide) rfl (fun ls hl => ?_)
          refine lv_goto (tgt := 19) hx hb d_Walk_goDeep_149 (by decide) ?_
          exact ih (uB_reached (uB_left σ (upd (sB_left σ) (Int32.toNatClampNeg (sB_reached σ)) x5)) ((sB_reached σ) + 1)) (v1 + (-1)) (v2 + 1) y h _ _ ls hP hD hS (lv_sub hl [3, 1, 0] rfl) k0
set_option maxHeartbeats 4000000 in
set_option maxRecDepth 100000 in
theorem c_Walk_goDeep (l : Launch) (dC : Nat → ClassId) (dI : Nat → Nat → Nat) (a : Nat → Nat) (cs : Nat → ClassId) (sz : Nat) (σ : SB) (r : SB) (h : f_Walk_goDeep σ = some r) : Met l y_Walk_goDeep w_Walk_goDeep rm_Walk_goDeep (va_Pc [.ref (a 2)] (fun U => U.heap.size = sz ∧ WDB dC dI a cs σ U)) (va_Qv (fun u : SB => u = r) (atB dC dI a cs (va_A (wsB a cs σ) sz)) (va_A (wsB a cs σ) sz)) 0 0 (va_A (wsB a cs σ) sz) := by
  refine Met.ofW (cc := b_Walk_goDeep) (maxL := 5) (ret := none) (by decide) rfl ?_
  intro p e s m args below meth c s₁ B hml hv
  obtain ⟨rfl, hsz, hP, hK, hN, hD0⟩ := hv
  have hx := B.exec
  have hb := B.bytes
  have hr := B.returns
  have hg : ∀ w ∈ G_, w.before _ s = true := fun w hw => atoms_spec (ws := w_Walk_goDeep) B.pre w (List.mem_cons_of_mem _ hw)
  have hown : s.vm.findClass "BlockRuler$Walk" = some m.cls := findClass_of_methodNamed B.named
  have hlocks := B.notSynchronized
  have C0 : Cx "BlockRuler$Walk" b_Walk_goDeep 5 p s m _ meth c := ⟨hx, hb, hml, hown, hg, hlocks⟩
  subst hsz
  have hD := hD0.self (sz := s.heap.size)
  generalize hAe : va_A (wsB a cs σ) s.heap.size = A at hD ⊢
  have hA : ∀ q : Nat, s.heap.size ≤ q → A q := fun q h => by rw [← hAe]; exact Or.inr h
  have hS : va_S A s.heap s.heap [] := va_S.rf
  have hl := lv_entry ([.ref (a 2)]) (n := 5) (Nat.le_of_ble_eq_true rfl)
  rw [lg_entry_eq]
  generalize (lg_sl ([.ref (a 2)]) ++ List.replicate (5 - (lg_sl ([.ref (a 2)])).length) Slot.unset).toArray = ls at hl ⊢
  have hl : lv_has ls 5 [(0, .ref (a 2))] := hl
  unfold f_Walk_goDeep at h
  refine lv_aload_n hx hb d_Walk_goDeep_0 rfl (lv_at hl 0 rfl) ?_
  refine lv_iconst (v := 0) hx hb d_Walk_goDeep_1 (by decide) ?_
  refine ro_call (v := .long (f_BlockRuler_only 0)) (va_runSN (As := [.int 0]) (rest := [.ref (a 2)]) ⟨hx, hb, hml, hown, hg⟩ (c_BlockRuler_only l 0 _ rfl) ⟨va_cnB 1 hg (gdC wd35) rfl rfl rfl (hN _ nw1) (hg _ wd22) (by decide +kernel) ⟨Nat.le_of_ble_eq_true rfl, Nat.le_of_ble_eq_true rfl⟩, hg _ wd36, trivial⟩ ⟨va_blind0, fun U hU hW => ⟨rfl, trivial⟩⟩ rfl rfl hl.1 rfl (lv_room (Nat.le_of_ble_eq_true rfl)) d_Walk_goDeep_2 ⟨Nat.zero_le _, Nat.zero_le _⟩) ?_
  refine va_put (D := (dC, dI)) (ci := 2) (v := .long (f_BlockRuler_only 0)) (ty := .long) (C := "BlockRuler$Walk") (T := F_Walk) (N := 9) hx hb hg i_Walk t_Walk t_Walk_ok n_Walk hown hK hP hD hS 2 rfl rfl 8 (by decide) (hg _ wd37) (fun _ h9 => h9) rfl (by decide +kernel) rfl rfl (Nat.le_of_ble_eq_true rfl) d_Walk_goDeep_5 (fun H locs hP hD hS => ?_)
  have hP := va_Pe (setB_rset a cs σ (f_BlockRuler_only 0)) hP
  have hD := va_De (setB_rset a cs σ (f_BlockRuler_only 0)) hD
  refine lv_aload_n hx hb d_Walk_goDeep_8 rfl (lv_at hl 0 rfl) ?_
  refine va_get (D := (dC, dI)) (ci := 2) (v := .ref (a 9)) (C := "BlockRuler$Walk") (T := F_Walk) (N := 9) hx hb hg i_Walk hown hK hP 2 rfl rfl 3 (by decide) (hg _ wd38) (fun _ h9 => h9) rfl d_Walk_goDeep_9 ?_
  refine lv_iconst (v := 0) hx hb d_Walk_goDeep_12 (by decide) ?_
  refine lv_iconst (v := 0) hx hb d_Walk_goDeep_13 (by decide) ?_
  obtain ⟨hi1, h⟩ := gd h
  refine va_iast (f := sB_open σ) (n := 64) hx hb hK hP hD hS 9 4 (rdB_open a cs (uB_rset σ (f_BlockRuler_only 0)) (gB_open_rset _ _)) rfl hi1 d_Walk_goDeep_14 (fun H locs hP hD hS => ?_)
  have hP := va_Pe (setB_open a cs (uB_rset σ (f_BlockRuler_only 0)) (upd (sB_open σ) (Int32.toNatClampNeg 0) 0)) hP
  have hD := va_De (setB_open a cs (uB_rset σ (f_BlockRuler_only 0)) (upd (sB_open σ) (Int32.toNatClampNeg 0) 0)) hD
  refine lv_iconst (v := 1) hx hb d_Walk_goDeep_15 (by decide) ?_
  refine lv_istore_n (lv' := [(1, .int 1), (0, .ref (a 2))]) hx hb d_Walk_goDeep_16 rfl hl (by decide) rfl (fun ls hl => ?_)
  refine lv_iconst (v := 0) hx hb d_Walk_goDeep_17 (by decide) ?_
  refine lv_istore_n (lv' := [(2, .int 0), (1, .int 1), (0, .ref (a 2))]) hx hb d_Walk_goDeep_18 rfl hl (by decide) rfl (fun ls hl => ?_)
  obtain ⟨y12, hy12, h⟩ := bd h
  refine lpW_Walk_goDeep_19 C0 hK hN hA 600 (uB_open (uB_rset σ (f_BlockRuler_only 0)) (upd (sB_open σ) (Int32.toNatClampNeg 0) 0)) 1 0 y12 hy12 _ _ ls hP hD hS (lv_sub hl [2, 1, 0] rfl) (fun H locs ls hP hD hS hl => ?_)
  exact W.vret hx hb hr (fun t ht hW => ⟨⟨y12.2.2, rfl, Option.some.inj h, by rw [ht]; exact hP, hD⟩, hS.F ht⟩) hS.2.2 d_Walk_goDeep_152
set_option maxHeartbeats 4000000 in
set_option maxRecDepth 100000 in
theorem lpW_Walk_markEndsOf_2 {p : Program} {l : Launch} {e : Env} {s : State} {m : MethodId} {args : Array Value} {below : List Frame} {meth : Method} {c : Code} {Q : State → Prop} {dC : Nat → ClassId} {dI : Nat → Nat → Nat} {a : Nat → Nat} {cs : Nat → ClassId} {A : Nat → Prop} (C0 : Cx "BlockRuler$Walk" b_Walk_markEndsOf 4 p s m args meth c) (hK : va_K (dC, dI) classes (tyB cs) s) (hN : NW s) (hA : ∀ q : Nat, s.heap.size ≤ q → A q) : ∀ (n : Nat) (σ : SB) (v1 : Int32) (v2 : Int32) (y : Int32 × SB), lp_Walk_markEndsOf_2 n σ v1 v2 = some y → ∀ (H : Heap) (locs : List Loc) (ls : Array Slot), va_P (dC, dI) classes (wsB a cs σ) H → va_D A (wsB a cs σ) → va_S A s.heap H locs → lv_has ls 4 [(0, .ref (a 2)), (1, .int v1), (2, .int v2)] → (∀ (H : Heap) (locs : List Loc) (ls : Array Slot), va_P (dC, dI) classes (wsB a cs y.2) H → va_D A (wsB a cs y.2) → va_S A s.heap H locs → lv_has ls 4 [(0, .ref (a 2)), (1, .int v1), (2, .int y.1)] → W p l e (headSpec w_Walk_markEndsOf rm_Walk_markEndsOf).room s m args below meth c H locs 0 0 Q (F0 m 54 ls [])) → W p l e (headSpec w_Walk_markEndsOf rm_Walk_markEndsOf).room s m args below meth c H locs 0 0 Q (F0 m 2 ls []) := by
  have C1 := C0
  obtain ⟨hx, hb, hml, hown, hg, hlocks⟩ := C1
  intro n
  induction n with
  | zero => intro σ v1 v2 y h; exact absurd (show (none : Option (Int32 × SB)) = some y from h) (fun q => by cases q)
  | succ n ih =>
    intro σ v1 v2 y h H locs ls hP hD hS hl k0
    rw [lp_Walk_markEndsOf_2_s] at h
    refine lv_iload_n hx hb d_Walk_markEndsOf_2 rfl (lv_at hl 2 rfl) ?_
    refine lv_aload_n hx hb d_Walk_markEndsOf_3 rfl (lv_at hl 0 rfl) ?_
    refine va_get (D := (dC, dI)) (ci := 2) (v := .ref (a 1)) (C := "BlockRuler$Walk") (T := F_Walk) (N := 9) hx hb hg i_Walk hown hK hP 2 rfl rfl 0 (by decide) (hg _ wd39) (fun _ h9 => h9) rfl d_Walk_markEndsOf_4 ?_
    refine va_get (D := (dC, dI)) (ci := 1) (v := .ref (a 5)) (C := "BlockRuler$Web") (T := F_Web) (N := 4) hx hb hg i_Web hown hK hP 1 rfl rfl 0 (by decide) (hg _ wd40) (fun _ h9 => h9) rfl d_Walk_markEndsOf_7 ?_
    refine lv_iload_n hx hb d_Walk_markEndsOf_10 rfl (lv_at hl 1 rfl) ?_
    obtain ⟨hi1, h⟩ := gd h
    refine va_iald (f := sB_deg σ) (n := 64) hx hb hK hP 5 0 rfl rfl hi1 d_Walk_markEndsOf_11 ?_
    refine lv_icmp_ge (tgt := 54) hx hb d_Walk_markEndsOf_12 (by decide) (fun c2 => ?_) (fun c2 => ?_)
    · have h := b_t h c2
      obtain rfl := Option.some.inj h
      exact k0 _ _ ls hP hD hS (lv_sub hl [0, 1, 2] rfl)
    · have h := b_f h c2
      refine lv_aload_n hx hb d_Walk_markEndsOf_15 rfl (lv_at hl 0 rfl) ?_
      refine va_get (D := (dC, dI)) (ci := 2) (v := .ref (a 1)) (C := "BlockRuler$Walk") (T := F_Walk) (N := 9) hx hb hg i_Walk hown hK hP 2 rfl rfl 0 (by decide) (hg _ wd39) (fun _ h9 => h9) rfl d_Walk_markEndsOf_16 ?_
      refine lv_iload_n hx hb d_Walk_markEndsOf_19 rfl (lv_at hl 1 rfl) ?_
      refine lv_iload_n hx hb d_Walk_markEndsOf_20 rfl (lv_at hl 2 rfl) ?_
      obtain ⟨r3, hr3, h⟩ := bd h
      refine ro_call (v := .int r3) (va_runV (C := "BlockRuler$Web") (As := [.int v1, .int v2]) (rest := []) ⟨hx, hb, hml, hown, hg⟩ (c_Web_endOf l dC dI a cs σ v1 v2 _ hr3) (cwV 2 hg (gdV wd41 wd13 wd12 wd7 wd15) rfl rfl rfl (by decide +kernel) ⟨Nat.le_of_ble_eq_true rfl, Nat.le_of_ble_eq_true rfl⟩) ⟨wb_blind, va_recv hK hP (ci := 1) (q0 := 1) rfl rfl, fun U hU hW => ⟨rfl, wb_pre hU hW hP hK hN⟩⟩ rfl rfl hl.1 rfl (lv_room (Nat.le_of_ble_eq_true rfl)) d_Walk_markEndsOf_21 ⟨Nat.zero_le _, Nat.zero_le _⟩) ?_
      refine lv_istore_n (lv' := [(3, .int r3), (0, .ref (a 2)), (1, .int v1), (2, .int v2)]) hx hb d_Walk_markEndsOf_24 rfl hl (by decide) rfl (fun ls hl => ?_)
      refine lv_aload_n hx hb d_Walk_markEndsOf_25 rfl (lv_at hl 1 rfl) ?_
      refine va_get (D := (dC, dI)) (ci := 2) (v := .ref (a 11)) (C := "BlockRuler$Walk") (T := F_Walk) (N := 9) hx hb hg i_Walk hown hK hP 2 rfl rfl 5 (by decide) (hg _ wd33) (fun _ h9 => h9) rfl d_Walk_markEndsOf_26 ?_
      refine lv_iload_n hx hb d_Walk_markEndsOf_29 rfl (lv_at hl 0 rfl) ?_
      refine lv_dup2_11 hx hb d_Walk_markEndsOf_30 rfl rfl ?_
      obtain ⟨hi4, h⟩ := gd h
      refine va_lald (f := sB_comers σ) (n := 64) hx hb hK hP 11 6 rfl rfl hi4 d_Walk_markEndsOf_31 ?_
      refine lv_iload_n hx hb d_Walk_markEndsOf_32 rfl (lv_at hl 2 rfl) ?_
      refine ro_call (v := .long (f_BlockRuler_only v1)) (va_runSN (As := [.int v1]) (rest := [.long (sB_comers σ (Int32.toNatClampNeg r3)), .int r3, .ref (a 11)]) ⟨hx, hb, hml, hown, hg⟩ (c_BlockRuler_only l v1 _ rfl) ⟨va_cnB 1 hg (gdC wd35) rfl rfl rfl (hN _ nw1) (hg _ wd22) (by decide +kernel) ⟨Nat.le_of_ble_eq_true rfl, Nat.le_of_ble_eq_true rfl⟩, hg _ wd36, trivial⟩ ⟨va_blind0, fun U hU hW => ⟨rfl, trivial⟩⟩ rfl rfl hl.1 rfl (lv_room (Nat.le_of_ble_eq_true rfl)) d_Walk_markEndsOf_33 ⟨Nat.zero_le _, Nat.zero_le _⟩) ?_
      refine lv_lor hx hb d_Walk_markEndsOf_36 ?_
      refine va_last (f := sB_comers σ) (n := 64) hx hb hK hP hD hS 11 6 rfl rfl hi4 d_Walk_markEndsOf_37 (fun H locs hP hD hS => ?_)
      have hP := va_Pe (setB_comers a cs σ (vp_updL (sB_comers σ) (Int32.toNatClampNeg r3) ((sB_comers σ (Int32.toNatClampNeg r3)) ||| (f_BlockRuler_only v1)))) hP
      have hD := va_De (setB_comers a cs σ (vp_updL (sB_comers σ) (Int32.toNatClampNeg r3) ((sB_comers σ (Int32.toNatClampNeg r3)) ||| (f_BlockRuler_only v1)))) hD
      refine lv_aload_n hx hb d_Walk_markEndsOf_38 rfl (lv_at hl 1 rfl) ?_
      refine va_get (D := (dC, dI)) (ci := 2) (v := .ref (a 12)) (C := "BlockRuler$Walk") (T := F_Walk) (N := 9) hx hb hg i_Walk hown hK hP 2 rfl rfl 6 (by decide) (hg _ wd34) (fun _ h9 => h9) rfl d_Walk_markEndsOf_39 ?_
      refine lv_iload_n hx hb d_Walk_markEndsOf_42 rfl (lv_at hl 0 rfl) ?_
      refine lv_dup2_11 hx hb d_Walk_markEndsOf_43 rfl rfl ?_
      refine va_iald (f := sB_comings σ) (n := 64) hx hb hK hP 12 7 (rdB_comings a cs (uB_comers σ (vp_updL (sB_comers σ) (Int32.toNatClampNeg r3) ((sB_comers σ (Int32.toNatClampNeg r3)) ||| (f_BlockRuler_only v1)))) (gB_comings_comers _ _)) rfl hi4 d_Walk_markEndsOf_44 ?_
      refine lv_iconst (v := 1) hx hb d_Walk_markEndsOf_45 (by decide) ?_
      refine lv_iadd hx hb d_Walk_markEndsOf_46 ?_
      refine va_iast (f := sB_comings σ) (n := 64) hx hb hK hP hD hS 12 7 (rdB_comings a cs (uB_comers σ (vp_updL (sB_comers σ) (Int32.toNatClampNeg r3) ((sB_comers σ (Int32.toNatClampNeg r3)) ||| (f_BlockRuler_only v1)))) (gB_comings_comers _ _)) rfl hi4 d_Walk_markEndsOf_47 (fun H locs hP hD hS => ?_)
      have hP := va_Pe (setB_comings a cs (uB_comers σ (vp_updL (sB_comers σ) (Int32.toNatClampNeg r3) ((sB_comers σ (Int32.toNatClampNeg r3)) ||| (f_BlockRuler_only v1)))) (upd (sB_comings σ) (Int32.toNatClampNeg r3) ((sB_comings σ (Int32.toNatClampNeg r3)) + 1))) hP
      have hD := va_De (setB_comings a cs (uB_comers σ (vp_updL (sB_comers σ) (Int32.toNatClampNeg r3) ((sB_comers σ (Int32.toNatClampNeg r3)) ||| (f_BlockRuler_only v1)))) (upd (sB_comings σ) (Int32.toNatClampNeg r3) ((sB_comings σ (Int32.toNatClampNeg r3)) + 1))) hD
      refine lv_iinc (v := v2 + 1) (lv' := [(2, .int (v2 + 1)), (3, .int r3), (0, .ref (a 2)), (1, .int v1)]) hx hb d_Walk_markEndsOf_48 hl (k := 3) rfl rfl (by decide) rfl (fun ls hl => ?_)
      refine lv_goto (tgt := 2) hx hb d_Walk_markEndsOf_51 (by decide) ?_
      exact ih (uB_comings (uB_comers σ (vp_updL (sB_comers σ) (Int32.toNatClampNeg r3) ((sB_comers σ (Int32.toNatClampNeg r3)) ||| (f_BlockRuler_only v1)))) (upd (sB_comings σ) (Int32.toNatClampNeg r3) ((sB_comings σ (Int32.toNatClampNeg r3)) + 1))) v1 (v2 + 1) y h _ _ ls hP hD hS (lv_sub hl [2, 3, 0] rfl) k0
set_option maxHeartbeats 4000000 in
set_option maxRecDepth 100000 in
theorem c_Walk_markEndsOf (l : Launch) (dC : Nat → ClassId) (dI : Nat → Nat → Nat) (a : Nat → Nat) (cs : Nat → ClassId) (sz : Nat) (σ : SB) (v1 : Int32) (r : SB) (h : f_Walk_markEndsOf σ v1 = some r) : Met l y_Walk_markEndsOf w_Walk_markEndsOf rm_Walk_markEndsOf (va_Pc [.ref (a 2), .int v1] (fun U => U.heap.size = sz ∧ WDB dC dI a cs σ U)) (va_Qv (fun u : SB => u = r) (atB dC dI a cs (va_A (wsB a cs σ) sz)) (va_A (wsB a cs σ) sz)) 0 0 (va_A (wsB a cs σ) sz) := by
  refine Met.ofW (cc := b_Walk_markEndsOf) (maxL := 4) (ret := none) (by decide) rfl ?_
  intro p e s m args below meth c s₁ B hml hv
  obtain ⟨rfl, hsz, hP, hK, hN, hD0⟩ := hv
  have hx := B.exec
  have hb := B.bytes
  have hr := B.returns
  have hg : ∀ w ∈ G_, w.before _ s = true := fun w hw => atoms_spec (ws := w_Walk_markEndsOf) B.pre w (List.mem_cons_of_mem _ hw)
  have hown : s.vm.findClass "BlockRuler$Walk" = some m.cls := findClass_of_methodNamed B.named
  have hlocks := B.notSynchronized
  have C0 : Cx "BlockRuler$Walk" b_Walk_markEndsOf 4 p s m _ meth c := ⟨hx, hb, hml, hown, hg, hlocks⟩
  subst hsz
  have hD := hD0.self (sz := s.heap.size)
  generalize hAe : va_A (wsB a cs σ) s.heap.size = A at hD ⊢
  have hA : ∀ q : Nat, s.heap.size ≤ q → A q := fun q h => by rw [← hAe]; exact Or.inr h
  have hS : va_S A s.heap s.heap [] := va_S.rf
  have hl := lv_entry ([.ref (a 2), .int v1]) (n := 4) (Nat.le_of_ble_eq_true rfl)
  rw [lg_entry_eq]
  generalize (lg_sl ([.ref (a 2), .int v1]) ++ List.replicate (4 - (lg_sl ([.ref (a 2), .int v1])).length) Slot.unset).toArray = ls at hl ⊢
  have hl : lv_has ls 4 [(0, .ref (a 2)), (1, .int v1)] := hl
  unfold f_Walk_markEndsOf at h
  refine lv_iconst (v := 0) hx hb d_Walk_markEndsOf_0 (by decide) ?_
  refine lv_istore_n (lv' := [(2, .int 0), (0, .ref (a 2)), (1, .int v1)]) hx hb d_Walk_markEndsOf_1 rfl hl (by decide) rfl (fun ls hl => ?_)
  obtain ⟨y5, hy5, h⟩ := bd h
  refine lpW_Walk_markEndsOf_2 C0 hK hN hA 100 σ v1 0 y5 hy5 _ _ ls hP hD hS (lv_sub hl [1, 2, 0] rfl) (fun H locs ls hP hD hS hl => ?_)
  exact W.vret hx hb hr (fun t ht hW => ⟨⟨y5.2, rfl, Option.some.inj h, by rw [ht]; exact hP, hD⟩, hS.F ht⟩) hS.2.2 d_Walk_markEndsOf_54
set_option maxHeartbeats 4000000 in
set_option maxRecDepth 100000 in
theorem lpW_Walk_make_10 {p : Program} {l : Launch} {e : Env} {s : State} {m : MethodId} {args : Array Value} {below : List Frame} {meth : Method} {c : Code} {Q : State → Prop} {dC : Nat → ClassId} {dI : Nat → Nat → Nat} {a : Nat → Nat} {cs : Nat → ClassId} {A : Nat → Prop} (C0 : Cx "BlockRuler$Walk" b_Walk_make 3 p s m args meth c) (hK : va_K (dC, dI) classes (tyB cs) s) (hN : NW s) (hA : ∀ q : Nat, s.heap.size ≤ q → A q) : ∀ (n : Nat) (σ : SB) (v1 : Int32) (y : Int32 × SB), lp_Walk_make_10 n σ v1 = some y → ∀ (H : Heap) (locs : List Loc) (ls : Array Slot), va_P (dC, dI) classes (wsB a cs σ) H → va_D A (wsB a cs σ) → va_S A s.heap H locs → lv_has ls 3 [(0, .ref (a 2)), (1, .int v1)] → (∀ (H : Heap) (locs : List Loc) (ls : Array Slot), va_P (dC, dI) classes (wsB a cs y.2) H → va_D A (wsB a cs y.2) → va_S A s.heap H locs → lv_has ls 3 [(0, .ref (a 2)), (1, .int y.1)] → W p l e (headSpec w_Walk_make rm_Walk_make).room s m args below meth c H locs 0 0 Q (F0 m 42 ls [])) → W p l e (headSpec w_Walk_make rm_Walk_make).room s m args below meth c H locs 0 0 Q (F0 m 10 ls []) := by
  have C1 := C0
  obtain ⟨hx, hb, hml, hown, hg, hlocks⟩ := C1
  intro n
  induction n with
  | zero => intro σ v1 y h; exact absurd (show (none : Option (Int32 × SB)) = some y from h) (fun q => by cases q)
  | succ n ih =>
    intro σ v1 y h H locs ls hP hD hS hl k0
    rw [lp_Walk_make_10_s] at h
    refine lv_iload_n hx hb d_Walk_make_10 rfl (lv_at hl 1 rfl) ?_
    refine lv_aload_n hx hb d_Walk_make_11 rfl (lv_at hl 0 rfl) ?_
    refine va_get (D := (dC, dI)) (ci := 2) (v := .int (sB_reached σ)) (C := "BlockRuler$Walk") (T := F_Walk) (N := 9) hx hb hg i_Walk hown hK hP 2 rfl rfl 7 (by decide) (hg _ wd28) (fun _ h9 => h9) rfl d_Walk_make_12 ?_
    refine lv_icmp_ge (tgt := 42) hx hb d_Walk_make_15 (by decide) (fun c3 => ?_) (fun c3 => ?_)
    · have h := b_t h c3
      obtain rfl := Option.some.inj h
      exact k0 _ _ ls hP hD hS (lv_sub hl [0, 1] rfl)
    · have h := b_f h c3
      refine lv_aload_n hx hb d_Walk_make_18 rfl (lv_at hl 0 rfl) ?_
      refine lv_iload_n hx hb d_Walk_make_19 rfl (lv_at hl 1 rfl) ?_
      obtain ⟨r4, hr4, h⟩ := bd h
      refine ro_call (v := .int r4) (va_runV (C := "BlockRuler$Walk") (As := [.int v1]) (rest := []) ⟨hx, hb, hml, hown, hg⟩ (c_Walk_blockAt l dC dI a cs σ v1 _ hr4) (cwV 1 hg (gdV wd53 wd52 wd51 wd45 wd54) rfl rfl rfl (by decide +kernel) ⟨Nat.le_of_ble_eq_true rfl, Nat.le_of_ble_eq_true rfl⟩) ⟨wb_blind, va_recv hK hP (ci := 2) (q0 := 2) rfl rfl, fun U hU hW => ⟨rfl, wb_pre hU hW hP hK hN⟩⟩ rfl rfl hl.1 rfl (lv_room (Nat.le_of_ble_eq_true rfl)) d_Walk_make_20 ⟨Nat.zero_le _, Nat.zero_le _⟩) ?_
      refine lv_istore_n (lv' := [(2, .int r4), (0, .ref (a 2)), (1, .int v1)]) hx hb d_Walk_make_23 rfl hl (by decide) rfl (fun ls hl => ?_)
      refine lv_aload_n hx hb d_Walk_make_24 rfl (lv_at hl 1 rfl) ?_
      refine va_get (D := (dC, dI)) (ci := 2) (v := .ref (a 7)) (C := "BlockRuler$Walk") (T := F_Walk) (N := 9) hx hb hg i_Walk hown hK hP 2 rfl rfl 1 (by decide) (hg _ wd31) (fun _ h9 => h9) rfl d_Walk_make_25 ?_
      refine lv_iload_n hx hb d_Walk_make_28 rfl (lv_at hl 0 rfl) ?_
      refine lv_iload_n hx hb d_Walk_make_29 rfl (lv_at hl 2 rfl) ?_
      obtain ⟨hi5, h⟩ := gd h
      refine va_iast (f := sB_orders σ) (n := 64) hx hb hK hP hD hS 7 2 rfl rfl hi5 d_Walk_make_30 (fun H locs hP hD hS => ?_)
      have hP := va_Pe (setB_orders a cs σ (upd (sB_orders σ) (Int32.toNatClampNeg r4) v1)) hP
      have hD := va_De (setB_orders a cs σ (upd (sB_orders σ) (Int32.toNatClampNeg r4) v1)) hD
      refine lv_aload_n hx hb d_Walk_make_31 rfl (lv_at hl 1 rfl) ?_
      refine lv_iload_n hx hb d_Walk_make_32 rfl (lv_at hl 0 rfl) ?_
      obtain ⟨r6, hr6, h⟩ := bd h
      have hFc := va_free (wc := wsB a cs (uB_orders σ (upd (sB_orders σ) (Int32.toNatClampNeg r4) v1))) hD hS hA [0, 1, 2, 3, 4, 5, 6, 7, 8, 9, 10, 11, 12, 13, 14] (allB a cs (uB_orders σ (upd (sB_orders σ) (Int32.toNatClampNeg r4) v1)))
      refine va_callv (va_runV (C := "BlockRuler$Walk") (As := [.int r4]) (rest := []) ⟨hx, hb, hml, hown, hg⟩ (c_Walk_markEndsOf l dC dI a cs _ (uB_orders σ (upd (sB_orders σ) (Int32.toNatClampNeg r4) v1)) r4 _ hr6) (cwV 1 hg (gdV wd57 wd56 wd55 wd45 wd58) rfl rfl rfl (by decide +kernel) ⟨Nat.le_of_ble_eq_true rfl, Nat.le_of_ble_eq_true rfl⟩) ⟨wbz_blind, va_recv hK hP (ci := 2) (q0 := 2) rfl rfl, fun U hU hW => ⟨rfl, by rw [hU], wb_preD hU hW hP hK hN hD⟩⟩ rfl rfl hl.1 rfl (lv_room (Nat.le_of_ble_eq_true rfl)) d_Walk_make_33 ⟨Nat.zero_le _, Nat.zero_le _⟩) hS (fun q _ h => hFc q h) hFc (fun u t H locs ht hvm hw hB hz1 hk1 hS => ?_)
      obtain rfl : r6 = u := hw.symm
      have hP : va_P (dC, dI) classes (wsB a cs r6) H := by have q := hB.1; rw [ht] at q; exact q
      have hD : va_D A (wsB a cs r6) := hB.2.weaken (fun _ _ _ h => hFc _ h)
      refine lv_iinc (v := v1 + 1) (lv' := [(1, .int (v1 + 1)), (2, .int r4), (0, .ref (a 2))]) hx hb d_Walk_make_36 hl (k := 2) rfl rfl (by decide) rfl (fun ls hl => ?_)
      refine lv_goto (tgt := 10) hx hb d_Walk_make_39 (by decide) ?_
      exact ih r6 (v1 + 1) y h _ _ ls hP hD hS (lv_sub hl [2, 0] rfl) k0
set_option maxHeartbeats 4000000 in
set_option maxRecDepth 100000 in
theorem c_Walk_make (l : Launch) (dC : Nat → ClassId) (dI : Nat → Nat → Nat) (a : Nat → Nat) (cs : Nat → ClassId) (sz : Nat) (σ : SB) (r : SB) (h : f_Walk_make σ = some r) : Met l y_Walk_make w_Walk_make rm_Walk_make (va_Pc [.ref (a 2)] (fun U => U.heap.size = sz ∧ WDB dC dI a cs σ U)) (va_Qv (fun u : SB => u = r) (atB dC dI a cs (va_A (wsB a cs σ) sz)) (va_A (wsB a cs σ) sz)) 0 0 (va_A (wsB a cs σ) sz) := by
  refine Met.ofW (cc := b_Walk_make) (maxL := 3) (ret := none) (by decide) rfl ?_
  intro p e s m args below meth c s₁ B hml hv
  obtain ⟨rfl, hsz, hP, hK, hN, hD0⟩ := hv
  have hx := B.exec
  have hb := B.bytes
  have hr := B.returns
  have hg : ∀ w ∈ G_, w.before _ s = true := fun w hw => atoms_spec (ws := w_Walk_make) B.pre w (List.mem_cons_of_mem _ hw)
  have hown : s.vm.findClass "BlockRuler$Walk" = some m.cls := findClass_of_methodNamed B.named
  have hlocks := B.notSynchronized
  have C0 : Cx "BlockRuler$Walk" b_Walk_make 3 p s m _ meth c := ⟨hx, hb, hml, hown, hg, hlocks⟩
  subst hsz
  have hD := hD0.self (sz := s.heap.size)
  generalize hAe : va_A (wsB a cs σ) s.heap.size = A at hD ⊢
  have hA : ∀ q : Nat, s.heap.size ≤ q → A q := fun q h => by rw [← hAe]; exact Or.inr h
  have hS : va_S A s.heap s.heap [] := va_S.rf
  have hl := lv_entry ([.ref (a 2)]) (n := 3) (Nat.le_of_ble_eq_true rfl)
  rw [lg_entry_eq]
  generalize (lg_sl ([.ref (a 2)]) ++ List.replicate (3 - (lg_sl ([.ref (a 2)])).length) Slot.unset).toArray = ls at hl ⊢
  have hl : lv_has ls 3 [(0, .ref (a 2))] := hl
  unfold f_Walk_make at h
  refine lv_aload_n hx hb d_Walk_make_0 rfl (lv_at hl 0 rfl) ?_
  obtain ⟨r1, hr1, h⟩ := bd h
  have hFc := va_free (wc := wsB a cs σ) hD hS hA [0, 1, 2, 3, 4, 5, 6, 7, 8, 9, 10, 11, 12, 13, 14] (allB a cs σ)
  refine va_callv (va_runV (C := "BlockRuler$Walk") (As := []) (rest := []) ⟨hx, hb, hml, hown, hg⟩ (c_Walk_clear l dC dI a cs _ σ _ hr1) (cwV 0 hg (gdV wd44 wd43 wd42 wd45 wd46) rfl rfl rfl (by decide +kernel) ⟨Nat.le_of_ble_eq_true rfl, Nat.le_of_ble_eq_true rfl⟩) ⟨wbz_blind, va_recv hK hP (ci := 2) (q0 := 2) rfl rfl, fun U hU hW => ⟨rfl, by rw [hU], wb_preD hU hW hP hK hN hD⟩⟩ rfl rfl hl.1 rfl (lv_room (Nat.le_of_ble_eq_true rfl)) d_Walk_make_1 ⟨Nat.zero_le _, Nat.zero_le _⟩) hS (fun q _ h => hFc q h) hFc (fun u t H locs ht hvm hw hB hz1 hk1 hS => ?_)
  obtain rfl : r1 = u := hw.symm
  have hP : va_P (dC, dI) classes (wsB a cs r1) H := by have q := hB.1; rw [ht] at q; exact q
  have hD : va_D A (wsB a cs r1) := hB.2.weaken (fun _ _ _ h => hFc _ h)
  refine lv_aload_n hx hb d_Walk_make_4 rfl (lv_at hl 0 rfl) ?_
  obtain ⟨r2, hr2, h⟩ := bd h
  have hFc := va_free (wc := wsB a cs r1) hD hS hA [0, 1, 2, 3, 4, 5, 6, 7, 8, 9, 10, 11, 12, 13, 14] (allB a cs r1)
  refine va_callv (va_runV (C := "BlockRuler$Walk") (As := []) (rest := []) ⟨hx, hb, hml, hown, hg⟩ (c_Walk_goDeep l dC dI a cs _ r1 _ hr2) (cwV 0 hg (gdV wd49 wd48 wd47 wd45 wd50) rfl rfl rfl (by decide +kernel) ⟨Nat.le_of_ble_eq_true rfl, Nat.le_of_ble_eq_true rfl⟩) ⟨wbz_blind, va_recv hK hP (ci := 2) (q0 := 2) rfl rfl, fun U hU hW => ⟨rfl, by rw [hU], wb_preD hU hW hP hK hN hD⟩⟩ rfl rfl hl.1 rfl (lv_room (Nat.le_of_ble_eq_true rfl)) d_Walk_make_5 ⟨Nat.zero_le _, Nat.zero_le _⟩) hS (fun q _ h => hFc q h) hFc (fun u t H locs ht hvm hw hB hz1 hk1 hS => ?_)
  obtain rfl : r2 = u := hw.symm
  have hP : va_P (dC, dI) classes (wsB a cs r2) H := by have q := hB.1; rw [ht] at q; exact q
  have hD : va_D A (wsB a cs r2) := hB.2.weaken (fun _ _ _ h => hFc _ h)
  refine lv_iconst (v := 0) hx hb d_Walk_make_8 (by decide) ?_
  refine lv_istore_n (lv' := [(1, .int 0), (0, .ref (a 2))]) hx hb d_Walk_make_9 rfl hl (by decide) rfl (fun ls hl => ?_)
  obtain ⟨y7, hy7, h⟩ := bd h
  refine lpW_Walk_make_10 C0 hK hN hA 100 r2 0 y7 hy7 _ _ ls hP hD hS (lv_sub hl [1, 0] rfl) (fun H locs ls hP hD hS hl => ?_)
  exact W.vret hx hb hr (fun t ht hW => ⟨⟨y7.2, rfl, Option.some.inj h, by rw [ht]; exact hP, hD⟩, hS.F ht⟩) hS.2.2 d_Walk_make_42
end
section
-- written by wip/gen (blockruler.py)
set_option maxHeartbeats 4000000 in
set_option maxRecDepth 100000 in
theorem c_Rulers_isRuled (l : Launch) (dC : Nat → ClassId) (dI : Nat → Nat → Nat) (a : Nat → Nat) (cs : Nat → ClassId) (σ : SB) (v1 : Int32) (v2 : Int32) (r : Int32) (h : f_Rulers_isRuled σ v1 v2 = some r) : Met l y_Rulers_isRuled w_Rulers_isRuled rm_Rulers_isRuled (va_Pc [.ref (a 3), .int v1, .int v2] (WBB dC dI a cs σ)) (QcV (.int r)) 0 0 (fun _ => False) := by
  refine Met.ofW (cc := b_Rulers_isRuled) (maxL := 3) (ret := (some .boolean)) (by decide) rfl ?_
  intro p e s m args below meth c s₁ B hml hv
  obtain ⟨rfl, hP, hK, hN⟩ := hv
  have hx := B.exec
  have hb := B.bytes
  have hr := B.returns
  have hg : ∀ w ∈ G_, w.before _ s = true := fun w hw => atoms_spec (ws := w_Rulers_isRuled) B.pre w (List.mem_cons_of_mem _ hw)
  have hown : s.vm.findClass "BlockRuler$Rulers" = some m.cls := findClass_of_methodNamed B.named
  have hlocks := B.notSynchronized
  have C0 : Cx "BlockRuler$Rulers" b_Rulers_isRuled 3 p s m _ meth c := ⟨hx, hb, hml, hown, hg, hlocks⟩
  have hl := lv_entry ([.ref (a 3), .int v1, .int v2]) (n := 3) (Nat.le_of_ble_eq_true rfl)
  rw [lg_entry_eq]
  generalize (lg_sl ([.ref (a 3), .int v1, .int v2]) ++ List.replicate (3 - (lg_sl ([.ref (a 3), .int v1, .int v2])).length) Slot.unset).toArray = ls at hl ⊢
  have hl : lv_has ls 3 [(0, .ref (a 3)), (1, .int v1), (2, .int v2)] := hl
  unfold f_Rulers_isRuled at h
  refine lv_aload_n hx hb d_Rulers_isRuled_0 rfl (lv_at hl 0 rfl) ?_
  refine va_get (D := (dC, dI)) (ci := 3) (v := .ref (a 13)) (C := "BlockRuler$Rulers") (T := F_Rulers) (N := 2) hx hb hg i_Rulers hown hK hP 3 rfl rfl 1 (by decide) (hg _ wd59) (fun _ h9 => h9) rfl d_Rulers_isRuled_1 ?_
  refine lv_iload_n hx hb d_Rulers_isRuled_4 rfl (lv_at hl 2 rfl) ?_
  obtain ⟨hi1, h⟩ := gd h
  refine va_lald (f := sB_rof σ) (n := 64) hx hb hK hP 13 8 rfl rfl hi1 d_Rulers_isRuled_5 ?_
  refine lv_iload_n hx hb d_Rulers_isRuled_6 rfl (lv_at hl 1 rfl) ?_
  refine ro_call (v := .int (f_BlockRuler_holds (sB_rof σ (Int32.toNatClampNeg v2)) v1)) (va_runSN (As := [.long (sB_rof σ (Int32.toNatClampNeg v2)), .int v1]) (rest := []) ⟨hx, hb, hml, hown, hg⟩ (c_BlockRuler_holds l (sB_rof σ (Int32.toNatClampNeg v2)) v1 _ rfl) ⟨va_cnB 2 hg (gdC wd29) rfl rfl rfl (hN _ nw2) (hg _ wd22) (by decide +kernel) ⟨Nat.le_of_ble_eq_true rfl, Nat.le_of_ble_eq_true rfl⟩, hg _ wd30, trivial⟩ ⟨va_blind0, fun U hU hW => ⟨rfl, trivial⟩⟩ rfl rfl hl.1 rfl (lv_room (Nat.le_of_ble_eq_true rfl)) d_Rulers_isRuled_7 ⟨Nat.zero_le _, Nat.zero_le _⟩) ?_
  exact W.zret (v := f_BlockRuler_holds (sB_rof σ (Int32.toNatClampNeg v2)) v1) (ty := .boolean) hx hb hr (nb_BlockRuler_holds _ _) (fun t ht _ => ⟨by rw [Option.some.inj h], ht⟩) (fun q hq => by cases hq) d_Rulers_isRuled_10
set_option maxHeartbeats 4000000 in
set_option maxRecDepth 100000 in
theorem lpW_Rulers_realmOf_5 {p : Program} {l : Launch} {e : Env} {s : State} {m : MethodId} {args : Array Value} {below : List Frame} {meth : Method} {c : Code} {Q : State → Prop} {dC : Nat → ClassId} {dI : Nat → Nat → Nat} {a : Nat → Nat} {cs : Nat → ClassId} {H : Heap} {locs : List Loc} (C0 : Cx "BlockRuler$Rulers" b_Rulers_realmOf 5 p s m args meth c) (hK : va_K (dC, dI) classes (tyB cs) s) (hN : NW s) : ∀ (n : Nat) (σ : SB) (v1 : Int32) (v2 : Int64) (v4 : Int32) (y : Int64 × Int32), lp_Rulers_realmOf_5 n σ v1 v2 v4 = some y → va_P (dC, dI) classes (wsB a cs σ) H → ∀ (ls : Array Slot), lv_has ls 5 [(0, .ref (a 3)), (1, .int v1), (2, .long v2), (4, .int v4)] → (∀ (ls : Array Slot), lv_has ls 5 [(0, .ref (a 3)), (1, .int v1), (2, .long y.1), (4, .int y.2)] → W p l e (headSpec w_Rulers_realmOf rm_Rulers_realmOf).room s m args below meth c H locs 0 0 Q (F0 m 36 ls [])) → W p l e (headSpec w_Rulers_realmOf rm_Rulers_realmOf).room s m args below meth c H locs 0 0 Q (F0 m 5 ls []) := by
  have C1 := C0
  obtain ⟨hx, hb, hml, hown, hg, hlocks⟩ := C1
  intro n
  induction n with
  | zero => intro σ v1 v2 v4 y h; exact absurd (show (none : Option (Int64 × Int32)) = some y from h) (fun q => by cases q)
  | succ n ih =>
    intro σ v1 v2 v4 y h hP ls hl k0
    rw [lp_Rulers_realmOf_5_s] at h
    refine lv_iload hx hb d_Rulers_realmOf_5 (lv_at hl 3 rfl) ?_
    refine lv_bipush (v := 64) hx hb d_Rulers_realmOf_7 (by decide) ?_
    refine lv_icmp_ge (tgt := 36) hx hb d_Rulers_realmOf_9 (by decide) (fun c1 => ?_) (fun c1 => ?_)
    · have h := b_t h c1
      obtain rfl := Option.some.inj h
      exact k0 ls (lv_sub hl [0, 1, 2, 3] rfl)
    · have h := b_f h c1
      refine lv_aload_n hx hb d_Rulers_realmOf_12 rfl (lv_at hl 0 rfl) ?_
      refine lv_iload_n hx hb d_Rulers_realmOf_13 rfl (lv_at hl 1 rfl) ?_
      refine lv_iload hx hb d_Rulers_realmOf_14 (lv_at hl 3 rfl) ?_
      obtain ⟨r2, hr2, h⟩ := bd h
      refine ro_call (v := .int r2) (va_runV (C := "BlockRuler$Rulers") (As := [.int v1, .int v4]) (rest := []) ⟨hx, hb, hml, hown, hg⟩ (c_Rulers_isRuled l dC dI a cs σ v1 v4 _ hr2) (cwV 2 hg (gdV wd62 wd61 wd60 wd63 wd64) rfl rfl rfl (by decide +kernel) ⟨Nat.le_of_ble_eq_true rfl, Nat.le_of_ble_eq_true rfl⟩) ⟨wb_blind, va_recv hK hP (ci := 3) (q0 := 3) rfl rfl, fun U hU hW => ⟨rfl, wb_pre hU hW hP hK hN⟩⟩ rfl rfl hl.1 rfl (lv_room (Nat.le_of_ble_eq_true rfl)) d_Rulers_realmOf_16 ⟨Nat.zero_le _, Nat.zero_le _⟩) ?_
      refine lv_if_eq (tgt := 30) hx hb d_Rulers_realmOf_19 (by decide) (fun c3 => ?_) (fun c3 => ?_)
      · have h := b_t h c3
        refine lv_iinc (v := v4 + 1) (lv' := [(4, .int (v4 + 1)), (0, .ref (a 3)), (1, .int v1), (2, .long v2)]) hx hb d_Rulers_realmOf_30 hl (k := 3) rfl rfl (by decide) rfl (fun ls hl => ?_)
        refine lv_goto (tgt := 5) hx hb d_Rulers_realmOf_33 (by decide) ?_
        exact ih σ v1 v2 (v4 + 1) y h hP ls (lv_sub hl [1, 2, 3, 0] rfl) k0
      · have h := b_f h c3
        refine lv_lload_n hx hb d_Rulers_realmOf_22 rfl (lv_at hl 2 rfl) ?_
        refine lv_iload hx hb d_Rulers_realmOf_23 (lv_at hl 3 rfl) ?_
        refine ro_call (v := .long (f_BlockRuler_only v4)) (va_runSN (As := [.int v4]) (rest := [.long v2]) ⟨hx, hb, hml, hown, hg⟩ (c_BlockRuler_only l v4 _ rfl) ⟨va_cnB 1 hg (gdC wd35) rfl rfl rfl (hN _ nw3) (hg _ wd22) (by decide +kernel) ⟨Nat.le_of_ble_eq_true rfl, Nat.le_of_ble_eq_true rfl⟩, hg _ wd36, trivial⟩ ⟨va_blind0, fun U hU hW => ⟨rfl, trivial⟩⟩ rfl rfl hl.1 rfl (lv_room (Nat.le_of_ble_eq_true rfl)) d_Rulers_realmOf_25 ⟨Nat.zero_le _, Nat.zero_le _⟩) ?_
        refine lv_lor hx hb d_Rulers_realmOf_28 ?_
        refine lv_topl (fun x4 ex4 => ?_)
        have h := lt_ h x4 ex4
        refine lv_lstore_n (lv' := [(2, .long x4), (0, .ref (a 3)), (1, .int v1), (4, .int v4)]) hx hb d_Rulers_realmOf_29 rfl hl (by decide) rfl (fun ls hl => ?_)
        refine lv_iinc (v := v4 + 1) (lv' := [(4, .int (v4 + 1)), (2, .long x4), (0, .ref (a 3)), (1, .int v1)]) hx hb d_Rulers_realmOf_30 hl (k := 3) rfl rfl (by decide) rfl (fun ls hl => ?_)
        refine lv_goto (tgt := 5) hx hb d_Rulers_realmOf_33 (by decide) ?_
        exact ih σ v1 x4 (v4 + 1) y h hP ls (lv_sub hl [2, 3, 1, 0] rfl) k0
set_option maxHeartbeats 4000000 in
set_option maxRecDepth 100000 in
theorem c_Rulers_realmOf (l : Launch) (dC : Nat → ClassId) (dI : Nat → Nat → Nat) (a : Nat → Nat) (cs : Nat → ClassId) (σ : SB) (v1 : Int32) (r : Int64) (h : f_Rulers_realmOf σ v1 = some r) : Met l y_Rulers_realmOf w_Rulers_realmOf rm_Rulers_realmOf (va_Pc [.ref (a 3), .int v1] (WBB dC dI a cs σ)) (QcV (.long r)) 0 0 (fun _ => False) := by
  refine Met.ofW (cc := b_Rulers_realmOf) (maxL := 5) (ret := (some .long)) (by decide) rfl ?_
  intro p e s m args below meth c s₁ B hml hv
  obtain ⟨rfl, hP, hK, hN⟩ := hv
  have hx := B.exec
  have hb := B.bytes
  have hr := B.returns
  have hg : ∀ w ∈ G_, w.before _ s = true := fun w hw => atoms_spec (ws := w_Rulers_realmOf) B.pre w (List.mem_cons_of_mem _ hw)
  have hown : s.vm.findClass "BlockRuler$Rulers" = some m.cls := findClass_of_methodNamed B.named
  have hlocks := B.notSynchronized
  have C0 : Cx "BlockRuler$Rulers" b_Rulers_realmOf 5 p s m _ meth c := ⟨hx, hb, hml, hown, hg, hlocks⟩
  have hl := lv_entry ([.ref (a 3), .int v1]) (n := 5) (Nat.le_of_ble_eq_true rfl)
  rw [lg_entry_eq]
  generalize (lg_sl ([.ref (a 3), .int v1]) ++ List.replicate (5 - (lg_sl ([.ref (a 3), .int v1])).length) Slot.unset).toArray = ls at hl ⊢
  have hl : lv_has ls 5 [(0, .ref (a 3)), (1, .int v1)] := hl
  unfold f_Rulers_realmOf at h
  refine lv_lconst (v := 0) hx hb d_Rulers_realmOf_0 (by decide) ?_
  refine lv_lstore_n (lv' := [(2, .long 0), (0, .ref (a 3)), (1, .int v1)]) hx hb d_Rulers_realmOf_1 rfl hl (by decide) rfl (fun ls hl => ?_)
  refine lv_iconst (v := 0) hx hb d_Rulers_realmOf_2 (by decide) ?_
  refine lv_istore (lv' := [(4, .int 0), (2, .long 0), (0, .ref (a 3)), (1, .int v1)]) hx hb d_Rulers_realmOf_3 hl (by decide) rfl (fun ls hl => ?_)
  obtain ⟨y5, hy5, h⟩ := bd h
  refine lpW_Rulers_realmOf_5 C0 hK hN 100 σ v1 0 0 y5 hy5 hP ls (lv_sub hl [2, 3, 1, 0] rfl) (fun ls hl => ?_)
  refine lv_lload_n hx hb d_Rulers_realmOf_36 rfl (lv_at hl 2 rfl) ?_
  exact W.lret (v := y5.1) hx hb hr (fun t ht _ => ⟨by rw [Option.some.inj h], ht⟩) (fun q hq => by cases hq) d_Rulers_realmOf_37
set_option maxHeartbeats 4000000 in
set_option maxRecDepth 100000 in
theorem lpW_Rulers_edgeOf_24 {p : Program} {l : Launch} {e : Env} {s : State} {m : MethodId} {args : Array Value} {below : List Frame} {meth : Method} {c : Code} {Q : State → Prop} {dC : Nat → ClassId} {dI : Nat → Nat → Nat} {a : Nat → Nat} {cs : Nat → ClassId} {H : Heap} {locs : List Loc} (C0 : Cx "BlockRuler$Rulers" b_Rulers_edgeOf 9 p s m args meth c) (hK : va_K (dC, dI) classes (tyB cs) s) (hN : NW s) : ∀ (n : Nat) (σ : SB) (v2 : Int64) (v4 : Int64) (v6 : Int64) (v8 : Int32) (y : Int64 × Int32), lp_Rulers_edgeOf_24 n σ v2 v4 v6 v8 = some y → va_P (dC, dI) classes (wsB a cs σ) H → ∀ (ls : Array Slot), lv_has ls 9 [(0, .ref (a 3)), (2, .long v2), (4, .long v4), (6, .long v6), (8, .int v8)] → (∀ (ls : Array Slot), lv_has ls 9 [(0, .ref (a 3)), (2, .long v2), (4, .long v4), (6, .long y.1), (8, .int y.2)] → W p l e (headSpec w_Rulers_edgeOf rm_Rulers_edgeOf).room s m args below meth c H locs 0 0 Q (F0 m 74 ls [])) → W p l e (headSpec w_Rulers_edgeOf rm_Rulers_edgeOf).room s m args below meth c H locs 0 0 Q (F0 m 24 ls []) := by
  have C1 := C0
  obtain ⟨hx, hb, hml, hown, hg, hlocks⟩ := C1
  intro n
  induction n with
  | zero => intro σ v2 v4 v6 v8 y h; exact absurd (show (none : Option (Int64 × Int32)) = some y from h) (fun q => by cases q)
  | succ n ih =>
    intro σ v2 v4 v6 v8 y h hP ls hl k0
    rw [lp_Rulers_edgeOf_24_s] at h
    refine lv_iload hx hb d_Rulers_edgeOf_24 (lv_at hl 4 rfl) ?_
    refine lv_bipush (v := 64) hx hb d_Rulers_edgeOf_26 (by decide) ?_
    refine lv_icmp_ge (tgt := 74) hx hb d_Rulers_edgeOf_28 (by decide) (fun c3 => ?_) (fun c3 => ?_)
    · have h := b_t h c3
      obtain rfl := Option.some.inj h
      exact k0 ls (lv_sub hl [0, 1, 2, 3, 4] rfl)
    · have h := b_f h c3
      refine lv_aload_n hx hb d_Rulers_edgeOf_31 rfl (lv_at hl 0 rfl) ?_
      refine va_get (D := (dC, dI)) (ci := 3) (v := .ref (a 2)) (C := "BlockRuler$Rulers") (T := F_Rulers) (N := 2) hx hb hg i_Rulers hown hK hP 3 rfl rfl 0 (by decide) (hg _ wd70) (fun _ h9 => h9) rfl d_Rulers_edgeOf_32 ?_
      refine va_get (D := (dC, dI)) (ci := 2) (v := .ref (a 11)) (C := "BlockRuler$Walk") (T := F_Walk) (N := 9) hx hb hg i_Walk hown hK hP 2 rfl rfl 5 (by decide) (hg _ wd71) (fun _ h9 => h9) rfl d_Rulers_edgeOf_35 ?_
      refine lv_iload hx hb d_Rulers_edgeOf_38 (lv_at hl 4 rfl) ?_
      obtain ⟨hi4, h⟩ := gd h
      refine va_lald (f := sB_comers σ) (n := 64) hx hb hK hP 11 6 rfl rfl hi4 d_Rulers_edgeOf_40 ?_
      refine lv_lload_n hx hb d_Rulers_edgeOf_41 rfl (lv_at hl 1 rfl) ?_
      refine lv_land hx hb d_Rulers_edgeOf_42 ?_
      refine lv_lconst (v := 0) hx hb d_Rulers_edgeOf_43 (by decide) ?_
      refine W.lcmp hx hb d_Rulers_edgeOf_44 ?_
      refine lv_if_eq (tgt := 68) hx hb d_Rulers_edgeOf_45 (by decide) (fun c5 => ?_) (fun c5 => ?_)
      · have h := b_t h c5
        refine lv_iinc (v := v8 + 1) (lv' := [(8, .int (v8 + 1)), (0, .ref (a 3)), (2, .long v2), (4, .long v4), (6, .long v6)]) hx hb d_Rulers_edgeOf_68 hl (k := 4) rfl rfl (by decide) rfl (fun ls hl => ?_)
        refine lv_goto (tgt := 24) hx hb d_Rulers_edgeOf_71 (by decide) ?_
        exact ih σ v2 v4 v6 (v8 + 1) y h hP ls (lv_sub hl [1, 2, 3, 4, 0] rfl) k0
      · have h := b_f h c5
        refine lv_lload hx hb d_Rulers_edgeOf_48 (lv_at hl 2 rfl) ?_
        refine lv_iload hx hb d_Rulers_edgeOf_50 (lv_at hl 4 rfl) ?_
        refine ro_call (v := .int (f_BlockRuler_holds v4 v8)) (va_runSN (As := [.long v4, .int v8]) (rest := []) ⟨hx, hb, hml, hown, hg⟩ (c_BlockRuler_holds l v4 v8 _ rfl) ⟨va_cnB 2 hg (gdC wd29) rfl rfl rfl (hN _ nw2) (hg _ wd22) (by decide +kernel) ⟨Nat.le_of_ble_eq_true rfl, Nat.le_of_ble_eq_true rfl⟩, hg _ wd30, trivial⟩ ⟨va_blind0, fun U hU hW => ⟨rfl, trivial⟩⟩ rfl rfl hl.1 rfl (lv_room (Nat.le_of_ble_eq_true rfl)) d_Rulers_edgeOf_52 ⟨Nat.zero_le _, Nat.zero_le _⟩) ?_
        refine lv_if_ne (tgt := 68) hx hb d_Rulers_edgeOf_55 (by decide) (fun c6 => ?_) (fun c6 => ?_)
        · have h := b_f h c6
          refine lv_iinc (v := v8 + 1) (lv' := [(8, .int (v8 + 1)), (0, .ref (a 3)), (2, .long v2), (4, .long v4), (6, .long v6)]) hx hb d_Rulers_edgeOf_68 hl (k := 4) rfl rfl (by decide) rfl (fun ls hl => ?_)
          refine lv_goto (tgt := 24) hx hb d_Rulers_edgeOf_71 (by decide) ?_
          exact ih σ v2 v4 v6 (v8 + 1) y h hP ls (lv_sub hl [1, 2, 3, 4, 0] rfl) k0
        · have h := b_t h c6
          refine lv_lload hx hb d_Rulers_edgeOf_58 (lv_at hl 3 rfl) ?_
          refine lv_iload hx hb d_Rulers_edgeOf_60 (lv_at hl 4 rfl) ?_
          refine ro_call (v := .long (f_BlockRuler_only v8)) (va_runSN (As := [.int v8]) (rest := [.long v6]) ⟨hx, hb, hml, hown, hg⟩ (c_BlockRuler_only l v8 _ rfl) ⟨va_cnB 1 hg (gdC wd35) rfl rfl rfl (hN _ nw3) (hg _ wd22) (by decide +kernel) ⟨Nat.le_of_ble_eq_true rfl, Nat.le_of_ble_eq_true rfl⟩, hg _ wd36, trivial⟩ ⟨va_blind0, fun U hU hW => ⟨rfl, trivial⟩⟩ rfl rfl hl.1 rfl (lv_room (Nat.le_of_ble_eq_true rfl)) d_Rulers_edgeOf_62 ⟨Nat.zero_le _, Nat.zero_le _⟩) ?_
          refine lv_lor hx hb d_Rulers_edgeOf_65 ?_
          refine lv_topl (fun x7 ex7 => ?_)
          have h := lt_ h x7 ex7
          refine lv_lstore (lv' := [(6, .long x7), (0, .ref (a 3)), (2, .long v2), (4, .long v4), (8, .int v8)]) hx hb d_Rulers_edgeOf_66 hl (by decide) rfl (fun ls hl => ?_)
          refine lv_iinc (v := v8 + 1) (lv' := [(8, .int (v8 + 1)), (6, .long x7), (0, .ref (a 3)), (2, .long v2), (4, .long v4)]) hx hb d_Rulers_edgeOf_68 hl (k := 4) rfl rfl (by decide) rfl (fun ls hl => ?_)
          refine lv_goto (tgt := 24) hx hb d_Rulers_edgeOf_71 (by decide) ?_
          exact ih σ v2 v4 x7 (v8 + 1) y h hP ls (lv_sub hl [2, 3, 4, 1, 0] rfl) k0
set_option maxHeartbeats 4000000 in
set_option maxRecDepth 100000 in
theorem c_Rulers_edgeOf (l : Launch) (dC : Nat → ClassId) (dI : Nat → Nat → Nat) (a : Nat → Nat) (cs : Nat → ClassId) (σ : SB) (v1 : Int32) (r : Int64) (h : f_Rulers_edgeOf σ v1 = some r) : Met l y_Rulers_edgeOf w_Rulers_edgeOf rm_Rulers_edgeOf (va_Pc [.ref (a 3), .int v1] (WBB dC dI a cs σ)) (QcV (.long r)) 0 0 (fun _ => False) := by
  refine Met.ofW (cc := b_Rulers_edgeOf) (maxL := 9) (ret := (some .long)) (by decide) rfl ?_
  intro p e s m args below meth c s₁ B hml hv
  obtain ⟨rfl, hP, hK, hN⟩ := hv
  have hx := B.exec
  have hb := B.bytes
  have hr := B.returns
  have hg : ∀ w ∈ G_, w.before _ s = true := fun w hw => atoms_spec (ws := w_Rulers_edgeOf) B.pre w (List.mem_cons_of_mem _ hw)
  have hown : s.vm.findClass "BlockRuler$Rulers" = some m.cls := findClass_of_methodNamed B.named
  have hlocks := B.notSynchronized
  have C0 : Cx "BlockRuler$Rulers" b_Rulers_edgeOf 9 p s m _ meth c := ⟨hx, hb, hml, hown, hg, hlocks⟩
  have hl := lv_entry ([.ref (a 3), .int v1]) (n := 9) (Nat.le_of_ble_eq_true rfl)
  rw [lg_entry_eq]
  generalize (lg_sl ([.ref (a 3), .int v1]) ++ List.replicate (9 - (lg_sl ([.ref (a 3), .int v1])).length) Slot.unset).toArray = ls at hl ⊢
  have hl : lv_has ls 9 [(0, .ref (a 3)), (1, .int v1)] := hl
  unfold f_Rulers_edgeOf at h
  refine lv_aload_n hx hb d_Rulers_edgeOf_0 rfl (lv_at hl 0 rfl) ?_
  refine lv_iload_n hx hb d_Rulers_edgeOf_1 rfl (lv_at hl 1 rfl) ?_
  obtain ⟨r1, hr1, h⟩ := bd h
  refine ro_call (v := .long r1) (va_runV (C := "BlockRuler$Rulers") (As := [.int v1]) (rest := []) ⟨hx, hb, hml, hown, hg⟩ (c_Rulers_realmOf l dC dI a cs σ v1 _ hr1) (cwV 1 hg (gdV wd67 wd66 wd65 wd63 wd68) rfl rfl rfl (by decide +kernel) ⟨Nat.le_of_ble_eq_true rfl, Nat.le_of_ble_eq_true rfl⟩) ⟨wb_blind, va_recv hK hP (ci := 3) (q0 := 3) rfl rfl, fun U hU hW => ⟨rfl, wb_pre hU hW hP hK hN⟩⟩ rfl rfl hl.1 rfl (lv_room (Nat.le_of_ble_eq_true rfl)) d_Rulers_edgeOf_2 ⟨Nat.zero_le _, Nat.zero_le _⟩) ?_
  refine lv_lstore_n (lv' := [(2, .long r1), (0, .ref (a 3)), (1, .int v1)]) hx hb d_Rulers_edgeOf_5 rfl hl (by decide) rfl (fun ls hl => ?_)
  refine lv_lload_n hx hb d_Rulers_edgeOf_6 rfl (lv_at hl 0 rfl) ?_
  refine lv_iload_n hx hb d_Rulers_edgeOf_7 rfl (lv_at hl 2 rfl) ?_
  refine ro_call (v := .long (f_BlockRuler_only v1)) (va_runSN (As := [.int v1]) (rest := [.long r1]) ⟨hx, hb, hml, hown, hg⟩ (c_BlockRuler_only l v1 _ rfl) ⟨va_cnB 1 hg (gdC wd35) rfl rfl rfl (hN _ nw3) (hg _ wd22) (by decide +kernel) ⟨Nat.le_of_ble_eq_true rfl, Nat.le_of_ble_eq_true rfl⟩, hg _ wd36, trivial⟩ ⟨va_blind0, fun U hU hW => ⟨rfl, trivial⟩⟩ rfl rfl hl.1 rfl (lv_room (Nat.le_of_ble_eq_true rfl)) d_Rulers_edgeOf_8 ⟨Nat.zero_le _, Nat.zero_le _⟩) ?_
  refine lv_ldc2 (v := -1) hx hb hown (hg _ wd69) d_Rulers_edgeOf_11 ?_
  refine lv_lxor hx hb d_Rulers_edgeOf_14 ?_
  refine lv_land hx hb d_Rulers_edgeOf_15 ?_
  refine lv_topl (fun x2 ex2 => ?_)
  have h := lt_ h x2 ex2
  refine lv_lstore (lv' := [(4, .long x2), (2, .long r1), (0, .ref (a 3)), (1, .int v1)]) hx hb d_Rulers_edgeOf_16 hl (by decide) rfl (fun ls hl => ?_)
  refine lv_lconst (v := 0) hx hb d_Rulers_edgeOf_18 (by decide) ?_
  refine lv_lstore (lv' := [(6, .long 0), (4, .long x2), (2, .long r1), (0, .ref (a 3)), (1, .int v1)]) hx hb d_Rulers_edgeOf_19 hl (by decide) rfl (fun ls hl => ?_)
  refine lv_iconst (v := 0) hx hb d_Rulers_edgeOf_21 (by decide) ?_
  refine lv_istore (lv' := [(8, .int 0), (6, .long 0), (4, .long x2), (2, .long r1), (0, .ref (a 3)), (1, .int v1)]) hx hb d_Rulers_edgeOf_22 hl (by decide) rfl (fun ls hl => ?_)
  obtain ⟨y8, hy8, h⟩ := bd h
  refine lpW_Rulers_edgeOf_24 C0 hK hN 100 σ r1 x2 0 0 y8 hy8 hP ls (lv_sub hl [4, 3, 2, 1, 0] rfl) (fun ls hl => ?_)
  refine lv_lload hx hb d_Rulers_edgeOf_74 (lv_at hl 3 rfl) ?_
  exact W.lret (v := y8.1) hx hb hr (fun t ht _ => ⟨by rw [Option.some.inj h], ht⟩) (fun q hq => by cases hq) d_Rulers_edgeOf_76
set_option maxHeartbeats 4000000 in
set_option maxRecDepth 100000 in
theorem lpW_Rulers_sharedBy_20 {p : Program} {l : Launch} {e : Env} {s : State} {m : MethodId} {args : Array Value} {below : List Frame} {meth : Method} {c : Code} {Q : State → Prop} {dC : Nat → ClassId} {dI : Nat → Nat → Nat} {a : Nat → Nat} {cs : Nat → ClassId} {H : Heap} {locs : List Loc} (C0 : Cx "BlockRuler$Rulers" b_Rulers_sharedBy 9 p s m args meth c) (hK : va_K (dC, dI) classes (tyB cs) s) (hN : NW s) : ∀ (n : Nat) (σ : SB) (v3 : Int64) (v5 : Int64) (v7 : Int32) (v8 : Int32) (y : Int64 × Int64 × Int32), lp_Rulers_sharedBy_20 n σ v3 v5 v7 v8 = some y → va_P (dC, dI) classes (wsB a cs σ) H → ∀ (ls : Array Slot), lv_has ls 9 [(0, .ref (a 3)), (3, .long v3), (5, .long v5), (7, .int v7), (8, .int v8)] → (∀ (ls : Array Slot), lv_has ls 9 [(0, .ref (a 3)), (3, .long y.1), (5, .long y.2.1), (7, .int v7), (8, .int y.2.2)] → W p l e (headSpec w_Rulers_sharedBy rm_Rulers_sharedBy).room s m args below meth c H locs 0 0 Q (F0 m 53 ls [])) → W p l e (headSpec w_Rulers_sharedBy rm_Rulers_sharedBy).room s m args below meth c H locs 0 0 Q (F0 m 20 ls []) := by
  have C1 := C0
  obtain ⟨hx, hb, hml, hown, hg, hlocks⟩ := C1
  intro n
  induction n with
  | zero => intro σ v3 v5 v7 v8 y h; exact absurd (show (none : Option (Int64 × Int64 × Int32)) = some y from h) (fun q => by cases q)
  | succ n ih =>
    intro σ v3 v5 v7 v8 y h hP ls hl k0
    rw [lp_Rulers_sharedBy_20_s] at h
    refine lv_iload hx hb d_Rulers_sharedBy_20 (lv_at hl 4 rfl) ?_
    refine lv_iload hx hb d_Rulers_sharedBy_22 (lv_at hl 3 rfl) ?_
    refine lv_icmp_ge (tgt := 53) hx hb d_Rulers_sharedBy_24 (by decide) (fun c1 => ?_) (fun c1 => ?_)
    · have h := b_t h c1
      obtain rfl := Option.some.inj h
      exact k0 ls (lv_sub hl [0, 1, 2, 3, 4] rfl)
    · have h := b_f h c1
      refine lv_lload_n hx hb d_Rulers_sharedBy_27 rfl (lv_at hl 1 rfl) ?_
      refine lv_aload_n hx hb d_Rulers_sharedBy_28 rfl (lv_at hl 0 rfl) ?_
      refine va_get (D := (dC, dI)) (ci := 3) (v := .ref (a 13)) (C := "BlockRuler$Rulers") (T := F_Rulers) (N := 2) hx hb hg i_Rulers hown hK hP 3 rfl rfl 1 (by decide) (hg _ wd59) (fun _ h9 => h9) rfl d_Rulers_sharedBy_29 ?_
      refine lv_lload hx hb d_Rulers_sharedBy_32 (lv_at hl 2 rfl) ?_
      refine ro_call (v := .int (f_BlockRuler_least v5)) (va_runSN (As := [.long v5]) (rest := [.ref (a 13), .long v3]) ⟨hx, hb, hml, hown, hg⟩ (c_BlockRuler_least l v5 _ rfl) ⟨va_cnB 1 hg (gdC wd26) rfl rfl rfl (hN _ nw4) (hg _ wd22) (by decide +kernel) ⟨Nat.le_of_ble_eq_true rfl, Nat.le_of_ble_eq_true rfl⟩, hg _ wd25, trivial⟩ ⟨va_blind0, fun U hU hW => ⟨rfl, trivial⟩⟩ rfl rfl hl.1 rfl (lv_room (Nat.le_of_ble_eq_true rfl)) d_Rulers_sharedBy_34 ⟨Nat.zero_le _, Nat.zero_le _⟩) ?_
      obtain ⟨hi2, h⟩ := gd h
      refine va_lald (f := sB_rof σ) (n := 64) hx hb hK hP 13 8 rfl rfl hi2 d_Rulers_sharedBy_37 ?_
      refine lv_land hx hb d_Rulers_sharedBy_38 ?_
      refine lv_topl (fun x3 ex3 => ?_)
      have h := lt_ h x3 ex3
      refine lv_lstore_n (lv' := [(3, .long x3), (0, .ref (a 3)), (5, .long v5), (7, .int v7), (8, .int v8)]) hx hb d_Rulers_sharedBy_39 rfl hl (by decide) rfl (fun ls hl => ?_)
      refine lv_lload hx hb d_Rulers_sharedBy_40 (lv_at hl 2 rfl) ?_
      refine ro_call (v := .long (f_BlockRuler_withoutLeast v5)) (va_runSN (As := [.long v5]) (rest := []) ⟨hx, hb, hml, hown, hg⟩ (c_BlockRuler_withoutLeast l v5 _ rfl) ⟨va_cnB 1 hg (gdC wd23) rfl rfl rfl (hN _ nw5) (hg _ wd22) (by decide +kernel) ⟨Nat.le_of_ble_eq_true rfl, Nat.le_of_ble_eq_true rfl⟩, hg _ wd21, trivial⟩ ⟨va_blind0, fun U hU hW => ⟨rfl, trivial⟩⟩ rfl rfl hl.1 rfl (lv_room (Nat.le_of_ble_eq_true rfl)) d_Rulers_sharedBy_42 ⟨Nat.zero_le _, Nat.zero_le _⟩) ?_
      refine lv_topl (fun x4 ex4 => ?_)
      have h := lt_ h x4 ex4
      refine lv_lstore (lv' := [(5, .long x4), (3, .long x3), (0, .ref (a 3)), (7, .int v7), (8, .int v8)]) hx hb d_Rulers_sharedBy_45 hl (by decide) rfl (fun ls hl => ?_)
      refine lv_iinc (v := v8 + 1) (lv' := [(8, .int (v8 + 1)), (5, .long x4), (3, .long x3), (0, .ref (a 3)), (7, .int v7)]) hx hb d_Rulers_sharedBy_47 hl (k := 4) rfl rfl (by decide) rfl (fun ls hl => ?_)
      refine lv_goto (tgt := 20) hx hb d_Rulers_sharedBy_50 (by decide) ?_
      exact ih σ x3 x4 v7 (v8 + 1) y h hP ls (lv_sub hl [3, 2, 1, 4, 0] rfl) k0
set_option maxHeartbeats 4000000 in
set_option maxRecDepth 100000 in
theorem c_Rulers_sharedBy (l : Launch) (dC : Nat → ClassId) (dI : Nat → Nat → Nat) (a : Nat → Nat) (cs : Nat → ClassId) (σ : SB) (v1 : Int64) (r : Int64) (h : f_Rulers_sharedBy σ v1 = some r) : Met l y_Rulers_sharedBy w_Rulers_sharedBy rm_Rulers_sharedBy (va_Pc [.ref (a 3), .long v1] (WBB dC dI a cs σ)) (QcV (.long r)) 0 0 (fun _ => False) := by
  refine Met.ofW (cc := b_Rulers_sharedBy) (maxL := 9) (ret := (some .long)) (by decide) rfl ?_
  intro p e s m args below meth c s₁ B hml hv
  obtain ⟨rfl, hP, hK, hN⟩ := hv
  have hx := B.exec
  have hb := B.bytes
  have hr := B.returns
  have hg : ∀ w ∈ G_, w.before _ s = true := fun w hw => atoms_spec (ws := w_Rulers_sharedBy) B.pre w (List.mem_cons_of_mem _ hw)
  have hown : s.vm.findClass "BlockRuler$Rulers" = some m.cls := findClass_of_methodNamed B.named
  have hlocks := B.notSynchronized
  have C0 : Cx "BlockRuler$Rulers" b_Rulers_sharedBy 9 p s m _ meth c := ⟨hx, hb, hml, hown, hg, hlocks⟩
  have hl := lv_entry ([.ref (a 3), .long v1]) (n := 9) (Nat.le_of_ble_eq_true rfl)
  rw [lg_entry_eq]
  generalize (lg_sl ([.ref (a 3), .long v1]) ++ List.replicate (9 - (lg_sl ([.ref (a 3), .long v1])).length) Slot.unset).toArray = ls at hl ⊢
  have hl : lv_has ls 9 [(0, .ref (a 3)), (1, .long v1)] := hl
  unfold f_Rulers_sharedBy at h
  refine lv_aload_n hx hb d_Rulers_sharedBy_0 rfl (lv_at hl 0 rfl) ?_
  refine va_get (D := (dC, dI)) (ci := 3) (v := .ref (a 2)) (C := "BlockRuler$Rulers") (T := F_Rulers) (N := 2) hx hb hg i_Rulers hown hK hP 3 rfl rfl 0 (by decide) (hg _ wd70) (fun _ h9 => h9) rfl d_Rulers_sharedBy_1 ?_
  refine va_get (D := (dC, dI)) (ci := 2) (v := .long (sB_rset σ)) (C := "BlockRuler$Walk") (T := F_Walk) (N := 9) hx hb hg i_Walk hown hK hP 2 rfl rfl 8 (by decide) (hg _ wd72) (fun _ h9 => h9) rfl d_Rulers_sharedBy_4 ?_
  refine lv_lstore_n (lv' := [(3, .long (sB_rset σ)), (0, .ref (a 3)), (1, .long v1)]) hx hb d_Rulers_sharedBy_7 rfl hl (by decide) rfl (fun ls hl => ?_)
  refine lv_lload_n hx hb d_Rulers_sharedBy_8 rfl (lv_at hl 2 rfl) ?_
  refine lv_lstore (lv' := [(5, .long v1), (3, .long (sB_rset σ)), (0, .ref (a 3)), (1, .long v1)]) hx hb d_Rulers_sharedBy_9 hl (by decide) rfl (fun ls hl => ?_)
  refine lv_lload_n hx hb d_Rulers_sharedBy_11 rfl (lv_at hl 3 rfl) ?_
  refine ro_call (v := .int (f_Long_bitCount v1)) (va_runS (As := [.long v1]) (rest := []) ⟨hx, hb, hml, hown, hg⟩ (c_Long_bitCount l v1 _ rfl) (va_cwS 1 hg (gdSX wd73 wd17 wd18 wd19) rfl rfl rfl (by decide +kernel) ⟨Nat.le_of_ble_eq_true rfl, Nat.le_of_ble_eq_true rfl⟩) ⟨va_blind0, fun U hU hW => ⟨rfl, trivial⟩⟩ rfl rfl hl.1 rfl (lv_room (Nat.le_of_ble_eq_true rfl)) d_Rulers_sharedBy_12 ⟨Nat.zero_le _, Nat.zero_le _⟩) ?_
  refine lv_istore (lv' := [(7, .int (f_Long_bitCount v1)), (5, .long v1), (3, .long (sB_rset σ)), (0, .ref (a 3)), (1, .long v1)]) hx hb d_Rulers_sharedBy_15 hl (by decide) rfl (fun ls hl => ?_)
  refine lv_iconst (v := 0) hx hb d_Rulers_sharedBy_17 (by decide) ?_
  refine lv_istore (lv' := [(8, .int 0), (7, .int (f_Long_bitCount v1)), (5, .long v1), (3, .long (sB_rset σ)), (0, .ref (a 3)), (1, .long v1)]) hx hb d_Rulers_sharedBy_18 hl (by decide) rfl (fun ls hl => ?_)
  obtain ⟨y5, hy5, h⟩ := bd h
  refine lpW_Rulers_sharedBy_20 C0 hK hN 100 σ (sB_rset σ) v1 (f_Long_bitCount v1) 0 y5 hy5 hP ls (lv_sub hl [4, 3, 2, 1, 0] rfl) (fun ls hl => ?_)
  refine lv_lload_n hx hb d_Rulers_sharedBy_53 rfl (lv_at hl 1 rfl) ?_
  exact W.lret (v := y5.1) hx hb hr (fun t ht _ => ⟨by rw [Option.some.inj h], ht⟩) (fun q hq => by cases hq) d_Rulers_sharedBy_54
set_option maxHeartbeats 4000000 in
set_option maxRecDepth 100000 in
theorem lpW_Rulers_narrow_4 {p : Program} {l : Launch} {e : Env} {s : State} {m : MethodId} {args : Array Value} {below : List Frame} {meth : Method} {c : Code} {Q : State → Prop} {dC : Nat → ClassId} {dI : Nat → Nat → Nat} {a : Nat → Nat} {cs : Nat → ClassId} {A : Nat → Prop} (C0 : Cx "BlockRuler$Rulers" b_Rulers_narrow 6 p s m args meth c) (hK : va_K (dC, dI) classes (tyB cs) s) (hN : NW s) (hA : ∀ q : Nat, s.heap.size ≤ q → A q) : ∀ (n : Nat) (σ : SB) (v1 : Int32) (v2 : Int32) (y : Int32 × Int32 × SB), lp_Rulers_narrow_4 n σ v1 v2 = some y → ∀ (H : Heap) (locs : List Loc) (ls : Array Slot), va_P (dC, dI) classes (wsB a cs σ) H → va_D A (wsB a cs σ) → va_S A s.heap H locs → lv_has ls 6 [(0, .ref (a 3)), (1, .int v1), (2, .int v2)] → (∀ (H : Heap) (locs : List Loc) (ls : Array Slot), va_P (dC, dI) classes (wsB a cs y.2.2) H → va_D A (wsB a cs y.2.2) → va_S A s.heap H locs → lv_has ls 6 [(0, .ref (a 3)), (1, .int y.1), (2, .int y.2.1)] → W p l e (headSpec w_Rulers_narrow rm_Rulers_narrow).room s m args below meth c H locs 0 0 Q (F0 m 72 ls [])) → W p l e (headSpec w_Rulers_narrow rm_Rulers_narrow).room s m args below meth c H locs 0 0 Q (F0 m 4 ls []) := by
  have C1 := C0
  obtain ⟨hx, hb, hml, hown, hg, hlocks⟩ := C1
  intro n
  induction n with
  | zero => intro σ v1 v2 y h; exact absurd (show (none : Option (Int32 × Int32 × SB)) = some y from h) (fun q => by cases q)
  | succ n ih =>
    intro σ v1 v2 y h H locs ls hP hD hS hl k0
    rw [lp_Rulers_narrow_4_s] at h
    refine lv_iload_n hx hb d_Rulers_narrow_4 rfl (lv_at hl 2 rfl) ?_
    refine lv_aload_n hx hb d_Rulers_narrow_5 rfl (lv_at hl 0 rfl) ?_
    refine va_get (D := (dC, dI)) (ci := 3) (v := .ref (a 2)) (C := "BlockRuler$Rulers") (T := F_Rulers) (N := 2) hx hb hg i_Rulers hown hK hP 3 rfl rfl 0 (by decide) (hg _ wd70) (fun _ h9 => h9) rfl d_Rulers_narrow_6 ?_
    refine va_get (D := (dC, dI)) (ci := 2) (v := .int (sB_reached σ)) (C := "BlockRuler$Walk") (T := F_Walk) (N := 9) hx hb hg i_Walk hown hK hP 2 rfl rfl 7 (by decide) (hg _ wd74) (fun _ h9 => h9) rfl d_Rulers_narrow_9 ?_
    refine lv_icmp_ge (tgt := 72) hx hb d_Rulers_narrow_12 (by decide) (fun c1 => ?_) (fun c1 => ?_)
    · have h := b_t h c1
      obtain rfl := Option.some.inj h
      exact k0 _ _ ls hP hD hS (lv_sub hl [0, 1, 2] rfl)
    · have h := b_f h c1
      refine lv_aload_n hx hb d_Rulers_narrow_15 rfl (lv_at hl 0 rfl) ?_
      refine va_get (D := (dC, dI)) (ci := 3) (v := .ref (a 2)) (C := "BlockRuler$Rulers") (T := F_Rulers) (N := 2) hx hb hg i_Rulers hown hK hP 3 rfl rfl 0 (by decide) (hg _ wd70) (fun _ h9 => h9) rfl d_Rulers_narrow_16 ?_
      refine lv_iload_n hx hb d_Rulers_narrow_19 rfl (lv_at hl 2 rfl) ?_
      obtain ⟨r2, hr2, h⟩ := bd h
      refine ro_call (v := .int r2) (va_runV (C := "BlockRuler$Walk") (As := [.int v2]) (rest := []) ⟨hx, hb, hml, hown, hg⟩ (c_Walk_blockAt l dC dI a cs σ v2 _ hr2) (cwV 1 hg (gdV wd75 wd52 wd51 wd45 wd54) rfl rfl rfl (by decide +kernel) ⟨Nat.le_of_ble_eq_true rfl, Nat.le_of_ble_eq_true rfl⟩) ⟨wb_blind, va_recv hK hP (ci := 2) (q0 := 2) rfl rfl, fun U hU hW => ⟨rfl, wb_pre hU hW hP hK hN⟩⟩ rfl rfl hl.1 rfl (lv_room (Nat.le_of_ble_eq_true rfl)) d_Rulers_narrow_20 ⟨Nat.zero_le _, Nat.zero_le _⟩) ?_
      refine lv_istore_n (lv' := [(3, .int r2), (0, .ref (a 3)), (1, .int v1), (2, .int v2)]) hx hb d_Rulers_narrow_23 rfl hl (by decide) rfl (fun ls hl => ?_)
      refine lv_aload_n hx hb d_Rulers_narrow_24 rfl (lv_at hl 1 rfl) ?_
      refine lv_aload_n hx hb d_Rulers_narrow_25 rfl (lv_at hl 1 rfl) ?_
      refine va_get (D := (dC, dI)) (ci := 3) (v := .ref (a 2)) (C := "BlockRuler$Rulers") (T := F_Rulers) (N := 2) hx hb hg i_Rulers hown hK hP 3 rfl rfl 0 (by decide) (hg _ wd70) (fun _ h9 => h9) rfl d_Rulers_narrow_26 ?_
      refine va_get (D := (dC, dI)) (ci := 2) (v := .ref (a 11)) (C := "BlockRuler$Walk") (T := F_Walk) (N := 9) hx hb hg i_Walk hown hK hP 2 rfl rfl 5 (by decide) (hg _ wd71) (fun _ h9 => h9) rfl d_Rulers_narrow_29 ?_
      refine lv_iload_n hx hb d_Rulers_narrow_32 rfl (lv_at hl 0 rfl) ?_
      obtain ⟨hi3, h⟩ := gd h
      refine va_lald (f := sB_comers σ) (n := 64) hx hb hK hP 11 6 rfl rfl hi3 d_Rulers_narrow_33 ?_
      obtain ⟨r4, hr4, h⟩ := bd h
      refine ro_call (v := .long r4) (va_runV (C := "BlockRuler$Rulers") (As := [.long (sB_comers σ (Int32.toNatClampNeg r2))]) (rest := []) ⟨hx, hb, hml, hown, hg⟩ (c_Rulers_sharedBy l dC dI a cs σ (sB_comers σ (Int32.toNatClampNeg r2)) _ hr4) (cwV 1 hg (gdV wd78 wd77 wd76 wd63 wd79) rfl rfl rfl (by decide +kernel) ⟨Nat.le_of_ble_eq_true rfl, Nat.le_of_ble_eq_true rfl⟩) ⟨wb_blind, va_recv hK hP (ci := 3) (q0 := 3) rfl rfl, fun U hU hW => ⟨rfl, wb_pre hU hW hP hK hN⟩⟩ rfl rfl hl.1 rfl (lv_room (Nat.le_of_ble_eq_true rfl)) d_Rulers_narrow_34 ⟨Nat.zero_le _, Nat.zero_le _⟩) ?_
      refine lv_iload_n hx hb d_Rulers_narrow_37 rfl (lv_at hl 0 rfl) ?_
      refine ro_call (v := .long (f_BlockRuler_only r2)) (va_runSN (As := [.int r2]) (rest := [.long r4]) ⟨hx, hb, hml, hown, hg⟩ (c_BlockRuler_only l r2 _ rfl) ⟨va_cnB 1 hg (gdC wd35) rfl rfl rfl (hN _ nw3) (hg _ wd22) (by decide +kernel) ⟨Nat.le_of_ble_eq_true rfl, Nat.le_of_ble_eq_true rfl⟩, hg _ wd36, trivial⟩ ⟨va_blind0, fun U hU hW => ⟨rfl, trivial⟩⟩ rfl rfl hl.1 rfl (lv_room (Nat.le_of_ble_eq_true rfl)) d_Rulers_narrow_38 ⟨Nat.zero_le _, Nat.zero_le _⟩) ?_
      refine lv_lor hx hb d_Rulers_narrow_41 ?_
      refine lv_topl (fun x5 ex5 => ?_)
      have h := lt_ h x5 ex5
      refine lv_lstore (lv' := [(4, .long x5), (3, .int r2), (0, .ref (a 3)), (1, .int v1), (2, .int v2)]) hx hb d_Rulers_narrow_42 hl (by decide) rfl (fun ls hl => ?_)
      refine lv_lload hx hb d_Rulers_narrow_44 (lv_at hl 0 rfl) ?_
      refine lv_aload_n hx hb d_Rulers_narrow_46 rfl (lv_at hl 2 rfl) ?_
      refine va_get (D := (dC, dI)) (ci := 3) (v := .ref (a 13)) (C := "BlockRuler$Rulers") (T := F_Rulers) (N := 2) hx hb hg i_Rulers hown hK hP 3 rfl rfl 1 (by decide) (hg _ wd59) (fun _ h9 => h9) rfl d_Rulers_narrow_47 ?_
      refine lv_iload_n hx hb d_Rulers_narrow_50 rfl (lv_at hl 1 rfl) ?_
      refine va_lald (f := sB_rof σ) (n := 64) hx hb hK hP 13 8 rfl rfl hi3 d_Rulers_narrow_51 ?_
      refine W.lcmp hx hb d_Rulers_narrow_52 ?_
      refine lv_if_eq (tgt := 66) hx hb d_Rulers_narrow_53 (by decide) (fun c6 => ?_) (fun c6 => ?_)
      · have h := b_t h c6
        refine lv_iinc (v := v2 + 1) (lv' := [(2, .int (v2 + 1)), (4, .long x5), (3, .int r2), (0, .ref (a 3)), (1, .int v1)]) hx hb d_Rulers_narrow_66 hl (k := 4) rfl rfl (by decide) rfl (fun ls hl => ?_)
        refine lv_goto (tgt := 4) hx hb d_Rulers_narrow_69 (by decide) ?_
        exact ih σ v1 (v2 + 1) y h _ _ ls hP hD hS (lv_sub hl [3, 4, 0] rfl) k0
      · have h := b_f h c6
        refine lv_aload_n hx hb d_Rulers_narrow_56 rfl (lv_at hl 2 rfl) ?_
        refine va_get (D := (dC, dI)) (ci := 3) (v := .ref (a 13)) (C := "BlockRuler$Rulers") (T := F_Rulers) (N := 2) hx hb hg i_Rulers hown hK hP 3 rfl rfl 1 (by decide) (hg _ wd59) (fun _ h9 => h9) rfl d_Rulers_narrow_57 ?_
        refine lv_iload_n hx hb d_Rulers_narrow_60 rfl (lv_at hl 1 rfl) ?_
        refine lv_lload hx hb d_Rulers_narrow_61 (lv_at hl 0 rfl) ?_
        refine va_last (f := sB_rof σ) (n := 64) hx hb hK hP hD hS 13 8 rfl rfl hi3 d_Rulers_narrow_63 (fun H locs hP hD hS => ?_)
        have hP := va_Pe (setB_rof a cs σ (vp_updL (sB_rof σ) (Int32.toNatClampNeg r2) x5)) hP
        have hD := va_De (setB_rof a cs σ (vp_updL (sB_rof σ) (Int32.toNatClampNeg r2) x5)) hD
        refine lv_iconst (v := 1) hx hb d_Rulers_narrow_64 (by decide) ?_
        refine lv_istore_n (lv' := [(1, .int 1), (4, .long x5), (3, .int r2), (0, .ref (a 3)), (2, .int v2)]) hx hb d_Rulers_narrow_65 rfl hl (by decide) rfl (fun ls hl => ?_)
        refine lv_iinc (v := v2 + 1) (lv' := [(2, .int (v2 + 1)), (1, .int 1), (4, .long x5), (3, .int r2), (0, .ref (a 3))]) hx hb d_Rulers_narrow_66 hl (k := 4) rfl rfl (by decide) rfl (fun ls hl => ?_)
        refine lv_goto (tgt := 4) hx hb d_Rulers_narrow_69 (by decide) ?_
        exact ih (uB_rof σ (vp_updL (sB_rof σ) (Int32.toNatClampNeg r2) x5)) 1 (v2 + 1) y h _ _ ls hP hD hS (lv_sub hl [4, 1, 0] rfl) k0
set_option maxHeartbeats 4000000 in
set_option maxRecDepth 100000 in
theorem c_Rulers_narrow (l : Launch) (dC : Nat → ClassId) (dI : Nat → Nat → Nat) (a : Nat → Nat) (cs : Nat → ClassId) (sz : Nat) (σ : SB) (r : Int32 × SB) (h : f_Rulers_narrow σ = some r) : Met l y_Rulers_narrow w_Rulers_narrow rm_Rulers_narrow (va_Pc [.ref (a 3)] (fun U => U.heap.size = sz ∧ WDB dC dI a cs σ U)) (va_Qi (fun (x : Int32) (u : SB) => (x, u) = r) (atB dC dI a cs (va_A (wsB a cs σ) sz)) (va_A (wsB a cs σ) sz)) 0 0 (va_A (wsB a cs σ) sz) := by
  refine Met.ofW (cc := b_Rulers_narrow) (maxL := 6) (ret := (some .boolean)) (by decide) rfl ?_
  intro p e s m args below meth c s₁ B hml hv
  obtain ⟨rfl, hsz, hP, hK, hN, hD0⟩ := hv
  have hx := B.exec
  have hb := B.bytes
  have hr := B.returns
  have hg : ∀ w ∈ G_, w.before _ s = true := fun w hw => atoms_spec (ws := w_Rulers_narrow) B.pre w (List.mem_cons_of_mem _ hw)
  have hown : s.vm.findClass "BlockRuler$Rulers" = some m.cls := findClass_of_methodNamed B.named
  have hlocks := B.notSynchronized
  have C0 : Cx "BlockRuler$Rulers" b_Rulers_narrow 6 p s m _ meth c := ⟨hx, hb, hml, hown, hg, hlocks⟩
  subst hsz
  have hD := hD0.self (sz := s.heap.size)
  generalize hAe : va_A (wsB a cs σ) s.heap.size = A at hD ⊢
  have hA : ∀ q : Nat, s.heap.size ≤ q → A q := fun q h => by rw [← hAe]; exact Or.inr h
  have hS : va_S A s.heap s.heap [] := va_S.rf
  have hl := lv_entry ([.ref (a 3)]) (n := 6) (Nat.le_of_ble_eq_true rfl)
  rw [lg_entry_eq]
  generalize (lg_sl ([.ref (a 3)]) ++ List.replicate (6 - (lg_sl ([.ref (a 3)])).length) Slot.unset).toArray = ls at hl ⊢
  have hl : lv_has ls 6 [(0, .ref (a 3))] := hl
  unfold f_Rulers_narrow at h
  refine lv_iconst (v := 0) hx hb d_Rulers_narrow_0 (by decide) ?_
  refine lv_istore_n (lv' := [(1, .int 0), (0, .ref (a 3))]) hx hb d_Rulers_narrow_1 rfl hl (by decide) rfl (fun ls hl => ?_)
  refine lv_iconst (v := 1) hx hb d_Rulers_narrow_2 (by decide) ?_
  refine lv_istore_n (lv' := [(2, .int 1), (1, .int 0), (0, .ref (a 3))]) hx hb d_Rulers_narrow_3 rfl hl (by decide) rfl (fun ls hl => ?_)
  obtain ⟨y7, hy7, h⟩ := bd h
  refine lpW_Rulers_narrow_4 C0 hK hN hA 100 σ 0 1 y7 hy7 _ _ ls hP hD hS (lv_sub hl [2, 1, 0] rfl) (fun H locs ls hP hD hS hl => ?_)
  refine lv_iload_n hx hb d_Rulers_narrow_72 rfl (lv_at hl 1 rfl) ?_
  obtain ⟨hz8, h⟩ := gz h
  exact W.zret (ty := .boolean) (v := y7.1) hx hb hr hz8 (fun t ht hW => ⟨⟨y7.1, y7.2.2, rfl, Option.some.inj h, by rw [ht]; exact hP, hD⟩, hS.F ht⟩) hS.2.2 d_Rulers_narrow_73
set_option maxHeartbeats 4000000 in
set_option maxRecDepth 100000 in
theorem lpW_Rulers_make_2 {p : Program} {l : Launch} {e : Env} {s : State} {m : MethodId} {args : Array Value} {below : List Frame} {meth : Method} {c : Code} {Q : State → Prop} {dC : Nat → ClassId} {dI : Nat → Nat → Nat} {a : Nat → Nat} {cs : Nat → ClassId} {A : Nat → Prop} (C0 : Cx "BlockRuler$Rulers" b_Rulers_make 3 p s m args meth c) (hK : va_K (dC, dI) classes (tyB cs) s) (hN : NW s) (hA : ∀ q : Nat, s.heap.size ≤ q → A q) : ∀ (n : Nat) (σ : SB) (v1 : Int32) (y : Int32 × SB), lp_Rulers_make_2 n σ v1 = some y → ∀ (H : Heap) (locs : List Loc) (ls : Array Slot), va_P (dC, dI) classes (wsB a cs σ) H → va_D A (wsB a cs σ) → va_S A s.heap H locs → lv_has ls 3 [(0, .ref (a 3)), (1, .int v1)] → (∀ (H : Heap) (locs : List Loc) (ls : Array Slot), va_P (dC, dI) classes (wsB a cs y.2) H → va_D A (wsB a cs y.2) → va_S A s.heap H locs → lv_has ls 3 [(0, .ref (a 3)), (1, .int y.1)] → W p l e (headSpec w_Rulers_make rm_Rulers_make).room s m args below meth c H locs 0 0 Q (F0 m 45 ls [])) → W p l e (headSpec w_Rulers_make rm_Rulers_make).room s m args below meth c H locs 0 0 Q (F0 m 2 ls []) := by
  have C1 := C0
  obtain ⟨hx, hb, hml, hown, hg, hlocks⟩ := C1
  intro n
  induction n with
  | zero => intro σ v1 y h; exact absurd (show (none : Option (Int32 × SB)) = some y from h) (fun q => by cases q)
  | succ n ih =>
    intro σ v1 y h H locs ls hP hD hS hl k0
    rw [lp_Rulers_make_2_s] at h
    refine lv_iload_n hx hb d_Rulers_make_2 rfl (lv_at hl 1 rfl) ?_
    refine lv_bipush (v := 64) hx hb d_Rulers_make_3 (by decide) ?_
    refine lv_icmp_ge (tgt := 45) hx hb d_Rulers_make_5 (by decide) (fun c1 => ?_) (fun c1 => ?_)
    · have h := b_t h c1
      obtain rfl := Option.some.inj h
      exact k0 _ _ ls hP hD hS (lv_sub hl [0, 1] rfl)
    · have h := b_f h c1
      refine lv_aload_n hx hb d_Rulers_make_8 rfl (lv_at hl 0 rfl) ?_
      refine va_get (D := (dC, dI)) (ci := 3) (v := .ref (a 13)) (C := "BlockRuler$Rulers") (T := F_Rulers) (N := 2) hx hb hg i_Rulers hown hK hP 3 rfl rfl 1 (by decide) (hg _ wd59) (fun _ h9 => h9) rfl d_Rulers_make_9 ?_
      refine lv_iload_n hx hb d_Rulers_make_12 rfl (lv_at hl 1 rfl) ?_
      refine lv_aload_n hx hb d_Rulers_make_13 rfl (lv_at hl 0 rfl) ?_
      refine va_get (D := (dC, dI)) (ci := 3) (v := .ref (a 2)) (C := "BlockRuler$Rulers") (T := F_Rulers) (N := 2) hx hb hg i_Rulers hown hK hP 3 rfl rfl 0 (by decide) (hg _ wd70) (fun _ h9 => h9) rfl d_Rulers_make_14 ?_
      refine va_get (D := (dC, dI)) (ci := 2) (v := .long (sB_rset σ)) (C := "BlockRuler$Walk") (T := F_Walk) (N := 9) hx hb hg i_Walk hown hK hP 2 rfl rfl 8 (by decide) (hg _ wd72) (fun _ h9 => h9) rfl d_Rulers_make_17 ?_
      refine lv_iload_n hx hb d_Rulers_make_20 rfl (lv_at hl 1 rfl) ?_
      refine ro_call (v := .int (f_BlockRuler_holds (sB_rset σ) v1)) (va_runSN (As := [.long (sB_rset σ), .int v1]) (rest := [.int v1, .ref (a 13)]) ⟨hx, hb, hml, hown, hg⟩ (c_BlockRuler_holds l (sB_rset σ) v1 _ rfl) ⟨va_cnB 2 hg (gdC wd29) rfl rfl rfl (hN _ nw2) (hg _ wd22) (by decide +kernel) ⟨Nat.le_of_ble_eq_true rfl, Nat.le_of_ble_eq_true rfl⟩, hg _ wd30, trivial⟩ ⟨va_blind0, fun U hU hW => ⟨rfl, trivial⟩⟩ rfl rfl hl.1 rfl (lv_room (Nat.le_of_ble_eq_true rfl)) d_Rulers_make_21 ⟨Nat.zero_le _, Nat.zero_le _⟩) ?_
      refine lv_if_eq (tgt := 37) hx hb d_Rulers_make_24 (by decide) (fun c2 => ?_) (fun c2 => ?_)
      · have h := b_t h c2
        refine lv_lconst (v := 0) hx hb d_Rulers_make_37 (by decide) ?_
        obtain ⟨hi3, h⟩ := gd h
        refine va_last (f := sB_rof σ) (n := 64) hx hb hK hP hD hS 13 8 rfl rfl hi3 d_Rulers_make_38 (fun H locs hP hD hS => ?_)
        have hP := va_Pe (setB_rof a cs σ (vp_updL (sB_rof σ) (Int32.toNatClampNeg v1) 0)) hP
        have hD := va_De (setB_rof a cs σ (vp_updL (sB_rof σ) (Int32.toNatClampNeg v1) 0)) hD
        refine lv_iinc (v := v1 + 1) (lv' := [(1, .int (v1 + 1)), (0, .ref (a 3))]) hx hb d_Rulers_make_39 hl (k := 1) rfl rfl (by decide) rfl (fun ls hl => ?_)
        refine lv_goto (tgt := 2) hx hb d_Rulers_make_42 (by decide) ?_
        exact ih (uB_rof σ (vp_updL (sB_rof σ) (Int32.toNatClampNeg v1) 0)) (v1 + 1) y h _ _ ls hP hD hS (lv_sub hl [1, 0] rfl) k0
      · have h := b_f h c2
        refine lv_aload_n hx hb d_Rulers_make_27 rfl (lv_at hl 0 rfl) ?_
        refine va_get (D := (dC, dI)) (ci := 3) (v := .ref (a 2)) (C := "BlockRuler$Rulers") (T := F_Rulers) (N := 2) hx hb hg i_Rulers hown hK hP 3 rfl rfl 0 (by decide) (hg _ wd70) (fun _ h9 => h9) rfl d_Rulers_make_28 ?_
        refine va_get (D := (dC, dI)) (ci := 2) (v := .long (sB_rset σ)) (C := "BlockRuler$Walk") (T := F_Walk) (N := 9) hx hb hg i_Walk hown hK hP 2 rfl rfl 8 (by decide) (hg _ wd72) (fun _ h9 => h9) rfl d_Rulers_make_31 ?_
        refine lv_goto (tgt := 38) hx hb d_Rulers_make_34 (by decide) ?_
        obtain ⟨hi4, h⟩ := gd h
        refine va_last (f := sB_rof σ) (n := 64) hx hb hK hP hD hS 13 8 rfl rfl hi4 d_Rulers_make_38 (fun H locs hP hD hS => ?_)
        have hP := va_Pe (setB_rof a cs σ (vp_updL (sB_rof σ) (Int32.toNatClampNeg v1) (sB_rset σ))) hP
        have hD := va_De (setB_rof a cs σ (vp_updL (sB_rof σ) (Int32.toNatClampNeg v1) (sB_rset σ))) hD
        refine lv_iinc (v := v1 + 1) (lv' := [(1, .int (v1 + 1)), (0, .ref (a 3))]) hx hb d_Rulers_make_39 hl (k := 1) rfl rfl (by decide) rfl (fun ls hl => ?_)
        refine lv_goto (tgt := 2) hx hb d_Rulers_make_42 (by decide) ?_
        exact ih (uB_rof σ (vp_updL (sB_rof σ) (Int32.toNatClampNeg v1) (sB_rset σ))) (v1 + 1) y h _ _ ls hP hD hS (lv_sub hl [1, 0] rfl) k0
set_option maxHeartbeats 4000000 in
set_option maxRecDepth 100000 in
theorem lpW_Rulers_make_59 {p : Program} {l : Launch} {e : Env} {s : State} {m : MethodId} {args : Array Value} {below : List Frame} {meth : Method} {c : Code} {Q : State → Prop} {dC : Nat → ClassId} {dI : Nat → Nat → Nat} {a : Nat → Nat} {cs : Nat → ClassId} {A : Nat → Prop} (C0 : Cx "BlockRuler$Rulers" b_Rulers_make 3 p s m args meth c) (hK : va_K (dC, dI) classes (tyB cs) s) (hN : NW s) (hA : ∀ q : Nat, s.heap.size ≤ q → A q) : ∀ (n : Nat) (σ : SB) (v1 : Int32) (v2 : Int32) (y : Int32 × Int32 × SB), lp_Rulers_make_59 n σ v1 v2 = some y → ∀ (H : Heap) (locs : List Loc) (ls : Array Slot), va_P (dC, dI) classes (wsB a cs σ) H → va_D A (wsB a cs σ) → va_S A s.heap H locs → lv_has ls 3 [(0, .ref (a 3)), (1, .int v1), (2, .int v2)] → (∀ (H : Heap) (locs : List Loc) (ls : Array Slot), va_P (dC, dI) classes (wsB a cs y.2.2) H → va_D A (wsB a cs y.2.2) → va_S A s.heap H locs → lv_has ls 3 [(0, .ref (a 3)), (1, .int y.1), (2, .int y.2.1)] → W p l e (headSpec w_Rulers_make rm_Rulers_make).room s m args below meth c H locs 0 0 Q (F0 m 81 ls [])) → W p l e (headSpec w_Rulers_make rm_Rulers_make).room s m args below meth c H locs 0 0 Q (F0 m 59 ls []) := by
  have C1 := C0
  obtain ⟨hx, hb, hml, hown, hg, hlocks⟩ := C1
  intro n
  induction n with
  | zero => intro σ v1 v2 y h; exact absurd (show (none : Option (Int32 × Int32 × SB)) = some y from h) (fun q => by cases q)
  | succ n ih =>
    intro σ v1 v2 y h H locs ls hP hD hS hl k0
    rw [lp_Rulers_make_59_s] at h
    refine lv_iload_n hx hb d_Rulers_make_59 rfl (lv_at hl 2 rfl) ?_
    refine lv_sipush (v := 4097) hx hb d_Rulers_make_60 (by decide) ?_
    refine lv_icmp_ge (tgt := 81) hx hb d_Rulers_make_63 (by decide) (fun c7 => ?_) (fun c7 => ?_)
    · have h := b_t h c7
      obtain rfl := Option.some.inj h
      exact k0 _ _ ls hP hD hS (lv_sub hl [0, 1, 2] rfl)
    · have h := b_f h c7
      refine lv_iload_n hx hb d_Rulers_make_66 rfl (lv_at hl 1 rfl) ?_
      refine lv_if_eq (tgt := 81) hx hb d_Rulers_make_67 (by decide) (fun c8 => ?_) (fun c8 => ?_)
      · have h := b_t h c8
        obtain rfl := Option.some.inj h
        exact k0 _ _ ls hP hD hS (lv_sub hl [0, 1, 2] rfl)
      · have h := b_f h c8
        refine lv_aload_n hx hb d_Rulers_make_70 rfl (lv_at hl 0 rfl) ?_
        obtain ⟨r9, hr9, h⟩ := bd h
        have hFc := va_free (wc := wsB a cs σ) hD hS hA [0, 1, 2, 3, 4, 5, 6, 7, 8, 9, 10, 11, 12, 13, 14] (allB a cs σ)
        refine va_calli (va_runV (C := "BlockRuler$Rulers") (As := []) (rest := []) ⟨hx, hb, hml, hown, hg⟩ (c_Rulers_narrow l dC dI a cs _ σ _ hr9) (cwV 0 hg (gdV wd82 wd81 wd80 wd63 wd83) rfl rfl rfl (by decide +kernel) ⟨Nat.le_of_ble_eq_true rfl, Nat.le_of_ble_eq_true rfl⟩) ⟨wbz_blind, va_recv hK hP (ci := 3) (q0 := 3) rfl rfl, fun U hU hW => ⟨rfl, by rw [hU], wb_preD hU hW hP hK hN hD⟩⟩ rfl rfl hl.1 rfl (lv_room (Nat.le_of_ble_eq_true rfl)) d_Rulers_make_71 ⟨Nat.zero_le _, Nat.zero_le _⟩) hS (fun q _ h => hFc q h) hFc (fun rv u t H locs ht hvm hw hB hz1 hk1 hS => ?_)
        obtain rfl : r9.1 = rv := (congrArg Prod.fst hw).symm
        obtain rfl : r9.2 = u := (congrArg Prod.snd hw).symm
        have hP : va_P (dC, dI) classes (wsB a cs r9.2) H := by have q := hB.1; rw [ht] at q; exact q
        have hD : va_D A (wsB a cs r9.2) := hB.2.weaken (fun _ _ _ h => hFc _ h)
        refine lv_istore_n (lv' := [(1, .int r9.1), (0, .ref (a 3)), (2, .int v2)]) hx hb d_Rulers_make_74 rfl hl (by decide) rfl (fun ls hl => ?_)
        refine lv_iinc (v := v2 + 1) (lv' := [(2, .int (v2 + 1)), (1, .int r9.1), (0, .ref (a 3))]) hx hb d_Rulers_make_75 hl (k := 2) rfl rfl (by decide) rfl (fun ls hl => ?_)
        refine lv_goto (tgt := 59) hx hb d_Rulers_make_78 (by decide) ?_
        exact ih r9.2 r9.1 (v2 + 1) y h _ _ ls hP hD hS (lv_sub hl [2, 1, 0] rfl) k0
set_option maxHeartbeats 4000000 in
set_option maxRecDepth 100000 in
theorem c_Rulers_make (l : Launch) (dC : Nat → ClassId) (dI : Nat → Nat → Nat) (a : Nat → Nat) (cs : Nat → ClassId) (sz : Nat) (σ : SB) (r : SB) (h : f_Rulers_make σ = some r) : Met l y_Rulers_make w_Rulers_make rm_Rulers_make (va_Pc [.ref (a 3)] (fun U => U.heap.size = sz ∧ WDB dC dI a cs σ U)) (va_Qv (fun u : SB => u = r) (atB dC dI a cs (va_A (wsB a cs σ) sz)) (va_A (wsB a cs σ) sz)) 0 0 (va_A (wsB a cs σ) sz) := by
  refine Met.ofW (cc := b_Rulers_make) (maxL := 3) (ret := none) (by decide) rfl ?_
  intro p e s m args below meth c s₁ B hml hv
  obtain ⟨rfl, hsz, hP, hK, hN, hD0⟩ := hv
  have hx := B.exec
  have hb := B.bytes
  have hr := B.returns
  have hg : ∀ w ∈ G_, w.before _ s = true := fun w hw => atoms_spec (ws := w_Rulers_make) B.pre w (List.mem_cons_of_mem _ hw)
  have hown : s.vm.findClass "BlockRuler$Rulers" = some m.cls := findClass_of_methodNamed B.named
  have hlocks := B.notSynchronized
  have C0 : Cx "BlockRuler$Rulers" b_Rulers_make 3 p s m _ meth c := ⟨hx, hb, hml, hown, hg, hlocks⟩
  subst hsz
  have hD := hD0.self (sz := s.heap.size)
  generalize hAe : va_A (wsB a cs σ) s.heap.size = A at hD ⊢
  have hA : ∀ q : Nat, s.heap.size ≤ q → A q := fun q h => by rw [← hAe]; exact Or.inr h
  have hS : va_S A s.heap s.heap [] := va_S.rf
  have hl := lv_entry ([.ref (a 3)]) (n := 3) (Nat.le_of_ble_eq_true rfl)
  rw [lg_entry_eq]
  generalize (lg_sl ([.ref (a 3)]) ++ List.replicate (3 - (lg_sl ([.ref (a 3)])).length) Slot.unset).toArray = ls at hl ⊢
  have hl : lv_has ls 3 [(0, .ref (a 3))] := hl
  unfold f_Rulers_make at h
  refine lv_iconst (v := 0) hx hb d_Rulers_make_0 (by decide) ?_
  refine lv_istore_n (lv' := [(1, .int 0), (0, .ref (a 3))]) hx hb d_Rulers_make_1 rfl hl (by decide) rfl (fun ls hl => ?_)
  obtain ⟨y5, hy5, h⟩ := bd h
  refine lpW_Rulers_make_2 C0 hK hN hA 5000 σ 0 y5 hy5 _ _ ls hP hD hS (lv_sub hl [1, 0] rfl) (fun H locs ls hP hD hS hl => ?_)
  refine lv_aload_n hx hb d_Rulers_make_45 rfl (lv_at hl 0 rfl) ?_
  refine va_get (D := (dC, dI)) (ci := 3) (v := .ref (a 13)) (C := "BlockRuler$Rulers") (T := F_Rulers) (N := 2) hx hb hg i_Rulers hown hK hP 3 rfl rfl 1 (by decide) (hg _ wd59) (fun _ h9 => h9) rfl d_Rulers_make_46 ?_
  refine lv_iconst (v := 0) hx hb d_Rulers_make_49 (by decide) ?_
  refine lv_iconst (v := 0) hx hb d_Rulers_make_50 (by decide) ?_
  refine ro_call (v := .long (f_BlockRuler_only 0)) (va_runSN (As := [.int 0]) (rest := [.int 0, .ref (a 13)]) ⟨hx, hb, hml, hown, hg⟩ (c_BlockRuler_only l 0 _ rfl) ⟨va_cnB 1 hg (gdC wd35) rfl rfl rfl (hN _ nw3) (hg _ wd22) (by decide +kernel) ⟨Nat.le_of_ble_eq_true rfl, Nat.le_of_ble_eq_true rfl⟩, hg _ wd36, trivial⟩ ⟨va_blind0, fun U hU hW => ⟨rfl, trivial⟩⟩ rfl rfl hl.1 rfl (lv_room (Nat.le_of_ble_eq_true rfl)) d_Rulers_make_51 ⟨Nat.zero_le _, Nat.zero_le _⟩) ?_
  obtain ⟨hi6, h⟩ := gd h
  refine va_last (f := sB_rof y5.2) (n := 64) hx hb hK hP hD hS 13 8 rfl rfl hi6 d_Rulers_make_54 (fun H locs hP hD hS => ?_)
  have hP := va_Pe (setB_rof a cs y5.2 (vp_updL (sB_rof y5.2) (Int32.toNatClampNeg 0) (f_BlockRuler_only 0))) hP
  have hD := va_De (setB_rof a cs y5.2 (vp_updL (sB_rof y5.2) (Int32.toNatClampNeg 0) (f_BlockRuler_only 0))) hD
  refine lv_iconst (v := 1) hx hb d_Rulers_make_55 (by decide) ?_
  refine lv_istore_n (lv' := [(1, .int 1), (0, .ref (a 3))]) hx hb d_Rulers_make_56 rfl hl (by decide) rfl (fun ls hl => ?_)
  refine lv_iconst (v := 0) hx hb d_Rulers_make_57 (by decide) ?_
  refine lv_istore_n (lv' := [(2, .int 0), (1, .int 1), (0, .ref (a 3))]) hx hb d_Rulers_make_58 rfl hl (by decide) rfl (fun ls hl => ?_)
  obtain ⟨y10, hy10, h⟩ := bd h
  refine lpW_Rulers_make_59 C0 hK hN hA 5000 (uB_rof y5.2 (vp_updL (sB_rof y5.2) (Int32.toNatClampNeg 0) (f_BlockRuler_only 0))) 1 0 y10 hy10 _ _ ls hP hD hS (lv_sub hl [2, 1, 0] rfl) (fun H locs ls hP hD hS hl => ?_)
  exact W.vret hx hb hr (fun t ht hW => ⟨⟨y10.2.2, rfl, Option.some.inj h, by rw [ht]; exact hP, hD⟩, hS.F ht⟩) hS.2.2 d_Rulers_make_81
end
section
-- written by wip/gen (blockruler.py)
set_option maxHeartbeats 4000000 in
set_option maxRecDepth 100000 in
theorem c_Loops_kindOf (l : Launch) (dC : Nat → ClassId) (dI : Nat → Nat → Nat) (a : Nat → Nat) (cs : Nat → ClassId) (σ : SB) (v1 : Int32) (v2 : Int32) (r : Int32) (h : f_Loops_kindOf σ v1 v2 = some r) : Met l y_Loops_kindOf w_Loops_kindOf rm_Loops_kindOf (va_Pc [.ref (a 4), .int v1, .int v2] (WBB dC dI a cs σ)) (QcV (.int r)) 0 0 (fun _ => False) := by
  refine Met.ofW (cc := b_Loops_kindOf) (maxL := 4) (ret := (some .int)) (by decide) rfl ?_
  intro p e s m args below meth c s₁ B hml hv
  obtain ⟨rfl, hP, hK, hN⟩ := hv
  have hx := B.exec
  have hb := B.bytes
  have hr := B.returns
  have hg : ∀ w ∈ G_, w.before _ s = true := fun w hw => atoms_spec (ws := w_Loops_kindOf) B.pre w (List.mem_cons_of_mem _ hw)
  have hown : s.vm.findClass "BlockRuler$Loops" = some m.cls := findClass_of_methodNamed B.named
  have hlocks := B.notSynchronized
  have C0 : Cx "BlockRuler$Loops" b_Loops_kindOf 4 p s m _ meth c := ⟨hx, hb, hml, hown, hg, hlocks⟩
  have hl := lv_entry ([.ref (a 4), .int v1, .int v2]) (n := 4) (Nat.le_of_ble_eq_true rfl)
  rw [lg_entry_eq]
  generalize (lg_sl ([.ref (a 4), .int v1, .int v2]) ++ List.replicate (4 - (lg_sl ([.ref (a 4), .int v1, .int v2])).length) Slot.unset).toArray = ls at hl ⊢
  have hl : lv_has ls 4 [(0, .ref (a 4)), (1, .int v1), (2, .int v2)] := hl
  unfold f_Loops_kindOf at h
  refine lv_aload_n hx hb d_Loops_kindOf_0 rfl (lv_at hl 0 rfl) ?_
  refine va_get (D := (dC, dI)) (ci := 4) (v := .ref (a 1)) (C := "BlockRuler$Loops") (T := F_Loops) (N := 7) hx hb hg i_Loops hown hK hP 4 rfl rfl 0 (by decide) (hg _ wd84) (fun _ h9 => h9) rfl d_Loops_kindOf_1 ?_
  refine lv_iload_n hx hb d_Loops_kindOf_4 rfl (lv_at hl 1 rfl) ?_
  refine lv_iload_n hx hb d_Loops_kindOf_5 rfl (lv_at hl 2 rfl) ?_
  obtain ⟨r1, hr1, h⟩ := bd h
  refine ro_call (v := .int r1) (va_runV (C := "BlockRuler$Web") (As := [.int v1, .int v2]) (rest := []) ⟨hx, hb, hml, hown, hg⟩ (c_Web_endOf l dC dI a cs σ v1 v2 _ hr1) (cwV 2 hg (gdV wd85 wd13 wd12 wd7 wd15) rfl rfl rfl (by decide +kernel) ⟨Nat.le_of_ble_eq_true rfl, Nat.le_of_ble_eq_true rfl⟩) ⟨wb_blind, va_recv hK hP (ci := 1) (q0 := 1) rfl rfl, fun U hU hW => ⟨rfl, wb_pre hU hW hP hK hN⟩⟩ rfl rfl hl.1 rfl (lv_room (Nat.le_of_ble_eq_true rfl)) d_Loops_kindOf_6 ⟨Nat.zero_le _, Nat.zero_le _⟩) ?_
  refine lv_istore_n (lv' := [(3, .int r1), (0, .ref (a 4)), (1, .int v1), (2, .int v2)]) hx hb d_Loops_kindOf_9 rfl hl (by decide) rfl (fun ls hl => ?_)
  refine lv_aload_n hx hb d_Loops_kindOf_10 rfl (lv_at hl 1 rfl) ?_
  refine va_get (D := (dC, dI)) (ci := 4) (v := .ref (a 2)) (C := "BlockRuler$Loops") (T := F_Loops) (N := 7) hx hb hg i_Loops hown hK hP 4 rfl rfl 1 (by decide) (hg _ wd86) (fun _ h9 => h9) rfl d_Loops_kindOf_11 ?_
  refine va_get (D := (dC, dI)) (ci := 2) (v := .ref (a 7)) (C := "BlockRuler$Walk") (T := F_Walk) (N := 9) hx hb hg i_Walk hown hK hP 2 rfl rfl 1 (by decide) (hg _ wd87) (fun _ h9 => h9) rfl d_Loops_kindOf_14 ?_
  refine lv_iload_n hx hb d_Loops_kindOf_17 rfl (lv_at hl 0 rfl) ?_
  obtain ⟨hi2, h⟩ := gd h
  refine va_iald (f := sB_orders σ) (n := 64) hx hb hK hP 7 2 rfl rfl hi2 d_Loops_kindOf_18 ?_
  refine lv_aload_n hx hb d_Loops_kindOf_19 rfl (lv_at hl 1 rfl) ?_
  refine va_get (D := (dC, dI)) (ci := 4) (v := .ref (a 2)) (C := "BlockRuler$Loops") (T := F_Loops) (N := 7) hx hb hg i_Loops hown hK hP 4 rfl rfl 1 (by decide) (hg _ wd86) (fun _ h9 => h9) rfl d_Loops_kindOf_20 ?_
  refine va_get (D := (dC, dI)) (ci := 2) (v := .ref (a 7)) (C := "BlockRuler$Walk") (T := F_Walk) (N := 9) hx hb hg i_Walk hown hK hP 2 rfl rfl 1 (by decide) (hg _ wd87) (fun _ h9 => h9) rfl d_Loops_kindOf_23 ?_
  refine lv_iload_n hx hb d_Loops_kindOf_26 rfl (lv_at hl 2 rfl) ?_
  obtain ⟨hi3, h⟩ := gd h
  refine va_iald (f := sB_orders σ) (n := 64) hx hb hK hP 7 2 rfl rfl hi3 d_Loops_kindOf_27 ?_
  refine lv_icmp_le (tgt := 33) hx hb d_Loops_kindOf_28 (by decide) (fun c4 => ?_) (fun c4 => ?_)
  · have h := b_t h c4
    refine lv_aload_n hx hb d_Loops_kindOf_33 rfl (lv_at hl 1 rfl) ?_
    refine va_get (D := (dC, dI)) (ci := 4) (v := .ref (a 3)) (C := "BlockRuler$Loops") (T := F_Loops) (N := 7) hx hb hg i_Loops hown hK hP 4 rfl rfl 2 (by decide) (hg _ wd88) (fun _ h9 => h9) rfl d_Loops_kindOf_34 ?_
    refine lv_iload_n hx hb d_Loops_kindOf_37 rfl (lv_at hl 0 rfl) ?_
    refine lv_iload_n hx hb d_Loops_kindOf_38 rfl (lv_at hl 2 rfl) ?_
    obtain ⟨r5, hr5, h⟩ := bd h
    refine ro_call (v := .int r5) (va_runV (C := "BlockRuler$Rulers") (As := [.int r1, .int v1]) (rest := []) ⟨hx, hb, hml, hown, hg⟩ (c_Rulers_isRuled l dC dI a cs σ r1 v1 _ hr5) (cwV 2 hg (gdV wd89 wd61 wd60 wd63 wd64) rfl rfl rfl (by decide +kernel) ⟨Nat.le_of_ble_eq_true rfl, Nat.le_of_ble_eq_true rfl⟩) ⟨wb_blind, va_recv hK hP (ci := 3) (q0 := 3) rfl rfl, fun U hU hW => ⟨rfl, wb_pre hU hW hP hK hN⟩⟩ rfl rfl hl.1 rfl (lv_room (Nat.le_of_ble_eq_true rfl)) d_Loops_kindOf_39 ⟨Nat.zero_le _, Nat.zero_le _⟩) ?_
    refine lv_if_eq (tgt := 49) hx hb d_Loops_kindOf_42 (by decide) (fun c6 => ?_) (fun c6 => ?_)
    · have h := b_t h c6
      refine lv_iconst (v := 2) hx hb d_Loops_kindOf_49 (by decide) ?_
      exact W.iret (v := 2) hx hb hr (fun t ht _ => ⟨by rw [Option.some.inj h], ht⟩) (fun q hq => by cases hq) d_Loops_kindOf_50
    · have h := b_f h c6
      refine lv_iconst (v := 1) hx hb d_Loops_kindOf_45 (by decide) ?_
      refine lv_goto (tgt := 50) hx hb d_Loops_kindOf_46 (by decide) ?_
      exact W.iret (v := 1) hx hb hr (fun t ht _ => ⟨by rw [Option.some.inj h], ht⟩) (fun q hq => by cases hq) d_Loops_kindOf_50
  · have h := b_f h c4
    refine lv_iconst (v := 0) hx hb d_Loops_kindOf_31 (by decide) ?_
    exact W.iret (v := 0) hx hb hr (fun t ht _ => ⟨by rw [Option.some.inj h], ht⟩) (fun q hq => by cases hq) d_Loops_kindOf_32
set_option maxHeartbeats 4000000 in
set_option maxRecDepth 100000 in
theorem lpW_Loops_depthOf_4 {p : Program} {l : Launch} {e : Env} {s : State} {m : MethodId} {args : Array Value} {below : List Frame} {meth : Method} {c : Code} {Q : State → Prop} {dC : Nat → ClassId} {dI : Nat → Nat → Nat} {a : Nat → Nat} {cs : Nat → ClassId} {H : Heap} {locs : List Loc} (C0 : Cx "BlockRuler$Loops" b_Loops_depthOf 4 p s m args meth c) (hK : va_K (dC, dI) classes (tyB cs) s) (hN : NW s) : ∀ (n : Nat) (σ : SB) (v1 : Int32) (v2 : Int32) (v3 : Int32) (y : Int32 × Int32), lp_Loops_depthOf_4 n σ v1 v2 v3 = some y → va_P (dC, dI) classes (wsB a cs σ) H → ∀ (ls : Array Slot), lv_has ls 4 [(0, .ref (a 4)), (1, .int v1), (2, .int v2), (3, .int v3)] → (∀ (ls : Array Slot), lv_has ls 4 [(0, .ref (a 4)), (1, .int v1), (2, .int y.1), (3, .int y.2)] → W p l e (headSpec w_Loops_depthOf rm_Loops_depthOf).room s m args below meth c H locs 0 0 Q (F0 m 32 ls [])) → W p l e (headSpec w_Loops_depthOf rm_Loops_depthOf).room s m args below meth c H locs 0 0 Q (F0 m 4 ls []) := by
  have C1 := C0
  obtain ⟨hx, hb, hml, hown, hg, hlocks⟩ := C1
  intro n
  induction n with
  | zero => intro σ v1 v2 v3 y h; exact absurd (show (none : Option (Int32 × Int32)) = some y from h) (fun q => by cases q)
  | succ n ih =>
    intro σ v1 v2 v3 y h hP ls hl k0
    rw [lp_Loops_depthOf_4_s] at h
    refine lv_iload_n hx hb d_Loops_depthOf_4 rfl (lv_at hl 3 rfl) ?_
    refine lv_bipush (v := 64) hx hb d_Loops_depthOf_5 (by decide) ?_
    refine lv_icmp_ge (tgt := 32) hx hb d_Loops_depthOf_7 (by decide) (fun c1 => ?_) (fun c1 => ?_)
    · have h := b_t h c1
      obtain rfl := Option.some.inj h
      exact k0 ls (lv_sub hl [0, 1, 2, 3] rfl)
    · have h := b_f h c1
      refine lv_aload_n hx hb d_Loops_depthOf_10 rfl (lv_at hl 0 rfl) ?_
      refine va_get (D := (dC, dI)) (ci := 4) (v := .ref (a 14)) (C := "BlockRuler$Loops") (T := F_Loops) (N := 7) hx hb hg i_Loops hown hK hP 4 rfl rfl 3 (by decide) (hg _ wd90) (fun _ h9 => h9) rfl d_Loops_depthOf_11 ?_
      refine lv_iload_n hx hb d_Loops_depthOf_14 rfl (lv_at hl 3 rfl) ?_
      obtain ⟨hi2, h⟩ := gd h
      refine va_lald (f := sB_lof σ) (n := 64) hx hb hK hP 14 9 rfl rfl hi2 d_Loops_depthOf_15 ?_
      refine lv_iload_n hx hb d_Loops_depthOf_16 rfl (lv_at hl 1 rfl) ?_
      refine ro_call (v := .int (f_BlockRuler_holds (sB_lof σ (Int32.toNatClampNeg v3)) v1)) (va_runSN (As := [.long (sB_lof σ (Int32.toNatClampNeg v3)), .int v1]) (rest := []) ⟨hx, hb, hml, hown, hg⟩ (c_BlockRuler_holds l (sB_lof σ (Int32.toNatClampNeg v3)) v1 _ rfl) ⟨va_cnB 2 hg (gdC wd29) rfl rfl rfl (hN _ nw6) (hg _ wd22) (by decide +kernel) ⟨Nat.le_of_ble_eq_true rfl, Nat.le_of_ble_eq_true rfl⟩, hg _ wd30, trivial⟩ ⟨va_blind0, fun U hU hW => ⟨rfl, trivial⟩⟩ rfl rfl hl.1 rfl (lv_room (Nat.le_of_ble_eq_true rfl)) d_Loops_depthOf_17 ⟨Nat.zero_le _, Nat.zero_le _⟩) ?_
      refine lv_if_eq (tgt := 26) hx hb d_Loops_depthOf_20 (by decide) (fun c3 => ?_) (fun c3 => ?_)
      · have h := b_t h c3
        refine lv_iinc (v := v3 + 1) (lv' := [(3, .int (v3 + 1)), (0, .ref (a 4)), (1, .int v1), (2, .int v2)]) hx hb d_Loops_depthOf_26 hl (k := 3) rfl rfl (by decide) rfl (fun ls hl => ?_)
        refine lv_goto (tgt := 4) hx hb d_Loops_depthOf_29 (by decide) ?_
        exact ih σ v1 v2 (v3 + 1) y h hP ls (lv_sub hl [1, 2, 3, 0] rfl) k0
      · have h := b_f h c3
        refine lv_iinc (v := v2 + 1) (lv' := [(2, .int (v2 + 1)), (0, .ref (a 4)), (1, .int v1), (3, .int v3)]) hx hb d_Loops_depthOf_23 hl (k := 2) rfl rfl (by decide) rfl (fun ls hl => ?_)
        refine lv_iinc (v := v3 + 1) (lv' := [(3, .int (v3 + 1)), (2, .int (v2 + 1)), (0, .ref (a 4)), (1, .int v1)]) hx hb d_Loops_depthOf_26 hl (k := 3) rfl rfl (by decide) rfl (fun ls hl => ?_)
        refine lv_goto (tgt := 4) hx hb d_Loops_depthOf_29 (by decide) ?_
        exact ih σ v1 (v2 + 1) (v3 + 1) y h hP ls (lv_sub hl [2, 3, 1, 0] rfl) k0
set_option maxHeartbeats 4000000 in
set_option maxRecDepth 100000 in
theorem c_Loops_depthOf (l : Launch) (dC : Nat → ClassId) (dI : Nat → Nat → Nat) (a : Nat → Nat) (cs : Nat → ClassId) (σ : SB) (v1 : Int32) (r : Int32) (h : f_Loops_depthOf σ v1 = some r) : Met l y_Loops_depthOf w_Loops_depthOf rm_Loops_depthOf (va_Pc [.ref (a 4), .int v1] (WBB dC dI a cs σ)) (QcV (.int r)) 0 0 (fun _ => False) := by
  refine Met.ofW (cc := b_Loops_depthOf) (maxL := 4) (ret := (some .int)) (by decide) rfl ?_
  intro p e s m args below meth c s₁ B hml hv
  obtain ⟨rfl, hP, hK, hN⟩ := hv
  have hx := B.exec
  have hb := B.bytes
  have hr := B.returns
  have hg : ∀ w ∈ G_, w.before _ s = true := fun w hw => atoms_spec (ws := w_Loops_depthOf) B.pre w (List.mem_cons_of_mem _ hw)
  have hown : s.vm.findClass "BlockRuler$Loops" = some m.cls := findClass_of_methodNamed B.named
  have hlocks := B.notSynchronized
  have C0 : Cx "BlockRuler$Loops" b_Loops_depthOf 4 p s m _ meth c := ⟨hx, hb, hml, hown, hg, hlocks⟩
  have hl := lv_entry ([.ref (a 4), .int v1]) (n := 4) (Nat.le_of_ble_eq_true rfl)
  rw [lg_entry_eq]
  generalize (lg_sl ([.ref (a 4), .int v1]) ++ List.replicate (4 - (lg_sl ([.ref (a 4), .int v1])).length) Slot.unset).toArray = ls at hl ⊢
  have hl : lv_has ls 4 [(0, .ref (a 4)), (1, .int v1)] := hl
  unfold f_Loops_depthOf at h
  refine lv_iconst (v := 0) hx hb d_Loops_depthOf_0 (by decide) ?_
  refine lv_istore_n (lv' := [(2, .int 0), (0, .ref (a 4)), (1, .int v1)]) hx hb d_Loops_depthOf_1 rfl hl (by decide) rfl (fun ls hl => ?_)
  refine lv_iconst (v := 0) hx hb d_Loops_depthOf_2 (by decide) ?_
  refine lv_istore_n (lv' := [(3, .int 0), (2, .int 0), (0, .ref (a 4)), (1, .int v1)]) hx hb d_Loops_depthOf_3 rfl hl (by decide) rfl (fun ls hl => ?_)
  obtain ⟨y4, hy4, h⟩ := bd h
  refine lpW_Loops_depthOf_4 C0 hK hN 100 σ v1 0 0 y4 hy4 hP ls (lv_sub hl [2, 3, 1, 0] rfl) (fun ls hl => ?_)
  refine lv_iload_n hx hb d_Loops_depthOf_32 rfl (lv_at hl 2 rfl) ?_
  exact W.iret (v := y4.1) hx hb hr (fun t ht _ => ⟨by rw [Option.some.inj h], ht⟩) (fun q hq => by cases hq) d_Loops_depthOf_33
set_option maxHeartbeats 4000000 in
set_option maxRecDepth 100000 in
theorem lpW_Loops_greatestDepth_4 {p : Program} {l : Launch} {e : Env} {s : State} {m : MethodId} {args : Array Value} {below : List Frame} {meth : Method} {c : Code} {Q : State → Prop} {dC : Nat → ClassId} {dI : Nat → Nat → Nat} {a : Nat → Nat} {cs : Nat → ClassId} {H : Heap} {locs : List Loc} (C0 : Cx "BlockRuler$Loops" b_Loops_greatestDepth 3 p s m args meth c) (hK : va_K (dC, dI) classes (tyB cs) s) (hN : NW s) : ∀ (n : Nat) (σ : SB) (v1 : Int32) (v2 : Int32) (y : Int32 × Int32), lp_Loops_greatestDepth_4 n σ v1 v2 = some y → va_P (dC, dI) classes (wsB a cs σ) H → ∀ (ls : Array Slot), lv_has ls 3 [(0, .ref (a 4)), (1, .int v1), (2, .int v2)] → (∀ (ls : Array Slot), lv_has ls 3 [(0, .ref (a 4)), (1, .int y.1), (2, .int y.2)] → W p l e (headSpec w_Loops_greatestDepth rm_Loops_greatestDepth).room s m args below meth c H locs 0 0 Q (F0 m 26 ls [])) → W p l e (headSpec w_Loops_greatestDepth rm_Loops_greatestDepth).room s m args below meth c H locs 0 0 Q (F0 m 4 ls []) := by
  have C1 := C0
  obtain ⟨hx, hb, hml, hown, hg, hlocks⟩ := C1
  intro n
  induction n with
  | zero => intro σ v1 v2 y h; exact absurd (show (none : Option (Int32 × Int32)) = some y from h) (fun q => by cases q)
  | succ n ih =>
    intro σ v1 v2 y h hP ls hl k0
    rw [lp_Loops_greatestDepth_4_s] at h
    refine lv_iload_n hx hb d_Loops_greatestDepth_4 rfl (lv_at hl 2 rfl) ?_
    refine lv_bipush (v := 64) hx hb d_Loops_greatestDepth_5 (by decide) ?_
    refine lv_icmp_ge (tgt := 26) hx hb d_Loops_greatestDepth_7 (by decide) (fun c1 => ?_) (fun c1 => ?_)
    · have h := b_t h c1
      obtain rfl := Option.some.inj h
      exact k0 ls (lv_sub hl [0, 1, 2] rfl)
    · have h := b_f h c1
      refine lv_iload_n hx hb d_Loops_greatestDepth_10 rfl (lv_at hl 1 rfl) ?_
      refine lv_aload_n hx hb d_Loops_greatestDepth_11 rfl (lv_at hl 0 rfl) ?_
      refine lv_iload_n hx hb d_Loops_greatestDepth_12 rfl (lv_at hl 2 rfl) ?_
      obtain ⟨r2, hr2, h⟩ := bd h
      refine ro_call (v := .int r2) (va_runV (C := "BlockRuler$Loops") (As := [.int v2]) (rest := [.int v1]) ⟨hx, hb, hml, hown, hg⟩ (c_Loops_depthOf l dC dI a cs σ v2 _ hr2) (cwV 1 hg (gdV wd93 wd92 wd91 wd94 wd95) rfl rfl rfl (by decide +kernel) ⟨Nat.le_of_ble_eq_true rfl, Nat.le_of_ble_eq_true rfl⟩) ⟨wb_blind, va_recv hK hP (ci := 4) (q0 := 4) rfl rfl, fun U hU hW => ⟨rfl, wb_pre hU hW hP hK hN⟩⟩ rfl rfl hl.1 rfl (lv_room (Nat.le_of_ble_eq_true rfl)) d_Loops_greatestDepth_13 ⟨Nat.zero_le _, Nat.zero_le _⟩) ?_
      refine va_mmax hx hb (by rw [hml]; exact hl.1.symm) hown (hg _ wd96) (hg _ wd97) (hg _ wd98) (hg _ wd99) (Nat.le_of_ble_eq_true rfl) (Nat.le_of_ble_eq_true rfl) (Nat.zero_le _) (Nat.zero_le _) d_Loops_greatestDepth_16 ?_
      refine lv_topi (fun x3 ex3 => ?_)
      have h := lt_ h x3 ex3
      refine lv_istore_n (lv' := [(1, .int x3), (0, .ref (a 4)), (2, .int v2)]) hx hb d_Loops_greatestDepth_19 rfl hl (by decide) rfl (fun ls hl => ?_)
      refine lv_iinc (v := v2 + 1) (lv' := [(2, .int (v2 + 1)), (1, .int x3), (0, .ref (a 4))]) hx hb d_Loops_greatestDepth_20 hl (k := 2) rfl rfl (by decide) rfl (fun ls hl => ?_)
      refine lv_goto (tgt := 4) hx hb d_Loops_greatestDepth_23 (by decide) ?_
      exact ih σ x3 (v2 + 1) y h hP ls (lv_sub hl [2, 1, 0] rfl) k0
set_option maxHeartbeats 4000000 in
set_option maxRecDepth 100000 in
theorem c_Loops_greatestDepth (l : Launch) (dC : Nat → ClassId) (dI : Nat → Nat → Nat) (a : Nat → Nat) (cs : Nat → ClassId) (σ : SB) (r : Int32) (h : f_Loops_greatestDepth σ = some r) : Met l y_Loops_greatestDepth w_Loops_greatestDepth rm_Loops_greatestDepth (va_Pc [.ref (a 4)] (WBB dC dI a cs σ)) (QcV (.int r)) 0 0 (fun _ => False) := by
  refine Met.ofW (cc := b_Loops_greatestDepth) (maxL := 3) (ret := (some .int)) (by decide) rfl ?_
  intro p e s m args below meth c s₁ B hml hv
  obtain ⟨rfl, hP, hK, hN⟩ := hv
  have hx := B.exec
  have hb := B.bytes
  have hr := B.returns
  have hg : ∀ w ∈ G_, w.before _ s = true := fun w hw => atoms_spec (ws := w_Loops_greatestDepth) B.pre w (List.mem_cons_of_mem _ hw)
  have hown : s.vm.findClass "BlockRuler$Loops" = some m.cls := findClass_of_methodNamed B.named
  have hlocks := B.notSynchronized
  have C0 : Cx "BlockRuler$Loops" b_Loops_greatestDepth 3 p s m _ meth c := ⟨hx, hb, hml, hown, hg, hlocks⟩
  have hl := lv_entry ([.ref (a 4)]) (n := 3) (Nat.le_of_ble_eq_true rfl)
  rw [lg_entry_eq]
  generalize (lg_sl ([.ref (a 4)]) ++ List.replicate (3 - (lg_sl ([.ref (a 4)])).length) Slot.unset).toArray = ls at hl ⊢
  have hl : lv_has ls 3 [(0, .ref (a 4))] := hl
  unfold f_Loops_greatestDepth at h
  refine lv_iconst (v := 0) hx hb d_Loops_greatestDepth_0 (by decide) ?_
  refine lv_istore_n (lv' := [(1, .int 0), (0, .ref (a 4))]) hx hb d_Loops_greatestDepth_1 rfl hl (by decide) rfl (fun ls hl => ?_)
  refine lv_iconst (v := 0) hx hb d_Loops_greatestDepth_2 (by decide) ?_
  refine lv_istore_n (lv' := [(2, .int 0), (1, .int 0), (0, .ref (a 4))]) hx hb d_Loops_greatestDepth_3 rfl hl (by decide) rfl (fun ls hl => ?_)
  obtain ⟨y4, hy4, h⟩ := bd h
  refine lpW_Loops_greatestDepth_4 C0 hK hN 100 σ 0 0 y4 hy4 hP ls (lv_sub hl [2, 1, 0] rfl) (fun ls hl => ?_)
  refine lv_iload_n hx hb d_Loops_greatestDepth_26 rfl (lv_at hl 1 rfl) ?_
  exact W.iret (v := y4.1) hx hb hr (fun t ht _ => ⟨by rw [Option.some.inj h], ht⟩) (fun q hq => by cases hq) d_Loops_greatestDepth_27
set_option maxHeartbeats 4000000 in
set_option maxRecDepth 100000 in
theorem lpW_Loops_innermostOf_16 {p : Program} {l : Launch} {e : Env} {s : State} {m : MethodId} {args : Array Value} {below : List Frame} {meth : Method} {c : Code} {Q : State → Prop} {dC : Nat → ClassId} {dI : Nat → Nat → Nat} {a : Nat → Nat} {cs : Nat → ClassId} {H : Heap} {locs : List Loc} (C0 : Cx "BlockRuler$Loops" b_Loops_innermostOf 7 p s m args meth c) (hK : va_K (dC, dI) classes (tyB cs) s) (hN : NW s) : ∀ (n : Nat) (σ : SB) (v1 : Int32) (v2 : Int32) (v3 : Int32) (v4 : Int32) (y : Int32 × Int32 × Int32), lp_Loops_innermostOf_16 n σ v1 v2 v3 v4 = some y → va_P (dC, dI) classes (wsB a cs σ) H → ∀ (ls : Array Slot), lv_has ls 7 [(0, .ref (a 4)), (1, .int v1), (2, .int v2), (3, .int v3), (4, .int v4)] → (∀ (ls : Array Slot), lv_has ls 7 [(0, .ref (a 4)), (1, .int v1), (2, .int y.1), (3, .int y.2.1), (4, .int y.2.2)] → W p l e (headSpec w_Loops_innermostOf rm_Loops_innermostOf).room s m args below meth c H locs 0 0 Q (F0 m 76 ls [])) → W p l e (headSpec w_Loops_innermostOf rm_Loops_innermostOf).room s m args below meth c H locs 0 0 Q (F0 m 16 ls []) := by
  have C1 := C0
  obtain ⟨hx, hb, hml, hown, hg, hlocks⟩ := C1
  intro n
  induction n with
  | zero => intro σ v1 v2 v3 v4 y h; exact absurd (show (none : Option (Int32 × Int32 × Int32)) = some y from h) (fun q => by cases q)
  | succ n ih =>
    intro σ v1 v2 v3 v4 y h hP ls hl k0
    rw [lp_Loops_innermostOf_16_s] at h
    refine lv_iload hx hb d_Loops_innermostOf_16 (lv_at hl 4 rfl) ?_
    refine lv_if_lt (tgt := 76) hx hb d_Loops_innermostOf_18 (by decide) (fun c1 => ?_) (fun c1 => ?_)
    · have h := b_t h c1
      obtain rfl := Option.some.inj h
      exact k0 ls (lv_sub hl [0, 1, 2, 3, 4] rfl)
    · have h := b_f h c1
      refine lv_aload_n hx hb d_Loops_innermostOf_21 rfl (lv_at hl 0 rfl) ?_
      refine va_get (D := (dC, dI)) (ci := 4) (v := .ref (a 2)) (C := "BlockRuler$Loops") (T := F_Loops) (N := 7) hx hb hg i_Loops hown hK hP 4 rfl rfl 1 (by decide) (hg _ wd86) (fun _ h9 => h9) rfl d_Loops_innermostOf_22 ?_
      refine lv_iload hx hb d_Loops_innermostOf_25 (lv_at hl 4 rfl) ?_
      obtain ⟨r2, hr2, h⟩ := bd h
      refine ro_call (v := .int r2) (va_runV (C := "BlockRuler$Walk") (As := [.int v4]) (rest := []) ⟨hx, hb, hml, hown, hg⟩ (c_Walk_blockAt l dC dI a cs σ v4 _ hr2) (cwV 1 hg (gdV wd101 wd52 wd51 wd45 wd54) rfl rfl rfl (by decide +kernel) ⟨Nat.le_of_ble_eq_true rfl, Nat.le_of_ble_eq_true rfl⟩) ⟨wb_blind, va_recv hK hP (ci := 2) (q0 := 2) rfl rfl, fun U hU hW => ⟨rfl, wb_pre hU hW hP hK hN⟩⟩ rfl rfl hl.1 rfl (lv_room (Nat.le_of_ble_eq_true rfl)) d_Loops_innermostOf_27 ⟨Nat.zero_le _, Nat.zero_le _⟩) ?_
      refine lv_istore (lv' := [(5, .int r2), (0, .ref (a 4)), (1, .int v1), (2, .int v2), (3, .int v3), (4, .int v4)]) hx hb d_Loops_innermostOf_30 hl (by decide) rfl (fun ls hl => ?_)
      refine lv_aload_n hx hb d_Loops_innermostOf_32 rfl (lv_at hl 1 rfl) ?_
      refine va_get (D := (dC, dI)) (ci := 4) (v := .ref (a 14)) (C := "BlockRuler$Loops") (T := F_Loops) (N := 7) hx hb hg i_Loops hown hK hP 4 rfl rfl 3 (by decide) (hg _ wd90) (fun _ h9 => h9) rfl d_Loops_innermostOf_33 ?_
      refine lv_iload hx hb d_Loops_innermostOf_36 (lv_at hl 0 rfl) ?_
      obtain ⟨hi3, h⟩ := gd h
      refine va_lald (f := sB_lof σ) (n := 64) hx hb hK hP 14 9 rfl rfl hi3 d_Loops_innermostOf_38 ?_
      refine ro_call (v := .int (f_Long_bitCount (sB_lof σ (Int32.toNatClampNeg r2)))) (va_runS (As := [.long (sB_lof σ (Int32.toNatClampNeg r2))]) (rest := []) ⟨hx, hb, hml, hown, hg⟩ (c_Long_bitCount l (sB_lof σ (Int32.toNatClampNeg r2)) _ rfl) (va_cwS 1 hg (gdSX wd102 wd17 wd18 wd19) rfl rfl rfl (by decide +kernel) ⟨Nat.le_of_ble_eq_true rfl, Nat.le_of_ble_eq_true rfl⟩) ⟨va_blind0, fun U hU hW => ⟨rfl, trivial⟩⟩ rfl rfl hl.1 rfl (lv_room (Nat.le_of_ble_eq_true rfl)) d_Loops_innermostOf_39 ⟨Nat.zero_le _, Nat.zero_le _⟩) ?_
      refine lv_topi (fun x4 ex4 => ?_)
      have h := lt_ h x4 ex4
      refine lv_istore (lv' := [(6, .int x4), (5, .int r2), (0, .ref (a 4)), (1, .int v1), (2, .int v2), (3, .int v3), (4, .int v4)]) hx hb d_Loops_innermostOf_42 hl (by decide) rfl (fun ls hl => ?_)
      refine lv_aload_n hx hb d_Loops_innermostOf_44 rfl (lv_at hl 2 rfl) ?_
      refine va_get (D := (dC, dI)) (ci := 4) (v := .ref (a 14)) (C := "BlockRuler$Loops") (T := F_Loops) (N := 7) hx hb hg i_Loops hown hK hP 4 rfl rfl 3 (by decide) (hg _ wd90) (fun _ h9 => h9) rfl d_Loops_innermostOf_45 ?_
      refine lv_iload hx hb d_Loops_innermostOf_48 (lv_at hl 1 rfl) ?_
      refine va_lald (f := sB_lof σ) (n := 64) hx hb hK hP 14 9 rfl rfl hi3 d_Loops_innermostOf_50 ?_
      refine lv_iload_n hx hb d_Loops_innermostOf_51 rfl (lv_at hl 3 rfl) ?_
      refine ro_call (v := .int (f_BlockRuler_holds (sB_lof σ (Int32.toNatClampNeg r2)) v1)) (va_runSN (As := [.long (sB_lof σ (Int32.toNatClampNeg r2)), .int v1]) (rest := []) ⟨hx, hb, hml, hown, hg⟩ (c_BlockRuler_holds l (sB_lof σ (Int32.toNatClampNeg r2)) v1 _ rfl) ⟨va_cnB 2 hg (gdC wd29) rfl rfl rfl (hN _ nw6) (hg _ wd22) (by decide +kernel) ⟨Nat.le_of_ble_eq_true rfl, Nat.le_of_ble_eq_true rfl⟩, hg _ wd30, trivial⟩ ⟨va_blind0, fun U hU hW => ⟨rfl, trivial⟩⟩ rfl rfl hl.1 rfl (lv_room (Nat.le_of_ble_eq_true rfl)) d_Loops_innermostOf_52 ⟨Nat.zero_le _, Nat.zero_le _⟩) ?_
      refine lv_if_eq (tgt := 70) hx hb d_Loops_innermostOf_55 (by decide) (fun c5 => ?_) (fun c5 => ?_)
      · have h := b_t h c5
        refine lv_iinc (v := v4 + (-1)) (lv' := [(4, .int (v4 + (-1))), (6, .int x4), (5, .int r2), (0, .ref (a 4)), (1, .int v1), (2, .int v2), (3, .int v3)]) hx hb d_Loops_innermostOf_70 hl (k := 6) rfl rfl (by decide) rfl (fun ls hl => ?_)
        refine lv_goto (tgt := 16) hx hb d_Loops_innermostOf_73 (by decide) ?_
        exact ih σ v1 v2 v3 (v4 + (-1)) y h hP ls (lv_sub hl [3, 4, 5, 6, 0] rfl) k0
      · have h := b_f h c5
        refine lv_iload hx hb d_Loops_innermostOf_58 (lv_at hl 0 rfl) ?_
        refine lv_iload_n hx hb d_Loops_innermostOf_60 rfl (lv_at hl 5 rfl) ?_
        refine lv_icmp_ge (tgt := 70) hx hb d_Loops_innermostOf_61 (by decide) (fun c6 => ?_) (fun c6 => ?_)
        · have h := b_t h c6
          refine lv_iinc (v := v4 + (-1)) (lv' := [(4, .int (v4 + (-1))), (6, .int x4), (5, .int r2), (0, .ref (a 4)), (1, .int v1), (2, .int v2), (3, .int v3)]) hx hb d_Loops_innermostOf_70 hl (k := 6) rfl rfl (by decide) rfl (fun ls hl => ?_)
          refine lv_goto (tgt := 16) hx hb d_Loops_innermostOf_73 (by decide) ?_
          exact ih σ v1 v2 v3 (v4 + (-1)) y h hP ls (lv_sub hl [3, 4, 5, 6, 0] rfl) k0
        · have h := b_f h c6
          refine lv_iload hx hb d_Loops_innermostOf_64 (lv_at hl 1 rfl) ?_
          refine lv_istore_n (lv' := [(2, .int r2), (6, .int x4), (5, .int r2), (0, .ref (a 4)), (1, .int v1), (3, .int v3), (4, .int v4)]) hx hb d_Loops_innermostOf_66 rfl hl (by decide) rfl (fun ls hl => ?_)
          refine lv_iload hx hb d_Loops_innermostOf_67 (lv_at hl 1 rfl) ?_
          refine lv_istore_n (lv' := [(3, .int x4), (2, .int r2), (6, .int x4), (5, .int r2), (0, .ref (a 4)), (1, .int v1), (4, .int v4)]) hx hb d_Loops_innermostOf_69 rfl hl (by decide) rfl (fun ls hl => ?_)
          refine lv_iinc (v := v4 + (-1)) (lv' := [(4, .int (v4 + (-1))), (3, .int x4), (2, .int r2), (6, .int x4), (5, .int r2), (0, .ref (a 4)), (1, .int v1)]) hx hb d_Loops_innermostOf_70 hl (k := 6) rfl rfl (by decide) rfl (fun ls hl => ?_)
          refine lv_goto (tgt := 16) hx hb d_Loops_innermostOf_73 (by decide) ?_
          exact ih σ v1 r2 x4 (v4 + (-1)) y h hP ls (lv_sub hl [5, 6, 2, 1, 0] rfl) k0
set_option maxHeartbeats 4000000 in
set_option maxRecDepth 100000 in
theorem c_Loops_innermostOf (l : Launch) (dC : Nat → ClassId) (dI : Nat → Nat → Nat) (a : Nat → Nat) (cs : Nat → ClassId) (σ : SB) (v1 : Int32) (r : Int32) (h : f_Loops_innermostOf σ v1 = some r) : Met l y_Loops_innermostOf w_Loops_innermostOf rm_Loops_innermostOf (va_Pc [.ref (a 4), .int v1] (WBB dC dI a cs σ)) (QcV (.int r)) 0 0 (fun _ => False) := by
  refine Met.ofW (cc := b_Loops_innermostOf) (maxL := 7) (ret := (some .int)) (by decide) rfl ?_
  intro p e s m args below meth c s₁ B hml hv
  obtain ⟨rfl, hP, hK, hN⟩ := hv
  have hx := B.exec
  have hb := B.bytes
  have hr := B.returns
  have hg : ∀ w ∈ G_, w.before _ s = true := fun w hw => atoms_spec (ws := w_Loops_innermostOf) B.pre w (List.mem_cons_of_mem _ hw)
  have hown : s.vm.findClass "BlockRuler$Loops" = some m.cls := findClass_of_methodNamed B.named
  have hlocks := B.notSynchronized
  have C0 : Cx "BlockRuler$Loops" b_Loops_innermostOf 7 p s m _ meth c := ⟨hx, hb, hml, hown, hg, hlocks⟩
  have hl := lv_entry ([.ref (a 4), .int v1]) (n := 7) (Nat.le_of_ble_eq_true rfl)
  rw [lg_entry_eq]
  generalize (lg_sl ([.ref (a 4), .int v1]) ++ List.replicate (7 - (lg_sl ([.ref (a 4), .int v1])).length) Slot.unset).toArray = ls at hl ⊢
  have hl : lv_has ls 7 [(0, .ref (a 4)), (1, .int v1)] := hl
  unfold f_Loops_innermostOf at h
  refine lv_iconst (v := -1) hx hb d_Loops_innermostOf_0 (by decide) ?_
  refine lv_istore_n (lv' := [(2, .int (-1)), (0, .ref (a 4)), (1, .int v1)]) hx hb d_Loops_innermostOf_1 rfl hl (by decide) rfl (fun ls hl => ?_)
  refine lv_bipush (v := 65) hx hb d_Loops_innermostOf_2 (by decide) ?_
  refine lv_istore_n (lv' := [(3, .int 65), (2, .int (-1)), (0, .ref (a 4)), (1, .int v1)]) hx hb d_Loops_innermostOf_4 rfl hl (by decide) rfl (fun ls hl => ?_)
  refine lv_aload_n hx hb d_Loops_innermostOf_5 rfl (lv_at hl 2 rfl) ?_
  refine va_get (D := (dC, dI)) (ci := 4) (v := .ref (a 2)) (C := "BlockRuler$Loops") (T := F_Loops) (N := 7) hx hb hg i_Loops hown hK hP 4 rfl rfl 1 (by decide) (hg _ wd86) (fun _ h9 => h9) rfl d_Loops_innermostOf_6 ?_
  refine va_get (D := (dC, dI)) (ci := 2) (v := .int (sB_reached σ)) (C := "BlockRuler$Walk") (T := F_Walk) (N := 9) hx hb hg i_Walk hown hK hP 2 rfl rfl 7 (by decide) (hg _ wd100) (fun _ h9 => h9) rfl d_Loops_innermostOf_9 ?_
  refine lv_iconst (v := 1) hx hb d_Loops_innermostOf_12 (by decide) ?_
  refine lv_isub hx hb d_Loops_innermostOf_13 ?_
  refine lv_istore (lv' := [(4, .int ((sB_reached σ) - 1)), (3, .int 65), (2, .int (-1)), (0, .ref (a 4)), (1, .int v1)]) hx hb d_Loops_innermostOf_14 hl (by decide) rfl (fun ls hl => ?_)
  obtain ⟨y7, hy7, h⟩ := bd h
  refine lpW_Loops_innermostOf_16 C0 hK hN 100 σ v1 (-1) 65 ((sB_reached σ) - 1) y7 hy7 hP ls (lv_sub hl [3, 4, 2, 1, 0] rfl) (fun ls hl => ?_)
  refine lv_iload_n hx hb d_Loops_innermostOf_76 rfl (lv_at hl 2 rfl) ?_
  exact W.iret (v := y7.1) hx hb hr (fun t ht _ => ⟨by rw [Option.some.inj h], ht⟩) (fun q hq => by cases hq) d_Loops_innermostOf_77
set_option maxHeartbeats 4000000 in
set_option maxRecDepth 100000 in
theorem lpW_Loops_clear_17 {p : Program} {l : Launch} {e : Env} {s : State} {m : MethodId} {args : Array Value} {below : List Frame} {meth : Method} {c : Code} {Q : State → Prop} {dC : Nat → ClassId} {dI : Nat → Nat → Nat} {a : Nat → Nat} {cs : Nat → ClassId} {A : Nat → Prop} (C0 : Cx "BlockRuler$Loops" b_Loops_clear 2 p s m args meth c) (hK : va_K (dC, dI) classes (tyB cs) s) (hN : NW s) (hA : ∀ q : Nat, s.heap.size ≤ q → A q) : ∀ (n : Nat) (σ : SB) (v1 : Int32) (y : Int32 × SB), lp_Loops_clear_17 n σ v1 = some y → ∀ (H : Heap) (locs : List Loc) (ls : Array Slot), va_P (dC, dI) classes (wsB a cs σ) H → va_D A (wsB a cs σ) → va_S A s.heap H locs → lv_has ls 2 [(0, .ref (a 4)), (1, .int v1)] → (∀ (H : Heap) (locs : List Loc) (ls : Array Slot), va_P (dC, dI) classes (wsB a cs y.2) H → va_D A (wsB a cs y.2) → va_S A s.heap H locs → lv_has ls 2 [(0, .ref (a 4)), (1, .int y.1)] → W p l e (headSpec w_Loops_clear rm_Loops_clear).room s m args below meth c H locs 0 0 Q (F0 m 36 ls [])) → W p l e (headSpec w_Loops_clear rm_Loops_clear).room s m args below meth c H locs 0 0 Q (F0 m 17 ls []) := by
  have C1 := C0
  obtain ⟨hx, hb, hml, hown, hg, hlocks⟩ := C1
  intro n
  induction n with
  | zero => intro σ v1 y h; exact absurd (show (none : Option (Int32 × SB)) = some y from h) (fun q => by cases q)
  | succ n ih =>
    intro σ v1 y h H locs ls hP hD hS hl k0
    rw [lp_Loops_clear_17_s] at h
    refine lv_iload_n hx hb d_Loops_clear_17 rfl (lv_at hl 1 rfl) ?_
    refine lv_bipush (v := 64) hx hb d_Loops_clear_18 (by decide) ?_
    refine lv_icmp_ge (tgt := 36) hx hb d_Loops_clear_20 (by decide) (fun c1 => ?_) (fun c1 => ?_)
    · have h := b_t h c1
      obtain rfl := Option.some.inj h
      exact k0 _ _ ls hP hD hS (lv_sub hl [0, 1] rfl)
    · have h := b_f h c1
      refine lv_aload_n hx hb d_Loops_clear_23 rfl (lv_at hl 0 rfl) ?_
      refine va_get (D := (dC, dI)) (ci := 4) (v := .ref (a 14)) (C := "BlockRuler$Loops") (T := F_Loops) (N := 7) hx hb hg i_Loops hown hK hP 4 rfl rfl 3 (by decide) (hg _ wd90) (fun _ h9 => h9) rfl d_Loops_clear_24 ?_
      refine lv_iload_n hx hb d_Loops_clear_27 rfl (lv_at hl 1 rfl) ?_
      refine lv_lconst (v := 0) hx hb d_Loops_clear_28 (by decide) ?_
      obtain ⟨hi2, h⟩ := gd h
      refine va_last (f := sB_lof σ) (n := 64) hx hb hK hP hD hS 14 9 rfl rfl hi2 d_Loops_clear_29 (fun H locs hP hD hS => ?_)
      have hP := va_Pe (setB_lof a cs σ (vp_updL (sB_lof σ) (Int32.toNatClampNeg v1) 0)) hP
      have hD := va_De (setB_lof a cs σ (vp_updL (sB_lof σ) (Int32.toNatClampNeg v1) 0)) hD
      refine lv_iinc (v := v1 + 1) (lv' := [(1, .int (v1 + 1)), (0, .ref (a 4))]) hx hb d_Loops_clear_30 hl (k := 1) rfl rfl (by decide) rfl (fun ls hl => ?_)
      refine lv_goto (tgt := 17) hx hb d_Loops_clear_33 (by decide) ?_
      exact ih (uB_lof σ (vp_updL (sB_lof σ) (Int32.toNatClampNeg v1) 0)) (v1 + 1) y h _ _ ls hP hD hS (lv_sub hl [1, 0] rfl) k0
set_option maxHeartbeats 4000000 in
set_option maxRecDepth 100000 in
theorem c_Loops_clear (l : Launch) (dC : Nat → ClassId) (dI : Nat → Nat → Nat) (a : Nat → Nat) (cs : Nat → ClassId) (sz : Nat) (σ : SB) (r : SB) (h : f_Loops_clear σ = some r) : Met l y_Loops_clear w_Loops_clear rm_Loops_clear (va_Pc [.ref (a 4)] (fun U => U.heap.size = sz ∧ WDB dC dI a cs σ U)) (va_Qv (fun u : SB => u = r) (atB dC dI a cs (va_A (wsB a cs σ) sz)) (va_A (wsB a cs σ) sz)) 0 0 (va_A (wsB a cs σ) sz) := by
  refine Met.ofW (cc := b_Loops_clear) (maxL := 2) (ret := none) (by decide) rfl ?_
  intro p e s m args below meth c s₁ B hml hv
  obtain ⟨rfl, hsz, hP, hK, hN, hD0⟩ := hv
  have hx := B.exec
  have hb := B.bytes
  have hr := B.returns
  have hg : ∀ w ∈ G_, w.before _ s = true := fun w hw => atoms_spec (ws := w_Loops_clear) B.pre w (List.mem_cons_of_mem _ hw)
  have hown : s.vm.findClass "BlockRuler$Loops" = some m.cls := findClass_of_methodNamed B.named
  have hlocks := B.notSynchronized
  have C0 : Cx "BlockRuler$Loops" b_Loops_clear 2 p s m _ meth c := ⟨hx, hb, hml, hown, hg, hlocks⟩
  subst hsz
  have hD := hD0.self (sz := s.heap.size)
  generalize hAe : va_A (wsB a cs σ) s.heap.size = A at hD ⊢
  have hA : ∀ q : Nat, s.heap.size ≤ q → A q := fun q h => by rw [← hAe]; exact Or.inr h
  have hS : va_S A s.heap s.heap [] := va_S.rf
  have hl := lv_entry ([.ref (a 4)]) (n := 2) (Nat.le_of_ble_eq_true rfl)
  rw [lg_entry_eq]
  generalize (lg_sl ([.ref (a 4)]) ++ List.replicate (2 - (lg_sl ([.ref (a 4)])).length) Slot.unset).toArray = ls at hl ⊢
  have hl : lv_has ls 2 [(0, .ref (a 4))] := hl
  unfold f_Loops_clear at h
  refine lv_aload_n hx hb d_Loops_clear_0 rfl (lv_at hl 0 rfl) ?_
  refine lv_iconst (v := 0) hx hb d_Loops_clear_1 (by decide) ?_
  refine va_put (D := (dC, dI)) (ci := 4) (v := .int 0) (ty := .int) (C := "BlockRuler$Loops") (T := F_Loops) (N := 7) hx hb hg i_Loops t_Loops t_Loops_ok n_Loops hown hK hP hD hS 4 rfl rfl 4 (by decide) (hg _ wd103) (fun _ h9 => h9) rfl (by decide +kernel) rfl rfl (Nat.le_of_ble_eq_true rfl) d_Loops_clear_2 (fun H locs hP hD hS => ?_)
  have hP := va_Pe (setB_heads a cs σ 0) hP
  have hD := va_De (setB_heads a cs σ 0) hD
  refine lv_aload_n hx hb d_Loops_clear_5 rfl (lv_at hl 0 rfl) ?_
  refine lv_iconst (v := 0) hx hb d_Loops_clear_6 (by decide) ?_
  refine va_put (D := (dC, dI)) (ci := 4) (v := .int 0) (ty := .int) (C := "BlockRuler$Loops") (T := F_Loops) (N := 7) hx hb hg i_Loops t_Loops t_Loops_ok n_Loops hown hK hP hD hS 4 rfl rfl 5 (by decide) (hg _ wd104) (fun _ h9 => h9) rfl (by decide +kernel) rfl rfl (Nat.le_of_ble_eq_true rfl) d_Loops_clear_7 (fun H locs hP hD hS => ?_)
  have hP := va_Pe (setB_backs a cs (uB_heads σ 0) 0) hP
  have hD := va_De (setB_backs a cs (uB_heads σ 0) 0) hD
  refine lv_aload_n hx hb d_Loops_clear_10 rfl (lv_at hl 0 rfl) ?_
  refine lv_iconst (v := 0) hx hb d_Loops_clear_11 (by decide) ?_
  refine va_put (D := (dC, dI)) (ci := 4) (v := .int 0) (ty := .int) (C := "BlockRuler$Loops") (T := F_Loops) (N := 7) hx hb hg i_Loops t_Loops t_Loops_ok n_Loops hown hK hP hD hS 4 rfl rfl 6 (by decide) (hg _ wd105) (fun _ h9 => h9) rfl (by decide +kernel) rfl rfl (Nat.le_of_ble_eq_true rfl) d_Loops_clear_12 (fun H locs hP hD hS => ?_)
  have hP := va_Pe (setB_knots a cs (uB_backs (uB_heads σ 0) 0) 0) hP
  have hD := va_De (setB_knots a cs (uB_backs (uB_heads σ 0) 0) 0) hD
  refine lv_iconst (v := 0) hx hb d_Loops_clear_15 (by decide) ?_
  refine lv_istore_n (lv' := [(1, .int 0), (0, .ref (a 4))]) hx hb d_Loops_clear_16 rfl hl (by decide) rfl (fun ls hl => ?_)
  obtain ⟨y3, hy3, h⟩ := bd h
  refine lpW_Loops_clear_17 C0 hK hN hA 100 (uB_knots (uB_backs (uB_heads σ 0) 0) 0) 0 y3 hy3 _ _ ls hP hD hS (lv_sub hl [1, 0] rfl) (fun H locs ls hP hD hS hl => ?_)
  exact W.vret hx hb hr (fun t ht hW => ⟨⟨y3.2, rfl, Option.some.inj h, by rw [ht]; exact hP, hD⟩, hS.F ht⟩) hS.2.2 d_Loops_clear_36
set_option maxHeartbeats 4000000 in
set_option maxRecDepth 100000 in
theorem lpW_Loops_markWaysOf_2 {p : Program} {l : Launch} {e : Env} {s : State} {m : MethodId} {args : Array Value} {below : List Frame} {meth : Method} {c : Code} {Q : State → Prop} {dC : Nat → ClassId} {dI : Nat → Nat → Nat} {a : Nat → Nat} {cs : Nat → ClassId} {A : Nat → Prop} (C0 : Cx "BlockRuler$Loops" b_Loops_markWaysOf 4 p s m args meth c) (hK : va_K (dC, dI) classes (tyB cs) s) (hN : NW s) (hA : ∀ q : Nat, s.heap.size ≤ q → A q) : ∀ (n : Nat) (σ : SB) (v1 : Int32) (v2 : Int32) (y : Int32 × SB), lp_Loops_markWaysOf_2 n σ v1 v2 = some y → ∀ (H : Heap) (locs : List Loc) (ls : Array Slot), va_P (dC, dI) classes (wsB a cs σ) H → va_D A (wsB a cs σ) → va_S A s.heap H locs → lv_has ls 4 [(0, .ref (a 4)), (1, .int v1), (2, .int v2)] → (∀ (H : Heap) (locs : List Loc) (ls : Array Slot), va_P (dC, dI) classes (wsB a cs y.2) H → va_D A (wsB a cs y.2) → va_S A s.heap H locs → lv_has ls 4 [(0, .ref (a 4)), (1, .int v1), (2, .int y.1)] → W p l e (headSpec w_Loops_markWaysOf rm_Loops_markWaysOf).room s m args below meth c H locs 0 0 Q (F0 m 83 ls [])) → W p l e (headSpec w_Loops_markWaysOf rm_Loops_markWaysOf).room s m args below meth c H locs 0 0 Q (F0 m 2 ls []) := by
  have C1 := C0
  obtain ⟨hx, hb, hml, hown, hg, hlocks⟩ := C1
  intro n
  induction n with
  | zero => intro σ v1 v2 y h; exact absurd (show (none : Option (Int32 × SB)) = some y from h) (fun q => by cases q)
  | succ n ih =>
    intro σ v1 v2 y h H locs ls hP hD hS hl k0
    rw [lp_Loops_markWaysOf_2_s] at h
    refine lv_iload_n hx hb d_Loops_markWaysOf_2 rfl (lv_at hl 2 rfl) ?_
    refine lv_aload_n hx hb d_Loops_markWaysOf_3 rfl (lv_at hl 0 rfl) ?_
    refine va_get (D := (dC, dI)) (ci := 4) (v := .ref (a 1)) (C := "BlockRuler$Loops") (T := F_Loops) (N := 7) hx hb hg i_Loops hown hK hP 4 rfl rfl 0 (by decide) (hg _ wd84) (fun _ h9 => h9) rfl d_Loops_markWaysOf_4 ?_
    refine va_get (D := (dC, dI)) (ci := 1) (v := .ref (a 5)) (C := "BlockRuler$Web") (T := F_Web) (N := 4) hx hb hg i_Web hown hK hP 1 rfl rfl 0 (by decide) (hg _ wd106) (fun _ h9 => h9) rfl d_Loops_markWaysOf_7 ?_
    refine lv_iload_n hx hb d_Loops_markWaysOf_10 rfl (lv_at hl 1 rfl) ?_
    obtain ⟨hi1, h⟩ := gd h
    refine va_iald (f := sB_deg σ) (n := 64) hx hb hK hP 5 0 rfl rfl hi1 d_Loops_markWaysOf_11 ?_
    refine lv_icmp_ge (tgt := 83) hx hb d_Loops_markWaysOf_12 (by decide) (fun c2 => ?_) (fun c2 => ?_)
    · have h := b_t h c2
      obtain rfl := Option.some.inj h
      exact k0 _ _ ls hP hD hS (lv_sub hl [0, 1, 2] rfl)
    · have h := b_f h c2
      refine lv_aload_n hx hb d_Loops_markWaysOf_15 rfl (lv_at hl 0 rfl) ?_
      refine lv_iload_n hx hb d_Loops_markWaysOf_16 rfl (lv_at hl 1 rfl) ?_
      refine lv_iload_n hx hb d_Loops_markWaysOf_17 rfl (lv_at hl 2 rfl) ?_
      obtain ⟨r3, hr3, h⟩ := bd h
      refine ro_call (v := .int r3) (va_runV (C := "BlockRuler$Loops") (As := [.int v1, .int v2]) (rest := []) ⟨hx, hb, hml, hown, hg⟩ (c_Loops_kindOf l dC dI a cs σ v1 v2 _ hr3) (cwV 2 hg (gdV wd109 wd108 wd107 wd94 wd110) rfl rfl rfl (by decide +kernel) ⟨Nat.le_of_ble_eq_true rfl, Nat.le_of_ble_eq_true rfl⟩) ⟨wb_blind, va_recv hK hP (ci := 4) (q0 := 4) rfl rfl, fun U hU hW => ⟨rfl, wb_pre hU hW hP hK hN⟩⟩ rfl rfl hl.1 rfl (lv_room (Nat.le_of_ble_eq_true rfl)) d_Loops_markWaysOf_18 ⟨Nat.zero_le _, Nat.zero_le _⟩) ?_
      refine lv_istore_n (lv' := [(3, .int r3), (0, .ref (a 4)), (1, .int v1), (2, .int v2)]) hx hb d_Loops_markWaysOf_21 rfl hl (by decide) rfl (fun ls hl => ?_)
      refine lv_iload_n hx hb d_Loops_markWaysOf_22 rfl (lv_at hl 0 rfl) ?_
      refine lv_if_eq (tgt := 36) hx hb d_Loops_markWaysOf_23 (by decide) (fun c4 => ?_) (fun c4 => ?_)
      · have h := b_t h c4
        refine lv_iload_n hx hb d_Loops_markWaysOf_36 rfl (lv_at hl 0 rfl) ?_
        refine lv_iconst (v := 2) hx hb d_Loops_markWaysOf_37 (by decide) ?_
        refine lv_icmp_ne (tgt := 51) hx hb d_Loops_markWaysOf_38 (by decide) (fun c5 => ?_) (fun c5 => ?_)
        · have h := b_f h c5
          refine lv_iload_n hx hb d_Loops_markWaysOf_51 rfl (lv_at hl 0 rfl) ?_
          refine lv_iconst (v := 1) hx hb d_Loops_markWaysOf_52 (by decide) ?_
          refine lv_icmp_ne (tgt := 77) hx hb d_Loops_markWaysOf_53 (by decide) (fun c6 => ?_) (fun c6 => ?_)
          · have h := b_f h c6
            refine lv_iinc (v := v2 + 1) (lv' := [(2, .int (v2 + 1)), (3, .int r3), (0, .ref (a 4)), (1, .int v1)]) hx hb d_Loops_markWaysOf_77 hl (k := 3) rfl rfl (by decide) rfl (fun ls hl => ?_)
            refine lv_goto (tgt := 2) hx hb d_Loops_markWaysOf_80 (by decide) ?_
            exact ih σ v1 (v2 + 1) y h _ _ ls hP hD hS (lv_sub hl [2, 3, 0] rfl) k0
          · have h := b_t h c6
            refine lv_aload_n hx hb d_Loops_markWaysOf_56 rfl (lv_at hl 1 rfl) ?_
            refine va_get (D := (dC, dI)) (ci := 4) (v := .ref (a 14)) (C := "BlockRuler$Loops") (T := F_Loops) (N := 7) hx hb hg i_Loops hown hK hP 4 rfl rfl 3 (by decide) (hg _ wd90) (fun _ h9 => h9) rfl d_Loops_markWaysOf_57 ?_
            refine lv_aload_n hx hb d_Loops_markWaysOf_60 rfl (lv_at hl 1 rfl) ?_
            refine va_get (D := (dC, dI)) (ci := 4) (v := .ref (a 1)) (C := "BlockRuler$Loops") (T := F_Loops) (N := 7) hx hb hg i_Loops hown hK hP 4 rfl rfl 0 (by decide) (hg _ wd84) (fun _ h9 => h9) rfl d_Loops_markWaysOf_61 ?_
            refine lv_iload_n hx hb d_Loops_markWaysOf_64 rfl (lv_at hl 2 rfl) ?_
            refine lv_iload_n hx hb d_Loops_markWaysOf_65 rfl (lv_at hl 3 rfl) ?_
            obtain ⟨r7, hr7, h⟩ := bd h
            refine ro_call (v := .int r7) (va_runV (C := "BlockRuler$Web") (As := [.int v1, .int v2]) (rest := [.ref (a 14)]) ⟨hx, hb, hml, hown, hg⟩ (c_Web_endOf l dC dI a cs σ v1 v2 _ hr7) (cwV 2 hg (gdV wd85 wd13 wd12 wd7 wd15) rfl rfl rfl (by decide +kernel) ⟨Nat.le_of_ble_eq_true rfl, Nat.le_of_ble_eq_true rfl⟩) ⟨wb_blind, va_recv hK hP (ci := 1) (q0 := 1) rfl rfl, fun U hU hW => ⟨rfl, wb_pre hU hW hP hK hN⟩⟩ rfl rfl hl.1 rfl (lv_room (Nat.le_of_ble_eq_true rfl)) d_Loops_markWaysOf_66 ⟨Nat.zero_le _, Nat.zero_le _⟩) ?_
            refine lv_dup2_11 hx hb d_Loops_markWaysOf_69 rfl rfl ?_
            obtain ⟨hi8, h⟩ := gd h
            refine va_lald (f := sB_lof σ) (n := 64) hx hb hK hP 14 9 rfl rfl hi8 d_Loops_markWaysOf_70 ?_
            refine lv_iload_n hx hb d_Loops_markWaysOf_71 rfl (lv_at hl 2 rfl) ?_
            refine ro_call (v := .long (f_BlockRuler_only v1)) (va_runSN (As := [.int v1]) (rest := [.long (sB_lof σ (Int32.toNatClampNeg r7)), .int r7, .ref (a 14)]) ⟨hx, hb, hml, hown, hg⟩ (c_BlockRuler_only l v1 _ rfl) ⟨va_cnB 1 hg (gdC wd35) rfl rfl rfl (hN _ nw7) (hg _ wd22) (by decide +kernel) ⟨Nat.le_of_ble_eq_true rfl, Nat.le_of_ble_eq_true rfl⟩, hg _ wd36, trivial⟩ ⟨va_blind0, fun U hU hW => ⟨rfl, trivial⟩⟩ rfl rfl hl.1 rfl (lv_room (Nat.le_of_ble_eq_true rfl)) d_Loops_markWaysOf_72 ⟨Nat.zero_le _, Nat.zero_le _⟩) ?_
            refine lv_lor hx hb d_Loops_markWaysOf_75 ?_
            refine va_last (f := sB_lof σ) (n := 64) hx hb hK hP hD hS 14 9 rfl rfl hi8 d_Loops_markWaysOf_76 (fun H locs hP hD hS => ?_)
            have hP := va_Pe (setB_lof a cs σ (vp_updL (sB_lof σ) (Int32.toNatClampNeg r7) ((sB_lof σ (Int32.toNatClampNeg r7)) ||| (f_BlockRuler_only v1)))) hP
            have hD := va_De (setB_lof a cs σ (vp_updL (sB_lof σ) (Int32.toNatClampNeg r7) ((sB_lof σ (Int32.toNatClampNeg r7)) ||| (f_BlockRuler_only v1)))) hD
            refine lv_iinc (v := v2 + 1) (lv' := [(2, .int (v2 + 1)), (3, .int r3), (0, .ref (a 4)), (1, .int v1)]) hx hb d_Loops_markWaysOf_77 hl (k := 3) rfl rfl (by decide) rfl (fun ls hl => ?_)
            refine lv_goto (tgt := 2) hx hb d_Loops_markWaysOf_80 (by decide) ?_
            exact ih (uB_lof σ (vp_updL (sB_lof σ) (Int32.toNatClampNeg r7) ((sB_lof σ (Int32.toNatClampNeg r7)) ||| (f_BlockRuler_only v1)))) v1 (v2 + 1) y h _ _ ls hP hD hS (lv_sub hl [2, 3, 0] rfl) k0
        · have h := b_t h c5
          refine lv_aload_n hx hb d_Loops_markWaysOf_41 rfl (lv_at hl 1 rfl) ?_
          refine lv_dup hx hb d_Loops_markWaysOf_42 rfl ?_
          refine va_get (D := (dC, dI)) (ci := 4) (v := .int (sB_knots σ)) (C := "BlockRuler$Loops") (T := F_Loops) (N := 7) hx hb hg i_Loops hown hK hP 4 rfl rfl 6 (by decide) (hg _ wd105) (fun _ h9 => h9) rfl d_Loops_markWaysOf_43 ?_
          refine lv_iconst (v := 1) hx hb d_Loops_markWaysOf_46 (by decide) ?_
          refine lv_iadd hx hb d_Loops_markWaysOf_47 ?_
          refine va_put (D := (dC, dI)) (ci := 4) (v := .int ((sB_knots σ) + 1)) (ty := .int) (C := "BlockRuler$Loops") (T := F_Loops) (N := 7) hx hb hg i_Loops t_Loops t_Loops_ok n_Loops hown hK hP hD hS 4 rfl rfl 6 (by decide) (hg _ wd105) (fun _ h9 => h9) rfl (by decide +kernel) rfl rfl (Nat.le_of_ble_eq_true rfl) d_Loops_markWaysOf_48 (fun H locs hP hD hS => ?_)
          have hP := va_Pe (setB_knots a cs σ ((sB_knots σ) + 1)) hP
          have hD := va_De (setB_knots a cs σ ((sB_knots σ) + 1)) hD
          refine lv_iload_n hx hb d_Loops_markWaysOf_51 rfl (lv_at hl 0 rfl) ?_
          refine lv_iconst (v := 1) hx hb d_Loops_markWaysOf_52 (by decide) ?_
          refine lv_icmp_ne (tgt := 77) hx hb d_Loops_markWaysOf_53 (by decide) (fun c9 => ?_) (fun c9 => ?_)
          · have h := b_f h c9
            refine lv_iinc (v := v2 + 1) (lv' := [(2, .int (v2 + 1)), (3, .int r3), (0, .ref (a 4)), (1, .int v1)]) hx hb d_Loops_markWaysOf_77 hl (k := 3) rfl rfl (by decide) rfl (fun ls hl => ?_)
            refine lv_goto (tgt := 2) hx hb d_Loops_markWaysOf_80 (by decide) ?_
            exact ih (uB_knots σ ((sB_knots σ) + 1)) v1 (v2 + 1) y h _ _ ls hP hD hS (lv_sub hl [2, 3, 0] rfl) k0
          · have h := b_t h c9
            refine lv_aload_n hx hb d_Loops_markWaysOf_56 rfl (lv_at hl 1 rfl) ?_
            refine va_get (D := (dC, dI)) (ci := 4) (v := .ref (a 14)) (C := "BlockRuler$Loops") (T := F_Loops) (N := 7) hx hb hg i_Loops hown hK hP 4 rfl rfl 3 (by decide) (hg _ wd90) (fun _ h9 => h9) rfl d_Loops_markWaysOf_57 ?_
            refine lv_aload_n hx hb d_Loops_markWaysOf_60 rfl (lv_at hl 1 rfl) ?_
            refine va_get (D := (dC, dI)) (ci := 4) (v := .ref (a 1)) (C := "BlockRuler$Loops") (T := F_Loops) (N := 7) hx hb hg i_Loops hown hK hP 4 rfl rfl 0 (by decide) (hg _ wd84) (fun _ h9 => h9) rfl d_Loops_markWaysOf_61 ?_
            refine lv_iload_n hx hb d_Loops_markWaysOf_64 rfl (lv_at hl 2 rfl) ?_
            refine lv_iload_n hx hb d_Loops_markWaysOf_65 rfl (lv_at hl 3 rfl) ?_
            obtain ⟨r10, hr10, h⟩ := bd h
            refine ro_call (v := .int r10) (va_runV (C := "BlockRuler$Web") (As := [.int v1, .int v2]) (rest := [.ref (a 14)]) ⟨hx, hb, hml, hown, hg⟩ (c_Web_endOf l dC dI a cs (uB_knots σ ((sB_knots σ) + 1)) v1 v2 _ hr10) (cwV 2 hg (gdV wd85 wd13 wd12 wd7 wd15) rfl rfl rfl (by decide +kernel) ⟨Nat.le_of_ble_eq_true rfl, Nat.le_of_ble_eq_true rfl⟩) ⟨wb_blind, va_recv hK hP (ci := 1) (q0 := 1) rfl rfl, fun U hU hW => ⟨rfl, wb_pre hU hW hP hK hN⟩⟩ rfl rfl hl.1 rfl (lv_room (Nat.le_of_ble_eq_true rfl)) d_Loops_markWaysOf_66 ⟨Nat.zero_le _, Nat.zero_le _⟩) ?_
            refine lv_dup2_11 hx hb d_Loops_markWaysOf_69 rfl rfl ?_
            obtain ⟨hi11, h⟩ := gd h
            refine va_lald (f := sB_lof σ) (n := 64) hx hb hK hP 14 9 (rdB_lof a cs (uB_knots σ ((sB_knots σ) + 1)) (gB_lof_knots _ _)) rfl hi11 d_Loops_markWaysOf_70 ?_
            refine lv_iload_n hx hb d_Loops_markWaysOf_71 rfl (lv_at hl 2 rfl) ?_
            refine ro_call (v := .long (f_BlockRuler_only v1)) (va_runSN (As := [.int v1]) (rest := [.long (sB_lof σ (Int32.toNatClampNeg r10)), .int r10, .ref (a 14)]) ⟨hx, hb, hml, hown, hg⟩ (c_BlockRuler_only l v1 _ rfl) ⟨va_cnB 1 hg (gdC wd35) rfl rfl rfl (hN _ nw7) (hg _ wd22) (by decide +kernel) ⟨Nat.le_of_ble_eq_true rfl, Nat.le_of_ble_eq_true rfl⟩, hg _ wd36, trivial⟩ ⟨va_blind0, fun U hU hW => ⟨rfl, trivial⟩⟩ rfl rfl hl.1 rfl (lv_room (Nat.le_of_ble_eq_true rfl)) d_Loops_markWaysOf_72 ⟨Nat.zero_le _, Nat.zero_le _⟩) ?_
            refine lv_lor hx hb d_Loops_markWaysOf_75 ?_
            refine va_last (f := sB_lof σ) (n := 64) hx hb hK hP hD hS 14 9 (rdB_lof a cs (uB_knots σ ((sB_knots σ) + 1)) (gB_lof_knots _ _)) rfl hi11 d_Loops_markWaysOf_76 (fun H locs hP hD hS => ?_)
            have hP := va_Pe (setB_lof a cs (uB_knots σ ((sB_knots σ) + 1)) (vp_updL (sB_lof σ) (Int32.toNatClampNeg r10) ((sB_lof σ (Int32.toNatClampNeg r10)) ||| (f_BlockRuler_only v1)))) hP
            have hD := va_De (setB_lof a cs (uB_knots σ ((sB_knots σ) + 1)) (vp_updL (sB_lof σ) (Int32.toNatClampNeg r10) ((sB_lof σ (Int32.toNatClampNeg r10)) ||| (f_BlockRuler_only v1)))) hD
            refine lv_iinc (v := v2 + 1) (lv' := [(2, .int (v2 + 1)), (3, .int r3), (0, .ref (a 4)), (1, .int v1)]) hx hb d_Loops_markWaysOf_77 hl (k := 3) rfl rfl (by decide) rfl (fun ls hl => ?_)
            refine lv_goto (tgt := 2) hx hb d_Loops_markWaysOf_80 (by decide) ?_
            exact ih (uB_lof (uB_knots σ ((sB_knots σ) + 1)) (vp_updL (sB_lof σ) (Int32.toNatClampNeg r10) ((sB_lof σ (Int32.toNatClampNeg r10)) ||| (f_BlockRuler_only v1)))) v1 (v2 + 1) y h _ _ ls hP hD hS (lv_sub hl [2, 3, 0] rfl) k0
      · have h := b_f h c4
        refine lv_aload_n hx hb d_Loops_markWaysOf_26 rfl (lv_at hl 1 rfl) ?_
        refine lv_dup hx hb d_Loops_markWaysOf_27 rfl ?_
        refine va_get (D := (dC, dI)) (ci := 4) (v := .int (sB_backs σ)) (C := "BlockRuler$Loops") (T := F_Loops) (N := 7) hx hb hg i_Loops hown hK hP 4 rfl rfl 5 (by decide) (hg _ wd104) (fun _ h9 => h9) rfl d_Loops_markWaysOf_28 ?_
        refine lv_iconst (v := 1) hx hb d_Loops_markWaysOf_31 (by decide) ?_
        refine lv_iadd hx hb d_Loops_markWaysOf_32 ?_
        refine va_put (D := (dC, dI)) (ci := 4) (v := .int ((sB_backs σ) + 1)) (ty := .int) (C := "BlockRuler$Loops") (T := F_Loops) (N := 7) hx hb hg i_Loops t_Loops t_Loops_ok n_Loops hown hK hP hD hS 4 rfl rfl 5 (by decide) (hg _ wd104) (fun _ h9 => h9) rfl (by decide +kernel) rfl rfl (Nat.le_of_ble_eq_true rfl) d_Loops_markWaysOf_33 (fun H locs hP hD hS => ?_)
        have hP := va_Pe (setB_backs a cs σ ((sB_backs σ) + 1)) hP
        have hD := va_De (setB_backs a cs σ ((sB_backs σ) + 1)) hD
        refine lv_iload_n hx hb d_Loops_markWaysOf_36 rfl (lv_at hl 0 rfl) ?_
        refine lv_iconst (v := 2) hx hb d_Loops_markWaysOf_37 (by decide) ?_
        refine lv_icmp_ne (tgt := 51) hx hb d_Loops_markWaysOf_38 (by decide) (fun c12 => ?_) (fun c12 => ?_)
        · have h := b_f h c12
          refine lv_iload_n hx hb d_Loops_markWaysOf_51 rfl (lv_at hl 0 rfl) ?_
          refine lv_iconst (v := 1) hx hb d_Loops_markWaysOf_52 (by decide) ?_
          refine lv_icmp_ne (tgt := 77) hx hb d_Loops_markWaysOf_53 (by decide) (fun c13 => ?_) (fun c13 => ?_)
          · have h := b_f h c13
            refine lv_iinc (v := v2 + 1) (lv' := [(2, .int (v2 + 1)), (3, .int r3), (0, .ref (a 4)), (1, .int v1)]) hx hb d_Loops_markWaysOf_77 hl (k := 3) rfl rfl (by decide) rfl (fun ls hl => ?_)
            refine lv_goto (tgt := 2) hx hb d_Loops_markWaysOf_80 (by decide) ?_
            exact ih (uB_backs σ ((sB_backs σ) + 1)) v1 (v2 + 1) y h _ _ ls hP hD hS (lv_sub hl [2, 3, 0] rfl) k0
          · have h := b_t h c13
            refine lv_aload_n hx hb d_Loops_markWaysOf_56 rfl (lv_at hl 1 rfl) ?_
            refine va_get (D := (dC, dI)) (ci := 4) (v := .ref (a 14)) (C := "BlockRuler$Loops") (T := F_Loops) (N := 7) hx hb hg i_Loops hown hK hP 4 rfl rfl 3 (by decide) (hg _ wd90) (fun _ h9 => h9) rfl d_Loops_markWaysOf_57 ?_
            refine lv_aload_n hx hb d_Loops_markWaysOf_60 rfl (lv_at hl 1 rfl) ?_
            refine va_get (D := (dC, dI)) (ci := 4) (v := .ref (a 1)) (C := "BlockRuler$Loops") (T := F_Loops) (N := 7) hx hb hg i_Loops hown hK hP 4 rfl rfl 0 (by decide) (hg _ wd84) (fun _ h9 => h9) rfl d_Loops_markWaysOf_61 ?_
            refine lv_iload_n hx hb d_Loops_markWaysOf_64 rfl (lv_at hl 2 rfl) ?_
            refine lv_iload_n hx hb d_Loops_markWaysOf_65 rfl (lv_at hl 3 rfl) ?_
            obtain ⟨r14, hr14, h⟩ := bd h
            refine ro_call (v := .int r14) (va_runV (C := "BlockRuler$Web") (As := [.int v1, .int v2]) (rest := [.ref (a 14)]) ⟨hx, hb, hml, hown, hg⟩ (c_Web_endOf l dC dI a cs (uB_backs σ ((sB_backs σ) + 1)) v1 v2 _ hr14) (cwV 2 hg (gdV wd85 wd13 wd12 wd7 wd15) rfl rfl rfl (by decide +kernel) ⟨Nat.le_of_ble_eq_true rfl, Nat.le_of_ble_eq_true rfl⟩) ⟨wb_blind, va_recv hK hP (ci := 1) (q0 := 1) rfl rfl, fun U hU hW => ⟨rfl, wb_pre hU hW hP hK hN⟩⟩ rfl rfl hl.1 rfl (lv_room (Nat.le_of_ble_eq_true rfl)) d_Loops_markWaysOf_66 ⟨Nat.zero_le _, Nat.zero_le _⟩) ?_
            refine lv_dup2_11 hx hb d_Loops_markWaysOf_69 rfl rfl ?_
            obtain ⟨hi15, h⟩ := gd h
            refine va_lald (f := sB_lof σ) (n := 64) hx hb hK hP 14 9 (rdB_lof a cs (uB_backs σ ((sB_backs σ) + 1)) (gB_lof_backs _ _)) rfl hi15 d_Loops_markWaysOf_70 ?_
            refine lv_iload_n hx hb d_Loops_markWaysOf_71 rfl (lv_at hl 2 rfl) ?_
            refine ro_call (v := .long (f_BlockRuler_only v1)) (va_runSN (As := [.int v1]) (rest := [.long (sB_lof σ (Int32.toNatClampNeg r14)), .int r14, .ref (a 14)]) ⟨hx, hb, hml, hown, hg⟩ (c_BlockRuler_only l v1 _ rfl) ⟨va_cnB 1 hg (gdC wd35) rfl rfl rfl (hN _ nw7) (hg _ wd22) (by decide +kernel) ⟨Nat.le_of_ble_eq_true rfl, Nat.le_of_ble_eq_true rfl⟩, hg _ wd36, trivial⟩ ⟨va_blind0, fun U hU hW => ⟨rfl, trivial⟩⟩ rfl rfl hl.1 rfl (lv_room (Nat.le_of_ble_eq_true rfl)) d_Loops_markWaysOf_72 ⟨Nat.zero_le _, Nat.zero_le _⟩) ?_
            refine lv_lor hx hb d_Loops_markWaysOf_75 ?_
            refine va_last (f := sB_lof σ) (n := 64) hx hb hK hP hD hS 14 9 (rdB_lof a cs (uB_backs σ ((sB_backs σ) + 1)) (gB_lof_backs _ _)) rfl hi15 d_Loops_markWaysOf_76 (fun H locs hP hD hS => ?_)
            have hP := va_Pe (setB_lof a cs (uB_backs σ ((sB_backs σ) + 1)) (vp_updL (sB_lof σ) (Int32.toNatClampNeg r14) ((sB_lof σ (Int32.toNatClampNeg r14)) ||| (f_BlockRuler_only v1)))) hP
            have hD := va_De (setB_lof a cs (uB_backs σ ((sB_backs σ) + 1)) (vp_updL (sB_lof σ) (Int32.toNatClampNeg r14) ((sB_lof σ (Int32.toNatClampNeg r14)) ||| (f_BlockRuler_only v1)))) hD
            refine lv_iinc (v := v2 + 1) (lv' := [(2, .int (v2 + 1)), (3, .int r3), (0, .ref (a 4)), (1, .int v1)]) hx hb d_Loops_markWaysOf_77 hl (k := 3) rfl rfl (by decide) rfl (fun ls hl => ?_)
            refine lv_goto (tgt := 2) hx hb d_Loops_markWaysOf_80 (by decide) ?_
            exact ih (uB_lof (uB_backs σ ((sB_backs σ) + 1)) (vp_updL (sB_lof σ) (Int32.toNatClampNeg r14) ((sB_lof σ (Int32.toNatClampNeg r14)) ||| (f_BlockRuler_only v1)))) v1 (v2 + 1) y h _ _ ls hP hD hS (lv_sub hl [2, 3, 0] rfl) k0
        · have h := b_t h c12
          refine lv_aload_n hx hb d_Loops_markWaysOf_41 rfl (lv_at hl 1 rfl) ?_
          refine lv_dup hx hb d_Loops_markWaysOf_42 rfl ?_
          refine va_get (D := (dC, dI)) (ci := 4) (v := .int (sB_knots σ)) (C := "BlockRuler$Loops") (T := F_Loops) (N := 7) hx hb hg i_Loops hown hK hP 4 rfl rfl 6 (by decide) (hg _ wd105) (fun _ h9 => h9) (rfB_knots a cs (uB_backs σ ((sB_backs σ) + 1)) (gB_knots_backs _ _)) d_Loops_markWaysOf_43 ?_
          refine lv_iconst (v := 1) hx hb d_Loops_markWaysOf_46 (by decide) ?_
          refine lv_iadd hx hb d_Loops_markWaysOf_47 ?_
          refine va_put (D := (dC, dI)) (ci := 4) (v := .int ((sB_knots σ) + 1)) (ty := .int) (C := "BlockRuler$Loops") (T := F_Loops) (N := 7) hx hb hg i_Loops t_Loops t_Loops_ok n_Loops hown hK hP hD hS 4 rfl rfl 6 (by decide) (hg _ wd105) (fun _ h9 => h9) rfl (by decide +kernel) rfl rfl (Nat.le_of_ble_eq_true rfl) d_Loops_markWaysOf_48 (fun H locs hP hD hS => ?_)
          have hP := va_Pe (setB_knots a cs (uB_backs σ ((sB_backs σ) + 1)) ((sB_knots σ) + 1)) hP
          have hD := va_De (setB_knots a cs (uB_backs σ ((sB_backs σ) + 1)) ((sB_knots σ) + 1)) hD
          refine lv_iload_n hx hb d_Loops_markWaysOf_51 rfl (lv_at hl 0 rfl) ?_
          refine lv_iconst (v := 1) hx hb d_Loops_markWaysOf_52 (by decide) ?_
          refine lv_icmp_ne (tgt := 77) hx hb d_Loops_markWaysOf_53 (by decide) (fun c16 => ?_) (fun c16 => ?_)
          · have h := b_f h c16
            refine lv_iinc (v := v2 + 1) (lv' := [(2, .int (v2 + 1)), (3, .int r3), (0, .ref (a 4)), (1, .int v1)]) hx hb d_Loops_markWaysOf_77 hl (k := 3) rfl rfl (by decide) rfl (fun ls hl => ?_)
            refine lv_goto (tgt := 2) hx hb d_Loops_markWaysOf_80 (by decide) ?_
            exact ih (uB_knots (uB_backs σ ((sB_backs σ) + 1)) ((sB_knots σ) + 1)) v1 (v2 + 1) y h _ _ ls hP hD hS (lv_sub hl [2, 3, 0] rfl) k0
          · have h := b_t h c16
            refine lv_aload_n hx hb d_Loops_markWaysOf_56 rfl (lv_at hl 1 rfl) ?_
            refine va_get (D := (dC, dI)) (ci := 4) (v := .ref (a 14)) (C := "BlockRuler$Loops") (T := F_Loops) (N := 7) hx hb hg i_Loops hown hK hP 4 rfl rfl 3 (by decide) (hg _ wd90) (fun _ h9 => h9) rfl d_Loops_markWaysOf_57 ?_
            refine lv_aload_n hx hb d_Loops_markWaysOf_60 rfl (lv_at hl 1 rfl) ?_
            refine va_get (D := (dC, dI)) (ci := 4) (v := .ref (a 1)) (C := "BlockRuler$Loops") (T := F_Loops) (N := 7) hx hb hg i_Loops hown hK hP 4 rfl rfl 0 (by decide) (hg _ wd84) (fun _ h9 => h9) rfl d_Loops_markWaysOf_61 ?_
            refine lv_iload_n hx hb d_Loops_markWaysOf_64 rfl (lv_at hl 2 rfl) ?_
            refine lv_iload_n hx hb d_Loops_markWaysOf_65 rfl (lv_at hl 3 rfl) ?_
            obtain ⟨r17, hr17, h⟩ := bd h
            refine ro_call (v := .int r17) (va_runV (C := "BlockRuler$Web") (As := [.int v1, .int v2]) (rest := [.ref (a 14)]) ⟨hx, hb, hml, hown, hg⟩ (c_Web_endOf l dC dI a cs (uB_knots (uB_backs σ ((sB_backs σ) + 1)) ((sB_knots σ) + 1)) v1 v2 _ hr17) (cwV 2 hg (gdV wd85 wd13 wd12 wd7 wd15) rfl rfl rfl (by decide +kernel) ⟨Nat.le_of_ble_eq_true rfl, Nat.le_of_ble_eq_true rfl⟩) ⟨wb_blind, va_recv hK hP (ci := 1) (q0 := 1) rfl rfl, fun U hU hW => ⟨rfl, wb_pre hU hW hP hK hN⟩⟩ rfl rfl hl.1 rfl (lv_room (Nat.le_of_ble_eq_true rfl)) d_Loops_markWaysOf_66 ⟨Nat.zero_le _, Nat.zero_le _⟩) ?_
            refine lv_dup2_11 hx hb d_Loops_markWaysOf_69 rfl rfl ?_
            obtain ⟨hi18, h⟩ := gd h
            refine va_lald (f := sB_lof σ) (n := 64) hx hb hK hP 14 9 (rdB_lof a cs (uB_knots (uB_backs σ ((sB_backs σ) + 1)) ((sB_knots σ) + 1)) ((gB_lof_knots _ _).trans (gB_lof_backs _ _))) rfl hi18 d_Loops_markWaysOf_70 ?_
            refine lv_iload_n hx hb d_Loops_markWaysOf_71 rfl (lv_at hl 2 rfl) ?_
            refine ro_call (v := .long (f_BlockRuler_only v1)) (va_runSN (As := [.int v1]) (rest := [.long (sB_lof σ (Int32.toNatClampNeg r17)), .int r17, .ref (a 14)]) ⟨hx, hb, hml, hown, hg⟩ (c_BlockRuler_only l v1 _ rfl) ⟨va_cnB 1 hg (gdC wd35) rfl rfl rfl (hN _ nw7) (hg _ wd22) (by decide +kernel) ⟨Nat.le_of_ble_eq_true rfl, Nat.le_of_ble_eq_true rfl⟩, hg _ wd36, trivial⟩ ⟨va_blind0, fun U hU hW => ⟨rfl, trivial⟩⟩ rfl rfl hl.1 rfl (lv_room (Nat.le_of_ble_eq_true rfl)) d_Loops_markWaysOf_72 ⟨Nat.zero_le _, Nat.zero_le _⟩) ?_
            refine lv_lor hx hb d_Loops_markWaysOf_75 ?_
            refine va_last (f := sB_lof σ) (n := 64) hx hb hK hP hD hS 14 9 (rdB_lof a cs (uB_knots (uB_backs σ ((sB_backs σ) + 1)) ((sB_knots σ) + 1)) ((gB_lof_knots _ _).trans (gB_lof_backs _ _))) rfl hi18 d_Loops_markWaysOf_76 (fun H locs hP hD hS => ?_)
            have hP := va_Pe (setB_lof a cs (uB_knots (uB_backs σ ((sB_backs σ) + 1)) ((sB_knots σ) + 1)) (vp_updL (sB_lof σ) (Int32.toNatClampNeg r17) ((sB_lof σ (Int32.toNatClampNeg r17)) ||| (f_BlockRuler_only v1)))) hP
            have hD := va_De (setB_lof a cs (uB_knots (uB_backs σ ((sB_backs σ) + 1)) ((sB_knots σ) + 1)) (vp_updL (sB_lof σ) (Int32.toNatClampNeg r17) ((sB_lof σ (Int32.toNatClampNeg r17)) ||| (f_BlockRuler_only v1)))) hD
            refine lv_iinc (v := v2 + 1) (lv' := [(2, .int (v2 + 1)), (3, .int r3), (0, .ref (a 4)), (1, .int v1)]) hx hb d_Loops_markWaysOf_77 hl (k := 3) rfl rfl (by decide) rfl (fun ls hl => ?_)
            refine lv_goto (tgt := 2) hx hb d_Loops_markWaysOf_80 (by decide) ?_
            exact ih (uB_lof (uB_knots (uB_backs σ ((sB_backs σ) + 1)) ((sB_knots σ) + 1)) (vp_updL (sB_lof σ) (Int32.toNatClampNeg r17) ((sB_lof σ (Int32.toNatClampNeg r17)) ||| (f_BlockRuler_only v1)))) v1 (v2 + 1) y h _ _ ls hP hD hS (lv_sub hl [2, 3, 0] rfl) k0
set_option maxHeartbeats 4000000 in
set_option maxRecDepth 100000 in
theorem c_Loops_markWaysOf (l : Launch) (dC : Nat → ClassId) (dI : Nat → Nat → Nat) (a : Nat → Nat) (cs : Nat → ClassId) (sz : Nat) (σ : SB) (v1 : Int32) (r : SB) (h : f_Loops_markWaysOf σ v1 = some r) : Met l y_Loops_markWaysOf w_Loops_markWaysOf rm_Loops_markWaysOf (va_Pc [.ref (a 4), .int v1] (fun U => U.heap.size = sz ∧ WDB dC dI a cs σ U)) (va_Qv (fun u : SB => u = r) (atB dC dI a cs (va_A (wsB a cs σ) sz)) (va_A (wsB a cs σ) sz)) 0 0 (va_A (wsB a cs σ) sz) := by
  refine Met.ofW (cc := b_Loops_markWaysOf) (maxL := 4) (ret := none) (by decide) rfl ?_
  intro p e s m args below meth c s₁ B hml hv
  obtain ⟨rfl, hsz, hP, hK, hN, hD0⟩ := hv
  have hx := B.exec
  have hb := B.bytes
  have hr := B.returns
  have hg : ∀ w ∈ G_, w.before _ s = true := fun w hw => atoms_spec (ws := w_Loops_markWaysOf) B.pre w (List.mem_cons_of_mem _ hw)
  have hown : s.vm.findClass "BlockRuler$Loops" = some m.cls := findClass_of_methodNamed B.named
  have hlocks := B.notSynchronized
  have C0 : Cx "BlockRuler$Loops" b_Loops_markWaysOf 4 p s m _ meth c := ⟨hx, hb, hml, hown, hg, hlocks⟩
  subst hsz
  have hD := hD0.self (sz := s.heap.size)
  generalize hAe : va_A (wsB a cs σ) s.heap.size = A at hD ⊢
  have hA : ∀ q : Nat, s.heap.size ≤ q → A q := fun q h => by rw [← hAe]; exact Or.inr h
  have hS : va_S A s.heap s.heap [] := va_S.rf
  have hl := lv_entry ([.ref (a 4), .int v1]) (n := 4) (Nat.le_of_ble_eq_true rfl)
  rw [lg_entry_eq]
  generalize (lg_sl ([.ref (a 4), .int v1]) ++ List.replicate (4 - (lg_sl ([.ref (a 4), .int v1])).length) Slot.unset).toArray = ls at hl ⊢
  have hl : lv_has ls 4 [(0, .ref (a 4)), (1, .int v1)] := hl
  unfold f_Loops_markWaysOf at h
  refine lv_iconst (v := 0) hx hb d_Loops_markWaysOf_0 (by decide) ?_
  refine lv_istore_n (lv' := [(2, .int 0), (0, .ref (a 4)), (1, .int v1)]) hx hb d_Loops_markWaysOf_1 rfl hl (by decide) rfl (fun ls hl => ?_)
  obtain ⟨y19, hy19, h⟩ := bd h
  refine lpW_Loops_markWaysOf_2 C0 hK hN hA 100 σ v1 0 y19 hy19 _ _ ls hP hD hS (lv_sub hl [1, 2, 0] rfl) (fun H locs ls hP hD hS hl => ?_)
  exact W.vret hx hb hr (fun t ht hW => ⟨⟨y19.2, rfl, Option.some.inj h, by rw [ht]; exact hP, hD⟩, hS.F ht⟩) hS.2.2 d_Loops_markWaysOf_83
set_option maxHeartbeats 4000000 in
set_option maxRecDepth 100000 in
theorem lpW_Loops_grown_23 {p : Program} {l : Launch} {e : Env} {s : State} {m : MethodId} {args : Array Value} {below : List Frame} {meth : Method} {c : Code} {Q : State → Prop} {dC : Nat → ClassId} {dI : Nat → Nat → Nat} {a : Nat → Nat} {cs : Nat → ClassId} {H : Heap} {locs : List Loc} (C0 : Cx "BlockRuler$Loops" b_Loops_grown 11 p s m args meth c) (hK : va_K (dC, dI) classes (tyB cs) s) (hN : NW s) : ∀ (n : Nat) (σ : SB) (v4 : Int64) (v6 : Int64) (v8 : Int32) (y : Int64 × Int64 × Int32), lp_Loops_grown_23 n σ v4 v6 v8 = some y → va_P (dC, dI) classes (wsB a cs σ) H → ∀ (ls : Array Slot), lv_has ls 11 [(0, .ref (a 4)), (4, .long v4), (6, .long v6), (8, .int v8)] → (∀ (ls : Array Slot), lv_has ls 11 [(0, .ref (a 4)), (4, .long y.1), (6, .long y.2.1), (8, .int y.2.2)] → W p l e (headSpec w_Loops_grown rm_Loops_grown).room s m args below meth c H locs 0 0 Q (F0 m 82 ls [])) → W p l e (headSpec w_Loops_grown rm_Loops_grown).room s m args below meth c H locs 0 0 Q (F0 m 23 ls []) := by
  have C1 := C0
  obtain ⟨hx, hb, hml, hown, hg, hlocks⟩ := C1
  intro n
  induction n with
  | zero => intro σ v4 v6 v8 y h; exact absurd (show (none : Option (Int64 × Int64 × Int32)) = some y from h) (fun q => by cases q)
  | succ n ih =>
    intro σ v4 v6 v8 y h hP ls hl k0
    rw [lp_Loops_grown_23_s] at h
    refine lv_iload hx hb d_Loops_grown_23 (lv_at hl 3 rfl) ?_
    refine lv_bipush (v := 64) hx hb d_Loops_grown_25 (by decide) ?_
    refine lv_icmp_ge (tgt := 82) hx hb d_Loops_grown_27 (by decide) (fun c3 => ?_) (fun c3 => ?_)
    · have h := b_t h c3
      obtain rfl := Option.some.inj h
      exact k0 ls (lv_sub hl [0, 1, 2, 3] rfl)
    · have h := b_f h c3
      refine lv_lload hx hb d_Loops_grown_30 (lv_at hl 2 rfl) ?_
      refine lv_lconst (v := 0) hx hb d_Loops_grown_32 (by decide) ?_
      refine W.lcmp hx hb d_Loops_grown_33 ?_
      refine lv_if_eq (tgt := 82) hx hb d_Loops_grown_34 (by decide) (fun c4 => ?_) (fun c4 => ?_)
      · have h := b_t h c4
        obtain rfl := Option.some.inj h
        exact k0 ls (lv_sub hl [0, 1, 2, 3] rfl)
      · have h := b_f h c4
        refine lv_aload_n hx hb d_Loops_grown_37 rfl (lv_at hl 0 rfl) ?_
        refine va_get (D := (dC, dI)) (ci := 4) (v := .ref (a 2)) (C := "BlockRuler$Loops") (T := F_Loops) (N := 7) hx hb hg i_Loops hown hK hP 4 rfl rfl 1 (by decide) (hg _ wd86) (fun _ h9 => h9) rfl d_Loops_grown_38 ?_
        refine va_get (D := (dC, dI)) (ci := 2) (v := .ref (a 11)) (C := "BlockRuler$Walk") (T := F_Walk) (N := 9) hx hb hg i_Walk hown hK hP 2 rfl rfl 5 (by decide) (hg _ wd112) (fun _ h9 => h9) rfl d_Loops_grown_41 ?_
        refine lv_lload hx hb d_Loops_grown_44 (lv_at hl 2 rfl) ?_
        refine ro_call (v := .int (f_BlockRuler_least v6)) (va_runSN (As := [.long v6]) (rest := [.ref (a 11)]) ⟨hx, hb, hml, hown, hg⟩ (c_BlockRuler_least l v6 _ rfl) ⟨va_cnB 1 hg (gdC wd26) rfl rfl rfl (hN _ nw8) (hg _ wd22) (by decide +kernel) ⟨Nat.le_of_ble_eq_true rfl, Nat.le_of_ble_eq_true rfl⟩, hg _ wd25, trivial⟩ ⟨va_blind0, fun U hU hW => ⟨rfl, trivial⟩⟩ rfl rfl hl.1 rfl (lv_room (Nat.le_of_ble_eq_true rfl)) d_Loops_grown_46 ⟨Nat.zero_le _, Nat.zero_le _⟩) ?_
        obtain ⟨hi5, h⟩ := gd h
        refine va_lald (f := sB_comers σ) (n := 64) hx hb hK hP 11 6 rfl rfl hi5 d_Loops_grown_49 ?_
        refine lv_lload hx hb d_Loops_grown_50 (lv_at hl 1 rfl) ?_
        refine lv_ldc2 (v := -1) hx hb hown (hg _ wd111) d_Loops_grown_52 ?_
        refine lv_lxor hx hb d_Loops_grown_55 ?_
        refine lv_land hx hb d_Loops_grown_56 ?_
        refine lv_topl (fun x6 ex6 => ?_)
        have h := lt_ h x6 ex6
        refine lv_lstore (lv' := [(9, .long x6), (0, .ref (a 4)), (4, .long v4), (6, .long v6), (8, .int v8)]) hx hb d_Loops_grown_57 hl (by decide) rfl (fun ls hl => ?_)
        refine lv_lload hx hb d_Loops_grown_59 (lv_at hl 2 rfl) ?_
        refine lv_lload hx hb d_Loops_grown_61 (lv_at hl 0 rfl) ?_
        refine lv_lor hx hb d_Loops_grown_63 ?_
        refine lv_lstore (lv' := [(4, .long (v4 ||| x6)), (9, .long x6), (0, .ref (a 4)), (6, .long v6), (8, .int v8)]) hx hb d_Loops_grown_64 hl (by decide) rfl (fun ls hl => ?_)
        refine lv_lload hx hb d_Loops_grown_66 (lv_at hl 3 rfl) ?_
        refine ro_call (v := .long (f_BlockRuler_withoutLeast v6)) (va_runSN (As := [.long v6]) (rest := []) ⟨hx, hb, hml, hown, hg⟩ (c_BlockRuler_withoutLeast l v6 _ rfl) ⟨va_cnB 1 hg (gdC wd23) rfl rfl rfl (hN _ nw9) (hg _ wd22) (by decide +kernel) ⟨Nat.le_of_ble_eq_true rfl, Nat.le_of_ble_eq_true rfl⟩, hg _ wd21, trivial⟩ ⟨va_blind0, fun U hU hW => ⟨rfl, trivial⟩⟩ rfl rfl hl.1 rfl (lv_room (Nat.le_of_ble_eq_true rfl)) d_Loops_grown_68 ⟨Nat.zero_le _, Nat.zero_le _⟩) ?_
        refine lv_lload hx hb d_Loops_grown_71 (lv_at hl 1 rfl) ?_
        refine lv_lor hx hb d_Loops_grown_73 ?_
        refine lv_topl (fun x7 ex7 => ?_)
        have h := lt_ h x7 ex7
        refine lv_lstore (lv' := [(6, .long x7), (4, .long (v4 ||| x6)), (9, .long x6), (0, .ref (a 4)), (8, .int v8)]) hx hb d_Loops_grown_74 hl (by decide) rfl (fun ls hl => ?_)
        refine lv_iinc (v := v8 + 1) (lv' := [(8, .int (v8 + 1)), (6, .long x7), (4, .long (v4 ||| x6)), (9, .long x6), (0, .ref (a 4))]) hx hb d_Loops_grown_76 hl (k := 4) rfl rfl (by decide) rfl (fun ls hl => ?_)
        refine lv_goto (tgt := 23) hx hb d_Loops_grown_79 (by decide) ?_
        exact ih σ (v4 ||| x6) x7 (v8 + 1) y h hP ls (lv_sub hl [4, 2, 1, 0] rfl) k0
set_option maxHeartbeats 4000000 in
set_option maxRecDepth 100000 in
theorem c_Loops_grown (l : Launch) (dC : Nat → ClassId) (dI : Nat → Nat → Nat) (a : Nat → Nat) (cs : Nat → ClassId) (σ : SB) (v1 : Int32) (v2 : Int64) (r : Int64) (h : f_Loops_grown σ v1 v2 = some r) : Met l y_Loops_grown w_Loops_grown rm_Loops_grown (va_Pc [.ref (a 4), .int v1, .long v2] (WBB dC dI a cs σ)) (QcV (.long r)) 0 0 (fun _ => False) := by
  refine Met.ofW (cc := b_Loops_grown) (maxL := 11) (ret := (some .long)) (by decide) rfl ?_
  intro p e s m args below meth c s₁ B hml hv
  obtain ⟨rfl, hP, hK, hN⟩ := hv
  have hx := B.exec
  have hb := B.bytes
  have hr := B.returns
  have hg : ∀ w ∈ G_, w.before _ s = true := fun w hw => atoms_spec (ws := w_Loops_grown) B.pre w (List.mem_cons_of_mem _ hw)
  have hown : s.vm.findClass "BlockRuler$Loops" = some m.cls := findClass_of_methodNamed B.named
  have hlocks := B.notSynchronized
  have C0 : Cx "BlockRuler$Loops" b_Loops_grown 11 p s m _ meth c := ⟨hx, hb, hml, hown, hg, hlocks⟩
  have hl := lv_entry ([.ref (a 4), .int v1, .long v2]) (n := 11) (Nat.le_of_ble_eq_true rfl)
  rw [lg_entry_eq]
  generalize (lg_sl ([.ref (a 4), .int v1, .long v2]) ++ List.replicate (11 - (lg_sl ([.ref (a 4), .int v1, .long v2])).length) Slot.unset).toArray = ls at hl ⊢
  have hl : lv_has ls 11 [(0, .ref (a 4)), (1, .int v1), (2, .long v2)] := hl
  unfold f_Loops_grown at h
  refine lv_lload_n hx hb d_Loops_grown_0 rfl (lv_at hl 2 rfl) ?_
  refine lv_iload_n hx hb d_Loops_grown_1 rfl (lv_at hl 1 rfl) ?_
  refine ro_call (v := .long (f_BlockRuler_only v1)) (va_runSN (As := [.int v1]) (rest := [.long v2]) ⟨hx, hb, hml, hown, hg⟩ (c_BlockRuler_only l v1 _ rfl) ⟨va_cnB 1 hg (gdC wd35) rfl rfl rfl (hN _ nw7) (hg _ wd22) (by decide +kernel) ⟨Nat.le_of_ble_eq_true rfl, Nat.le_of_ble_eq_true rfl⟩, hg _ wd36, trivial⟩ ⟨va_blind0, fun U hU hW => ⟨rfl, trivial⟩⟩ rfl rfl hl.1 rfl (lv_room (Nat.le_of_ble_eq_true rfl)) d_Loops_grown_2 ⟨Nat.zero_le _, Nat.zero_le _⟩) ?_
  refine lv_lor hx hb d_Loops_grown_5 ?_
  refine lv_topl (fun x1 ex1 => ?_)
  have h := lt_ h x1 ex1
  refine lv_lstore (lv' := [(4, .long x1), (0, .ref (a 4)), (1, .int v1), (2, .long v2)]) hx hb d_Loops_grown_6 hl (by decide) rfl (fun ls hl => ?_)
  refine lv_lload_n hx hb d_Loops_grown_8 rfl (lv_at hl 3 rfl) ?_
  refine lv_iload_n hx hb d_Loops_grown_9 rfl (lv_at hl 2 rfl) ?_
  refine ro_call (v := .long (f_BlockRuler_only v1)) (va_runSN (As := [.int v1]) (rest := [.long v2]) ⟨hx, hb, hml, hown, hg⟩ (c_BlockRuler_only l v1 _ rfl) ⟨va_cnB 1 hg (gdC wd35) rfl rfl rfl (hN _ nw7) (hg _ wd22) (by decide +kernel) ⟨Nat.le_of_ble_eq_true rfl, Nat.le_of_ble_eq_true rfl⟩, hg _ wd36, trivial⟩ ⟨va_blind0, fun U hU hW => ⟨rfl, trivial⟩⟩ rfl rfl hl.1 rfl (lv_room (Nat.le_of_ble_eq_true rfl)) d_Loops_grown_10 ⟨Nat.zero_le _, Nat.zero_le _⟩) ?_
  refine lv_ldc2 (v := -1) hx hb hown (hg _ wd111) d_Loops_grown_13 ?_
  refine lv_lxor hx hb d_Loops_grown_16 ?_
  refine lv_land hx hb d_Loops_grown_17 ?_
  refine lv_topl (fun x2 ex2 => ?_)
  have h := lt_ h x2 ex2
  refine lv_lstore (lv' := [(6, .long x2), (4, .long x1), (0, .ref (a 4)), (1, .int v1), (2, .long v2)]) hx hb d_Loops_grown_18 hl (by decide) rfl (fun ls hl => ?_)
  refine lv_iconst (v := 0) hx hb d_Loops_grown_20 (by decide) ?_
  refine lv_istore (lv' := [(8, .int 0), (6, .long x2), (4, .long x1), (0, .ref (a 4)), (1, .int v1), (2, .long v2)]) hx hb d_Loops_grown_21 hl (by decide) rfl (fun ls hl => ?_)
  obtain ⟨y8, hy8, h⟩ := bd h
  refine lpW_Loops_grown_23 C0 hK hN 100 σ x1 x2 0 y8 hy8 hP ls (lv_sub hl [3, 2, 1, 0] rfl) (fun ls hl => ?_)
  refine lv_lload hx hb d_Loops_grown_82 (lv_at hl 1 rfl) ?_
  exact W.lret (v := y8.1) hx hb hr (fun t ht _ => ⟨by rw [Option.some.inj h], ht⟩) (fun q hq => by cases hq) d_Loops_grown_84
set_option maxHeartbeats 4000000 in
set_option maxRecDepth 100000 in
theorem lpW_Loops_make_6 {p : Program} {l : Launch} {e : Env} {s : State} {m : MethodId} {args : Array Value} {below : List Frame} {meth : Method} {c : Code} {Q : State → Prop} {dC : Nat → ClassId} {dI : Nat → Nat → Nat} {a : Nat → Nat} {cs : Nat → ClassId} {A : Nat → Prop} (C0 : Cx "BlockRuler$Loops" b_Loops_make 2 p s m args meth c) (hK : va_K (dC, dI) classes (tyB cs) s) (hN : NW s) (hA : ∀ q : Nat, s.heap.size ≤ q → A q) : ∀ (n : Nat) (σ : SB) (v1 : Int32) (y : Int32 × SB), lp_Loops_make_6 n σ v1 = some y → ∀ (H : Heap) (locs : List Loc) (ls : Array Slot), va_P (dC, dI) classes (wsB a cs σ) H → va_D A (wsB a cs σ) → va_S A s.heap H locs → lv_has ls 2 [(0, .ref (a 4)), (1, .int v1)] → (∀ (H : Heap) (locs : List Loc) (ls : Array Slot), va_P (dC, dI) classes (wsB a cs y.2) H → va_D A (wsB a cs y.2) → va_S A s.heap H locs → lv_has ls 2 [(0, .ref (a 4)), (1, .int y.1)] → W p l e (headSpec w_Loops_make rm_Loops_make).room s m args below meth c H locs 0 0 Q (F0 m 35 ls [])) → W p l e (headSpec w_Loops_make rm_Loops_make).room s m args below meth c H locs 0 0 Q (F0 m 6 ls []) := by
  have C1 := C0
  obtain ⟨hx, hb, hml, hown, hg, hlocks⟩ := C1
  intro n
  induction n with
  | zero => intro σ v1 y h; exact absurd (show (none : Option (Int32 × SB)) = some y from h) (fun q => by cases q)
  | succ n ih =>
    intro σ v1 y h H locs ls hP hD hS hl k0
    rw [lp_Loops_make_6_s] at h
    refine lv_iload_n hx hb d_Loops_make_6 rfl (lv_at hl 1 rfl) ?_
    refine lv_aload_n hx hb d_Loops_make_7 rfl (lv_at hl 0 rfl) ?_
    refine va_get (D := (dC, dI)) (ci := 4) (v := .ref (a 2)) (C := "BlockRuler$Loops") (T := F_Loops) (N := 7) hx hb hg i_Loops hown hK hP 4 rfl rfl 1 (by decide) (hg _ wd86) (fun _ h9 => h9) rfl d_Loops_make_8 ?_
    refine va_get (D := (dC, dI)) (ci := 2) (v := .int (sB_reached σ)) (C := "BlockRuler$Walk") (T := F_Walk) (N := 9) hx hb hg i_Walk hown hK hP 2 rfl rfl 7 (by decide) (hg _ wd100) (fun _ h9 => h9) rfl d_Loops_make_11 ?_
    refine lv_icmp_ge (tgt := 35) hx hb d_Loops_make_14 (by decide) (fun c2 => ?_) (fun c2 => ?_)
    · have h := b_t h c2
      obtain rfl := Option.some.inj h
      exact k0 _ _ ls hP hD hS (lv_sub hl [0, 1] rfl)
    · have h := b_f h c2
      refine lv_aload_n hx hb d_Loops_make_17 rfl (lv_at hl 0 rfl) ?_
      refine lv_aload_n hx hb d_Loops_make_18 rfl (lv_at hl 0 rfl) ?_
      refine va_get (D := (dC, dI)) (ci := 4) (v := .ref (a 2)) (C := "BlockRuler$Loops") (T := F_Loops) (N := 7) hx hb hg i_Loops hown hK hP 4 rfl rfl 1 (by decide) (hg _ wd86) (fun _ h9 => h9) rfl d_Loops_make_19 ?_
      refine lv_iload_n hx hb d_Loops_make_22 rfl (lv_at hl 1 rfl) ?_
      obtain ⟨r3, hr3, h⟩ := bd h
      refine ro_call (v := .int r3) (va_runV (C := "BlockRuler$Walk") (As := [.int v1]) (rest := [.ref (a 4)]) ⟨hx, hb, hml, hown, hg⟩ (c_Walk_blockAt l dC dI a cs σ v1 _ hr3) (cwV 1 hg (gdV wd101 wd52 wd51 wd45 wd54) rfl rfl rfl (by decide +kernel) ⟨Nat.le_of_ble_eq_true rfl, Nat.le_of_ble_eq_true rfl⟩) ⟨wb_blind, va_recv hK hP (ci := 2) (q0 := 2) rfl rfl, fun U hU hW => ⟨rfl, wb_pre hU hW hP hK hN⟩⟩ rfl rfl hl.1 rfl (lv_room (Nat.le_of_ble_eq_true rfl)) d_Loops_make_23 ⟨Nat.zero_le _, Nat.zero_le _⟩) ?_
      obtain ⟨r4, hr4, h⟩ := bd h
      have hFc := va_free (wc := wsB a cs σ) hD hS hA [0, 1, 2, 3, 4, 5, 6, 7, 8, 9, 10, 11, 12, 13, 14] (allB a cs σ)
      refine va_callv (va_runV (C := "BlockRuler$Loops") (As := [.int r3]) (rest := []) ⟨hx, hb, hml, hown, hg⟩ (c_Loops_markWaysOf l dC dI a cs _ σ r3 _ hr4) (cwV 1 hg (gdV wd119 wd118 wd117 wd94 wd120) rfl rfl rfl (by decide +kernel) ⟨Nat.le_of_ble_eq_true rfl, Nat.le_of_ble_eq_true rfl⟩) ⟨wbz_blind, va_recv hK hP (ci := 4) (q0 := 4) rfl rfl, fun U hU hW => ⟨rfl, by rw [hU], wb_preD hU hW hP hK hN hD⟩⟩ rfl rfl hl.1 rfl (lv_room (Nat.le_of_ble_eq_true rfl)) d_Loops_make_26 ⟨Nat.zero_le _, Nat.zero_le _⟩) hS (fun q _ h => hFc q h) hFc (fun u t H locs ht hvm hw hB hz1 hk1 hS => ?_)
      obtain rfl : r4 = u := hw.symm
      have hP : va_P (dC, dI) classes (wsB a cs r4) H := by have q := hB.1; rw [ht] at q; exact q
      have hD : va_D A (wsB a cs r4) := hB.2.weaken (fun _ _ _ h => hFc _ h)
      refine lv_iinc (v := v1 + 1) (lv' := [(1, .int (v1 + 1)), (0, .ref (a 4))]) hx hb d_Loops_make_29 hl (k := 1) rfl rfl (by decide) rfl (fun ls hl => ?_)
      refine lv_goto (tgt := 6) hx hb d_Loops_make_32 (by decide) ?_
      exact ih r4 (v1 + 1) y h _ _ ls hP hD hS (lv_sub hl [1, 0] rfl) k0
set_option maxHeartbeats 4000000 in
set_option maxRecDepth 100000 in
theorem lpW_Loops_make_37 {p : Program} {l : Launch} {e : Env} {s : State} {m : MethodId} {args : Array Value} {below : List Frame} {meth : Method} {c : Code} {Q : State → Prop} {dC : Nat → ClassId} {dI : Nat → Nat → Nat} {a : Nat → Nat} {cs : Nat → ClassId} {A : Nat → Prop} (C0 : Cx "BlockRuler$Loops" b_Loops_make 2 p s m args meth c) (hK : va_K (dC, dI) classes (tyB cs) s) (hN : NW s) (hA : ∀ q : Nat, s.heap.size ≤ q → A q) : ∀ (n : Nat) (σ : SB) (v1 : Int32) (y : Int32 × SB), lp_Loops_make_37 n σ v1 = some y → ∀ (H : Heap) (locs : List Loc) (ls : Array Slot), va_P (dC, dI) classes (wsB a cs σ) H → va_D A (wsB a cs σ) → va_S A s.heap H locs → lv_has ls 2 [(0, .ref (a 4)), (1, .int v1)] → (∀ (H : Heap) (locs : List Loc) (ls : Array Slot), va_P (dC, dI) classes (wsB a cs y.2) H → va_D A (wsB a cs y.2) → va_S A s.heap H locs → lv_has ls 2 [(0, .ref (a 4)), (1, .int y.1)] → W p l e (headSpec w_Loops_make rm_Loops_make).room s m args below meth c H locs 0 0 Q (F0 m 87 ls [])) → W p l e (headSpec w_Loops_make rm_Loops_make).room s m args below meth c H locs 0 0 Q (F0 m 37 ls []) := by
  have C1 := C0
  obtain ⟨hx, hb, hml, hown, hg, hlocks⟩ := C1
  intro n
  induction n with
  | zero => intro σ v1 y h; exact absurd (show (none : Option (Int32 × SB)) = some y from h) (fun q => by cases q)
  | succ n ih =>
    intro σ v1 y h H locs ls hP hD hS hl k0
    rw [lp_Loops_make_37_s] at h
    refine lv_iload_n hx hb d_Loops_make_37 rfl (lv_at hl 1 rfl) ?_
    refine lv_bipush (v := 64) hx hb d_Loops_make_38 (by decide) ?_
    refine lv_icmp_ge (tgt := 87) hx hb d_Loops_make_40 (by decide) (fun c6 => ?_) (fun c6 => ?_)
    · have h := b_t h c6
      obtain rfl := Option.some.inj h
      exact k0 _ _ ls hP hD hS (lv_sub hl [0, 1] rfl)
    · have h := b_f h c6
      refine lv_aload_n hx hb d_Loops_make_43 rfl (lv_at hl 0 rfl) ?_
      refine va_get (D := (dC, dI)) (ci := 4) (v := .ref (a 14)) (C := "BlockRuler$Loops") (T := F_Loops) (N := 7) hx hb hg i_Loops hown hK hP 4 rfl rfl 3 (by decide) (hg _ wd90) (fun _ h9 => h9) rfl d_Loops_make_44 ?_
      refine lv_iload_n hx hb d_Loops_make_47 rfl (lv_at hl 1 rfl) ?_
      obtain ⟨hi7, h⟩ := gd h
      refine va_lald (f := sB_lof σ) (n := 64) hx hb hK hP 14 9 rfl rfl hi7 d_Loops_make_48 ?_
      refine lv_lconst (v := 0) hx hb d_Loops_make_49 (by decide) ?_
      refine W.lcmp hx hb d_Loops_make_50 ?_
      refine lv_if_eq (tgt := 81) hx hb d_Loops_make_51 (by decide) (fun c8 => ?_) (fun c8 => ?_)
      · have h := b_t h c8
        refine lv_iinc (v := v1 + 1) (lv' := [(1, .int (v1 + 1)), (0, .ref (a 4))]) hx hb d_Loops_make_81 hl (k := 1) rfl rfl (by decide) rfl (fun ls hl => ?_)
        refine lv_goto (tgt := 37) hx hb d_Loops_make_84 (by decide) ?_
        exact ih σ (v1 + 1) y h _ _ ls hP hD hS (lv_sub hl [1, 0] rfl) k0
      · have h := b_f h c8
        refine lv_aload_n hx hb d_Loops_make_54 rfl (lv_at hl 0 rfl) ?_
        refine lv_dup hx hb d_Loops_make_55 rfl ?_
        refine va_get (D := (dC, dI)) (ci := 4) (v := .int (sB_heads σ)) (C := "BlockRuler$Loops") (T := F_Loops) (N := 7) hx hb hg i_Loops hown hK hP 4 rfl rfl 4 (by decide) (hg _ wd103) (fun _ h9 => h9) rfl d_Loops_make_56 ?_
        refine lv_iconst (v := 1) hx hb d_Loops_make_59 (by decide) ?_
        refine lv_iadd hx hb d_Loops_make_60 ?_
        refine va_put (D := (dC, dI)) (ci := 4) (v := .int ((sB_heads σ) + 1)) (ty := .int) (C := "BlockRuler$Loops") (T := F_Loops) (N := 7) hx hb hg i_Loops t_Loops t_Loops_ok n_Loops hown hK hP hD hS 4 rfl rfl 4 (by decide) (hg _ wd103) (fun _ h9 => h9) rfl (by decide +kernel) rfl rfl (Nat.le_of_ble_eq_true rfl) d_Loops_make_61 (fun H locs hP hD hS => ?_)
        have hP := va_Pe (setB_heads a cs σ ((sB_heads σ) + 1)) hP
        have hD := va_De (setB_heads a cs σ ((sB_heads σ) + 1)) hD
        refine lv_aload_n hx hb d_Loops_make_64 rfl (lv_at hl 0 rfl) ?_
        refine va_get (D := (dC, dI)) (ci := 4) (v := .ref (a 14)) (C := "BlockRuler$Loops") (T := F_Loops) (N := 7) hx hb hg i_Loops hown hK hP 4 rfl rfl 3 (by decide) (hg _ wd90) (fun _ h9 => h9) rfl d_Loops_make_65 ?_
        refine lv_iload_n hx hb d_Loops_make_68 rfl (lv_at hl 1 rfl) ?_
        refine lv_aload_n hx hb d_Loops_make_69 rfl (lv_at hl 0 rfl) ?_
        refine lv_iload_n hx hb d_Loops_make_70 rfl (lv_at hl 1 rfl) ?_
        refine lv_aload_n hx hb d_Loops_make_71 rfl (lv_at hl 0 rfl) ?_
        refine va_get (D := (dC, dI)) (ci := 4) (v := .ref (a 14)) (C := "BlockRuler$Loops") (T := F_Loops) (N := 7) hx hb hg i_Loops hown hK hP 4 rfl rfl 3 (by decide) (hg _ wd90) (fun _ h9 => h9) rfl d_Loops_make_72 ?_
        refine lv_iload_n hx hb d_Loops_make_75 rfl (lv_at hl 1 rfl) ?_
        refine va_lald (f := sB_lof σ) (n := 64) hx hb hK hP 14 9 (rdB_lof a cs (uB_heads σ ((sB_heads σ) + 1)) (gB_lof_heads _ _)) rfl hi7 d_Loops_make_76 ?_
        obtain ⟨r9, hr9, h⟩ := bd h
        refine ro_call (v := .long r9) (va_runV (C := "BlockRuler$Loops") (As := [.int v1, .long (sB_lof σ (Int32.toNatClampNeg v1))]) (rest := [.int v1, .ref (a 14)]) ⟨hx, hb, hml, hown, hg⟩ (c_Loops_grown l dC dI a cs (uB_heads σ ((sB_heads σ) + 1)) v1 (sB_lof σ (Int32.toNatClampNeg v1)) _ hr9) (cwV 2 hg (gdV wd123 wd122 wd121 wd94 wd124) rfl rfl rfl (by decide +kernel) ⟨Nat.le_of_ble_eq_true rfl, Nat.le_of_ble_eq_true rfl⟩) ⟨wb_blind, va_recv hK hP (ci := 4) (q0 := 4) rfl rfl, fun U hU hW => ⟨rfl, wb_pre hU hW hP hK hN⟩⟩ rfl rfl hl.1 rfl (lv_room (Nat.le_of_ble_eq_true rfl)) d_Loops_make_77 ⟨Nat.zero_le _, Nat.zero_le _⟩) ?_
        refine va_last (f := sB_lof σ) (n := 64) hx hb hK hP hD hS 14 9 (rdB_lof a cs (uB_heads σ ((sB_heads σ) + 1)) (gB_lof_heads _ _)) rfl hi7 d_Loops_make_80 (fun H locs hP hD hS => ?_)
        have hP := va_Pe (setB_lof a cs (uB_heads σ ((sB_heads σ) + 1)) (vp_updL (sB_lof σ) (Int32.toNatClampNeg v1) r9)) hP
        have hD := va_De (setB_lof a cs (uB_heads σ ((sB_heads σ) + 1)) (vp_updL (sB_lof σ) (Int32.toNatClampNeg v1) r9)) hD
        refine lv_iinc (v := v1 + 1) (lv' := [(1, .int (v1 + 1)), (0, .ref (a 4))]) hx hb d_Loops_make_81 hl (k := 1) rfl rfl (by decide) rfl (fun ls hl => ?_)
        refine lv_goto (tgt := 37) hx hb d_Loops_make_84 (by decide) ?_
        exact ih (uB_lof (uB_heads σ ((sB_heads σ) + 1)) (vp_updL (sB_lof σ) (Int32.toNatClampNeg v1) r9)) (v1 + 1) y h _ _ ls hP hD hS (lv_sub hl [1, 0] rfl) k0
set_option maxHeartbeats 4000000 in
set_option maxRecDepth 100000 in
theorem c_Loops_make (l : Launch) (dC : Nat → ClassId) (dI : Nat → Nat → Nat) (a : Nat → Nat) (cs : Nat → ClassId) (sz : Nat) (σ : SB) (r : SB) (h : f_Loops_make σ = some r) : Met l y_Loops_make w_Loops_make rm_Loops_make (va_Pc [.ref (a 4)] (fun U => U.heap.size = sz ∧ WDB dC dI a cs σ U)) (va_Qv (fun u : SB => u = r) (atB dC dI a cs (va_A (wsB a cs σ) sz)) (va_A (wsB a cs σ) sz)) 0 0 (va_A (wsB a cs σ) sz) := by
  refine Met.ofW (cc := b_Loops_make) (maxL := 2) (ret := none) (by decide) rfl ?_
  intro p e s m args below meth c s₁ B hml hv
  obtain ⟨rfl, hsz, hP, hK, hN, hD0⟩ := hv
  have hx := B.exec
  have hb := B.bytes
  have hr := B.returns
  have hg : ∀ w ∈ G_, w.before _ s = true := fun w hw => atoms_spec (ws := w_Loops_make) B.pre w (List.mem_cons_of_mem _ hw)
  have hown : s.vm.findClass "BlockRuler$Loops" = some m.cls := findClass_of_methodNamed B.named
  have hlocks := B.notSynchronized
  have C0 : Cx "BlockRuler$Loops" b_Loops_make 2 p s m _ meth c := ⟨hx, hb, hml, hown, hg, hlocks⟩
  subst hsz
  have hD := hD0.self (sz := s.heap.size)
  generalize hAe : va_A (wsB a cs σ) s.heap.size = A at hD ⊢
  have hA : ∀ q : Nat, s.heap.size ≤ q → A q := fun q h => by rw [← hAe]; exact Or.inr h
  have hS : va_S A s.heap s.heap [] := va_S.rf
  have hl := lv_entry ([.ref (a 4)]) (n := 2) (Nat.le_of_ble_eq_true rfl)
  rw [lg_entry_eq]
  generalize (lg_sl ([.ref (a 4)]) ++ List.replicate (2 - (lg_sl ([.ref (a 4)])).length) Slot.unset).toArray = ls at hl ⊢
  have hl : lv_has ls 2 [(0, .ref (a 4))] := hl
  unfold f_Loops_make at h
  refine lv_aload_n hx hb d_Loops_make_0 rfl (lv_at hl 0 rfl) ?_
  obtain ⟨r1, hr1, h⟩ := bd h
  have hFc := va_free (wc := wsB a cs σ) hD hS hA [0, 1, 2, 3, 4, 5, 6, 7, 8, 9, 10, 11, 12, 13, 14] (allB a cs σ)
  refine va_callv (va_runV (C := "BlockRuler$Loops") (As := []) (rest := []) ⟨hx, hb, hml, hown, hg⟩ (c_Loops_clear l dC dI a cs _ σ _ hr1) (cwV 0 hg (gdV wd115 wd114 wd113 wd94 wd116) rfl rfl rfl (by decide +kernel) ⟨Nat.le_of_ble_eq_true rfl, Nat.le_of_ble_eq_true rfl⟩) ⟨wbz_blind, va_recv hK hP (ci := 4) (q0 := 4) rfl rfl, fun U hU hW => ⟨rfl, by rw [hU], wb_preD hU hW hP hK hN hD⟩⟩ rfl rfl hl.1 rfl (lv_room (Nat.le_of_ble_eq_true rfl)) d_Loops_make_1 ⟨Nat.zero_le _, Nat.zero_le _⟩) hS (fun q _ h => hFc q h) hFc (fun u t H locs ht hvm hw hB hz1 hk1 hS => ?_)
  obtain rfl : r1 = u := hw.symm
  have hP : va_P (dC, dI) classes (wsB a cs r1) H := by have q := hB.1; rw [ht] at q; exact q
  have hD : va_D A (wsB a cs r1) := hB.2.weaken (fun _ _ _ h => hFc _ h)
  refine lv_iconst (v := 0) hx hb d_Loops_make_4 (by decide) ?_
  refine lv_istore_n (lv' := [(1, .int 0), (0, .ref (a 4))]) hx hb d_Loops_make_5 rfl hl (by decide) rfl (fun ls hl => ?_)
  obtain ⟨y5, hy5, h⟩ := bd h
  refine lpW_Loops_make_6 C0 hK hN hA 100 r1 0 y5 hy5 _ _ ls hP hD hS (lv_sub hl [1, 0] rfl) (fun H locs ls hP hD hS hl => ?_)
  refine lv_iconst (v := 0) hx hb d_Loops_make_35 (by decide) ?_
  refine lv_istore_n (lv' := [(1, .int 0), (0, .ref (a 4))]) hx hb d_Loops_make_36 rfl hl (by decide) rfl (fun ls hl => ?_)
  obtain ⟨y10, hy10, h⟩ := bd h
  refine lpW_Loops_make_37 C0 hK hN hA 100 y5.2 0 y10 hy10 _ _ ls hP hD hS (lv_sub hl [1, 0] rfl) (fun H locs ls hP hD hS hl => ?_)
  exact W.vret hx hb hr (fun t ht hW => ⟨⟨y10.2, rfl, Option.some.inj h, by rw [ht]; exact hP, hD⟩, hS.F ht⟩) hS.2.2 d_Loops_make_87
end
