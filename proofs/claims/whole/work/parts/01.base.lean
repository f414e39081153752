/-- the words that every method here has: those of the tables that any walk keeps -/
def G_ : List Cond := lw_tbl.filter goodWord
theorem g_in {w : Cond} (h : w ∈ lw_tbl) (hg : goodWord w = true) : w ∈ G_ := List.mem_filter.mpr ⟨h, hg⟩
theorem g_all {ws : List Cond} (h : (ws.all fun w => decide (w ∈ lw_tbl)) = true) (hg : ws.all goodWord = true) : ∀ w ∈ ws, w ∈ G_ := fun w hw => g_in (of_decide_eq_true (List.all_eq_true.mp h w hw)) (List.all_eq_true.mp hg w hw)
theorem good_G : GoodIn G_ G_ := fun w h => ⟨h, good_of_word (List.mem_filter.mp h).2⟩
theorem gdC {w : Cond} (h : w ∈ G_) : GoodIn G_ (w :: G_) := fun x hx => by
  rcases List.mem_cons.mp hx with rfl | hx
  · exact good_G _ h
  · exact good_G _ hx
theorem gdV {own : String} {idx : Nat} {C : String} {y : MethodName} {w : Cond} (h1 : Cond.methodLink own idx y ∈ G_) (h2 : Cond.instanceMethod y ∈ G_) (h3 : Cond.selects C y y ∈ G_) (h4 : Cond.initialized C ∈ G_) (h5 : w ∈ G_) : GoodIn G_ (wsV own idx C y (w :: G_)) := fun x hx => by
  rcases List.mem_append.mp hx with hx | hx
  · simp only [List.mem_cons, List.not_mem_nil, or_false] at hx
    rcases hx with rfl | rfl | rfl | rfl
    · exact good_G _ h1
    · exact good_G _ h2
    · exact good_G _ h3
    · exact good_G _ h4
  · exact gdC h5 x hx
theorem gdS {own : String} {idx : Nat} {y : MethodName} {w : Cond} (h1 : Cond.methodLink own idx y ∈ G_) (h2 : Cond.static y ∈ G_) (h4 : Cond.initialized own ∈ G_) (h5 : w ∈ G_) : GoodIn G_ (wsS own idx y (w :: G_)) := fun x hx => by
  rcases List.mem_append.mp hx with hx | hx
  · simp only [List.mem_cons, List.not_mem_nil, or_false] at hx
    rcases hx with rfl | rfl | rfl
    · exact good_G _ h1
    · exact good_G _ h2
    · exact good_G _ h4
  · exact gdC h5 x hx
theorem gdSX {own : String} {idx : Nat} {y : MethodName} {w : Cond} (h1 : Cond.methodLink own idx y ∈ G_) (h2 : Cond.static y ∈ G_) (h4 : Cond.initialized y.cls ∈ G_) (h5 : w ∈ G_) : GoodIn G_ (va_wsS own idx y (w :: G_)) := fun x hx => by
  rcases List.mem_append.mp hx with hx | hx
  · simp only [List.mem_cons, List.not_mem_nil, or_false] at hx
    rcases hx with rfl | rfl | rfl
    · exact good_G _ h1
    · exact good_G _ h2
    · exact good_G _ h4
  · exact gdC h5 x hx
-- steps through a model
def Lt {α β : Type} (e : α) (f : α → β) : β := f e
theorem lt_ {α β : Type} {e : α} {f : α → β} {r : β} (h : Lt e f = r) (x : α) (hx : x = e) : f x = r := by
  subst hx
  exact h
theorem gd {α : Type} {i : Int32} {n : Nat} {t : Option α} {r : α} (h : (if i < 0 ∨ n ≤ Int32.toNatClampNeg i then none else t) = some r) : vp_in i n ∧ t = some r := by
  by_cases hc : i < 0 ∨ n ≤ Int32.toNatClampNeg i
  · rw [if_pos hc] at h
    cases h
  · rw [if_neg hc] at h
    exact ⟨hc, h⟩
theorem gz {α : Type} {x : Int32} {t : Option α} {r : α} (h : (if x = 0 ∨ x = 1 then t else none) = some r) : narrow .boolean (.int x) = .int x ∧ t = some r := by
  by_cases hc : x = 0 ∨ x = 1
  · rw [if_pos hc] at h
    refine ⟨?_, h⟩
    rcases hc with rfl | rfl <;> rfl
  · rw [if_neg hc] at h
    cases h
theorem b_t {α : Type} {c : Prop} [Decidable c] {x y r : α} (h : (if c then x else y) = r) (hc : c) : x = r := by
  rw [if_pos hc] at h
  exact h
theorem b_f {α : Type} {c : Prop} [Decidable c] {x y r : α} (h : (if c then x else y) = r) (hc : ¬ c) : y = r := by
  rw [if_neg hc] at h
  exact h
theorem bd {α β : Type} {x : Option α} {f : α → Option β} {r : β} (h : x.bind f = some r) : ∃ y, x = some y ∧ f y = some r := by
  cases x with
  | none => cases h
  | some y => exact ⟨y, rfl, h⟩
theorem s_l {α β γ : Type} {f : α → γ} {g : β → γ} {z : α} {r : γ} (h : Sum.elim f g (Sum.inl z) = r) : f z = r := h
theorem s_r {α β γ : Type} {f : α → γ} {g : β → γ} {z : β} {r : γ} (h : Sum.elim f g (Sum.inr z) = r) : g z = r := h
def jushr (x : Int64) (y : Int32) : Int64 := (x.toUInt64 >>> (y.toInt64.toUInt64 &&& Int64.toUInt64 63)).toInt64
def jshl (x : Int64) (y : Int32) : Int64 := x <<< (y.toInt64 &&& 63)
def jshr (x : Int64) (y : Int32) : Int64 := x >>> (y.toInt64 &&& 63)
def wushr (x y : Int32) : Int32 := (x.toUInt32 >>> (y.toUInt32 &&& Int32.toUInt32 31)).toInt32
theorem tswN {x : Int32} {k : Int32} {n : Int} (h : ¬ x = k) (hk : k.toInt = n) : x.toInt ≠ n := fun q => h (Int32.toInt_inj.mp (q.trans hk.symm))
theorem tsw7 {x : Int32} (h0 : ¬ x = 0) (h1 : ¬ x = 1) (h2 : ¬ x = 2) (h3 : ¬ x = 3) (h4 : ¬ x = 4) (h5 : ¬ x = 5) (h6 : ¬ x = 6) : x.toInt < 0 ∨ 6 < x.toInt := by
  have a0 := tswN (n := 0) h0 (by decide)
  have a1 := tswN (n := 1) h1 (by decide)
  have a2 := tswN (n := 2) h2 (by decide)
  have a3 := tswN (n := 3) h3 (by decide)
  have a4 := tswN (n := 4) h4 (by decide)
  have a5 := tswN (n := 5) h5 (by decide)
  have a6 := tswN (n := 6) h6 (by decide)
  omega
-- what a method's walk has at hand
abbrev Cx (own : String) (cc : ByteArray) (nL : Nat) (p : Program) (s : State) (m : MethodId) (args : Array Value) (meth : Method) (c : Code) : Prop :=
  p.tables.exec = Jvm.exec ∧ c.code = cc ∧ c.maxLocals = nL ∧ s.vm.findClass own = some m.cls ∧ (∀ w ∈ G_, w.before args s = true) ∧ meth.locks = false
/-- the end of a method that only reads -/
def QcV (v : Value) : Array Value → State → Outcome → State → Prop := fun _ st o t => o = .returned (some v) ∧ t.heap = st.heap
section RO
variable {p : Program} {l : Launch} {e : Env} {R : Room} {s : State} {m : MethodId} {args : Array Value} {below : List Frame} {meth : Method} {c : Code} {H : Heap} {locs : List Loc} {cells slots : Nat} {Q : State → Prop} {pc : Nat} {ls : Array Slot} {rest st0 : List Value} {a : Array Value}
theorem ro_call {v : Value} (hr : va_Run p l e R s m args below meth c H locs cells slots 0 0 (F0 m pc ls st0) rest (QcV v a) (fun _ => False)) (kk : W p l e R s m args below meth c H locs cells slots Q (F0 m (pc + 3) ls (v :: rest))) : W p l e R s m args below meth c H locs cells slots Q (F0 m pc ls st0) := by
  intro T hT X
  obtain ⟨v', st₀, t, T', L, h0, X', hL, e1, e2, ⟨hv, hh⟩, st⟩ := hr T hT X
  cases hv
  obtain ⟨t2, a1, b1⟩ := kk T' (by rw [e1, hh, h0]) (Stand.forget X' (fun q h => (hL q h).elim))
  exact ⟨t2, st t2 a1, b1⟩
end RO
theorem va_blind0 {av : List Value} : FrameBlind (va_Pc av (fun _ => True)) := fun _ _ _ _ h => h
theorem va_Pe {D : va_G} {cl : List vw_C} {ws ws' : va_W} {H : Heap} (e : ws = ws') (h : va_P D cl ws H) : va_P D cl ws' H := e ▸ h
theorem va_De {A : Nat → Prop} {ws ws' : va_W} (e : ws = ws') (h : va_D A ws) : va_D A ws' := e ▸ h
theorem th_r {α : Type} {a : Int32} {s : α} {r : Int32 × α} (h : (some (Sum.inr a, s) : Option (Sum Nat Int32 × α)) = some (Sum.inr r.1, r.2)) : (a, s) = r := by
  obtain ⟨x, u⟩ := r
  injection h with h
  injection h with h1 h2
  injection h1 with h1
  subst h1
  subst h2
  rfl
theorem th_k {α : Type} {a b : Nat} {s t : α} (h : (some (Sum.inl a, s) : Option (Sum Nat Int32 × α)) = some (Sum.inl b, t)) : a = b := by
  injection h with h
  injection h with h1 h2
  injection h1
theorem th_s {α : Type} {a b : Nat} {s t : α} (h : (some (Sum.inl a, s) : Option (Sum Nat Int32 × α)) = some (Sum.inl b, t)) : s = t := by
  injection h with h
  injection h with h1 h2
