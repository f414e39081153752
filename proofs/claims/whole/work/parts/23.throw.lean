/-- a method that ends with an exception -/
def MetT (l : Launch) (y : MethodName) (ws : List Cond) (rm : Room) (Pc : Array Value → State → Prop) (Qc : Array Value → State → Addr → State → Prop) (mc ms : Nat) (free : Addr → Prop) : Prop :=
  MetFree l y (headSpec ws rm) Pc (fun _ _ _ _ _ => True) (fun a st o t => ∃ x, o = .threw x ∧ Qc a st x t ∧ ∃ L, st.WarmedH t.vm ∧ st.sameButNew ({ t with vm := st.vm } : State) L mc ms ∧ ∀ q ∈ L, free q.base)
def MQT (below : List Frame) (Qc : Array Value → State → Addr → State → Prop) (a : Array Value) (s : State) (mc ms : Nat) (free : Addr → Prop) : State → Prop := fun t =>
  ∃ x, t.status = .running ∧ Ended t below (.threw x) ∧ Qc a s x t ∧ ∃ L, s.WarmedH t.vm ∧ s.sameButNew ({ t with vm := s.vm } : State) L mc ms ∧ ∀ q ∈ L, free q.base
theorem MetT.ofW {l : Launch} {y : MethodName} {ws ws' : List Cond} {rm : Room} {Pc : Array Value → State → Prop} {Qc : Array Value → State → Addr → State → Prop} {mc ms : Nat} {free : Addr → Prop} {cc : ByteArray} {maxL : Nat} {ret : Option FieldType}
    (hy : plainName y.cls = true) (hw : ws = Cond.code y cc maxL ret :: ws')
    (body : ∀ p e s m args below meth c s₁, BodyLoose p l y (headSpec ws rm) cc maxL ret e s m args below meth c s₁ → c.maxLocals = maxL → Pc args s →
      W p l e (headSpec ws rm).room s m args below meth c s.heap [] 0 0 (MQT below Qc args s mc ms free) (entryFrame m args maxL)) : MetT l y ws rm Pc Qc mc ms free := by
  refine MetFree.of_bodyS (code := cc) (maxLocals := maxL) (ret := ret) hy ?_ ?_
  · intro args s m h hn
    obtain ⟨meth, c, h1, h2, h3, h4, h5, h6, -, -⟩ := Cond.code_spec hn (atoms_spec (ws := ws) h _ (by rw [hw]; exact List.mem_cons_self))
    exact ⟨meth, c, h1, h2, h3, h4, h5, h6⟩
  · intro p e s m args below meth c s₁ B hml hP _
    have hh0 : s₁.heap = s.heap := by rw [B.state]; rfl
    obtain ⟨t, a1, x, b1, b2, b3⟩ := body p e s m args below meth c s₁ B hml hP s₁ hh0 (Stand.of_body B)
    exact ⟨t, .threw x, a1, b1, b2, x, rfl, b3⟩
/-- the Stand, seen from the point where the walk is: as if the invocation had begun here -/
theorem st_rebase {p : Program} {l : Launch} {e : Env} {R : Room} {s : State} {m : MethodId} {args : Array Value} {below : List Frame} {meth : Method} {c : Code} {T : State} {locs : List Loc} {cells slots : Nat}
    (X : Stand p l e R s m args below meth c T locs cells slots) (hc : cells ≤ R.cells) (hs : slots ≤ R.slots) :
    Stand p l e { R with cells := R.cells - cells, slots := R.slots - slots } (T.setFrames (.invoking m args :: below)) m args below meth c T [] 0 0 := by
  obtain ⟨g₀, hfr⟩ := X.frames_eq
  have hcur : T.cur < T.threads.size := State.cur_lt_of_frames hfr
  have hf' : (T.setFrames (.invoking m args :: below)).frames = .invoking m args :: below := State.frames_setFrames _ hcur
  have hm' : (T.setFrames (.invoking m args :: below)).vm.method? m = some meth := X.method'
  obtain ⟨t, ht, -⟩ := State.frames_cons hf'
  have hheap := X.heapHas (a := R.cells - cells) (b := R.slots - slots) (by omega) (by omega)
  refine ⟨X.admits, X.cas, X.clock, hf', ?_, ?_, hm', X.code, X.here, X.tail, State.WarmedH.refl (T.setFrames (.invoking m args :: below)), by rw [State.stackLimits_setFrames], by rw [State.stackBytes_setFrames], ?_⟩
  · have hr := X.room
    have e1 := State.localsInUse_invoking X.frames X.method X.code
    have e2 := State.localsInUse_invoking hf' hm' X.code
    have e3 : (T.setFrames (.invoking m args :: below)).me.stackBytes = s.me.stackBytes := by rw [State.stackBytes_setFrames, X.bytes]
    have e4 : e.platform.stackLimits (T.setFrames (.invoking m args :: below)).me = e.platform.stackLimits s.me := by rw [State.stackLimits_setFrames, X.limits]
    have e5 := X.book
    have e6 : (T.setFrames (.invoking m args :: below)).slotsTrue = T.slotsTrue := rfl
    have e7 : s.frames.length = (T.setFrames (.invoking m args :: below)).frames.length := by rw [X.frames, hf']
    simp only [State.hasRoom, Bool.and_eq_true, decide_eq_true_eq] at hr ⊢
    rw [e2, e3, e4, e6, ← e7]
    rw [e1] at hr
    refine ⟨⟨⟨⟨hr.1.1.1.1, hr.1.1.1.2⟩, ?_⟩, ?_⟩, e5⟩
    · exact hheap.1
    · exact hheap.2
  · have h := X.hears
    have hcode : ∀ z, (T.setFrames (.invoking m args :: below)).code? z = s.code? z := fun z => by
      rw [State.code?_eq, State.code?_eq]
      show (T.vm.method? z).bind _ = _
      rw [X.warmed.alike.method?]
    have hmm : T.vm.method? m = s.vm.method? m := by rw [X.method', X.method]
    cases below with
    | nil => simpa [State.hears, hmm] using h
    | cons f r => cases f <;> simpa [State.hears, hmm, hcode] using h
  · have h := (State.sameButNew.refl (T.setFrames (.invoking m args :: below)) ht).setFrames T.frames (State.cur_lt_of_frames hf')
    have e8 : (T.setFrames (.invoking m args :: below)).setFrames T.frames = T := by
      obtain ⟨t', ht', -⟩ := State.frames_cons hfr
      rw [State.setFrames_setFrames, State.setFrames_self ht']
    rw [e8] at h
    exact h
section TH
variable {p : Program} {l : Launch} {e : Env} {R : Room} {s : State} {m : MethodId} {args : Array Value} {below : List Frame} {meth : Method} {c : Code}
/-- what an own exception leaves, by the kit's bundle -/
def thQ (below : List Frame) (args : Array Value) (s : State) (cls : String) : State → Prop := fun t =>
  ∃ x, t.status = .running ∧ Ended t below (.threw x) ∧ s.WarmedH t.vm ∧ s.sameButNew ({ t with vm := s.vm } : State) [] 1 6 ∧ ∃ ce, t.heap[x]? = some ce ∧ ce.vm = .none ∧ s.vm.findClass cls = some ce.cls
theorem th_W {cc : ByteArray} (hexec : p.tables.exec = Jvm.exec) (hb : c.code = cc) {own cls tx : String} {names : List String} {ic i0 ix q nL : Nat} (hown : s.vm.findClass own = some m.cls) (hlocks : meth.locks = false) (hnoh : c.exceptionTable.isEmpty = true) (hml : c.maxLocals = nL) (htr : e.platform.stackTraces = false)
    (hcls : Bundle.fit cls = true) (hnames : ∀ n ∈ names, Bundle.fit n = true) (h : ∀ a ∈ Bundle.ownAtoms own ic cls names, a.before args s = true)
    (hcl : (Cond.classLink own i0 cls).before args s = true) (hin : (Cond.instantiable cls 6).before args s = true) (hini : (Cond.initialized cls).before args s = true) (hstr : vk_R own ix tx q s)
    {pc : Nat} {ls : Array Slot} {rest : List Value} (hsz : ls.size = nL) (hd0 : decode cc pc = .ok (.new i0, 3)) (hd1 : decode cc (pc + 3) = .ok (.dup, 1)) (hd2 : decode cc (pc + 4) = .ok (.ldc ix, 2)) (hd3 : decode cc (pc + 6) = .ok (.invokespecial ic, 3)) (hd4 : decode cc (pc + 9) = .ok (.athrow, 1))
    (hR : names.length + 3 < R.frames ∧ 1 ≤ R.cells ∧ 6 ≤ R.slots ∧ 1 + (rest.map fun v => v.category).sum + (13 * (names.length + 1) + 42) ≤ R.locals) :
    W p l e R s m args below meth c s.heap [] 0 0 (thQ below args s cls) (F0 m pc ls rest) := by
  refine W.newc hexec hb hown hcl hin hini rfl hd0 (by omega) (by omega) (fun cC kC h1 h2 h3 h4 => ?_)
  refine W.eq (g2 := F0 m (pc + 3) ls (.ref s.heap.size :: rest)) rfl ?_
  refine lv_dup hexec hb hd1 rfl ?_
  refine va_ldcS hexec hb hown hstr hd2 ?_
  intro T hT X
  have hcell : T.heap[s.heap.size]? = some (freshCell cC kC) := by rw [hT]; simp
  have hempty : c.exceptionTable.toList = [] := by
    have : c.exceptionTable = #[] := by simpa using hnoh
    rw [this]
  obtain ⟨U, h5, h6, h7, h8, h9, ce, ha, hb9⟩ := X.ctorThrowS hexec htr (own := own) (cls := cls) (names := names) (ic := ic) hown hcls hnames h (fun x hx => by cases hx) h1 h2 hcell (Nat.le_refl _) (msg := .ref q) rfl
    (g := F0 m (pc + 6) ls (.ref q :: .ref s.heap.size :: .ref s.heap.size :: rest)) rfl (by show ls.size = _; rw [hsz, hml]) rfl rfl (rest := rest) rfl (by rw [hb]; exact hd3) (by rw [hb]; exact hd4) (by rw [hempty]; intro x hx; cases hx) hR.1 (by
      have := hR.2.2.2
      show 2 * 0 + _ + _ ≤ _
      simp only [List.map_cons, List.sum_cons]
      have e1 : (Value.ref s.heap.size).category = 1 := rfl
      rw [e1]
      omega)
  exact ⟨U, h5, s.heap.size, h6, h7, h8, h9, ce, ha, hb9.vm, hb9.cls⟩
end TH
theorem same_cell {s t : State} {k n : Nat} (h : s.sameButNew t [] k n) {a : Nat} (ha : a < s.heap.size) : t.heap[a]? = s.heap[a]? := by
  obtain ⟨-, -, -, -, -, h6⟩ := h
  obtain ⟨cl, hc⟩ : ∃ cl, s.heap[a]? = some cl := ⟨s.heap[a], by simp [ha]⟩
  obtain ⟨c', h7, h8, h9, h10⟩ := h6 a cl hc
  rw [h7, hc, h8]
  congr 1
  have e : c'.slots = cl.slots := by
    apply Array.ext
    · exact h9
    · intro i h1 h2
      have q := h10 i (fun z => by cases z)
      simpa [h1, h2] using q
  rw [e]
/-- a static field that holds a reference or null, in a cell below z -/
def va_L (C n d : String) (z : Nat) (U : State) : Prop := ∃ (c : ClassId) (k : Class) (i : Nat) (f : Field) (a : Nat) (cell : Cell) (v : Value), U.vm.findClass C = some c ∧ U.fieldFound? C n d = some (c, k, i, f) ∧ f.isStatic = true ∧ k.statics = some a ∧ a < z ∧ U.heap[a]? = some cell ∧ cell.vm.isStatics = true ∧ cell.cls = c ∧ f.slot < cell.slots.size ∧ k.staticTypes[f.slot]? = some f.type ∧ cell.slots[f.slot]? = some v ∧ v.isRef = true
theorem va_L.moved {C n d : String} {z : Nat} {u U : State} (hvm : u.vm.Alike U.vm) (hh : ∀ a, a < z → U.heap[a]? = u.heap[a]?) (h : va_L C n d z u) : va_L C n d z U := by
  obtain ⟨c, k, i, f, a, cell, v, h1, h2, h3, h4, h5, h6, h7, h8, h9, h10, h11⟩ := h
  obtain ⟨k', hi', he⟩ := State.fieldFound?_setVm hvm h2
  exact ⟨c, k', i, f, a, cell, v, by rw [hvm.findClass] at *; exact h1, hi', h3, by rw [he]; exact h4, h5, by rw [hh a h5]; exact h6, h7, h8, h9, by rw [he]; exact h10, h11⟩
theorem va_L.of {args : Array Value} {s : State} {C n d : String} {z : Nat} (hl : (Cond.laysStatic C n d).before args s = true) (hv : (Cond.isRef (.static C n d)).before args s = true) (hz : s.heap.size ≤ z) : va_L C n d z s := by
  obtain ⟨c, k, i, f, a, cell, hc, hi, hst, ha, hcell, hs, hcls, hlt, hty⟩ := Cond.laysStatic_spec hl
  obtain ⟨u, hu⟩ := Cond.staticRefV hi hst ha hcell hs hv
  exact ⟨c, k, i, f, a, cell, u.v, hc, hi, hst, ha, Nat.lt_of_lt_of_le (Array.getElem?_eq_some_iff.mp hcell).1 hz, hcell, hs, hcls, hlt, hty, hu, u.2⟩
theorem va_L.lays {args : Array Value} {s : State} {C n d : String} {z : Nat} (h : va_L C n d z s) : (Cond.laysStatic C n d).before args s = true := by
  obtain ⟨c, k, i, f, a, cell, v, h1, h2, h3, h4, h5, h6, h7, h8, h9, h10, h11⟩ := h
  simp [Cond.before, Cond.holds, Cond.value, h1, h2, h3, h4, h6, h7, h8, h9, h10]
theorem va_L.isRef {args : Array Value} {s : State} {C n d : String} {z : Nat} (h : va_L C n d z s) : (Cond.isRef (.static C n d)).before args s = true := by
  obtain ⟨c, k, i, f, a, cell, v, h1, h2, h3, h4, h5, h6, h7, h8, h9, h10, h11, h12⟩ := h
  have he : (Term.static C n d).eval args s none [] s = some v := by
    simp [Term.eval, State.fieldNamed?, h2, h3, h4, h6, h7, h11]
  simp only [Cond.before, Cond.holds, Cond.value, he]
  cases v <;> first | rfl | (simp [Value.isRef] at h12)
def cISE : String := "java/lang/IllegalStateException"
def cIAE : String := "java/lang/IllegalArgumentException"
def cIOB : String := "java/lang/IndexOutOfBoundsException"
def exNames : List String := ["java/lang/RuntimeException", "java/lang/Exception"]
/-- of an exception's words those that no list of words carries, but that no walk loses -/
def twWs : List Cond := [.castable cISE cISE, .castable cIAE cIAE, .castable cIOB cIOB, .declares (Bundle.initS "java/lang/RuntimeException"), .declares (Bundle.initS "java/lang/Exception"), .declares (Bundle.initS Bundle.tN)]
/-- what an exception of the class's own needs of the state -/
def TW (z : Nat) (U : State) : Prop := (∀ w ∈ twWs, va_Nw w U) ∧ va_L Bundle.tN "UNASSIGNED_STACK" Bundle.steD z U ∧ va_L Bundle.tN "SUPPRESSED_SENTINEL" Bundle.listD z U ∧
  (∃ q, vk_R "BlockRuler" 53 "there are 64 blocks" q U) ∧ (∃ q, vk_R "BlockRuler" 68 "no such block" q U) ∧ (∃ q, vk_R "BlockRuler" 75 "the block has 8 ways" q U) ∧ (∃ q, vk_R "BlockRuler" 87 "no such way" q U) ∧ (∃ q, vk_R "BlockRuler" 133 "a block that is not reached" q U)
theorem TW.warm {z : Nat} {s U : State} (hW : s.WarmedH U.vm) (hh : ∀ a, a < z → U.heap[a]? = s.heap[a]?) (h : TW z s) : TW z U := by
  obtain ⟨h1, h2, h3, ⟨q1, s1⟩, ⟨q2, s2⟩, ⟨q3, s3⟩, ⟨q4, s4⟩, ⟨q5, s5⟩⟩ := h
  refine ⟨fun w hw => ?_, h2.moved hW.alike hh, h3.moved hW.alike hh, ⟨q1, s1.warm hW⟩, ⟨q2, s2.warm hW⟩, ⟨q3, s3.warm hW⟩, ⟨q4, s4.warm hW⟩, ⟨q5, s5.warm hW⟩⟩
  have q := h1 w hw
  simp only [twWs, List.mem_cons, List.not_mem_nil, or_false] at hw
  rcases hw with rfl | rfl | rfl | rfl | rfl | rfl
  · exact va_Nw.warmC hW q
  · exact va_Nw.warmC hW q
  · exact va_Nw.warmC hW q
  · exact va_Nw.warmD hW q
  · exact va_Nw.warmD hW q
  · exact va_Nw.warmD hW q
theorem TW.call {z : Nat} {U : State} {g : JFrame} {mk : MethodId} {a : Array Value} (h : TW z U) : TW z (U.calling g mk a) := TW.warm (U := U.calling g mk a) (State.WarmedH.refl U) (fun _ _ => rfl) h
def twSt : List Cond := [.laysStatic Bundle.tN "UNASSIGNED_STACK" Bundle.steD, .laysStatic Bundle.tN "SUPPRESSED_SENTINEL" Bundle.listD, .isRef (.static Bundle.tN "UNASSIGNED_STACK" Bundle.steD), .isRef (.static Bundle.tN "SUPPRESSED_SENTINEL" Bundle.listD)]
theorem own_at {ic : Nat} {cls : String} (h : (Bundle.ownAtoms "BlockRuler" ic cls exNames).all (fun w => (decide (w ∈ lw_tbl) && goodWord w) || decide (w ∈ twWs ++ twSt)) = true) {args : Array Value} {s : State} {z : Nat} (hg : ∀ w ∈ G_, w.before args s = true) (hT : TW z s) : ∀ a ∈ Bundle.ownAtoms "BlockRuler" ic cls exNames, a.before args s = true := by
  intro w hw
  have h1 := List.all_eq_true.mp h w hw
  simp only [Bool.or_eq_true, Bool.and_eq_true, decide_eq_true_eq] at h1
  rcases h1 with ⟨h2, h3⟩ | h2
  · exact hg w (g_in h2 h3)
  · rcases List.mem_append.mp h2 with h2 | h2
    · have q := hT.1 w h2
      simp only [twWs, List.mem_cons, List.not_mem_nil, or_false] at h2
      rcases h2 with rfl | rfl | rfl | rfl | rfl | rfl <;> exact va_Nw.use rfl q
    · simp only [twSt, List.mem_cons, List.not_mem_nil, or_false] at h2
      rcases h2 with rfl | rfl | rfl | rfl
      · exact hT.2.1.lays
      · exact hT.2.2.1.lays
      · exact hT.2.1.isRef
      · exact hT.2.2.1.isRef
theorem own_ISE : (Bundle.ownAtoms "BlockRuler" 55 cISE exNames).all (fun w => (decide (w ∈ lw_tbl) && goodWord w) || decide (w ∈ twWs ++ twSt)) = true := by decide +kernel
theorem own_IAE : (Bundle.ownAtoms "BlockRuler" 70 cIAE exNames).all (fun w => (decide (w ∈ lw_tbl) && goodWord w) || decide (w ∈ twWs ++ twSt)) = true := by decide +kernel
theorem own_IOB : (Bundle.ownAtoms "BlockRuler" 89 cIOB exNames).all (fun w => (decide (w ∈ lw_tbl) && goodWord w) || decide (w ∈ twWs ++ twSt)) = true := by decide +kernel
