/-- an entry of the handlers' table whose class links: the search goes through it, the class noted -/
theorem go_cold {e : Env} {s : State} {f : JFrame} {a : Addr} {Q : Handler → Pre} {E : CtlPost} {d : Bool} {acts : List Action} {x : ExceptionTableEntry} {t : List ExceptionTableEntry} {c : ClassId} {cell : Cell} {vm' : Vm} (hx : covers x f.pc = true) (h0 : x.catchType ≠ 0)
    (hg : (Jvm.resolveClass f.method.cls x.catchType).Gives e.toSetting s.vm (.ok c) vm') (hsz : vm'.classes.size ≤ s.vm.classes.size) (hcell : s.heap[a]? = some cell) (hobj : ∀ k, cell.vm ≠ .statics k)
    (hk : ∃ k, vm'.classes[cell.cls]? = some k) (hc : ∃ k, vm'.classes[c]? = some k) :
    wp (findHandler.go f a (x :: t)) Q E e d acts s ↔ if vm'.assignable cell.cls c = true then Q (.found x.handlerPc) d acts (s.setVm vm') else wp (findHandler.go f a t) Q E e d acts (s.setVm vm') := by
  simp only [covers] at hx
  obtain ⟨ha, ht⟩ := hg.op (op := VmOp.resolveClass f.method.cls x.catchType) rfl
  cases hfit : vm'.assignable cell.cls c <;>
    simp [findHandler.go, hx, h0, ha, ht, hsz, hcell, hobj, hk, hc, hfit, VmOp.dirties, VmOp.acts]
/-- what the search gives, with the tables that it leaves -/
def FindsTo (e : Env) (s : State) (f : JFrame) (a : Addr) (h : Handler) (s' : State) : Prop :=
  ∀ (Q : Handler → Pre) (E : CtlPost) (d : Bool) (acts : List Action), wp (findHandler f a) Q E e d acts s ↔ Q h d acts s'
theorem catchTo {e : Env} {s s' : State} {a : Addr} {f : JFrame} {r : List Frame} {pc : Nat} (hfind : FindsTo e s f a (.found pc) s') :
    (stepThrowing e s a (.java f :: r)).Is (s'.setFrames (.java { f with pc := pc, stack := [.ref a] } :: r)) [] := by
  simp only [stepThrowing, searchFrame, vmDo]
  generalize hr : Sem.go _ e false [] s = res
  obtain ⟨as, rfl, ha⟩ := Sem.eq_ok_of hr (a := Handler.found pc) (s' := s') (acts' := []) (by simp [hfind _ _ _ _])
  exact ⟨rfl, ha⟩
theorem caughtTo {tb : Tables} {e : Env} {s target : State} {g : JFrame} {c : Code} {below : List Frame} {a : Addr} {vm' : Vm} (h : At s g.method c below) {pc : Nat} (hfind : FindsTo e ((s.setTop g).pushFrame (.throwing a)) g a (.found pc) (((s.setTop g).pushFrame (.throwing a)).setVm vm'))
    (hrest : Steps tb e below ((s.setVm vm').setTop { g with pc := pc, stack := [.ref a] }) target) :
    Steps tb e below ((s.setTop g).pushFrame (.throwing a)) target := by
  obtain ⟨hgo, hw⟩ := h.throwing a
  refine Steps.head hgo hw ?_
  rw [stepThread_throwing (frames_entered h.top _), (catchTo (s := (s.setTop g).pushFrame (.throwing a)) hfind).1]
  obtain ⟨g₀, hg⟩ := Option.isSome_iff_exists.mp h.top
  obtain ⟨r, hr⟩ := State.topJava?_eq_some.mp hg
  have hr' : (s.setVm vm').frames = .java g₀ :: r := hr
  rw [State.setTop_of_frames _ hr'] at hrest
  rw [hr]
  have e1 : (((s.setTop g).pushFrame (.throwing a)).setVm vm').setFrames (.java { g with pc := pc, stack := [.ref a] } :: (Frame.java g₀ :: r).tail) = (s.setVm vm').setFrames (.java { g with pc := pc, stack := [.ref a] } :: r) := by
    rw [State.pushFrame, State.setTop_of_frames _ hr, State.setFrames_setFrames]
    show ((s.setFrames _).setVm vm').setFrames _ = _
    have e2 : ∀ fs : List Frame, (s.setFrames fs).setVm vm' = (s.setVm vm').setFrames fs := fun fs => rfl
    rw [e2, State.setFrames_setFrames]
    rfl
  rw [e1]
  exact hrest
/-- two classes of which the one's objects are none of the other's -/
def NC (A B : String) (U : State) : Prop := ∃ c1 c2, U.vm.findClass A = some c1 ∧ U.vm.findClass B = some c2 ∧ U.vm.assignable c1 c2 = false
theorem NC.moved {A B : String} {s U : State} (h : s.vm.Alike U.vm) (q : NC A B s) : NC A B U := by
  obtain ⟨c1, c2, h1, h2, h3⟩ := q
  exact ⟨c1, c2, by rw [h.findClass]; exact h1, by rw [h.findClass]; exact h2, by rw [h.assignable]; exact h3⟩
theorem NC.of {A B : String} {args : Array Value} {s : State} (h : (Cond.not (.castable A B)).before args s = true) : NC A B s := by
  simp only [Cond.before, Cond.holds, Cond.value] at h
  cases h1 : s.vm.findClass A with
  | none => simp [h1] at h
  | some c1 =>
    cases h2 : s.vm.findClass B with
    | none => simp [h1, h2] at h
    | some c2 => exact ⟨c1, c2, h1, h2, by simpa [h1, h2] using h⟩
section CA
variable {p : Program} {l : Launch} {e : Env} {R : Room} {s : State} {m : MethodId} {args : Array Value} {below : List Frame} {meth : Method} {c : Code} {T : State} {locs : List Loc} {cells slots : Nat}
/-- one entry of the table: the class found, the tables warmer -/
theorem st_entry (X : Stand p l e R s m args below meth c T locs cells slots) {own cls : String} {ix : Nat} (hown : s.vm.findClass own = some m.cls) (hlink : (Cond.classLink own ix cls).before args s = true) :
    ∃ (cc : ClassId) (vm' : Vm), s.vm.findClass cls = some cc ∧ (Jvm.resolveClass m.cls ix).Gives e.toSetting T.vm (.ok cc) vm' ∧ s.WarmedH vm' ∧ vm'.classes.size ≤ T.vm.classes.size := by
  have hpl : e.platform.magicAccessors = ({} : Platform).magicAccessors := by rw [X.admits.platform]
  obtain ⟨cc, hfcc, hcl⟩ := Cond.classLink_spec hown hlink e.platform hpl
  obtain ⟨hg₁, hwarm₁, hready₁⟩ := State.classEntry (e := e) X.warmed hcl
  exact ⟨cc, _, hfcc, hg₁, hwarm₁, by simp⟩
theorem st_caught1 (X : Stand p l e R s m args below meth c T locs cells slots) {own cls clsX : String} {h0 h1 h2 ix : Nat} {hs : List (Nat × Nat × Nat × Nat)} (hown : s.vm.findClass own = some m.cls) (htab : c.exceptionTable.toList.map (fun h => (h.startPc, h.endPc, h.handlerPc, h.catchType)) = (h0, h1, h2, ix) :: hs)
    (hlink : (Cond.classLink own ix cls).before args s = true) (hix : ix ≠ 0) {a : Addr} {cell : Cell} (hcell : T.heap[a]? = some cell) (hobj : cell.vm = .none) (hX : T.vm.findClass clsX = some cell.cls) (hcast : (Cond.castable clsX cls).before args s = true)
    {g : JFrame} (hg : g.method = m) (hlo : h0 ≤ g.pc) (hhi : g.pc < h1) :
    ∃ vm', Stand p l e R s m args below meth c (T.setVm vm') locs cells slots ∧ ∀ target, Steps p.tables e below ((T.setVm vm').setTop { g with pc := h2, stack := [.ref a] }) target → Steps p.tables e below ((T.setTop g).pushFrame (.throwing a)) target := by
  subst hg
  obtain ⟨cc, vm', k1, k2, k3, k4⟩ := st_entry X hown hlink
  obtain ⟨x, xs, e1, e2, e3⟩ := List.map_eq_cons_iff.mp htab
  obtain ⟨d1, d2, hd1, hd2, hd3⟩ := Cond.castable_spec hcast
  cases hd2.symm.trans k1
  simp only [Prod.mk.injEq] at e2
  obtain ⟨f1, f2, f3, f4⟩ := e2
  have hA : T.vm.Alike vm' := alike_of X.warmed k3
  have hcc : cell.cls = d1 := Option.some.inj (hX.symm.trans (by rw [X.warmed.alike.findClass]; exact hd1))
  have hfit : vm'.assignable cell.cls cc = true := by rw [k3.alike.assignable, hcc]; exact hd3
  refine ⟨vm', X.noted k3, fun target hr => ?_⟩
  refine caughtTo (vm' := vm') X.here (pc := h2) ?_ hr
  intro Q E d acts
  have hm : ((T.setTop g).pushFrame (.throwing a)).vm.method? g.method = some meth := by rw [Stand.throwing_vm]; exact X.method'
  rw [W.findHandler_eq hm X.code, e1, go_cold (vm' := vm') (c := cc) (cell := cell) (by simp [covers, f1, f2, hlo, hhi]) (by rw [f4]; exact hix) (by rw [Stand.throwing_vm, f4]; exact k2) (by rw [Stand.throwing_vm]; exact k4) (by rw [Stand.throwing_heap]; exact hcell) (by rw [hobj]; intro k hk; cases hk)
    (Vm.classAt_of_findClass (name := clsX) (by rw [k3.alike.findClass, hcc]; exact hd1)) (Vm.classAt_of_findClass (name := cls) (by rw [k3.alike.findClass]; exact k1)), if_pos hfit, f3]
theorem st_caught2 (X : Stand p l e R s m args below meth c T locs cells slots) {own cls cls0 clsX : String} {g0 g1 g2 iy h0 h1 h2 ix : Nat} {hs : List (Nat × Nat × Nat × Nat)} (hown : s.vm.findClass own = some m.cls) (htab : c.exceptionTable.toList.map (fun h => (h.startPc, h.endPc, h.handlerPc, h.catchType)) = (g0, g1, g2, iy) :: (h0, h1, h2, ix) :: hs)
    (hlink0 : (Cond.classLink own iy cls0).before args s = true) (hiy : iy ≠ 0) (hnc : NC clsX cls0 s) (hlink : (Cond.classLink own ix cls).before args s = true) (hix : ix ≠ 0) {a : Addr} {cell : Cell} (hcell : T.heap[a]? = some cell) (hobj : cell.vm = .none) (hX : T.vm.findClass clsX = some cell.cls) (hcast : (Cond.castable clsX cls).before args s = true)
    {g : JFrame} (hg : g.method = m) (hlo0 : g0 ≤ g.pc) (hhi0 : g.pc < g1) (hlo : h0 ≤ g.pc) (hhi : g.pc < h1) :
    ∃ vm', Stand p l e R s m args below meth c (T.setVm vm') locs cells slots ∧ ∀ target, Steps p.tables e below ((T.setVm vm').setTop { g with pc := h2, stack := [.ref a] }) target → Steps p.tables e below ((T.setTop g).pushFrame (.throwing a)) target := by
  subst hg
  obtain ⟨c0, vm0, j1, j2, j3, j4⟩ := st_entry X hown hlink0
  obtain ⟨cc, vm', k1, k2, k3, k4⟩ := st_entry (X.noted j3) hown hlink
  obtain ⟨x, xs, e1, e2, e3⟩ := List.map_eq_cons_iff.mp htab
  obtain ⟨y, ys, e4, e5, e6⟩ := List.map_eq_cons_iff.mp e3
  subst e4
  obtain ⟨d1, d2, hd1, hd2, hd3⟩ := Cond.castable_spec hcast
  cases hd2.symm.trans k1
  obtain ⟨n1, n2, hn1, hn2, hn3⟩ := hnc
  cases hn1.symm.trans hd1
  cases hn2.symm.trans j1
  simp only [Prod.mk.injEq] at e2 e5
  obtain ⟨f1, f2, f3, f4⟩ := e2
  obtain ⟨p1, p2, p3, p4⟩ := e5
  have hcc : cell.cls = d1 := Option.some.inj (hX.symm.trans (by rw [X.warmed.alike.findClass]; exact hd1))
  have hfit : vm'.assignable cell.cls cc = true := by rw [k3.alike.assignable, hcc]; exact hd3
  have hno : ¬ vm0.assignable cell.cls c0 = true := by rw [j3.alike.assignable, hcc, hn3]; decide
  refine ⟨vm', X.noted k3, fun target hr => ?_⟩
  refine caughtTo (vm' := vm') X.here (pc := h2) ?_ hr
  intro Q E d acts
  have hm : ((T.setTop g).pushFrame (.throwing a)).vm.method? g.method = some meth := by rw [Stand.throwing_vm]; exact X.method'
  rw [W.findHandler_eq hm X.code, e1, go_cold (vm' := vm0) (c := c0) (cell := cell) (by simp [covers, f1, f2, hlo0, hhi0]) (by rw [f4]; exact hiy) (by rw [Stand.throwing_vm, f4]; exact j2) (by rw [Stand.throwing_vm]; exact j4) (by rw [Stand.throwing_heap]; exact hcell) (by rw [hobj]; intro k hk; cases hk)
    (Vm.classAt_of_findClass (name := clsX) (by rw [j3.alike.findClass, hcc]; exact hd1)) (Vm.classAt_of_findClass (name := cls0) (by rw [j3.alike.findClass]; exact j1)), if_neg hno]
  rw [go_cold (vm' := vm') (c := cc) (cell := cell) (by simp [covers, p1, p2, hlo, hhi]) (by rw [p4]; exact hix) (by rw [p4]; exact k2) (by exact k4) (by show ((T.setTop g).pushFrame (.throwing a)).heap[a]? = _; rw [Stand.throwing_heap]; exact hcell) (by rw [hobj]; intro k hk; cases hk)
    (Vm.classAt_of_findClass (name := clsX) (by rw [k3.alike.findClass, hcc]; exact hd1)) (Vm.classAt_of_findClass (name := cls) (by rw [k3.alike.findClass]; exact k1)), if_pos hfit, p3]
  rfl
end CA
