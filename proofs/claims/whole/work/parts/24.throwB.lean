/-- the end of a method of the class's that throws: what is thrown; the world; the rest as it was -/
def QT (cls : String) (D : va_G) (cl : List vw_C) (ws : va_W) (A : Nat → Prop) : Array Value → State → Addr → State → Prop := fun _ st x t =>
  (∃ ce : Cell, t.heap[x]? = some ce ∧ ce.vm = .none ∧ t.vm.findClass cls = some ce.cls) ∧ va_P D cl ws t.heap ∧ va_D A ws ∧ va_F A st t
theorem wsB_addr {a : Nat → Nat} {cs : Nat → ClassId} {σ : SB} {k : Nat} {q : Nat × va_E} (h : (wsB a cs σ)[k]? = some q) : k < 15 ∧ q.1 = a k := by
  have e : (wsB a cs σ).map (fun q => q.1) = (List.range 15).map a := rfl
  have h1 : ((wsB a cs σ).map (fun q => q.1))[k]? = some q.1 := by rw [List.getElem?_map, h]; rfl
  rw [e, List.getElem?_map] at h1
  have hk : k < 15 := by
    have := (List.getElem?_eq_some_iff.mp h).1
    exact this
  rw [List.getElem?_range hk] at h1
  exact ⟨hk, (Option.some.inj h1).symm⟩
theorem va_A_z {a : Nat → Nat} {cs : Nat → ClassId} {σ : SB} {z sz : Nat} (hz : z ≤ sz) (hza : ∀ k, k < 15 → z ≤ a k) : ∀ q, q < z → ¬ va_A (wsB a cs σ) sz q := fun q hq h => by
  rcases h with ⟨k, e, h⟩ | h
  · obtain ⟨h1, h2⟩ := wsB_addr h
    have h3 := hza k h1
    rw [← h2] at h3
    exact absurd hq (Nat.not_lt.mpr h3)
  · omega
section THB
variable {p : Program} {l : Launch} {e : Env} {R : Room} {s : State} {m : MethodId} {args : Array Value} {below : List Frame} {meth : Method} {c : Code} {H : Heap} {locs : List Loc}
theorem W.throwNew {cc : ByteArray} {nL : Nat} (hx : p.tables.exec = Jvm.exec) (hb : c.code = cc) (hown : s.vm.findClass "BlockRuler" = some m.cls) (hlocks : meth.locks = false) (hnoh : c.exceptionTable.isEmpty = true) (hml : c.maxLocals = nL) (htr : e.platform.stackTraces = false)
    {cls tx : String} {ic i0 ix z : Nat} (hfit : Bundle.fit cls = true) (hall : (Bundle.ownAtoms "BlockRuler" ic cls exNames).all (fun w => (decide (w ∈ lw_tbl) && goodWord w) || decide (w ∈ twWs ++ twSt)) = true)
    (hg : ∀ w ∈ G_, w.before args s = true) (hT : TW z s) (hz : z ≤ s.heap.size) {A : Nat → Prop} (hzA : ∀ q, q < z → ¬ A q) (hstr : ∀ U, TW z U → ∃ q, vk_R "BlockRuler" ix tx q U)
    (hcl : Cond.classLink "BlockRuler" i0 cls ∈ G_) (hin : Cond.instantiable cls 6 ∈ G_) (hini : Cond.initialized cls ∈ G_)
    {D : va_G} {cl : List vw_C} {ws : va_W} (hP : va_P D cl ws H) (hD : va_D A ws) (hS : va_S A s.heap H locs)
    {pc : Nat} {ls : Array Slot} {rest : List Value} (hsz : ls.size = nL) (hd0 : decode cc pc = .ok (.new i0, 3)) (hd1 : decode cc (pc + 3) = .ok (.dup, 1)) (hd2 : decode cc (pc + 4) = .ok (.ldc ix, 2)) (hd3 : decode cc (pc + 6) = .ok (.invokespecial ic, 3)) (hd4 : decode cc (pc + 9) = .ok (.athrow, 1))
    (hR : 5 < R.frames ∧ 1 ≤ R.cells ∧ 6 ≤ R.slots ∧ 1 + (rest.map fun v => v.category).sum + 81 ≤ R.locals) :
    W p l e R s m args below meth c H locs 0 0 (MQT below (QT cls D cl ws A) args s 1 6 A) (F0 m pc ls rest) := by
  intro T hTH X
  have X' := st_rebase X (Nat.zero_le _) (Nat.zero_le _)
  have hW : s.WarmedH (T.setFrames (.invoking m args :: below)).vm := X.warmed
  have hold : ∀ a, a < s.heap.size → ¬ A a → (T.setFrames (.invoking m args :: below)).heap[a]? = s.heap[a]? := fun a h1 h2 => by
    show T.heap[a]? = _
    rw [hTH]
    exact hS.2.1 a h1 h2
  have hg' : ∀ w ∈ G_, w.before args (T.setFrames (.invoking m args :: below)) = true := fun w hw => word_at hW (good_G w hw).2 (hg w hw)
  have hT' : TW z (T.setFrames (.invoking m args :: below)) := hT.warm hW (fun a ha => hold a (Nat.lt_of_lt_of_le ha hz) (hzA a ha))
  obtain ⟨q, hq⟩ := hstr _ hT'
  have hown' : (T.setFrames (.invoking m args :: below)).vm.findClass "BlockRuler" = some m.cls := by
    rw [hW.alike.findClass]; exact hown
  obtain ⟨t, a1, x, b1, b2, b3, b4, ce, c1, c2, c3⟩ := th_W (names := exNames) hx hb hown' hlocks hnoh hml htr hfit (by decide) (own_at hall hg' hT') (hg' _ hcl) (hg' _ hin) (hg' _ hini) hq (rest := rest) hsz hd0 hd1 hd2 hd3 hd4 hR T rfl X'
  have hsz' : (T.setFrames (.invoking m args :: below)).heap.size = H.size := by show T.heap.size = _; rw [hTH]
  have hkeep : ∀ a, a < H.size → t.heap[a]? = H[a]? := fun a ha => by
    have h1 := same_cell b4 (a := a) (by rw [hsz']; exact ha)
    rw [← hTH]
    exact h1
  have hgrow : H.size ≤ t.heap.size := by
    have h1 := b4.2.1
    rw [hsz'] at h1
    exact h1
  refine ⟨t, a1, x, b1, b2, ⟨⟨ce, c1, c2, by rw [b3.alike.findClass]; exact c3⟩, hP.kept (fun k q hk => hkeep q.1 (hP k q hk).lt), hD, Nat.le_trans hS.1 hgrow, fun q h1 h2 => by rw [hkeep q (Nat.lt_of_lt_of_le h1 hS.1)]; exact hS.2.1 q h1 h2⟩, locs, State.WarmedH.trans X.warmed b3, ?_, hS.2.2⟩
  have hB : T.sameButNew ({ t with vm := T.vm } : State) [] 1 6 := by
    obtain ⟨d1, d2⟩ := b4
    refine ⟨?_, d2⟩
    rw [State.setFrames_setFrames] at d1
    exact d1
  have hf := X.same.trans (hB.setVm s.vm)
  rw [List.append_nil, Nat.zero_add, Nat.zero_add] at hf
  exact hf
end THB
