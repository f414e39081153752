section HR
variable {p : Program} {l : Launch} {e : Env} {R : Room} {s : State} {m : MethodId} {args : Array Value} {below : List Frame} {meth : Method} {c : Code} {H : Heap} {locs : List Loc} {cells slots : Nat} {Q : State → Prop}
/-- a call of a method that throws, caught in the caller -/
theorem W.callC {cc : ByteArray} {nL : Nat} (hx : p.tables.exec = Jvm.exec) (hb : c.code = cc) (hml : c.maxLocals = nL) {own C clsX : String} (hown : s.vm.findClass own = some m.cls) {index maxL n : Nat} {y : MethodName} {bytes : ByteArray} {ret : Option FieldType} {ws : List Cond} {rm : Room} {Pc : Array Value → State → Prop} {D : va_G} {cl : List vw_C} {wc : va_W} {A0 A1 : Nat → Prop}
    (hM : MetT l y ws rm Pc (QT clsX D cl wc A1) 1 6 A1) (cw : CallW R s args own C index y bytes maxL ret ws rm 1 6 n) {b : Addr} {As rest : List Value} (hp : PreV s H C b Pc As) {pc h2 : Nat} {ls : Array Slot} {st0 : List Value} (hn : As.length = n) (hsize : ls.size = nL) (hstack : st0 = As.reverse ++ .ref b :: rest) (hW : (rest.map fun v => v.category).sum ≤ 8)
    (hdg : decode cc pc = .ok (.invokevirtual index, 3)) (hf : cells + 1 ≤ R.cells ∧ slots + 6 ≤ R.slots) (hS : va_S A0 s.heap H locs) (hA : ∀ q, A1 q → A0 q)
    (hcat : ∀ (T' : State) (x : Addr) (cell : Cell) (L : List Loc), Stand p l e R s m args below meth c T' (locs ++ L) (cells + 1) (slots + 6) → T'.heap[x]? = some cell → cell.vm = .none → T'.vm.findClass clsX = some cell.cls →
      ∃ vm', Stand p l e R s m args below meth c (T'.setVm vm') (locs ++ L) (cells + 1) (slots + 6) ∧ ∀ target, Steps p.tables e below ((T'.setVm vm').setTop (F0 m h2 ls [.ref x])) target → Steps p.tables e below ((T'.setTop (F0 m pc ls rest)).pushFrame (.throwing x)) target)
    (kk : ∀ (x : Nat) (H1 : Heap) (locs1 : List Loc), va_P D cl wc H1 → va_D A1 wc → H.size ≤ H1.size → (∀ q : Nat, q < H.size → ¬ A1 q → H1[q]? = H[q]?) → va_S A0 s.heap H1 locs1 → W p l e R s m args below meth c H1 locs1 (cells + 1) (slots + 6) Q (F0 m h2 ls [.ref x])) :
    W p l e R s m args below meth c H locs cells slots Q (F0 m pc ls st0) := by
  intro T hT X
  obtain ⟨hbl, ⟨cellB, hcB, hoB, hclB⟩, hPc⟩ := hp
  obtain ⟨x, T', t, st₀, L, i1, X', hL, i2, i3, ⟨⟨ce, q1, q2, q3⟩, hP1, hD1, hz1, hk1⟩, hst⟩ := st_callT X hx hown hM cw hbl (by rw [hT]; exact hcB) hoB hclB (g := F0 m pc ls st0) rfl (hsize.trans hml.symm) (argsL := As) (rest := rest) hn hstack (by show 2 * 0 + _ ≤ 8; omega) (by rw [hb]; exact hdg) hf.1 hf.2 (fun U hU hWU => hPc U (hU.trans hT) hWU)
  obtain ⟨vm', X'', hst2⟩ := hcat T' x ce L X' (by rw [i2]; exact q1) q2 (by rw [i3]; exact q3)
  rw [i1, hT] at hz1 hk1
  have hkk := kk x t.heap (locs ++ L) hP1 hD1 hz1 hk1 ⟨Nat.le_trans hS.1 hz1, fun q h1 h2 => by rw [hk1 q (Nat.lt_of_lt_of_le h1 hS.1) (fun z => h2 (hA q z))]; exact hS.2.1 q h1 h2, fun q hq => by
    rcases List.mem_append.mp hq with h | h
    · exact hS.2.2 q h
    · exact hA _ (hL q h)⟩
  obtain ⟨t2, a1, b1⟩ := hkk (T'.setVm vm') (by show T'.heap = _; rw [i2]) X''
  exact ⟨t2, hst t2 (hst2 t2 a1), b1⟩
end HR
theorem vP_cons {D : va_G} {cl : List vw_C} {x : Nat × va_E} {ws : va_W} {H : Heap} (h1 : va_P D cl [x] H) (h2 : va_P D cl ws H) : va_P D cl (x :: ws) H := va_P.app h1 h2
theorem vP_head {D : va_G} {cl : List vw_C} {x : Nat × va_E} {ws : va_W} {H : Heap} (h : va_P D cl (x :: ws) H) : va_P D cl [x] H := h.sub [0] rfl
theorem vP_tail {D : va_G} {cl : List vw_C} {x : Nat × va_E} {ws : va_W} {H : Heap} (h : va_P D cl (x :: ws) H) : va_P D cl ws H := fun k q hk => h (k + 1) q hk
theorem vD_cons {A : Nat → Prop} {a : Nat → Nat} {cs : Nat → ClassId} {σ : SB} {o : Nat} {x : va_E} (ho : A o) (hD : va_D A (wsB a cs σ)) (hne : ∀ k, k < 15 → a k ≠ o) : va_D A ((o, x) :: wsB a cs σ) := by
  refine va_D.app (w1 := [(o, x)]) (w2 := wsB a cs σ) ⟨fun i j p q hi hj _ => ?_, fun k q hk => ?_⟩ hD (fun i j p q hi hj => ?_)
  · have h1 := (List.getElem?_eq_some_iff.mp hi).1
    have h2 := (List.getElem?_eq_some_iff.mp hj).1
    simp at h1 h2
    omega
  · match k, hk with
    | 0, hk => cases hk; exact ho
  · obtain ⟨h1, h2⟩ := wsB_addr hj
    match i, hi with
    | 0, hi =>
      cases hi
      rw [h2]
      exact fun z => hne j h1 z.symm
theorem off_B {a : Nat → Nat} {cs : Nat → ClassId} {σ : SB} {o sz : Nat} (hlt : o < sz) (hne : ∀ k, k < 15 → a k ≠ o) : ¬ va_A (wsB a cs σ) sz o := fun h => by
  rcases h with ⟨k, e, h⟩ | h
  · obtain ⟨h1, h2⟩ := wsB_addr h
    exact hne k h1 h2.symm
  · omega
def XC (U : State) : Prop := NC cISE cIAE U ∧ NC cIAE cIOB U
theorem XC.warm {s U : State} (hW : s.WarmedH U.vm) (h : XC s) : XC U := ⟨h.1.moved hW.alike, h.2.moved hW.alike⟩
/-- the places that a helper of the law's may write -/
def AH (a : Nat → Nat) (cs : Nat → ClassId) (σ : SB) (o sz : Nat) : Nat → Prop := fun q => va_A (wsB a cs σ) sz q ∨ q = o
abbrev oc (o : Nat) (cO : ClassId) (f : Nat → Int64) : Nat × va_E := (o, .inl (cO, 1, .inr (.inl f)))
/-- a helper's start -/
abbrev WH (dC : Nat → ClassId) (dI : Nat → Nat → Nat) (a : Nat → Nat) (cs : Nat → ClassId) (z : Nat) (σ : SB) (o : Nat) (cO : ClassId) (f : Nat → Int64) (U : State) : Prop :=
  WDB dC dI a cs σ U ∧ TW z U ∧ XC U ∧ va_P (dC, dI) classes [oc o cO f] U.heap ∧ va_K (dC, dI) classes [(cO, .long)] U
theorem wh_blind {dC : Nat → ClassId} {dI : Nat → Nat → Nat} {a : Nat → Nat} {cs : Nat → ClassId} {z : Nat} {σ : SB} {o : Nat} {cO : ClassId} {f : Nat → Int64} {av : List Value} {sz : Nat} : FrameBlind (va_Pc av (fun U => U.heap.size = sz ∧ WH dC dI a cs z σ o cO f U)) := fun b U g mk h =>
  ⟨h.1, h.2.1, ⟨h.2.2.1.1, va_K.moved (u := U) (U := U.calling g mk b) (Vm.Alike.refl U.vm) h.2.2.1.2.1, h.2.2.1.2.2.1.call, h.2.2.1.2.2.2⟩, h.2.2.2.1.call, XC.warm (U := U.calling g mk b) (State.WarmedH.refl U) h.2.2.2.2.1, h.2.2.2.2.2.1, va_K.moved (u := U) (U := U.calling g mk b) (Vm.Alike.refl U.vm) h.2.2.2.2.2.2⟩
theorem wt_blind {dC : Nat → ClassId} {dI : Nat → Nat → Nat} {a : Nat → Nat} {cs : Nat → ClassId} {z : Nat} {σ : SB} {av : List Value} {sz : Nat} : FrameBlind (va_Pc av (fun U => U.heap.size = sz ∧ WDB dC dI a cs σ U ∧ TW z U)) := fun b U g mk h =>
  ⟨h.1, h.2.1, ⟨h.2.2.1.1, va_K.moved (u := U) (U := U.calling g mk b) (Vm.Alike.refl U.vm) h.2.2.1.2.1, h.2.2.1.2.2.1.call, h.2.2.1.2.2.2⟩, h.2.2.2.call⟩
/-- what a helper leaves -/
abbrev atH (dC : Nat → ClassId) (dI : Nat → Nat → Nat) (a : Nat → Nat) (cs : Nat → ClassId) (o : Nat) (cO : ClassId) (A : Nat → Prop) (u : SB × (Nat → Int64)) (t : State) : Prop :=
  va_P (dC, dI) classes (wsB a cs u.1) t.heap ∧ va_D A (wsB a cs u.1) ∧ va_P (dC, dI) classes [oc o cO u.2] t.heap
