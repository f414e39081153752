theorem wsM_addr {a : Nat → Nat} {cs : Nat → ClassId} {σ : SM} {k : Nat} {q : Nat × va_E} (h : (wsM a cs σ)[k]? = some q) : k < 13 ∧ q.1 = a k := by
  have e : (wsM a cs σ).map (fun q => q.1) = (List.range 13).map a := rfl
  have h1 : ((wsM a cs σ).map (fun q => q.1))[k]? = some q.1 := by rw [List.getElem?_map, h]; rfl
  rw [e, List.getElem?_map] at h1
  have hk : k < 13 := by
    have := (List.getElem?_eq_some_iff.mp h).1
    exact this
  rw [List.getElem?_range hk] at h1
  exact ⟨hk, (Option.some.inj h1).symm⟩
theorem off_M {a : Nat → Nat} {cs : Nat → ClassId} {σ : SM} {o sz : Nat} (hlt : o < sz) (hne : ∀ k, k < 13 → a k ≠ o) : ¬ va_A (wsM a cs σ) sz o := fun h => by
  rcases h with ⟨k, e, h⟩ | h
  · obtain ⟨h1, h2⟩ := wsM_addr h
    exact hne k h1 h2.symm
  · omega
theorem keep_of {D : va_G} {cl : List vw_C} {ws : va_W} {H H1 : Heap} {X : Nat → Prop} (hP : va_P D cl ws H) (hk : ∀ q : Nat, q < H.size → ¬ X q → H1[q]? = H[q]?) (hx : ∀ (k : Nat) (q : Nat × va_E), ws[k]? = some q → q.1 < H.size → ¬ X q.1) : va_P D cl ws H1 :=
  hP.kept (fun k q h => hk q.1 (hP k q h).lt (hx k q h (hP k q h).lt))
theorem one_cell {x : Nat × va_E} {k : Nat} {q : Nat × va_E} (h : [x][k]? = some q) : q = x := by
  match k, h with
  | 0, h => exact (Option.some.inj h).symm
/-- what stays through the law's run -/
def LCx (l : Launch) (s : State) (dC : Nat → ClassId) (dI : Nat → Nat → Nat) (a : Nat → Nat) (cs : Nat → ClassId) (b : Nat → Nat) (ds : Nat → ClassId) (o : Nat) (cO : ClassId) : Prop :=
  l.flags = flags0 ∧ va_K (dC, dI) classes (tyB cs) s ∧ va_K (dC, dI) classes (tyM ds) s ∧ va_K (dC, dI) classes [(cO, .long)] s ∧ NW s ∧ TW s.heap.size s ∧ XC s ∧
  (∀ j k, j < 15 → k < 13 → a j ≠ b k) ∧ (∀ j, j < 15 → a j ≠ o) ∧ (∀ k, k < 13 → b k ≠ o) ∧ (∀ j, j < 15 → s.heap.size ≤ a j) ∧ (∀ k, k < 13 → s.heap.size ≤ b k) ∧ s.heap.size ≤ o
/-- the law's world: the class's, the reference's, its own long -/
def LSt (s : State) (dC : Nat → ClassId) (dI : Nat → Nat → Nat) (a : Nat → Nat) (cs : Nat → ClassId) (b : Nat → Nat) (ds : Nat → ClassId) (o : Nat) (cO : ClassId) (σ : SB) (τ : SM) (f : Nat → Int64) (H : Heap) (locs : List Loc) : Prop :=
  va_P (dC, dI) classes (wsB a cs σ) H ∧ va_D (fun q => s.heap.size ≤ q) (wsB a cs σ) ∧ va_P (dC, dI) classes (wsM b ds τ) H ∧ va_D (fun q => s.heap.size ≤ q) (wsM b ds τ) ∧ va_P (dC, dI) classes [oc o cO f] H ∧ va_S (fun q => s.heap.size ≤ q) s.heap H locs
section LR
variable {p : Program} {l : Launch} {e : Env} {s : State} {m : MethodId} {below : List Frame} {meth : Method} {c : Code} {b0 L : Nat} {xs : Nat → Int32} {dC : Nat → ClassId} {dI : Nat → Nat → Nat} {a : Nat → Nat} {cs : Nat → ClassId} {b : Nat → Nat} {ds : Nat → ClassId} {o : Nat} {cO : ClassId} {σ : SB} {τ : SM} {f : Nat → Int64} {H : Heap} {locs : List Loc} {cells slots : Nat} {Q : State → Prop}
  {y : MethodName} {bytes : ByteArray} {maxL n idx : Nat} {ret : Option FieldType} {ws : List Cond} {rm : Room} {As rest st0 : List Value} {pc : Nat} {ls : Array Slot}
theorem lw_cB (hx : p.tables.exec = Jvm.exec) (hb : c.code = code) (hml : c.maxLocals = 7) (hown : s.vm.findClass "BlockRulerLaw" = some m.cls) (hg : ∀ w ∈ G_, w.before #[Value.ref b0] s = true) (C1 : LCx l s dC dI a cs b ds o cO) (S0 : LSt s dC dI a cs b ds o cO σ τ f H locs) {r : Int32 × SB}
    (hM : Met l y ws rm (va_Pc (.ref (a 0) :: As) (fun U => U.heap.size = H.size ∧ WDB dC dI a cs σ U)) (va_Qi (fun (x : Int32) (u : SB) => (x, u) = r) (atB dC dI a cs (va_A (wsB a cs σ) H.size)) (va_A (wsB a cs σ) H.size)) 0 0 (va_A (wsB a cs σ) H.size))
    (cw : CallW room_1 s #[Value.ref b0] "BlockRulerLaw" "BlockRuler" idx y bytes maxL ret ws rm 0 0 n) (hn : As.length = n) (hl : ls.size = 7) (hst : st0 = As.reverse ++ .ref (a 0) :: rest) (hr : (rest.map fun v => v.category).sum ≤ 8) (hd : decode code pc = .ok (.invokevirtual idx, 3)) (hf : cells ≤ room_1.cells ∧ slots ≤ room_1.slots)
    (kk : ∀ (H : Heap) (locs : List Loc), LSt s dC dI a cs b ds o cO r.2 τ f H locs → W p l e room_1 s m #[Value.ref b0] below meth c H locs cells slots Q (F0 m (pc + 3) ls (.int r.1 :: rest))) :
    W p l e room_1 s m #[Value.ref b0] below meth c H locs cells slots Q (F0 m pc ls st0) := by
  subst hst
  obtain ⟨hfl, hKB, hKM, hKo, hN, hT, hXC, hab, hao, hbo, hza, hzb, hzo⟩ := C1
  obtain ⟨hP, hD, hPM, hDM, hPo, hS⟩ := S0
  have hsub : ∀ q, va_A (wsB a cs σ) H.size q → s.heap.size ≤ q := fun q h => by
    rcases h with ⟨k, e, h⟩ | h
    · exact hD.2 k _ h
    · exact Nat.le_trans hS.1 h
  refine va_calli (va_runV (C := "BlockRuler") (As := As) (rest := rest) ⟨hx, hb, hml, hown, hg⟩ hM cw ⟨wbz_blind, va_recv hKB hP (ci := 0) (q0 := 0) rfl rfl, fun U hU hW => ⟨rfl, by rw [hU], wb_preD hU hW hP hKB hN hD⟩⟩ rfl hn hl rfl (lv_room hr) hd ⟨hf.1, hf.2⟩) hS (fun q _ h => hsub q h) hsub (fun rv u t H1 locs1 ht hvm hw hB hz1 hk1 hS1 => ?_)
  obtain rfl : r.1 = rv := (congrArg Prod.fst hw).symm
  obtain rfl : r.2 = u := (congrArg Prod.snd hw).symm
  refine kk H1 locs1 ⟨by have q := hB.1; rw [ht] at q; exact q, hB.2.weaken (fun _ _ _ h => hsub _ h), keep_of hPM hk1 (fun k q h hlt => ?_), hDM, keep_of hPo hk1 (fun k q h hlt => ?_), hS1⟩
  · obtain ⟨i1, i2⟩ := wsM_addr h
    exact off_B hlt (fun j hj => by rw [i2]; exact hab j k hj i1)
  · rw [one_cell h] at hlt ⊢
    exact off_B hlt hao
theorem lw_cM (hx : p.tables.exec = Jvm.exec) (hb : c.code = code) (hml : c.maxLocals = 7) (hown : s.vm.findClass "BlockRulerLaw" = some m.cls) (hg : ∀ w ∈ G_, w.before #[Value.ref b0] s = true) (C1 : LCx l s dC dI a cs b ds o cO) (S0 : LSt s dC dI a cs b ds o cO σ τ f H locs) {r : Int32 × SM}
    (hM : Met l y ws rm (va_Pc (.ref (b 0) :: As) (fun U => U.heap.size = H.size ∧ WDM dC dI b ds τ U)) (va_Qi (fun (x : Int32) (u : SM) => (x, u) = r) (atM dC dI b ds (va_A (wsM b ds τ) H.size)) (va_A (wsM b ds τ) H.size)) 0 0 (va_A (wsM b ds τ) H.size))
    (cw : CallW room_1 s #[Value.ref b0] "BlockRulerLaw" "BlockRulerModel" idx y bytes maxL ret ws rm 0 0 n) (hn : As.length = n) (hl : ls.size = 7) (hst : st0 = As.reverse ++ .ref (b 0) :: rest) (hr : (rest.map fun v => v.category).sum ≤ 8) (hd : decode code pc = .ok (.invokevirtual idx, 3)) (hf : cells ≤ room_1.cells ∧ slots ≤ room_1.slots)
    (kk : ∀ (H : Heap) (locs : List Loc), LSt s dC dI a cs b ds o cO σ r.2 f H locs → W p l e room_1 s m #[Value.ref b0] below meth c H locs cells slots Q (F0 m (pc + 3) ls (.int r.1 :: rest))) :
    W p l e room_1 s m #[Value.ref b0] below meth c H locs cells slots Q (F0 m pc ls st0) := by
  subst hst
  obtain ⟨hfl, hKB, hKM, hKo, hN, hT, hXC, hab, hao, hbo, hza, hzb, hzo⟩ := C1
  obtain ⟨hP, hD, hPM, hDM, hPo, hS⟩ := S0
  have hsub : ∀ q, va_A (wsM b ds τ) H.size q → s.heap.size ≤ q := fun q h => by
    rcases h with ⟨k, e, h⟩ | h
    · exact hDM.2 k _ h
    · exact Nat.le_trans hS.1 h
  refine va_calli (va_runV (C := "BlockRulerModel") (As := As) (rest := rest) ⟨hx, hb, hml, hown, hg⟩ hM cw ⟨wbz_blind, va_recv hKM hPM (ci := 5) (q0 := 0) rfl rfl, fun U hU hW => ⟨rfl, by rw [hU], wb_preD hU hW hPM hKM hN hDM⟩⟩ rfl hn hl rfl (lv_room hr) hd ⟨hf.1, hf.2⟩) hS (fun q _ h => hsub q h) hsub (fun rv u t H1 locs1 ht hvm hw hB hz1 hk1 hS1 => ?_)
  obtain rfl : r.1 = rv := (congrArg Prod.fst hw).symm
  obtain rfl : r.2 = u := (congrArg Prod.snd hw).symm
  refine kk H1 locs1 ⟨keep_of hP hk1 (fun k q h hlt => ?_), hD, by have q := hB.1; rw [ht] at q; exact q, hB.2.weaken (fun _ _ _ h => hsub _ h), keep_of hPo hk1 (fun k q h hlt => ?_), hS1⟩
  · obtain ⟨i1, i2⟩ := wsB_addr h
    exact off_M hlt (fun j hj => by rw [i2]; exact (hab k j i1 hj).symm)
  · rw [one_cell h] at hlt ⊢
    exact off_M hlt hbo
theorem lw_rB (hx : p.tables.exec = Jvm.exec) (hb : c.code = code) (hml : c.maxLocals = 7) (hown : s.vm.findClass "BlockRulerLaw" = some m.cls) (hg : ∀ w ∈ G_, w.before #[Value.ref b0] s = true) (C1 : LCx l s dC dI a cs b ds o cO) (S0 : LSt s dC dI a cs b ds o cO σ τ f H locs) {r : Int32}
    (hM : Met l y ws rm (va_Pc (.ref (a 0) :: As) (WBB dC dI a cs σ)) (QcV (.int r)) 0 0 (fun _ => False))
    (cw : CallW room_1 s #[Value.ref b0] "BlockRulerLaw" "BlockRuler" idx y bytes maxL ret ws rm 0 0 n) (hn : As.length = n) (hl : ls.size = 7) (hst : st0 = As.reverse ++ .ref (a 0) :: rest) (hr : (rest.map fun v => v.category).sum ≤ 8) (hd : decode code pc = .ok (.invokevirtual idx, 3)) (hf : cells ≤ room_1.cells ∧ slots ≤ room_1.slots)
    (kk : W p l e room_1 s m #[Value.ref b0] below meth c H locs cells slots Q (F0 m (pc + 3) ls (.int r :: rest))) :
    W p l e room_1 s m #[Value.ref b0] below meth c H locs cells slots Q (F0 m pc ls st0) := by
  subst hst
  obtain ⟨hfl, hKB, hKM, hKo, hN, hT, hXC, hab, hao, hbo, hza, hzb, hzo⟩ := C1
  obtain ⟨hP, hD, hPM, hDM, hPo, hS⟩ := S0
  exact ro_call (v := .int r) (va_runV (C := "BlockRuler") (As := As) (rest := rest) ⟨hx, hb, hml, hown, hg⟩ hM cw ⟨wb_blind, va_recv hKB hP (ci := 0) (q0 := 0) rfl rfl, fun U hU hW => ⟨rfl, wb_pre hU hW hP hKB hN⟩⟩ rfl hn hl rfl (lv_room hr) hd ⟨hf.1, hf.2⟩) kk
theorem lw_rM (hx : p.tables.exec = Jvm.exec) (hb : c.code = code) (hml : c.maxLocals = 7) (hown : s.vm.findClass "BlockRulerLaw" = some m.cls) (hg : ∀ w ∈ G_, w.before #[Value.ref b0] s = true) (C1 : LCx l s dC dI a cs b ds o cO) (S0 : LSt s dC dI a cs b ds o cO σ τ f H locs) {r : Int32}
    (hM : Met l y ws rm (va_Pc (.ref (b 0) :: As) (WBM dC dI b ds τ)) (QcV (.int r)) 0 0 (fun _ => False))
    (cw : CallW room_1 s #[Value.ref b0] "BlockRulerLaw" "BlockRulerModel" idx y bytes maxL ret ws rm 0 0 n) (hn : As.length = n) (hl : ls.size = 7) (hst : st0 = As.reverse ++ .ref (b 0) :: rest) (hr : (rest.map fun v => v.category).sum ≤ 8) (hd : decode code pc = .ok (.invokevirtual idx, 3)) (hf : cells ≤ room_1.cells ∧ slots ≤ room_1.slots)
    (kk : W p l e room_1 s m #[Value.ref b0] below meth c H locs cells slots Q (F0 m (pc + 3) ls (.int r :: rest))) :
    W p l e room_1 s m #[Value.ref b0] below meth c H locs cells slots Q (F0 m pc ls st0) := by
  subst hst
  obtain ⟨hfl, hKB, hKM, hKo, hN, hT, hXC, hab, hao, hbo, hza, hzb, hzo⟩ := C1
  obtain ⟨hP, hD, hPM, hDM, hPo, hS⟩ := S0
  exact ro_call (v := .int r) (va_runV (C := "BlockRulerModel") (As := As) (rest := rest) ⟨hx, hb, hml, hown, hg⟩ hM cw ⟨wb_blind, va_recv hKM hPM (ci := 5) (q0 := 0) rfl rfl, fun U hU hW => ⟨rfl, wb_pre hU hW hPM hKM hN⟩⟩ rfl hn hl rfl (lv_room hr) hd ⟨hf.1, hf.2⟩) kk
/-- a call of a helper -/
theorem lw_cH {hs : List (Nat × Nat × Nat × Nat)} {mc ms : Nat} (hx : p.tables.exec = Jvm.exec) (hb : c.code = code) (hml : c.maxLocals = 7) (hown : s.vm.findClass "BlockRulerLaw" = some m.cls) (hg : ∀ w ∈ G_, w.before #[Value.ref b0] s = true) (C1 : LCx l s dC dI a cs b ds o cO) (S0 : LSt s dC dI a cs b ds o cO σ τ f H locs) {rv : Int32} {r : SB × (Nat → Int64)}
    (hM : Met l y ws rm (va_Pc As (fun U => U.heap.size = H.size ∧ WH dC dI a cs s.heap.size σ o cO f U)) (va_Qi (fun (x : Int32) (u : SB × (Nat → Int64)) => x = rv ∧ u = r) (atH dC dI a cs o cO (AH a cs σ o H.size)) (AH a cs σ o H.size)) mc ms (AH a cs σ o H.size))
    (hw : ws = Cond.codeWith y bytes maxL ret hs :: G_) (hcw : Cond.codeWith y bytes maxL ret hs ∈ G_) (hrc : rm.cells = mc) (hrs : rm.slots = ms) (hlk : Cond.methodLink "BlockRulerLaw" idx y ∈ G_) (hstat : Cond.static y ∈ G_) (hini : Cond.initialized y.cls ∈ G_)
    (hy : y.cls ≠ "java/lang/invoke/MethodHandle" ∧ y.cls ≠ "java/lang/invoke/VarHandle") (hlen : (parseMethodDescriptor y.desc).map (fun d => d.parameters.length) = some n) (hR : rm.frames + 1 ≤ room_1.frames ∧ 8 + (maxL + 11) + rm.locals ≤ room_1.locals)
    (hn : As.length = n) (hl : ls.size = 7) (hst : st0 = As.reverse ++ rest) (hr : (rest.map fun v => v.category).sum ≤ 8) (hd : decode code pc = .ok (.invokestatic idx, 3)) (hf : cells + mc ≤ room_1.cells ∧ slots + ms ≤ room_1.slots)
    (kk : ∀ (H : Heap) (locs : List Loc), LSt s dC dI a cs b ds o cO r.1 τ r.2 H locs → W p l e room_1 s m #[Value.ref b0] below meth c H locs (cells + mc) (slots + ms) Q (F0 m (pc + 3) ls (.int rv :: rest))) :
    W p l e room_1 s m #[Value.ref b0] below meth c H locs cells slots Q (F0 m pc ls st0) := by
  subst hst
  obtain ⟨hfl, hKB, hKM, hKo, hN, hT, hXC, hab, hao, hbo, hza, hzb, hzo⟩ := C1
  obtain ⟨hP, hD, hPM, hDM, hPo, hS⟩ := S0
  have hol : o < H.size := (hPo 0 _ rfl).lt
  have hsub : ∀ q, AH a cs σ o H.size q → s.heap.size ≤ q := fun q h => by
    rcases h with h | h
    · rcases h with ⟨k, e, h⟩ | h
      · exact hD.2 k _ h
      · exact Nat.le_trans hS.1 h
    · rw [h]; exact hzo
  refine va_calli (va_runSW (As := As) (rest := rest) hx hb hml hown hg hM hw hcw hrc hrs hlk hstat hini hy hlen hR ⟨wh_blind, fun U hU hW => ⟨rfl, by rw [hU], wb_preD hU hW hP hKB hN hD, hT.warm hW (fun q hq => by rw [hU]; exact hS.2.1 q hq (Nat.not_le.mpr hq)), hXC.warm hW, by rw [hU]; exact hPo, va_K.moved hW.alike hKo⟩⟩ rfl hn hl rfl (lv_room hr) hd hf) hS (fun q _ h => hsub q h) hsub (fun x u t H1 locs1 ht hvm hw9 hB hz1 hk1 hS1 => ?_)
  obtain ⟨rfl, rfl⟩ := hw9
  obtain ⟨hB1, hB2, hB3⟩ := hB
  rw [ht] at hB1 hB3
  refine kk H1 locs1 ⟨hB1, hB2.weaken (fun _ _ _ h => hsub _ h), keep_of hPM hk1 (fun k q h hlt => ?_), hDM, hB3, hS1⟩
  obtain ⟨i1, i2⟩ := wsM_addr h
  intro z
  rcases z with z | z
  · exact off_B hlt (fun j hj => by rw [i2]; exact hab j k hj i1) z
  · rw [i2] at z
    exact hbo k i1 z
end LR
