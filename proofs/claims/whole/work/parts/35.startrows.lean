theorem ws0 : Cond.classLink "BlockRulerLaw" 8 "BlockRuler" ∈ G_ := g_in (by decide +kernel) (by decide +kernel)
theorem ws1 : Cond.instantiable "BlockRuler" 5 ∈ G_ := g_in (by decide +kernel) (by decide +kernel)
theorem ws2 : Cond.initialized "BlockRuler" ∈ G_ := g_in (by decide +kernel) (by decide +kernel)
theorem ws3 : Cond.code y_BlockRuler_init b_BlockRuler_init 1 none ∈ G_ := g_in (by decide +kernel) (by decide +kernel)
theorem ws4 : Cond.methodLink "BlockRulerLaw" 33 y_BlockRuler_init ∈ G_ := g_in (by decide +kernel) (by decide +kernel)
theorem ws5 : Cond.instanceMethod y_BlockRuler_init ∈ G_ := g_in (by decide +kernel) (by decide +kernel)
theorem ws6 : Cond.classLink "BlockRulerLaw" 34 "BlockRulerModel" ∈ G_ := g_in (by decide +kernel) (by decide +kernel)
theorem ws7 : Cond.instantiable "BlockRulerModel" 16 ∈ G_ := g_in (by decide +kernel) (by decide +kernel)
theorem ws8 : Cond.initialized "BlockRulerModel" ∈ G_ := g_in (by decide +kernel) (by decide +kernel)
theorem ws9 : Cond.code y_Model_init b_Model_init 1 none ∈ G_ := g_in (by decide +kernel) (by decide +kernel)
theorem ws10 : Cond.methodLink "BlockRulerLaw" 36 y_Model_init ∈ G_ := g_in (by decide +kernel) (by decide +kernel)
theorem ws11 : Cond.instanceMethod y_Model_init ∈ G_ := g_in (by decide +kernel) (by decide +kernel)
theorem ws12 : Cond.arrayClass .long ∈ G_ := g_in (by decide +kernel) (by decide +kernel)
theorem ws13 : Cond.instantiable "BlockRuler$Web" 4 ∈ G_ := g_in (by decide +kernel) (by decide +kernel)
theorem ws14 : Cond.instantiable "BlockRuler$Walk" 9 ∈ G_ := g_in (by decide +kernel) (by decide +kernel)
theorem ws15 : Cond.instantiable "BlockRuler$Rulers" 2 ∈ G_ := g_in (by decide +kernel) (by decide +kernel)
theorem ws16 : Cond.instantiable "BlockRuler$Loops" 7 ∈ G_ := g_in (by decide +kernel) (by decide +kernel)
theorem wsB_get (a : Nat → Nat) (cs : Nat → ClassId) (σ : SB) {j : Nat} (hj : j < 15) : ∃ e, (wsB a cs σ)[j]? = some (a j, e) := by
  cases h : (wsB a cs σ)[j]? with
  | none => exact absurd (List.getElem?_eq_none_iff.mp h) (by show ¬ 15 ≤ j; omega)
  | some q => exact ⟨q.2, by rw [← (wsB_addr h).2]⟩
theorem wsM_get (a : Nat → Nat) (cs : Nat → ClassId) (σ : SM) {j : Nat} (hj : j < 13) : ∃ e, (wsM a cs σ)[j]? = some (a j, e) := by
  cases h : (wsM a cs σ)[j]? with
  | none => exact absurd (List.getElem?_eq_none_iff.mp h) (by show ¬ 13 ≤ j; omega)
  | some q => exact ⟨q.2, by rw [← (wsM_addr h).2]⟩
theorem app_dis {A : Nat → Prop} {w1 w2 : va_W} (h : va_D A (w1 ++ w2)) {i j : Nat} {p q : Nat × va_E} (hi : w1[i]? = some p) (hj : w2[j]? = some q) : p.1 ≠ q.1 := fun e => by
  have hil := (List.getElem?_eq_some_iff.mp hi).1
  have h1 : (w1 ++ w2)[i]? = some p := by rw [List.getElem?_append_left hil]; exact hi
  have h2 : (w1 ++ w2)[w1.length + j]? = some q := by rw [List.getElem?_append_right (by omega)]; simpa using hj
  have := h.1 _ _ _ _ h1 h2 e
  omega
theorem app_lP {D : va_G} {cl : List vw_C} {w1 w2 : va_W} {H : Heap} (h : va_P D cl (w1 ++ w2) H) : va_P D cl w1 H := fun k q hk => h k q (by rw [List.getElem?_append_left (List.getElem?_eq_some_iff.mp hk).1]; exact hk)
theorem app_rP {D : va_G} {cl : List vw_C} {w1 w2 : va_W} {H : Heap} (h : va_P D cl (w1 ++ w2) H) : va_P D cl w2 H := fun k q hk => h (w1.length + k) q (by rw [List.getElem?_append_right (by omega)]; simpa using hk)
theorem app_lD {A : Nat → Prop} {w1 w2 : va_W} (h : va_D A (w1 ++ w2)) : va_D A w1 := ⟨fun i j p q hi hj e => h.1 i j p q (by rw [List.getElem?_append_left (List.getElem?_eq_some_iff.mp hi).1]; exact hi) (by rw [List.getElem?_append_left (List.getElem?_eq_some_iff.mp hj).1]; exact hj) e, fun k q hk => h.2 k q (by rw [List.getElem?_append_left (List.getElem?_eq_some_iff.mp hk).1]; exact hk)⟩
theorem app_rD {A : Nat → Prop} {w1 w2 : va_W} (h : va_D A (w1 ++ w2)) : va_D A w2 := ⟨fun i j p q hi hj e => by
  have := h.1 (w1.length + i) (w1.length + j) p q (by rw [List.getElem?_append_right (by omega)]; simpa using hi) (by rw [List.getElem?_append_right (by omega)]; simpa using hj) e
  omega, fun k q hk => h.2 (w1.length + k) q (by rw [List.getElem?_append_right (by omega)]; simpa using hk)⟩
theorem nest_in : (nestWs.all fun w => decide (w ∈ lw_tbl)) = true := by decide +kernel
theorem tw_in : (twWs.all fun w => decide (w ∈ lw_tbl)) = true := by decide +kernel
theorem ls_in : ((twSt.take 2).all fun w => decide (w ∈ lw_tbl)) = true := by decide +kernel
theorem str_of {args : Array Value} {s : State} {k : Nat} {tx : String} (h1 : (Cond.stringRef "BlockRuler" k tx).before args s = true) (h2 : (Cond.exactly (.string "BlockRuler" k) "java/lang/String").before args s = true) : ∃ q, vk_R "BlockRuler" k tx q s := by
  obtain ⟨a, ha⟩ : ∃ a, (Term.string "BlockRuler" k).eval args s none [] s = some (.ref a) := by
    obtain ⟨a, _, _, _, h, -⟩ := Cond.exactly_spec h2
    exact ⟨a, h⟩
  exact ⟨a, vk_R.of (A := #[]) (by first | exact h1 | (rw [← h1]; rfl)) (by rw [← ha]; rfl)⟩
