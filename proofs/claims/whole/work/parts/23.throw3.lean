/-! what a throw needs of the state beside the words that keep -/
/-- a static of Throwable: the cell that holds it isn't written, and as long as that cell is there the two words on it hold -/
def tx_S (n d : String) (A : Nat → Prop) (U : State) (H : Heap) : Prop := ∃ (a : Nat) (ce : Cell), H[a]? = some ce ∧ ¬ A a ∧ ∀ U' : State, U.vm.Alike U'.vm → U'.heap[a]? = some ce → ∀ args : Array Value, (Cond.laysStatic Bundle.tN n d).before args U' = true ∧ (Cond.isRef (.static Bundle.tN n d)).before args U' = true
theorem tx_S.moved {n d : String} {A : Nat → Prop} {u U : State} {H : Heap} (hvm : u.vm.Alike U.vm) (h : tx_S n d A u H) : tx_S n d A U H := by
  obtain ⟨a, ce, h1, h2, h3⟩ := h
  exact ⟨a, ce, h1, h2, fun U' hv => h3 U' (hvm.trans hv)⟩
theorem tx_S.kept {n d : String} {A : Nat → Prop} {U : State} {H H1 : Heap} (h : tx_S n d A U H) (hq : ∀ a : Nat, a < H.size → ¬ A a → H1[a]? = H[a]?) : tx_S n d A U H1 := by
  obtain ⟨a, ce, h1, h2, h3⟩ := h
  exact ⟨a, ce, by rw [hq a (Array.getElem?_eq_some_iff.mp h1).1 h2]; exact h1, h2, h3⟩
theorem tx_S.narrow {n d : String} {A B : Nat → Prop} {U : State} {H : Heap} (h : tx_S n d A U H) (hAB : ∀ q, B q → A q) : tx_S n d B U H := by
  obtain ⟨a, ce, h1, h2, h3⟩ := h
  exact ⟨a, ce, h1, fun z => h2 (hAB _ z), h3⟩
theorem tx_S.use {n d : String} {A : Nat → Prop} {U : State} (h : tx_S n d A U U.heap) (args : Array Value) : (Cond.laysStatic Bundle.tN n d).before args U = true ∧ (Cond.isRef (.static Bundle.tN n d)).before args U = true := by
  obtain ⟨a, ce, h1, h2, h3⟩ := h
  exact h3 U (Vm.Alike.refl _) h1 args
theorem tx_S.of {n d : String} {A : Nat → Prop} {s : State} {args : Array Value} (hl : (Cond.laysStatic Bundle.tN n d).before args s = true) (hr : (Cond.isRef (.static Bundle.tN n d)).before args s = true) (hA : ∀ a : Nat, a < s.heap.size → ¬ A a) : tx_S n d A s s.heap := by
  obtain ⟨c, k, i, f, a, cell, h1, h2, h3, h4, h5, h6, h7, h8, h9⟩ := Cond.laysStatic_spec hl
  refine ⟨a, cell, h5, hA a (Array.getElem?_eq_some_iff.mp h5).1, fun U' hv hc args' => ?_⟩
  obtain ⟨k', hi', he⟩ := State.fieldFound?_setVm hv h2
  have hst : k'.statics = some a := by rw [he]; exact h4
  have hty : k'.staticTypes[f.slot]? = some f.type := by rw [he]; exact h9
  have hf' : U'.fieldFound? Bundle.tN n d = some (c, k', i, f) := hi'
  refine ⟨Cond.laysStatic_of (by rw [hv.findClass]; exact h1) hf' h3 hst hc h6 h7 h8 hty, ?_⟩
  obtain ⟨v, hv'⟩ : ∃ v, cell.slots[f.slot]? = some v := ⟨_, Array.getElem?_eq_getElem h8⟩
  have ev : ∀ (U : State) (kk : Class) (ar : Array Value), U.fieldFound? Bundle.tN n d = some (c, kk, i, f) → kk.statics = some a → U.heap[a]? = some cell → (Term.static Bundle.tN n d).eval ar U none [] U = some v := by
    intro U kk ar g1 g2 g3
    simp [Term.eval, State.fieldNamed?, g1, h3, g2, g3, h6, hv']
  have e1 := ev s k args h2 h4 h5
  have e2 := ev U' k' args' hf' hst hc
  simp only [Cond.before, Cond.holds, Cond.value, e1] at hr
  simp only [Cond.before, Cond.holds, Cond.value, e2]
  exact hr
def tx_E : List String := ["java/lang/IndexOutOfBoundsException", "java/lang/IllegalStateException", "java/lang/IllegalArgumentException"]
def tx_D : List MethodName := [Bundle.initS "java/lang/RuntimeException", Bundle.initS "java/lang/Exception", Bundle.initS Bundle.tN]
def tx_str : List (Nat × String) := [(164, "there is no such sample"), (168, "it was not thinned since the picture changed"), (82, "the length is not 0 .. 600"), (171, "there is no such stroke"), (103, "the stroke has no such sample"), (106, "there is no such axis"), (125, "there is no such crossing"), (133, "of a crossing, this is not told")]
/-- all of it -/
def tx_A (A : Nat → Prop) (U : State) (H : Heap) : Prop := (∀ E ∈ tx_E, va_Nw (.castable E E) U) ∧ (∀ y ∈ tx_D, va_Nw (.declares y) U) ∧ tx_S "UNASSIGNED_STACK" Bundle.steD A U H ∧ tx_S "SUPPRESSED_SENTINEL" Bundle.listD A U H ∧ (∀ q ∈ tx_str, ∃ a, vk_R RX4 q.1 q.2 a U) ∧ ∀ E ∈ tx_E, ∀ F ∈ tx_E, E ≠ F → va_Nc E F U
theorem tx_A.warm {A : Nat → Prop} {s U : State} {H : Heap} (hW : s.WarmedH U.vm) (h : tx_A A s H) : tx_A A U H :=
  ⟨fun E hE => va_Nw.warmC hW (h.1 E hE), fun y hy => va_Nw.warmD hW (h.2.1 y hy), h.2.2.1.moved hW.alike, h.2.2.2.1.moved hW.alike, fun q hq => (h.2.2.2.2.1 q hq).imp fun a ha => ha.warm hW, fun E hE F hF hn => (h.2.2.2.2.2 E hE F hF hn).moved hW.alike⟩
theorem tx_A.same {A : Nat → Prop} {s U : State} {H : Heap} (hv : s.vm = U.vm) (h : tx_A A s H) : tx_A A U H :=
  ⟨fun E hE => va_Nw.same rfl hv (h.1 E hE), fun y hy => va_Nw.same rfl hv (h.2.1 y hy), h.2.2.1.moved (by rw [hv]; exact Vm.Alike.refl _), h.2.2.2.1.moved (by rw [hv]; exact Vm.Alike.refl _), fun q hq => (h.2.2.2.2.1 q hq).imp fun a ha => ha.same hv.symm, fun E hE F hF hn => (h.2.2.2.2.2 E hE F hF hn).moved (by rw [hv]; exact Vm.Alike.refl _)⟩
theorem tx_A.kept {A : Nat → Prop} {U : State} {H H1 : Heap} (h : tx_A A U H) (hq : ∀ a : Nat, a < H.size → ¬ A a → H1[a]? = H[a]?) : tx_A A U H1 := ⟨h.1, h.2.1, h.2.2.1.kept hq, h.2.2.2.1.kept hq, h.2.2.2.2⟩
theorem tx_A.narrow {A B : Nat → Prop} {U : State} {H : Heap} (h : tx_A A U H) (hAB : ∀ q, B q → A q) : tx_A B U H := ⟨h.1, h.2.1, h.2.2.1.narrow hAB, h.2.2.2.1.narrow hAB, h.2.2.2.2⟩
def tx_N : List String := ["java/lang/RuntimeException", "java/lang/Exception"]
/-- the words of a throw that don't keep -/
def tx_bad (X : String) : List Cond := [.laysStatic Bundle.tN "UNASSIGNED_STACK" Bundle.steD, .laysStatic Bundle.tN "SUPPRESSED_SENTINEL" Bundle.listD, .isRef (.static Bundle.tN "UNASSIGNED_STACK" Bundle.steD), .isRef (.static Bundle.tN "SUPPRESSED_SENTINEL" Bundle.listD), .castable X X] ++ tx_D.map .declares
theorem tx_words {s : State} {args : Array Value} {A : Nat → Prop} {X : String} {ic : Nat} (hta : ∀ w ∈ gw, w.before args s = true) (h : tx_A A s s.heap) (hX : X ∈ tx_E) (hg : ∀ w ∈ Bundle.ownAtoms RX4 ic X tx_N, w ∈ gw ∨ w ∈ tx_bad X) : ∀ w ∈ Bundle.ownAtoms RX4 ic X tx_N, w.before args s = true := by
  intro w hw
  rcases hg w hw with h1 | h1
  · exact hta w h1
  · rcases List.mem_append.mp h1 with h1 | h1
    · simp only [List.mem_cons, List.not_mem_nil, or_false] at h1
      rcases h1 with rfl | rfl | rfl | rfl | rfl
      · exact (h.2.2.1.use args).1
      · exact (h.2.2.2.1.use args).1
      · exact (h.2.2.1.use args).2
      · exact (h.2.2.2.1.use args).2
      · exact va_Nw.use rfl (h.1 _ hX)
    · obtain ⟨y, hy, rfl⟩ := List.mem_map.mp h1
      exact va_Nw.use rfl (h.2.1 y hy)
theorem tx_g1 : ∀ w ∈ Bundle.ownAtoms RX4 105 "java/lang/IndexOutOfBoundsException" tx_N, w ∈ gw ∨ w ∈ tx_bad "java/lang/IndexOutOfBoundsException" := by decide +kernel
theorem tx_g2 : ∀ w ∈ Bundle.ownAtoms RX4 170 "java/lang/IllegalStateException" tx_N, w ∈ gw ∨ w ∈ tx_bad "java/lang/IllegalStateException" := by decide +kernel
theorem tx_g3 : ∀ w ∈ Bundle.ownAtoms RX4 84 "java/lang/IllegalArgumentException" tx_N, w ∈ gw ∨ w ∈ tx_bad "java/lang/IllegalArgumentException" := by decide +kernel
/-- the start of a method that throws -/
def xo_P (D : va_G) (tX tY : Nat) (tys : List (ClassId × FieldType)) (ws : va_W) (av : List Value) : Array Value → State → Prop :=
  va_Pc av (fun U => va_P D vwCl ws U.heap ∧ va_K D vwCl tys U ∧ ts_Z tX tY (fun _ => False) U U.heap ∧ ts_N U ∧ tx_A (fun _ => False) U U.heap)
theorem xo_blind {D : va_G} {tX tY : Nat} {tys : List (ClassId × FieldType)} {ws : va_W} {av : List Value} : FrameBlind (xo_P D tX tY tys ws av) := fun a U g mk q =>
  ⟨q.1, q.2.1, va_K.moved (u := U) (U := U.calling g mk a) (Vm.Alike.refl U.vm) q.2.2.1, ts_Z.moved (u := U) (U := U.calling g mk a) (Vm.Alike.refl U.vm) q.2.2.2.1, q.2.2.2.2.1.same rfl, q.2.2.2.2.2.same rfl⟩
theorem xo_at {D : va_G} {tX tY : Nat} {A : Nat → Prop} {tys tys' : List (ClassId × FieldType)} {ws ws' : va_W} {s : State} {H : Heap} {locs : List Loc} {av : List Value} (hP : va_P D vwCl ws H) (hK : va_K D vwCl tys s) (hT : ts_Z tX tY A s s.heap) (hN : ts_N s) (hX : tx_A A s s.heap) (hS : va_S A s.heap H locs)
    (is js : List Nat) (h1 : is.filterMap (fun i => ws[i]?) = ws') (h2 : js.filterMap (fun i => tys[i]?) = tys') : ∀ U : State, U.heap = H → s.WarmedH U.vm → xo_P D tX tY tys' ws' av av.toArray U := by
  intro U hU hW
  refine ⟨rfl, by rw [hU]; exact hP.sub is h1, va_K.moved hW.alike (hK.sub js h2), ?_, hN.warm hW, ?_⟩
  · rw [hU]; exact ((hT.kept hS.2.1).narrow (fun _ h => h.elim)).moved hW.alike
  · rw [hU]; exact ((hX.kept hS.2.1).narrow (fun _ h => h.elim)).warm hW
