/-! own rows: calls that surely throw -/
/-- q of the class E was thrown: nothing that was there before has changed, at most mc cells of ms slots are new -/
def tx_T (E : String) (st : State) (q : Addr) (t : State) (mc ms : Nat) : Prop :=
  ∃ ce : Cell, t.heap[q]? = some ce ∧ ce.vm = .none ∧ st.vm.findClass E = some ce.cls ∧ st.WarmedH t.vm ∧ st.sameButNew ({ t with vm := st.vm } : State) [] mc ms
def tx_Q (below : List Frame) (E : String) (s : State) (mc ms : Nat) : State → Prop := fun t => ∃ q, t.status = .running ∧ Ended t below (.threw q) ∧ tx_T E s q t mc ms
/-- from every such start the method throws an E -/
def MetT (l : Launch) (y : MethodName) (ws : List Cond) (rm : Room) (Pc : Array Value → State → Prop) (E : String) (mc ms : Nat) : Prop :=
  MetFree l y (headSpec ws rm) Pc (fun _ _ _ _ _ => True) (fun _ st o t => ∃ q, o = .threw q ∧ tx_T E st q t mc ms)
theorem MetT.ofW {l : Launch} {y : MethodName} {ws ws' : List Cond} {rm : Room} {Pc : Array Value → State → Prop} {E : String} {mc ms : Nat} {cc : ByteArray} {maxL : Nat} {ret : Option FieldType} (hy : plainName y.cls = true) (hw : ws = Cond.code y cc maxL ret :: ws')
    (body : ∀ p e s m args below meth c s₁, BodyLoose p l y (headSpec ws rm) cc maxL ret e s m args below meth c s₁ → c.maxLocals = maxL → Pc args s → W p l e (headSpec ws rm).room s m args below meth c s.heap [] 0 0 (tx_Q below E s mc ms) (entryFrame m args maxL)) : MetT l y ws rm Pc E mc ms := by
  refine MetFree.of_bodyS (code := cc) (maxLocals := maxL) (ret := ret) hy ?_ ?_
  · intro args s m h hn
    obtain ⟨meth, c, h1, h2, h3, h4, h5, h6, -, -⟩ := Cond.code_spec hn (atoms_spec (ws := ws) h _ (by rw [hw]; exact List.mem_cons_self))
    exact ⟨meth, c, h1, h2, h3, h4, h5, h6⟩
  · intro p e s m args below meth c s₁ B hml hP _
    have hh0 : s₁.heap = s.heap := by rw [B.state]; rfl
    obtain ⟨t, a1, q, b1, b2, b3⟩ := body p e s m args below meth c s₁ B hml hP s₁ hh0 (Stand.of_body B)
    exact ⟨t, .threw q, a1, b1, b2, q, rfl, b3⟩
section TXS
variable {p : Program} {l : Launch} {e : Env} {R : Room} {s : State} {m : MethodId} {args : Array Value} {below : List Frame} {meth : Method} {c : Code} {H : Heap} {locs : List Loc} {cells slots : Nat} {Q : State → Prop}
/-- a method whose word says that it has no table of handlers -/
theorem tx_none {y : MethodName} {cc : ByteArray} {maxL : Nat} {ret : Option FieldType} {T : State} (X : Stand p l e R s m args below meth c T locs cells slots) (hn : s.methodNamed? y = some m) (hw : (Cond.code y cc maxL ret).before args s = true) (pc : Nat) : ∀ x ∈ c.exceptionTable.toList, covers x pc = false := by
  obtain ⟨meth', c', h1, h2, -, -, -, -, h7, -⟩ := Cond.code_spec hn hw
  cases X.method.symm.trans h1
  cases X.code.symm.trans h2
  intro x hx
  have h0 : c.exceptionTable = #[] := Array.isEmpty_iff.mp h7
  rw [h0] at hx
  cases hx
/-- 'throw new E("text")' -/
theorem tx_site {cc : ByteArray} {pc : Nat} {ls : Array Slot} {rest : List Value} (hx : p.tables.exec = Jvm.exec) (hb : c.code = cc) (hl : l.stackTraces = false) {own cls text : String} {names : List String} {ik is ic sa : Nat} (hown : s.vm.findClass own = some m.cls)
    (hcls : Bundle.fit cls = true) (hnames : ∀ n ∈ names, Bundle.fit n = true) (hk : (Cond.classLink own ik cls).before args s = true) (hins : (Cond.instantiable cls 6).before args s = true) (hini : (Cond.initialized cls).before args s = true)
    (hat : ∀ w ∈ Bundle.ownAtoms own ic cls names, w.before args s = true) (hstr : vk_R own is text sa s) (hsz : ls.size = c.maxLocals)
    (d0 : decode cc pc = .ok (.new ik, 3)) (d3 : decode cc (pc + 3) = .ok (.dup, 1)) (d4 : decode cc (pc + 4) = .ok (.ldc is, 2)) (d6 : decode cc (pc + 6) = .ok (.invokespecial ic, 3)) (d9 : decode cc (pc + 9) = .ok (.athrow, 1))
    {y : MethodName} {maxL : Nat} {ret : Option FieldType} (hn : s.methodNamed? y = some m) (hw : (Cond.code y cc maxL ret).before args s = true) (hlocks : meth.locks = false)
    (hRf : names.length + 3 < R.frames) (hRl : (rest.map fun v => v.category).sum + (13 * (names.length + 1) + 43) ≤ R.locals) (hRc : 1 ≤ R.cells) (hRs : 6 ≤ R.slots) :
    W p l e R s m args below meth c s.heap [] 0 0 (tx_Q below cls s 1 6) (F0 m pc ls rest) := by
  obtain ⟨cX, kX, hcX, -⟩ := Cond.instantiable_spec hins
  refine W.newcK hx hb hown hk hins hini rfl d0 (by omega) (by omega) hcX rfl (fun H' kC hkC hcell hsize hold => ?_)
  refine W.eq (g2 := F0 m (pc + 3) ls (.ref s.heap.size :: rest)) rfl ?_
  refine lv_dup hx hb d3 rfl ?_
  refine va_ldcS hx hb hown hstr d4 ?_
  intro T hT X
  have htr : e.platform.stackTraces = false := by rw [X.admits.platform]; exact hl
  obtain ⟨U, hst, hrun, hend, hW, hsame, ce, hce, hO⟩ := X.ctorThrowS hx htr hown hcls hnames hat (fun x hx => nomatch hx) hcX hkC (by rw [hT]; exact hcell) (Nat.le_refl _) (msg := .ref sa) rfl (g := F0 m (pc + 4 + 2) ls (.ref sa :: .ref s.heap.size :: .ref s.heap.size :: rest)) rfl hsz rfl rfl rfl
    (by rw [hb]; exact d6) (by rw [hb]; exact d9) (tx_none X hn hw _) hRf (by simp [JFrame.monitorRoom, Value.category] at hRl ⊢; omega) hlocks
  exact ⟨U, hst, s.heap.size, hrun, hend, ce, hce, hO.vm, hO.cls, hW, hsame⟩
end TXS
