/-- nothing written: every old cell is as it was -/
theorem tx_kept {s t : State} {k n : Nat} (h : s.sameButNew t [] k n) : s.heap.size ≤ t.heap.size ∧ ∀ a : Nat, a < s.heap.size → t.heap[a]? = s.heap[a]? := by
  obtain ⟨-, h2, -, -, -, h6⟩ := h
  refine ⟨h2, fun a ha => ?_⟩
  obtain ⟨c', e1, e2, -, e4⟩ := h6 a _ (Array.getElem?_eq_getElem ha)
  have hs : c'.slots = (s.heap[a]).slots := Array.ext_getElem? fun i => e4 i (fun hm => nomatch hm)
  rw [e1, e2, hs, Array.getElem?_eq_getElem ha]
section TXR
variable {p : Program} {l : Launch} {e : Env} {R : Room} {s : State} {m : MethodId} {args : Array Value} {below : List Frame} {meth : Method} {c : Code} {H : Heap} {locs : List Loc} {cells slots : Nat} {Q : State → Prop}
/-- where a callee has thrown q over the frame g -/
def tx_At (p : Program) (l : Launch) (e : Env) (R : Room) (s : State) (m : MethodId) (args : Array Value) (below : List Frame) (meth : Method) (c : Code) (H : Heap) (locs : List Loc) (cells slots : Nat) (E : String) (T : State) (g0 g : JFrame) : Prop :=
  ∃ (q : Addr) (ce : Cell) (T' : State), Stand p l e R s m args below meth c T' locs cells slots ∧ T'.heap[q]? = some ce ∧ ce.vm = .none ∧ s.vm.findClass E = some ce.cls ∧ H.size ≤ T'.heap.size ∧ (∀ a : Nat, a < H.size → T'.heap[a]? = H[a]?) ∧
    Steps p.tables e below (T.setTop g0) ((T'.setTop g).pushFrame (.throwing q))
theorem tx_run {y : MethodName} {ws : List Cond} {rm : Room} {Pc : Array Value → State → Prop} {E : String} {mc ms maxL nL n index pc b : Nat} {bytes cc : ByteArray} {ret : Option FieldType} {Ts : List Cond} {own C : String} {As rest st0 : List Value} {ls : Array Slot}
    (S : CallFix p m c cc nL s args Ts own) (hM : MetT l y ws rm Pc E mc ms) (cw : CallW R s args own C index y bytes maxL ret ws rm mc ms n) (hp : PreV s H C b Pc As)
    (hn : As.length = n) (hsize : ls.size = nL) (hstack : st0 = As.reverse ++ .ref b :: rest) (hW : (rest.map fun v => v.category).sum ≤ 8) (hdg : decode cc pc = .ok (.invokevirtual index, 3)) (hf : cells + mc ≤ R.cells ∧ slots + ms ≤ R.slots) :
    ∀ T : State, T.heap = H → Stand p l e R s m args below meth c T locs cells slots → tx_At p l e R s m args below meth c H locs (cells + mc) (slots + ms) E T (F0 m pc ls st0) (F0 m pc ls rest) := by
  obtain ⟨⟨hrc, hrs, hfr, hlo, hws, hcw, hcode, hini, hy, hlen, hl⟩, hin, hse⟩ := cw
  obtain ⟨hx, hb, hml, ho, -⟩ := S
  obtain ⟨hbl, ⟨cellB, hcB, hoB, hclB⟩, hPc⟩ := hp
  intro T hT X
  have hK : Jvm.Free.BackT l R p e below s args y 3 8 (PreOf R mc ms Pc) (fun A a q B => ∃ (g : JFrame) (mk : MethodId) (t : State), B.U.heap = t.heap ∧ B.U.vm = t.vm ∧ tx_T E (A.U.calling g mk a) q t mc ms ∧ B.locs = A.locs ∧ B.cells = A.cells + mc ∧ B.slots = A.slots + ms) := by
    refine Jvm.Free.BackT.of_free (S := headSpec ws rm) (P := Pc) (K := fun _ _ _ _ _ => True) (Q := fun _ st o t => ∃ q, o = .threw q ∧ tx_T E st q t mc ms) (bytes := bytes) (maxL := maxL) (ret := ret)
      (E := fun a st o t L k n => k = mc ∧ n = ms ∧ L = []) hM hfr hlo ?_ ?_ (fun _ _ _ _ _ _ _ _ _ => trivial) ?_ ?_
    · intro m' meth' c' A a X' hp'
      exact ⟨atoms_intro fun w hw => hws w hw _ _ X'.warmed, hws _ hcw _ _ X'.warmed, word_at X'.warmed (Or.inl (by first | rfl | simp [Cond.onTables, Cond.keeps, Cond.steady])) hini, by rw [show (headSpec ws rm).room.cells = mc from hrc]; exact hp'.1, by rw [show (headSpec ws rm).room.slots = ms from hrs]; exact hp'.2.1⟩
    · intro m' meth' c' A a g mk X' hp'
      exact hbl _ _ _ _ hp'.2.2
    · intro a st o t ⟨q, ho', ce, h1, h2, h3, h4, h5⟩
      exact ⟨[], mc, ms, ⟨⟨q, ho'⟩, h4, h5⟩, rfl, rfl, rfl⟩
    · intro m' meth' c' A a g mk v t L k n' X' hp' hq hF ⟨e1, e2, e3⟩
      subst e1; subst e2; subst e3
      obtain ⟨q, hq1, hq2⟩ := hq
      cases hq1
      exact ⟨g, mk, t, rfl, rfl, hq2, List.append_nil _, rfl, rfl⟩
  obtain ⟨mk, methM, hnamed, hmethM, hstM, habM⟩ := Cond.instanceMethod_spec hin
  obtain ⟨methM', cM, hmethM', -, -, -, -, -, -, hsigM⟩ := Cond.code_spec hnamed hcode
  cases hmethM.symm.trans hmethM'
  obtain ⟨c2, r2, m2, q1, q2, q3, q4, kP, hkP, hkPi⟩ := Cond.selects_spec hse
  cases hclB.symm.trans q1
  cases (State.methodFound?_of_named hnamed hy).symm.trans q2
  cases hnamed.symm.trans q3
  have hselP : selectMethod e.platform s.vm cellB.cls mk = .method mk := by rw [Launch.admits_selectMethod X.admits]; exact q4
  obtain ⟨vm₁, X₁, hstep₁⟩ := X.invokevirtual hx ho hl hnamed hmethM hstM hkP hkPi hy (a := b) (cell := cellB) (by rw [hT]; exact hcB)
    (fun z h => by rw [h] at hoB; cases hoB) hselP hmethM habM hkP hkPi (g := F0 m pc ls st0) rfl (argsL := As) (rest := rest) (hn.trans (hlen _ hsigM)) hstack (by rw [hb]; exact hdg)
  obtain ⟨q, B, X', ⟨g', mk', t, e1, e2, ⟨ce, h1, h2, h3, h4, h5⟩, h6, h7, h8⟩, hsteps⟩ := hK m meth c ⟨T.setVm vm₁, locs, cells, slots⟩ (F0 m pc ls rest) (.invokevirtual index) mk (Value.ref b :: As).toArray X₁ rfl (hsize.trans hml.symm) (by rw [hb]; exact hdg) (by simpa [JFrame.monitorRoom] using hW) (X₁.named hnamed) ⟨hf.1, hf.2, hPc (T.setVm vm₁) hT X₁.warmed⟩
  obtain ⟨U', l2, c2', s2⟩ := B
  dsimp only [Pt.U, Pt.locs, Pt.cells, Pt.slots] at X' e1 e2 h6 h7 h8 hsteps h1 h2 h3 h4 h5
  subst h6; subst h7; subst h8
  have hkk := tx_kept h5
  refine ⟨q, ce, U', X', by rw [e1]; exact h1, h2, ?_, ?_, ?_, ?_⟩
  · have h9 : (T.setVm vm₁).vm.findClass E = some ce.cls := h3
    rw [X₁.warmed.alike.findClass] at h9
    exact h9
  · rw [e1, ← hT]; exact hkk.1
  · intro a ha
    rw [e1, ← hT]
    exact hkk.2 a (by show a < T.heap.size; rw [hT]; exact ha)
  · exact hstep₁ _ fun acts => by rw [doInvoke_state]; exact hsteps
/-- not caught here: the method throws it on -/
theorem tx_pass {E : String} {cc : ByteArray} {y : MethodName} {maxL : Nat} {ret : Option FieldType} {pc mc ms : Nat} {ls : Array Slot} {st0 rest : List Value} (hn : s.methodNamed? y = some m) (hw : (Cond.code y cc maxL ret).before args s = true) (hlocks : meth.locks = false)
    (hr : ∀ T : State, T.heap = H → Stand p l e R s m args below meth c T [] 0 0 → tx_At p l e R s m args below meth c H [] mc ms E T (F0 m pc ls st0) (F0 m pc ls rest)) :
    W p l e R s m args below meth c H [] 0 0 (tx_Q below E s mc ms) (F0 m pc ls st0) := by
  intro T hT X
  obtain ⟨q, ce, T', X', h1, h2, h3, h4, h5, st⟩ := hr T hT X
  obtain ⟨st1, hrun, hend, hW, hsm⟩ := X'.leaveThrown q (g := F0 m pc ls rest) rfl rfl rfl (tx_none X' hn hw _) hlocks
  exact ⟨_, st.trans st1, q, hrun, hend, ce, h1, h2, h3, hW, hsm⟩
/-- caught here, by the row x of the table; the rows ahead of it don't take it -/
theorem tx_catch {E own : String} {pc : Nat} {ls : Array Slot} {st0 rest : List Value} (hown : s.vm.findClass own = some m.cls)
    (hr : ∀ T : State, T.heap = H → Stand p l e R s m args below meth c T locs cells slots → ∃ k n, k ≤ R.cells ∧ tx_At p l e R s m args below meth c H locs k n E T (F0 m pc ls st0) (F0 m pc ls rest) ∧ k = cells + 1 ∧ n = slots + 6)
    (pre : List ExceptionTableEntry) (x : ExceptionTableEntry) (suf : List ExceptionTableEntry) (hsplit : ∀ T : State, Stand p l e R s m args below meth c T locs cells slots → c.exceptionTable.toList = pre ++ x :: suf)
    (hpass : ∀ z ∈ pre, z.catchType ≠ 0 ∧ ∃ nm : String, (Cond.classLink own z.catchType nm).before args s = true ∧ va_Nc E nm s) (hx : covers x pc = true) (h0 : x.catchType ≠ 0)
    (hlink : (Cond.classLink own x.catchType E).before args s = true) (hcast : va_Nw (.castable E E) s)
    (kk : ∀ (q : Addr) (H1 : Heap), H.size ≤ H1.size → (∀ a : Nat, a < H.size → H1[a]? = H[a]?) → W p l e R s m args below meth c H1 locs (cells + 1) (slots + 6) Q (F0 m x.handlerPc ls [.ref q])) : W p l e R s m args below meth c H locs cells slots Q (F0 m pc ls st0) := by
  intro T hT X
  obtain ⟨k, n, -, ⟨q, ce, T', X', h1, h2, h3, h4, h5, st⟩, e1, e2⟩ := hr T hT X
  subst e1; subst e2
  have hpl : e.platform.magicAccessors = ({} : Platform).magicAccessors := by rw [X.admits.platform]
  obtain ⟨c3, c4, hc3, hc4, hasg⟩ := Cond.castable_spec (va_Nw.use (A := args) rfl hcast)
  cases Option.some.inj (hc3.symm.trans h3)
  obtain ⟨c5, hc5, hcl5⟩ := Cond.classLink_spec hown hlink e.platform hpl
  cases Option.some.inj (hc4.symm.trans hc5)
  obtain ⟨vm', X2, st2⟩ := X'.thenCaughtThrough q (g := F0 m pc ls rest) rfl st h1 (by rw [h2]; rfl) (by obtain ⟨k9, h9, -⟩ := Vm.findClass_spec h3; exact ⟨k9, h9⟩) pre x suf (hsplit T X)
    (fun z hz => by
      obtain ⟨hz0, nm, hl1, a8, b8, g1, g2, g3⟩ := hpass z hz
      obtain ⟨c6, hc6, hcl6⟩ := Cond.classLink_spec hown hl1 e.platform hpl
      cases Option.some.inj (g1.symm.trans h3)
      cases Option.some.inj (g2.symm.trans hc6)
      exact Or.inr ⟨hz0, _, hcl6, g3⟩) hx (Or.inr ⟨h0, c4, hcl5, hasg⟩)
  obtain ⟨t, a1, b1⟩ := kk q T'.heap h4 h5 (T'.setVm vm') rfl X2
  exact ⟨t, st2.trans a1, b1⟩
end TXR
