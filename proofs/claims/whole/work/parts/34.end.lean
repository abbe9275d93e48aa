/-! the start of the claim: what the tables and the Statement give, then the law's start -/
theorem sx_string {s : State} {b : Nat} {k : Nat} {tx : String} (h1 : (Cond.stringRef RX4 k tx).before #[Value.ref b] s = true) (h2 : (Cond.exactly (.string RX4 k) "java/lang/String").before #[Value.ref b] s = true) : ∃ a, vk_R RX4 k tx a s := by
  obtain ⟨a, c, cA, kA, q1, -⟩ := Cond.exactly_spec (args := #[Value.ref b]) (first := s) (o := none) (s := s) (idx := []) (t := .string RX4 k) (cls := "java/lang/String") h2
  exact ⟨a, vk_R.of h1 q1⟩
theorem sx_8 {P : Nat → Prop} (h0 : P 0) (h1 : P 1) (h2 : P 2) (h3 : P 3) (h4 : P 4) (h5 : P 5) (h6 : P 6) (h7 : P 7) : ∀ j : Nat, j < 8 → P j := fun j hj => by
  rcases (show j = 0 ∨ j = 1 ∨ j = 2 ∨ j = 3 ∨ j = 4 ∨ j = 5 ∨ j = 6 ∨ j = 7 by omega) with rfl | rfl | rfl | rfl | rfl | rfl | rfl | rfl <;> assumption

set_option maxRecDepth 100000 in
theorem sx_TX {s : State} {b : Nat} (hts : ∀ w ∈ lw_tbl, w.before #[Value.ref b] s = true) (hg : ∀ w ∈ flatC (Jvm.Cond.and given_1 narrow_1), w.before #[Value.ref b] s = true) {A : Nat → Prop} (hA : ∀ a : Nat, a < s.heap.size → ¬ A a) : ∃ t : Nat, va_Z "ThinStrokes" "ROUND_X" "[I" (.ref t) A s s.heap ∧ va_T .int t 8 (fun j => .int (ts_rx j)) A s s.heap := by
  obtain ⟨t, ht, hT⟩ := va_Tof (tm := .static "ThinStrokes" "ROUND_X" "[I") (ty := .int) (N := 8) (f := fun j => .int (ts_rx j)) (A := A) (by decide) (hg (.arrayOf (.static "ThinStrokes" "ROUND_X" "[I") .int) (by decide +kernel)) (va_eqt (hg (.eq (.length (.static "ThinStrokes" "ROUND_X" "[I")) (.int 8)) (by decide +kernel))) (sx_8 (P := fun j => (Term.elem (.static "ThinStrokes" "ROUND_X" "[I") (.int (Int32.ofNat j))).eval #[Value.ref b] s none [] s = some (.int (ts_rx j))) (va_eqt (hg (.eq (.elem (.static "ThinStrokes" "ROUND_X" "[I") (.int 0)) (.int 0)) (by decide +kernel))) (va_eqt (hg (.eq (.elem (.static "ThinStrokes" "ROUND_X" "[I") (.int 1)) (.int 1)) (by decide +kernel))) (va_eqt (hg (.eq (.elem (.static "ThinStrokes" "ROUND_X" "[I") (.int 2)) (.int 1)) (by decide +kernel))) (va_eqt (hg (.eq (.elem (.static "ThinStrokes" "ROUND_X" "[I") (.int 3)) (.int 1)) (by decide +kernel))) (va_eqt (hg (.eq (.elem (.static "ThinStrokes" "ROUND_X" "[I") (.int 4)) (.int 0)) (by decide +kernel))) (va_eqt (hg (.eq (.elem (.static "ThinStrokes" "ROUND_X" "[I") (.int 5)) (.int (-1))) (by decide +kernel))) (va_eqt (hg (.eq (.elem (.static "ThinStrokes" "ROUND_X" "[I") (.int 6)) (.int (-1))) (by decide +kernel))) (va_eqt (hg (.eq (.elem (.static "ThinStrokes" "ROUND_X" "[I") (.int 7)) (.int (-1))) (by decide +kernel)))) hA
  exact ⟨t, va_Zof (hts _ (List.mem_append_right _ (List.mem_of_getElem? (i := 170) (by decide +kernel)))) (hts _ (List.mem_append_right _ (List.mem_of_getElem? (i := 1) (by decide +kernel)))) ht hA, hT⟩
set_option maxRecDepth 100000 in
theorem sx_TY {s : State} {b : Nat} (hts : ∀ w ∈ lw_tbl, w.before #[Value.ref b] s = true) (hg : ∀ w ∈ flatC (Jvm.Cond.and given_1 narrow_1), w.before #[Value.ref b] s = true) {A : Nat → Prop} (hA : ∀ a : Nat, a < s.heap.size → ¬ A a) : ∃ t : Nat, va_Z "ThinStrokes" "ROUND_Y" "[I" (.ref t) A s s.heap ∧ va_T .int t 8 (fun j => .int (ts_ry j)) A s s.heap := by
  obtain ⟨t, ht, hT⟩ := va_Tof (tm := .static "ThinStrokes" "ROUND_Y" "[I") (ty := .int) (N := 8) (f := fun j => .int (ts_ry j)) (A := A) (by decide) (hg (.arrayOf (.static "ThinStrokes" "ROUND_Y" "[I") .int) (by decide +kernel)) (va_eqt (hg (.eq (.length (.static "ThinStrokes" "ROUND_Y" "[I")) (.int 8)) (by decide +kernel))) (sx_8 (P := fun j => (Term.elem (.static "ThinStrokes" "ROUND_Y" "[I") (.int (Int32.ofNat j))).eval #[Value.ref b] s none [] s = some (.int (ts_ry j))) (va_eqt (hg (.eq (.elem (.static "ThinStrokes" "ROUND_Y" "[I") (.int 0)) (.int (-1))) (by decide +kernel))) (va_eqt (hg (.eq (.elem (.static "ThinStrokes" "ROUND_Y" "[I") (.int 1)) (.int (-1))) (by decide +kernel))) (va_eqt (hg (.eq (.elem (.static "ThinStrokes" "ROUND_Y" "[I") (.int 2)) (.int 0)) (by decide +kernel))) (va_eqt (hg (.eq (.elem (.static "ThinStrokes" "ROUND_Y" "[I") (.int 3)) (.int 1)) (by decide +kernel))) (va_eqt (hg (.eq (.elem (.static "ThinStrokes" "ROUND_Y" "[I") (.int 4)) (.int 1)) (by decide +kernel))) (va_eqt (hg (.eq (.elem (.static "ThinStrokes" "ROUND_Y" "[I") (.int 5)) (.int 1)) (by decide +kernel))) (va_eqt (hg (.eq (.elem (.static "ThinStrokes" "ROUND_Y" "[I") (.int 6)) (.int 0)) (by decide +kernel))) (va_eqt (hg (.eq (.elem (.static "ThinStrokes" "ROUND_Y" "[I") (.int 7)) (.int (-1))) (by decide +kernel)))) hA
  exact ⟨t, va_Zof (hts _ (List.mem_append_right _ (List.mem_of_getElem? (i := 172) (by decide +kernel)))) (hts _ (List.mem_append_right _ (List.mem_of_getElem? (i := 1) (by decide +kernel)))) ht hA, hT⟩
set_option maxRecDepth 100000 in
theorem sx_A {s : State} {b : Nat} (hts : ∀ w ∈ lw_tbl, w.before #[Value.ref b] s = true) (hg : ∀ w ∈ flatC (Jvm.Cond.and given_1 narrow_1), w.before #[Value.ref b] s = true) {A : Nat → Prop} (hA : ∀ a : Nat, a < s.heap.size → ¬ A a) : tx_A A s s.heap := by
  refine ⟨List.forall_mem_cons.mpr ⟨va_Nw.of rfl (hts _ (List.mem_append_right _ (List.mem_of_getElem? (i := 345) (by decide +kernel)))), List.forall_mem_cons.mpr ⟨va_Nw.of rfl (hts _ (List.mem_append_right _ (List.mem_of_getElem? (i := 439) (by decide +kernel)))), List.forall_mem_cons.mpr ⟨va_Nw.of rfl (hts _ (List.mem_append_right _ (List.mem_of_getElem? (i := 455) (by decide +kernel)))), fun _ h => absurd h List.not_mem_nil⟩⟩⟩, List.forall_mem_cons.mpr ⟨va_Nw.of rfl (hts _ (List.mem_append_right _ (List.mem_of_getElem? (i := 347) (by decide +kernel)))), List.forall_mem_cons.mpr ⟨va_Nw.of rfl (hts _ (List.mem_append_right _ (List.mem_of_getElem? (i := 349) (by decide +kernel)))), List.forall_mem_cons.mpr ⟨va_Nw.of rfl (hts _ (List.mem_append_right _ (List.mem_of_getElem? (i := 351) (by decide +kernel)))), fun _ h => absurd h List.not_mem_nil⟩⟩⟩, ?_, ?_, List.forall_mem_cons.mpr ⟨sx_string (hts _ (List.mem_append_right _ (List.mem_of_getElem? (i := 384) (by decide +kernel)))) (hg (.exactly (.string RX4 164) "java/lang/String") (by decide +kernel)), List.forall_mem_cons.mpr ⟨sx_string (hts _ (List.mem_append_right _ (List.mem_of_getElem? (i := 446) (by decide +kernel)))) (hg (.exactly (.string RX4 168) "java/lang/String") (by decide +kernel)), List.forall_mem_cons.mpr ⟨sx_string (hts _ (List.mem_append_right _ (List.mem_of_getElem? (i := 462) (by decide +kernel)))) (hg (.exactly (.string RX4 82) "java/lang/String") (by decide +kernel)), List.forall_mem_cons.mpr ⟨sx_string (hts _ (List.mem_append_right _ (List.mem_of_getElem? (i := 523) (by decide +kernel)))) (hg (.exactly (.string RX4 171) "java/lang/String") (by decide +kernel)), List.forall_mem_cons.mpr ⟨sx_string (hts _ (List.mem_append_right _ (List.mem_of_getElem? (i := 532) (by decide +kernel)))) (hg (.exactly (.string RX4 103) "java/lang/String") (by decide +kernel)), List.forall_mem_cons.mpr ⟨sx_string (hts _ (List.mem_append_right _ (List.mem_of_getElem? (i := 533) (by decide +kernel)))) (hg (.exactly (.string RX4 106) "java/lang/String") (by decide +kernel)), List.forall_mem_cons.mpr ⟨sx_string (hts _ (List.mem_append_right _ (List.mem_of_getElem? (i := 560) (by decide +kernel)))) (hg (.exactly (.string RX4 125) "java/lang/String") (by decide +kernel)), List.forall_mem_cons.mpr ⟨sx_string (hts _ (List.mem_append_right _ (List.mem_of_getElem? (i := 566) (by decide +kernel)))) (hg (.exactly (.string RX4 133) "java/lang/String") (by decide +kernel)), fun _ h => absurd h List.not_mem_nil⟩⟩⟩⟩⟩⟩⟩⟩, ?_⟩
  · exact tx_S.of (hts _ (List.mem_append_right _ (List.mem_of_getElem? (i := 370) (by decide +kernel)))) (hg (.isRef (.static "java/lang/Throwable" "UNASSIGNED_STACK" "[Ljava/lang/StackTraceElement;")) (by decide +kernel)) hA
  · exact tx_S.of (hts _ (List.mem_append_right _ (List.mem_of_getElem? (i := 372) (by decide +kernel)))) (hg (.isRef (.static "java/lang/Throwable" "SUPPRESSED_SENTINEL" "Ljava/util/List;")) (by decide +kernel)) hA
  · exact List.forall_mem_cons.mpr ⟨List.forall_mem_cons.mpr ⟨fun h => absurd rfl h, List.forall_mem_cons.mpr ⟨fun _ => va_Nc.of (hg (.not (.castable "java/lang/IndexOutOfBoundsException" "java/lang/IllegalStateException")) (by decide +kernel)), List.forall_mem_cons.mpr ⟨fun _ => va_Nc.of (hg (.not (.castable "java/lang/IndexOutOfBoundsException" "java/lang/IllegalArgumentException")) (by decide +kernel)), fun _ h => absurd h List.not_mem_nil⟩⟩⟩, List.forall_mem_cons.mpr ⟨List.forall_mem_cons.mpr ⟨fun _ => va_Nc.of (hg (.not (.castable "java/lang/IllegalStateException" "java/lang/IndexOutOfBoundsException")) (by decide +kernel)), List.forall_mem_cons.mpr ⟨fun h => absurd rfl h, List.forall_mem_cons.mpr ⟨fun _ => va_Nc.of (hg (.not (.castable "java/lang/IllegalStateException" "java/lang/IllegalArgumentException")) (by decide +kernel)), fun _ h => absurd h List.not_mem_nil⟩⟩⟩, List.forall_mem_cons.mpr ⟨List.forall_mem_cons.mpr ⟨fun _ => va_Nc.of (hg (.not (.castable "java/lang/IllegalArgumentException" "java/lang/IndexOutOfBoundsException")) (by decide +kernel)), List.forall_mem_cons.mpr ⟨fun _ => va_Nc.of (hg (.not (.castable "java/lang/IllegalArgumentException" "java/lang/IllegalStateException")) (by decide +kernel)), List.forall_mem_cons.mpr ⟨fun h => absurd rfl h, fun _ h => absurd h List.not_mem_nil⟩⟩⟩, fun _ h => absurd h List.not_mem_nil⟩⟩⟩
set_option maxHeartbeats 4000000 in
theorem whole_start {p : Program} {e : Env} {s : State} {m : MethodId} {below : List Frame} {meth : Method} {c : Code} (l : Launch) (hl9 : l.stackTraces = false) {b L : Nat} {xs : Nat → Int32} (hL : L ≤ 2050) (C0 : lw_At p s m meth c b L xs) : W p l e room_1 s m #[Value.ref b] below meth c s.heap [] 0 0 (lw_Z below #[Value.ref b] s) (entryFrame m ([Value.ref b] : List Value).toArray 8) := by
  obtain ⟨hx, hb, hr, hml, hown, hts, hXs, hbl, hlocks, hgv⟩ := id C0
  have hg := flat_of_before _ hgv
  have hA : ∀ a : Nat, a < s.heap.size → ¬ (fun q : Nat => s.heap.size ≤ q) a := fun a h => Nat.not_le.mpr h
  obtain ⟨c0, iS0, hKn0⟩ := u_known (C := RX0) (T := TX0) (N := 3) (n := 3) hts (fun w h => gw_tbl (inX0 w h)) (hts _ (List.mem_append_right _ (List.mem_of_getElem? (i := 102) (by decide +kernel))))
  obtain ⟨c1, iS1, hKn1⟩ := u_known (C := RX1) (T := TX1) (N := 3) (n := 3) hts (fun w h => gw_tbl (inX1 w h)) (hts _ (List.mem_append_right _ (List.mem_of_getElem? (i := 33) (by decide +kernel))))
  obtain ⟨c2, iS2, hKn2⟩ := u_known (C := RX2) (T := TX2) (N := 1) (n := 1) hts (fun w h => gw_tbl (inX2 w h)) (hts _ (List.mem_append_right _ (List.mem_of_getElem? (i := 59) (by decide +kernel))))
  obtain ⟨c3, iS3, hKn3⟩ := u_known (C := RX3) (T := TX3) (N := 8) (n := 8) hts (fun w h => gw_tbl (inX3 w h)) (hts _ (List.mem_append_right _ (List.mem_of_getElem? (i := 70) (by decide +kernel))))
  obtain ⟨c4, iS4, hKn4⟩ := u_known (C := RX4) (T := TX4) (N := 7) (n := 7) hts (fun w h => gw_tbl (inX4 w h)) (hts _ (List.mem_append_right _ (List.mem_of_getElem? (i := 16) (by decide +kernel))))
  obtain ⟨c5, iS5, hKn5⟩ := u_known (C := RX5) (T := TX5) (N := 19) (n := 19) hts (fun w h => gw_tbl (inX5 w h)) (hts _ (List.mem_append_right _ (List.mem_of_getElem? (i := 603) (by decide +kernel))))
  obtain ⟨D, hKc⟩ : ∃ D : va_G, ∀ (k : Nat) (q : vw_C), vwCl[k]? = some q → u_Kn s q.1 q.2.1 q.2.2 (D.1 k) (D.2 k) := by
    refine ⟨(fun k => match k with | 0 => c0 | 1 => c1 | 2 => c2 | 3 => c3 | 4 => c4 | _ => c5, fun k => match k with | 0 => iS0 | 1 => iS1 | 2 => iS2 | 3 => iS3 | 4 => iS4 | _ => iS5), ?_⟩
    intro k q hq
    match k, hq with
    | 0, hq => cases hq; exact hKn0
    | 1, hq => cases hq; exact hKn1
    | 2, hq => cases hq; exact hKn2
    | 3, hq => cases hq; exact hKn3
    | 4, hq => cases hq; exact hKn4
    | 5, hq => cases hq; exact hKn5
    | k + 6, hq => simp [vwCl] at hq
  obtain ⟨tX, hzX, htX⟩ := sx_TX hts hg hA
  obtain ⟨tY, hzY, htY⟩ := sx_TY hts hg hA
  exact law_start (D := D) (tX := tX) (tY := tY) hl9 hL C0 ⟨hzX, htX, hzY, htY⟩ (ts_N.of hts nw_Mt nw_Ft) (sx_A hts hg hA) ⟨hKc, fun k q h => by simp at h⟩
set_option maxHeartbeats 4000000 in
theorem lw_walk (l : Launch) (hl9 : l.stackTraces = false) (b : Addr) (xs : List Int32) : MetFree l x (headSpec (Jvm.Cond.code x code maxLocals ret :: tables_1) room_1) (lw_P b xs) (fun _ _ _ _ _ => True) lw_Q := by
  refine MetFree.of_bodyS (code := code) (maxLocals := maxLocals) (ret := ret) (by decide) ?_ ?_
  · intro args s m h hn
    obtain ⟨meth, c, h1, h2, h3, h4, h5, h6, -, -⟩ := Cond.code_spec hn (atoms_spec (ws := Jvm.Cond.code x code maxLocals ret :: tables_1) h _ List.mem_cons_self)
    exact ⟨meth, c, h1, h2, h3, h4, h5, h6⟩
  · intro p e s m args below meth c s₁ B hml0 hP _
    obtain ⟨rfl, hx, hbd, hgv⟩ := hP
    obtain ⟨scr, harrAt, hlist, hof, hsmall⟩ := hx
    obtain ⟨hcb, hkn, -, -⟩ := State.arrayAt?_spec harrAt
    have hown : s.vm.findClass R_law = some m.cls := findClass_of_methodNamed B.named
    have hts0 : ∀ c ∈ (Jvm.Cond.code x code maxLocals ret :: tables_1), c.before #[Value.ref b] s = true := atoms_spec (ws := Jvm.Cond.code x code maxLocals ret :: tables_1) B.pre
    have hts : ∀ w ∈ lw_tbl, w.before #[Value.ref b] s = true := k2_hts_sels lw_privs (fun w hw => hts0 w (List.mem_cons_of_mem _ hw)) lw_privs_ok
    have hml : c.maxLocals = 8 := B.maxLocals_eq (hts0 _ List.mem_cons_self)
    have X₀ : Stand p l e room_1 s m #[Value.ref b] below meth c s₁ [] 0 0 := Stand.of_body B
    have hh0 : s₁.heap = s.heap := by rw [B.state]; rfl
    have hsz : scr.slots.size = xs.length := by rw [← Array.length_toList, hlist, List.length_map]
    have hval : ∀ j : Nat, j < xs.length → scr.slots[j]? = some (.int (xs.getD j 0)) := fun j hj => by
      rw [← Array.getElem?_toList, hlist]
      simp [hj]
    have hbl : b < s.heap.size := (Array.getElem?_eq_some_iff.mp hcb).1
    have hX : va_X b xs.length (fun j => xs.getD j 0) s s.heap := ⟨scr, hcb, hof, hkn, hsz, hval⟩
    have K : W p l e room_1 s m #[Value.ref b] below meth c s₁.heap [] 0 0 (lw_Z below #[Value.ref b] s) (entryFrame m ([Value.ref b] : List Value).toArray 8) := by
      rw [hh0]
      exact whole_start l hl9 hbd ⟨B.exec, B.bytes, B.returns, hml, hown, hts, hX, hbl, B.notSynchronized, hgv⟩
    obtain ⟨t, a1, o, b1, b2, b3⟩ := K s₁ rfl X₀
    exact ⟨t, o, a1, b1, b2, b3⟩
theorem lw_pre_spec {args : Array Value} {s : State} (h : (Jvm.Cond.and given_1 narrow_1).before args s = true) (hr : rest_1_c.before args s = true) : ∃ (b : Addr) (xs : List Int32), lw_P b xs args s := by
  have hs := flat_of_before _ h
  have hq := flat_of_before _ hr
  have hc : (Cond.count 1).before args s = true := hs _ (by decide +kernel)
  have harr : (Cond.arrayOf (.arg 0) .int).before args s = true := hs _ (by decide +kernel)
  have hle : (Cond.le (.length (.arg 0)) (.int 2050)).before args s = true := hs _ (by decide +kernel)
  have hlen : (Cond.isInt (.length (.arg 0))).before args s = true := hq _ (by decide +kernel)
  have hall : (Cond.all (.arg 0) (.isInt (.elem (.arg 0) (.index 0)))).before args s = true := hq _ (by decide +kernel)
  obtain ⟨b, xs, hb, hx⟩ := State.ints_of_pre rfl harr hlen hall
  have hsm : xs.length < 2 ^ 31 := hx.choose_spec.2.2.2
  have hev : (Term.length (.arg 0)).eval args s none [] s = some (.int xs.length.toInt32) := hx.length_eval hb
  have hv := Cond.le_ints hev (show (Term.int 2050).eval args s none [] s = some (.int 2050) from rfl)
  have hd : xs.length.toInt32 ≤ 2050 := by
    simpa [Cond.before, Cond.holds, hv] using hle
  have hN : xs.length ≤ 2050 := (Int32.ofNat_le_ofNat hsm (by decide)).mp (show Int32.ofNat xs.length ≤ Int32.ofNat 2050 from hd)
  exact ⟨b, xs, Cond.one_arg hc (show args[0]? = some (.ref b) from hb), hx, hN, h⟩
theorem lw_comes (l : Launch) (hl9 : l.stackTraces = false) : Comes l x (Jvm.Cond.code x code maxLocals ret :: tables_1) room_1 (fun tb e args s => Calls_1 tb e args s ∧ rest_1 tb e args s ∧ Pre_1 tb e args s)
    (fun _ _ args s o t => lw_Q args s o t) := by
  intro p e ha hc hk s m args below hf hfit hheap happ hpre
  obtain ⟨b, xs, hP⟩ := lw_pre_spec hpre.2.2 hpre.2.1
  obtain ⟨k, o, h1, h2, h3, hQ⟩ := lw_walk l hl9 b xs p e ha hc hk s m args below hf ((Spec.applies_iff_loose hf).mp happ).1 hP trivial
  exact ⟨k, o, h1, h2, h3, hQ⟩
theorem lw_frame {s t : State} {o : Outcome} {args : Array Value} (h : Framed s o t [] 601024 7293000) :
    Framed s o t (fieldLocs frame_1_writes args s ++ arrayLocs frame_1_arrays args s ++ staticLocs frame_1_statics s) 601024 7293000 := h
theorem lw_limb (L : Cond) (hL : ∀ (args : Array Value) (s t : State), L.after args s (.returned (some (.int 1))) t = true) :
    ArmFor flags0 classFile x code maxLocals ret World_1 tables_1 room_1 Calls_1 rest_1 Pre_1
      (fun tb e a s o t => postC L tb e a s o t ∧ Framed s o t (fieldLocs frame_1_writes a s ++ arrayLocs frame_1_arrays a s ++ staticLocs frame_1_statics s) 601024 7293000) := by
  intro l hfl _ _ p e ha hc hk s m args below hf hfit hheap happ hpre
  obtain ⟨k, o, h1, h2, h3, rfl, hF⟩ := lw_comes l (by unfold Launch.stackTraces; rw [hfl]; decide) p e ha hc hk s m args below hf hfit hheap happ hpre
  exact ⟨k, _, h1, h2, h3, hL args s _, lw_frame hF⟩
theorem i_vc : Claimed_1_1 ∧ Claimed_1_2 := ⟨lw_limb limb_1_1 (fun args s t => by simp [limb_1_1, Cond.after, Cond.holds, Cond.value]), lw_limb limb_1_2 (fun args s t => Cond.after_iff.mpr (by
  first | (rw [show limb_1_2 = Cond.eq .result (.int 1) from rfl, Cond.eq_ints (x := 1) (y := 1) rfl rfl]; simp; done) | (simp [limb_1_2, Cond.value, Term.eval]; done)))⟩
