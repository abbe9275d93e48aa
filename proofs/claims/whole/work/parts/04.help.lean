/-! own helpers: numbers, what a reading method owes and takes, the class's two tables -/
abbrev mx (x y : Int32) : Int32 := if x < y then y else x
abbrev mn (x y : Int32) : Int32 := if y < x then y else x
def FU : Nat := 8589934592
theorem i_bd (x : Int32) : -2147483648 ≤ x.toInt ∧ x.toInt < 2147483648 := by
  have h1 := Int32.le_toInt x
  have h2 := Int32.toInt_lt x
  omega
theorem fu_lt (b i : Int32) : (b.toInt - i.toInt).toNat < FU := by
  have h1 := i_bd b
  have h2 := i_bd i
  unfold FU
  omega
theorem i_lt {x y : Int32} : x < y ↔ x.toInt < y.toInt := Int32.lt_iff_toInt_lt
theorem i_le {x y : Int32} : x ≤ y ↔ x.toInt ≤ y.toInt := Int32.le_iff_toInt_le
theorem i_add {x y : Int32} (h1 : -2147483648 ≤ x.toInt + y.toInt) (h2 : x.toInt + y.toInt < 2147483648) : (x + y).toInt = x.toInt + y.toInt := by
  rw [Int32.toInt_add]
  exact Int.bmod_eq_of_le (by omega) (by omega)
theorem i_sub {x y : Int32} (h1 : -2147483648 ≤ x.toInt - y.toInt) (h2 : x.toInt - y.toInt < 2147483648) : (x - y).toInt = x.toInt - y.toInt := by
  rw [Int32.toInt_sub]
  exact Int.bmod_eq_of_le (by omega) (by omega)
theorem i_mul {x y : Int32} (h1 : -2147483648 ≤ x.toInt * y.toInt) (h2 : x.toInt * y.toInt < 2147483648) : (x * y).toInt = x.toInt * y.toInt := by
  rw [Int32.toInt_mul]
  exact Int.bmod_eq_of_le (by omega) (by omega)
theorem i_1 : (1 : Int32).toInt = 1 := by decide
theorem i_2 : (2 : Int32).toInt = 2 := by decide
theorem i_8 : (8 : Int32).toInt = 8 := by decide
theorem i_0 : (0 : Int32).toInt = 0 := by decide
theorem inc_toInt {i b : Int32} (h : ¬ b ≤ i) : (i + 1).toInt = i.toInt + 1 := by
  have hb := i_bd b
  have hi := i_bd i
  have h' : i.toInt < b.toInt := by rw [i_le] at h; omega
  rw [i_add (by rw [i_1]; omega) (by rw [i_1]; omega), i_1]
theorem cu {i b : Int32} (h : ¬ b ≤ i) : (b.toInt - (i + 1).toInt).toNat < (b.toInt - i.toInt).toNat := by
  have h' : i.toInt < b.toInt := by rw [i_le] at h; omega
  rw [inc_toInt h]; omega
theorem cz {i b : Int32} (h0 : 0 ≤ i.toInt) (h : ¬ b ≤ i) : 0 ≤ (i + 1).toInt := by
  rw [inc_toInt h]; omega
/-- a loop's end that is a 'greater' -/
theorem cu' {i b : Int32} (h : ¬ b < i) (hb : b.toInt < 2147483647) : (b.toInt - (i + 1).toInt).toNat < (b.toInt + 1 - i.toInt).toNat ∧ (i + 1).toInt = i.toInt + 1 := by
  have hi := i_bd i
  have h' : i.toInt ≤ b.toInt := by rw [i_lt] at h; omega
  have e : (i + 1).toInt = i.toInt + 1 := by rw [i_add (by rw [i_1]; omega) (by rw [i_1]; omega), i_1]
  constructor
  · rw [e]; omega
  · exact e
theorem inc2_toInt {i : Int32} (h : ¬ (8 : Int32) ≤ i) : (i + 2).toInt = i.toInt + 2 := by
  have hi := i_bd i
  have h' : i.toInt < 8 := by rw [i_le, i_8] at h; omega
  rw [i_add (by rw [i_2]; omega) (by rw [i_2]; omega), i_2]
theorem cu2 {i : Int32} (h : ¬ (8 : Int32) ≤ i) : ((8 : Int32).toInt - (i + 2).toInt).toNat < ((8 : Int32).toInt - i.toInt).toNat := by
  have h' : i.toInt < 8 := by rw [i_le, i_8] at h; omega
  rw [inc2_toInt h, i_8]; omega
theorem cz2 {i : Int32} (h0 : 0 ≤ i.toInt) (h : ¬ (8 : Int32) ≤ i) : 0 ≤ (i + 2).toInt := by
  rw [inc2_toInt h]; omega
theorem vi_of {h y : Int32} {n : Nat} (e : h = nI n) (hn : n < 2147483648) (h1 : ¬ y < 0) (h2 : ¬ h ≤ y) : vp_in y n := by
  rw [vp_in_iff]
  rw [i_lt, i_0] at h1
  rw [i_le, e, nI_toInt hn] at h2
  omega
theorem vi_lt {i : Int32} {n : Nat} (h0 : 0 ≤ i.toInt) (h : ¬ nI n ≤ i) (hn : n < 2147483648) : vp_in i n := by
  rw [vp_in_iff]
  rw [i_le, nI_toInt hn] at h
  omega
theorem vi_8 {i : Int32} (h0 : 0 ≤ i.toInt) (h : ¬ (8 : Int32) ≤ i) : vp_in i 8 := vi_lt (n := 8) h0 h (by decide)
/-- a Samples' width, height and number of rows -/
def tsok (w h : Int32) (n : Nat) : Prop := h = nI n ∧ 1 ≤ n ∧ n ≤ 24 ∧ ∃ k : Nat, w = nI k ∧ 1 ≤ k ∧ k ≤ 24
def ts_rx (j : Nat) : Int32 := match j with | 0 => 0 | 1 => 1 | 2 => 1 | 3 => 1 | 4 => 0 | 5 => -1 | 6 => -1 | _ => -1
def ts_ry (j : Nat) : Int32 := match j with | 0 => -1 | 1 => -1 | 2 => 0 | 3 => 1 | 4 => 1 | 5 => 1 | 6 => 0 | _ => -1
/-- the class's two tables; A: what may be written -/
def ts_Z (tX tY : Nat) (A : Nat → Prop) (U : State) (H : Heap) : Prop :=
  va_Z "ThinStrokes" "ROUND_X" "[I" (.ref tX) A U H ∧ va_T .int tX 8 (fun j => .int (ts_rx j)) A U H ∧ va_Z "ThinStrokes" "ROUND_Y" "[I" (.ref tY) A U H ∧ va_T .int tY 8 (fun j => .int (ts_ry j)) A U H
theorem ts_Z.moved {tX tY : Nat} {A : Nat → Prop} {u U : State} {H : Heap} (hvm : u.vm.Alike U.vm) (h : ts_Z tX tY A u H) : ts_Z tX tY A U H := ⟨h.1.moved hvm, h.2.1.moved hvm, h.2.2.1.moved hvm, h.2.2.2.moved hvm⟩
theorem ts_Z.kept {tX tY : Nat} {A : Nat → Prop} {U : State} {H H1 : Heap} (h : ts_Z tX tY A U H) (hq : ∀ a : Nat, a < H.size → ¬ A a → H1[a]? = H[a]?) : ts_Z tX tY A U H1 := ⟨h.1.kept hq, h.2.1.kept hq, h.2.2.1.kept hq, h.2.2.2.kept hq⟩
theorem ts_Z.narrow {tX tY : Nat} {A B : Nat → Prop} {U : State} {H : Heap} (h : ts_Z tX tY A U H) (hAB : ∀ q, B q → A q) : ts_Z tX tY B U H := ⟨h.1.narrow hAB, h.2.1.narrow hAB, h.2.2.1.narrow hAB, h.2.2.2.narrow hAB⟩
/-- the start of a method that only reads -/
def ro_P (D : va_G) (tX tY : Nat) (tys : List (ClassId × FieldType)) (ws : va_W) (av : List Value) : Array Value → State → Prop :=
  va_Pc av (fun U => va_P D vwCl ws U.heap ∧ va_K D vwCl tys U ∧ ts_Z tX tY (fun _ => False) U U.heap ∧ ts_N U)
theorem ro_blind {D : va_G} {tX tY : Nat} {tys : List (ClassId × FieldType)} {ws : va_W} {av : List Value} : FrameBlind (ro_P D tX tY tys ws av) := fun a U g mk q =>
  ⟨q.1, q.2.1, va_K.moved (u := U) (U := U.calling g mk a) (Vm.Alike.refl U.vm) q.2.2.1, ts_Z.moved (u := U) (U := U.calling g mk a) (Vm.Alike.refl U.vm) q.2.2.2.1, q.2.2.2.2.same rfl⟩
theorem ro_at {D : va_G} {tX tY : Nat} {A : Nat → Prop} {tys tys' : List (ClassId × FieldType)} {ws ws' : va_W} {s : State} {H : Heap} {locs : List Loc} {av : List Value} (hP : va_P D vwCl ws H) (hK : va_K D vwCl tys s) (hT : ts_Z tX tY A s s.heap) (hN : ts_N s) (hS : va_S A s.heap H locs)
    (is js : List Nat) (h1 : is.filterMap (fun i => ws[i]?) = ws') (h2 : js.filterMap (fun i => tys[i]?) = tys') : ∀ U : State, U.heap = H → s.WarmedH U.vm → ro_P D tX tY tys' ws' av av.toArray U := by
  intro U hU hW
  refine ⟨rfl, by rw [hU]; exact hP.sub is h1, va_K.moved hW.alike (hK.sub js h2), ?_, hN.warm hW⟩
  rw [hU]
  exact ((hT.kept hS.2.1).narrow (fun _ h => h.elim)).moved hW.alike
/-- the start of a method that writes in its world -/
def mu_P (D : va_G) (tX tY : Nat) (tys : List (ClassId × FieldType)) (ws : va_W) (sz : Nat) (av : List Value) : Array Value → State → Prop :=
  va_Pc av (fun U => U.heap.size = sz ∧ va_P D vwCl ws U.heap ∧ va_K D vwCl tys U ∧ va_D (fun _ => True) ws ∧ ts_Z tX tY (va_A ws sz) U U.heap ∧ ts_N U)
theorem mu_blind {D : va_G} {tX tY : Nat} {tys : List (ClassId × FieldType)} {ws : va_W} {sz : Nat} {av : List Value} : FrameBlind (mu_P D tX tY tys ws sz av) := fun a U g mk q =>
  ⟨q.1, q.2.1, q.2.2.1, va_K.moved (u := U) (U := U.calling g mk a) (Vm.Alike.refl U.vm) q.2.2.2.1, q.2.2.2.2.1, ts_Z.moved (u := U) (U := U.calling g mk a) (Vm.Alike.refl U.vm) q.2.2.2.2.2.1, q.2.2.2.2.2.2.same rfl⟩
theorem mu_at {D : va_G} {tX tY : Nat} {A : Nat → Prop} {tys : List (ClassId × FieldType)} {ws : va_W} {s : State} {H : Heap} {locs : List Loc} {av : List Value} (hP : va_P D vwCl ws H) (hK : va_K D vwCl tys s) (hD : va_D A ws) (hT : ts_Z tX tY A s s.heap) (hN : ts_N s) (hS : va_S A s.heap H locs) (hF : ∀ q, va_A ws H.size q → A q) : ∀ U : State, U.heap = H → s.WarmedH U.vm → mu_P D tX tY tys ws H.size av av.toArray U := by
  intro U hU hW
  refine ⟨rfl, by rw [hU], by rw [hU]; exact hP, va_K.moved hW.alike hK, hD.weaken (fun _ _ _ _ => trivial), ?_, hN.warm hW⟩
  rw [hU]
  exact ((hT.kept hS.2.1).narrow hF).moved hW.alike
section RO
variable {p : Program} {l : Launch} {e : Env} {R : Room} {s : State} {m : MethodId} {args : Array Value} {below : List Frame} {meth : Method} {c : Code} {H : Heap} {locs : List Loc} {cells slots : Nat} {Q : State → Prop}
theorem ro_go {pc : Nat} {ls : Array Slot} {st0 rest : List Value} {r : Value} {a : Array Value} (hr : va_Run p l e R s m args below meth c H locs cells slots 0 0 (F0 m pc ls st0) rest (k2_QcV r a) (fun _ => False))
    (kk : W p l e R s m args below meth c H locs cells slots Q (F0 m (pc + 3) ls (r :: rest))) : W p l e R s m args below meth c H locs cells slots Q (F0 m pc ls st0) := W.callV hr.run kk
end RO
