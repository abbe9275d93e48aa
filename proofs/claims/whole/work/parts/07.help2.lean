theorem lt_lt {a b n : Nat} (h1 : a < b) (h2 : b < n + 1) : a < n := by omega
section JN
variable {p : Program} {l : Launch} {e : Env} {R : Room} {s : State} {m : MethodId} {args : Array Value} {below : List Frame} {meth : Method} {c : Code} {H : Heap} {locs : List Loc} {cells slots : Nat} {Q : State → Prop}
/-- two roads that come together with a number on the stack -/
theorem jn_i {pc2 : Nat} {ls : Array Slot} {rest : List Value} {v : Int32} {g : JFrame} (h : (∀ y : Int32, y = v → W p l e R s m args below meth c H locs cells slots Q (F0 m pc2 ls (.int y :: rest))) → W p l e R s m args below meth c H locs cells slots Q g)
    (k : W p l e R s m args below meth c H locs cells slots Q (F0 m pc2 ls (.int v :: rest))) : W p l e R s m args below meth c H locs cells slots Q g := h (fun _ e => e ▸ k)
end JN
/-- a count that stays within its array -/
def bd (x : Int32) (n : Nat) : Prop := 0 ≤ x.toInt ∧ x.toInt ≤ n
theorem bd_0 (n : Nat) : bd 0 n := by
  unfold bd
  rw [i_0]; omega
theorem bd_lt {x : Int32} {n : Nat} (hn : n < 2147483647) (c : ¬ nI n ≤ x) : x.toInt < n := by
  rw [i_le, nI_toInt (by omega)] at c
  omega
theorem bd_in {x : Int32} {n : Nat} (h : bd x n) (c : ¬ nI n ≤ x) (hn : n < 2147483647) : vp_in x n := vi_lt h.1 c (by omega)
theorem bd_st {x : Int32} {n : Nat} (h : bd x n) (c : ¬ nI n ≤ x) (hn : n < 2147483647) : bd (x + 1) n := by
  have := bd_lt hn c
  have e := inc_toInt c
  have := h.1
  unfold bd
  omega
theorem bd_inc {x : Int32} {n : Nat} (h : bd x n) (hn : n < 2147483647) : (x + 1).toInt = x.toInt + 1 := by
  have h1 := h.1
  have h2 := h.2
  rw [i_add (by rw [i_1]; omega) (by rw [i_1]; omega), i_1]
theorem bd_st1 {x : Int32} {n : Nat} (h : bd x n) (c : ¬ nI n ≤ x + 1) (hn : n < 2147483647) : bd (x + 1) n := by
  have := bd_lt hn c
  have e := bd_inc h hn
  have := h.1
  unfold bd
  omega
theorem bd_in1 {x : Int32} {n : Nat} (h : bd x n) (c : ¬ nI n ≤ x + 1) (hn : n < 2147483647) : vp_in (x + 1) n := bd_in (bd_st1 h c hn) c hn
theorem vi2 {i : Int32} {n : Nat} (h0 : ¬ i < 0) (h : ¬ nI n ≤ i) (hn : n < 2147483647) : vp_in i n := vi_of rfl (by omega) h0 h
theorem vi_and7 (x : Int32) : vp_in (x &&& 7) 8 := pk_andIn x (m := 7) 3 (by decide) (by decide)
theorem nar_b {v : Int32} (h : v = 0 ∨ v = 1) : narrow .boolean (.int v) = .int v := by
  rcases h with rfl | rfl <;> rfl
theorem nx_dec {i x : Int32} (h : ¬ (8 : Int32) ≤ i) (hx : x = 1 ∨ x = 2) : ((8 : Int32).toInt - (i + x).toInt).toNat < ((8 : Int32).toInt - i.toInt).toNat := by
  rcases hx with rfl | rfl
  · exact cu h
  · exact cu2 h
theorem nx_st {i x : Int32} (h0 : 0 ≤ i.toInt) (h : ¬ (8 : Int32) ≤ i) (hx : x = 1 ∨ x = 2) : 0 ≤ (i + x).toInt := by
  rcases hx with rfl | rfl
  · exact cz h0 h
  · exact cz2 h0 h
