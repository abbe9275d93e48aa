/-- a reading method without an answer -/
def ro_Qv : Array Value → State → Outcome → State → Prop := fun _ st o t => o = .returned none ∧ t.heap = st.heap
section ROV
variable {p : Program} {l : Launch} {e : Env} {R : Room} {s : State} {m : MethodId} {args : Array Value} {below : List Frame} {meth : Method} {c : Code} {H : Heap} {locs : List Loc} {cells slots : Nat} {Q : State → Prop}
theorem ro_gov {pc : Nat} {ls : Array Slot} {st0 rest : List Value} {a : Array Value} (hr : va_Run p l e R s m args below meth c H locs cells slots 0 0 (F0 m pc ls st0) rest (ro_Qv a) (fun _ => False))
    (kk : W p l e R s m args below meth c H locs cells slots Q (F0 m (pc + 3) ls rest)) : W p l e R s m args below meth c H locs cells slots Q (F0 m pc ls st0) := by
  intro T hT X
  obtain ⟨v, st₀, t, T', L, h0, X', hL, e1, -, ⟨hv, hh⟩, st⟩ := hr T hT X
  cases hv
  obtain ⟨t2, a1, b1⟩ := kk T' (by rw [e1, hh, h0]) (Stand.forget X' (fun q h => (hL q h).elim))
  exact ⟨t2, st t2 a1, b1⟩
end ROV
theorem sw_ne {x : Int32} {n : Nat} (hn : n < 2147483648) (h : ¬ x = nI n) : ¬ x.toInt = n := fun e => h (Int32.toInt_inj.mp (by rw [nI_toInt hn]; exact e))
theorem sw_out0_2 {x : Int32} (h0 : ¬ x = 0) (h1 : ¬ x = 1) (h2 : ¬ x = 2) : x.toInt < 0 ∨ 2 < x.toInt := by
  have := sw_ne (n := 0) (by decide) h0
  have := sw_ne (n := 1) (by decide) h1
  have := sw_ne (n := 2) (by decide) h2
  omega
theorem sw_out0_4 {x : Int32} (h0 : ¬ x = 0) (h1 : ¬ x = 1) (h2 : ¬ x = 2) (h3 : ¬ x = 3) (h4 : ¬ x = 4) : x.toInt < 0 ∨ 4 < x.toInt := by
  have := sw_ne (n := 0) (by decide) h0
  have := sw_ne (n := 1) (by decide) h1
  have := sw_ne (n := 2) (by decide) h2
  have := sw_ne (n := 3) (by decide) h3
  have := sw_ne (n := 4) (by decide) h4
  omega
theorem isBlack_01 (sw sh : Int32) (sf : Nat → Int32) (px py : Int32) : f_S_isBlack sw sh sf px py = 0 ∨ f_S_isBlack sw sh sf px py = 1 := by
  rw [f_S_isBlack]
  by_cases h : f_S_has sw sh px py = 0
  · rw [if_pos h]; exact Or.inl rfl
  rw [if_neg h]
  by_cases h2 : (sf py.toNatClampNeg >>> (px &&& 31)) &&& 1 = 0
  · rw [if_pos h2]; exact Or.inl rfl
  · rw [if_neg h2]; exact Or.inr rfl
