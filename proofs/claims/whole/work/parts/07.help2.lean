theorem lt_lt {a b n : Nat} (h1 : a < b) (h2 : b < n + 1) : a < n := by omega
section JN
variable {p : Program} {l : Launch} {e : Env} {R : Room} {s : State} {m : MethodId} {args : Array Value} {below : List Frame} {meth : Method} {c : Code} {H : Heap} {locs : List Loc} {cells slots : Nat} {Q : State → Prop}
/-- two roads that come together with a number on the stack -/
theorem jn_i {pc2 : Nat} {ls : Array Slot} {rest : List Value} {v : Int32} {g : JFrame} (h : (∀ y : Int32, y = v → W p l e R s m args below meth c H locs cells slots Q (F0 m pc2 ls (.int y :: rest))) → W p l e R s m args below meth c H locs cells slots Q g)
    (k : W p l e R s m args below meth c H locs cells slots Q (F0 m pc2 ls (.int v :: rest))) : W p l e R s m args below meth c H locs cells slots Q g := h (fun _ e => e ▸ k)
end JN
