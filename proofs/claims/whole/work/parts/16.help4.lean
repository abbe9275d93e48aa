/-- a number kept in a place for booleans -/
abbrev nb (x : Int32) : Int32 := vp_nar .boolean x
/-- a number that is a boolean -/
def isb (v : Int32) : Prop := narrow .boolean (.int v) = .int v
theorem isb_of {v : Int32} (h : v = 0 ∨ v = 1) : isb v := nar_b h
theorem sw_out0_14 {x : Int32} (h0 : ¬ x = 0) (h1 : ¬ x = 1) (h2 : ¬ x = 2) (h3 : ¬ x = 3) (h4 : ¬ x = 4) (h5 : ¬ x = 5) (h6 : ¬ x = 6) (h7 : ¬ x = 7) (h8 : ¬ x = 8) (h9 : ¬ x = 9) (h10 : ¬ x = 10) (h11 : ¬ x = 11) (h12 : ¬ x = 12) (h13 : ¬ x = 13) (h14 : ¬ x = 14) : x.toInt < 0 ∨ 14 < x.toInt := by
  have := sw_ne (n := 0) (by decide) h0
  have := sw_ne (n := 1) (by decide) h1
  have := sw_ne (n := 2) (by decide) h2
  have := sw_ne (n := 3) (by decide) h3
  have := sw_ne (n := 4) (by decide) h4
  have := sw_ne (n := 5) (by decide) h5
  have := sw_ne (n := 6) (by decide) h6
  have := sw_ne (n := 7) (by decide) h7
  have := sw_ne (n := 8) (by decide) h8
  have := sw_ne (n := 9) (by decide) h9
  have := sw_ne (n := 10) (by decide) h10
  have := sw_ne (n := 11) (by decide) h11
  have := sw_ne (n := 12) (by decide) h12
  have := sw_ne (n := 13) (by decide) h13
  have := sw_ne (n := 14) (by decide) h14
  omega
