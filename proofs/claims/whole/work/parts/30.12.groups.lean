/-! own: parts and holes, on both sides -/
theorem tru (P : Nat → Prop) : ∃ p : Nat → Bool, ∀ q, p q = true ↔ P q := ⟨fun q => @decide (P q) (Classical.propDecidable _), fun q => by simp⟩
/-- marked before i: what is reached from below i -/
def MK (kw kh : Nat) (bl : Int32) (mlf : Nat → Int32) (i : Nat) (e : Nat → Int32) : Prop := ∀ r, e r ≠ 0 ↔ ∃ q, q < i ∧ RC (fun q => inn kw kh q ∧ mlf q = bl) (bl = 0) (kw + 2) q r
section
variable {kw kh : Nat} {bl : Int32} {mlf e e' : Nat → Int32} {i : Nat}
theorem MK.skip (h : MK kw kh bl mlf i e) (hs : ¬ (inn kw kh i ∧ mlf i = bl) ∨ e i ≠ 0) : MK kw kh bl mlf (i + 1) e := fun r => by
  rw [h r]
  constructor
  · rintro ⟨q, h1, h2⟩
    exact ⟨q, by omega, h2⟩
  · rintro ⟨q, h1, h2⟩
    by_cases hq : q = i
    · subst hq
      rcases hs with hs | hs
      · exact absurd h2.1 hs
      · obtain ⟨q', g1, g2⟩ := (h q).mp hs
        exact ⟨q', g1, g2.trans h2⟩
    · exact ⟨q, by omega, h2⟩
theorem MK.new (h : MK kw kh bl mlf i e) (hn : ∀ r, e' r ≠ 0 ↔ (e r ≠ 0 ∨ RC (fun q => inn kw kh q ∧ mlf q = bl) (bl = 0) (kw + 2) i r)) : MK kw kh bl mlf (i + 1) e' := fun r => by
  rw [hn r, h r]
  constructor
  · rintro (⟨q, h1, h2⟩ | h2)
    · exact ⟨q, by omega, h2⟩
    · exact ⟨i, by omega, h2⟩
  · rintro ⟨q, h1, h2⟩
    by_cases hq : q = i
    · subst hq; exact Or.inr h2
    · exact Or.inl ⟨q, by omega, h2⟩
theorem MK.cl (h : MK kw kh bl mlf i e) (h0 : e i = 0) : ∀ r, RC (fun q => inn kw kh q ∧ mlf q = bl) (bl = 0) (kw + 2) i r → e r = 0 := fun r hr => Classical.byContradiction fun c => by
  obtain ⟨q, g1, g2⟩ := (h r).mp c
  exact (h i).mpr ⟨q, g1, g2.trans hr.symm⟩ h0
end
theorem MK0 {kw kh : Nat} {bl : Int32} {mlf : Nat → Int32} : MK kw kh bl mlf 0 (fun _ => 0) := fun r => ⟨fun h => absurd rfl h, fun ⟨q, h, _⟩ => by omega⟩
/-- how many groups of black ones the class finds -/
theorem cparts {kw kh : Nat} (hw : kw ≤ 24) (hh : kh ≤ 24) {sf mlf : Nat → Int32} (hS : SM kw kh sf mlf) (ef gf : Nat → Int32) (gq : Int32) {p : Nat → Bool} (hp : ∀ q, p q = true ↔ ((inn kw kh q ∧ mlf q = 1) ∧ ∀ q', q' < q → ¬ RC (fun q => inn kw kh q ∧ mlf q = 1) ((1 : Int32) = 0) (kw + 2) q' q)) :
    ∃ z g g', f_G_blackGroups (nI kw) (nI kh) kh ef (kw * kh) gf gq (nI kw) (nI kh) sf = (nI (cntb p ((kw + 2) * (kh + 2))), z, g, g') := by
  obtain ⟨s', e, hJ⟩ := nest_inv (S := Int32 × Int32 × (Nat → Int32) × (Nat → Int32)) (fun i s => s.1 = nI (cntb p i) ∧ ∃ e, SM kw kh s.2.2.1 e ∧ MK kw kh 1 mlf i e) hw hh
    (inner := fun y => f_G_blackGroups_L22 (nI kw) (nI kh) (kw * kh) (nI kw) (nI kh) sf y) (outer := f_G_blackGroups_L11 (nI kw) (nI kh) (kw * kh) (nI kw) (nI kh) sf)
    (fun y s n hy => by
      obtain ⟨s1, s2, s3, s4⟩ := s
      simp only [f_G_blackGroups_L22]
      rw [if_pos (nI_le (Nat.le_refl _) (by omega))])
    (fun x y s hx hy hs => by
      obtain ⟨s1, s2, s3, s4⟩ := s
      obtain ⟨c1, e, c2, c3⟩ := hs
      try dsimp only at c1 c2
      have hin : inn kw kh (lin kw x y) := ⟨x, y, hx, hy, rfl⟩
      have eb := hS.blk hw hh hx hy
      have ee := c2.blk hw hh hx hy
      by_cases h0 : mlf (lin kw x y) = 0
      · refine ⟨(s1, s2, s3, s4), ⟨?_, e, c2, c3.skip (Or.inl fun c => by rw [h0] at c; exact absurd c.2 (by decide))⟩, fun n => ?_⟩
        · have : p (lin kw x y) = false := by
            rw [Bool.eq_false_iff]; intro c
            have := ((hp _).mp c).1.2
            rw [h0] at this; exact absurd this (by decide)
          rw [cntb, this]; exact c1
        · simp only [f_G_blackGroups_L22]
          rw [if_neg (nI_ge hx (by omega)), eb, if_pos h0, nI_1]
      · have h1 : mlf (lin kw x y) = 1 := (hS.b01 _).resolve_left h0
        by_cases hm : e (lin kw x y) = 0
        · obtain ⟨e', v6, y0, ef', gf', a1, a2, a3, a4⟩ := bfs_all hw hh (Or.inr rfl) (gf := s4) hS c2 hx hy h1 hm (c3.cl hm)
          refine ⟨(s1 + 1, y0, ef', gf'), ⟨?_, e', a2, c3.new a3⟩, fun n => ?_⟩
          · have : p (lin kw x y) = true := (hp _).mpr ⟨⟨hin, h1⟩, fun q' g1 g2 => (c3 _).mpr ⟨q', g1, g2⟩ hm⟩
            rw [cntb, this, c1]; exact nI_1 _
          · simp only [f_G_blackGroups_L22]
            rw [if_neg (nI_ge hx (by omega)), eb, if_neg h0, ee, if_pos hm, a1, f_G_blackGroups_q2, nI_1]
        · refine ⟨(s1, s2, s3, s4), ⟨?_, e, c2, c3.skip (Or.inr hm)⟩, fun n => ?_⟩
          · have : p (lin kw x y) = false := by
              rw [Bool.eq_false_iff]; intro c
              obtain ⟨q', g1, g2⟩ := (c3 _).mp hm
              exact ((hp _).mp c).2 q' g1 g2
            rw [cntb, this]; exact c1
          · simp only [f_G_blackGroups_L22]
            rw [if_neg (nI_ge hx (by omega)), eb, if_neg h0, ee, if_neg hm, nI_1])
    (fun s n => by
      obtain ⟨s1, s2, s3, s4⟩ := s
      rw [f_G_blackGroups_L11, if_pos (nI_le (Nat.le_refl _) (by omega))])
    (fun y s s' n hy hi => by
      obtain ⟨s1, s2, s3, s4⟩ := s
      obtain ⟨t1, t2, t3, t4⟩ := s'
      rw [f_G_blackGroups_L11, if_neg (nI_ge hy (by omega)), hi, f_G_blackGroups_k22, nI_1])
    (fun q s hq hs => by
      obtain ⟨c1, e, c2, c3⟩ := hs
      refine ⟨?_, e, c2, c3.skip (Or.inl fun c => hq c.1)⟩
      have : p q = false := by
        rw [Bool.eq_false_iff]; intro c
        exact hq ((hp _).mp c).1.1
      rw [cntb, this]; exact c1)
    (s := (0, gq, f_S_whiten kh ef, gf)) ⟨rfl, fun _ => 0, SM.zero (white_eq hh ef) (fun _ => rfl), MK0⟩
  obtain ⟨s1, s2, s3, s4⟩ := s'
  refine ⟨s2, s3, s4, ?_⟩
  rw [f_G_blackGroups, f_G_blackGroups_q1, e, f_G_blackGroups_k11]
  rw [show s1 = _ from hJ.1]
/-- how many closed groups of white ones the class finds -/
theorem choles {kw kh : Nat} (hw : kw ≤ 24) (hh : kh ≤ 24) {sf mlf : Nat → Int32} (hS : SM kw kh sf mlf) (ef gf : Nat → Int32) (gq : Int32) {p : Nat → Bool} (hp : ∀ q, p q = true ↔ ((inn kw kh q ∧ mlf q = 0) ∧ (∀ q', q' < q → ¬ RC (fun q => inn kw kh q ∧ mlf q = 0) ((0 : Int32) = 0) (kw + 2) q' q) ∧ ¬ ∃ a s, RC (fun q => inn kw kh q ∧ mlf q = 0) ((0 : Int32) = 0) (kw + 2) q a ∧ s < (kw + 2) * (kh + 2) ∧ AD ((0 : Int32) = 0) (kw + 2) a s ∧ ¬ inn kw kh s)) :
    ∃ z g g', f_G_closedWhiteGroups (nI kw) (nI kh) kh ef (kw * kh) gf gq (nI kw) (nI kh) sf = (nI (cntb p ((kw + 2) * (kh + 2))), z, g, g') := by
  obtain ⟨s', e, hJ⟩ := nest_inv (S := Int32 × Int32 × (Nat → Int32) × (Nat → Int32)) (fun i s => s.1 = nI (cntb p i) ∧ ∃ e, SM kw kh s.2.2.1 e ∧ MK kw kh 0 mlf i e) hw hh
    (inner := fun y => f_G_closedWhiteGroups_L22 (nI kw) (nI kh) (kw * kh) (nI kw) (nI kh) sf y) (outer := f_G_closedWhiteGroups_L11 (nI kw) (nI kh) (kw * kh) (nI kw) (nI kh) sf)
    (fun y s n hy => by
      obtain ⟨s1, s2, s3, s4⟩ := s
      simp only [f_G_closedWhiteGroups_L22]
      rw [if_pos (nI_le (Nat.le_refl _) (by omega))])
    (fun x y s hx hy hs => by
      obtain ⟨s1, s2, s3, s4⟩ := s
      obtain ⟨c1, e, c2, c3⟩ := hs
      try dsimp only at c1 c2
      have hin : inn kw kh (lin kw x y) := ⟨x, y, hx, hy, rfl⟩
      have eb := hS.blk hw hh hx hy
      have ee := c2.blk hw hh hx hy
      by_cases h0 : mlf (lin kw x y) = 0
      · by_cases hm : e (lin kw x y) = 0
        · obtain ⟨e', v6, y0, ef', gf', a1, a2, a3, a4⟩ := bfs_all hw hh (Or.inl rfl) (gf := s4) hS c2 hx hy h0 hm (c3.cl hm)
          by_cases hv : v6 = 0
          · refine ⟨(s1 + 1, y0, ef', gf'), ⟨?_, e', a2, c3.new a3⟩, fun n => ?_⟩
            · have : p (lin kw x y) = true := (hp _).mpr ⟨⟨hin, h0⟩, fun q' g1 g2 => (c3 _).mpr ⟨q', g1, g2⟩ hm, fun c => a4.mpr c hv⟩
              rw [cntb, this, c1]; exact nI_1 _
            · simp only [f_G_closedWhiteGroups_L22]
              rw [if_neg (nI_ge hx (by omega)), eb, if_pos h0, ee, if_pos hm, a1, f_G_closedWhiteGroups_q2, if_pos hv, nI_1]
          · refine ⟨(s1, y0, ef', gf'), ⟨?_, e', a2, c3.new a3⟩, fun n => ?_⟩
            · have : p (lin kw x y) = false := by
                rw [Bool.eq_false_iff]; intro c
                exact ((hp _).mp c).2.2 (a4.mp hv)
              rw [cntb, this]; exact c1
            · simp only [f_G_closedWhiteGroups_L22]
              rw [if_neg (nI_ge hx (by omega)), eb, if_pos h0, ee, if_pos hm, a1, f_G_closedWhiteGroups_q2, if_neg hv, nI_1]
        · refine ⟨(s1, s2, s3, s4), ⟨?_, e, c2, c3.skip (Or.inr hm)⟩, fun n => ?_⟩
          · have : p (lin kw x y) = false := by
              rw [Bool.eq_false_iff]; intro c
              obtain ⟨q', g1, g2⟩ := (c3 _).mp hm
              exact ((hp _).mp c).2.1 q' g1 g2
            rw [cntb, this]; exact c1
          · simp only [f_G_closedWhiteGroups_L22]
            rw [if_neg (nI_ge hx (by omega)), eb, if_pos h0, ee, if_neg hm, nI_1]
      · refine ⟨(s1, s2, s3, s4), ⟨?_, e, c2, c3.skip (Or.inl fun c => h0 c.2)⟩, fun n => ?_⟩
        · have : p (lin kw x y) = false := by
            rw [Bool.eq_false_iff]; intro c
            exact h0 ((hp _).mp c).1.2
          rw [cntb, this]; exact c1
        · simp only [f_G_closedWhiteGroups_L22]
          rw [if_neg (nI_ge hx (by omega)), eb, if_neg h0, nI_1])
    (fun s n => by
      obtain ⟨s1, s2, s3, s4⟩ := s
      rw [f_G_closedWhiteGroups_L11, if_pos (nI_le (Nat.le_refl _) (by omega))])
    (fun y s s' n hy hi => by
      obtain ⟨s1, s2, s3, s4⟩ := s
      obtain ⟨t1, t2, t3, t4⟩ := s'
      rw [f_G_closedWhiteGroups_L11, if_neg (nI_ge hy (by omega)), hi, f_G_closedWhiteGroups_k22, nI_1])
    (fun q s hq hs => by
      obtain ⟨c1, e, c2, c3⟩ := hs
      refine ⟨?_, e, c2, c3.skip (Or.inl fun c => hq c.1)⟩
      have : p q = false := by
        rw [Bool.eq_false_iff]; intro c
        exact hq ((hp _).mp c).1.1
      rw [cntb, this]; exact c1)
    (s := (0, gq, f_S_whiten kh ef, gf)) ⟨rfl, fun _ => 0, SM.zero (white_eq hh ef) (fun _ => rfl), MK0⟩
  obtain ⟨s1, s2, s3, s4⟩ := s'
  refine ⟨s2, s3, s4, ?_⟩
  rw [f_G_closedWhiteGroups, f_G_closedWhiteGroups_q1, e, f_G_closedWhiteGroups_k11]
  rw [show s1 = _ from hJ.1]
theorem parts_both {kw kh : Nat} (hw : 1 ≤ kw ∧ kw ≤ 24) (hh : 1 ≤ kh ∧ kh ≤ 24) {sf mlf : Nat → Int32} (hS : SM kw kh sf mlf) (ef gf mbf : Nat → Int32) (gq : Int32) :
    ∃ b z g g' g'', f_X_parts (nI kw) (nI kh) sf (nI kw) (nI kh) kh ef (kw * kh) gf gq = (b, z, g, g') ∧ f_M_parts (nI kh) (nI (kw + 2)) mlf mbf = (b, 0, g'') ∧ z_M_parts (nI kh) (nI (kw + 2)) mlf mbf := by
  obtain ⟨p, g'', e1, hp, hz⟩ := mgroups hw hh 1 mlf mbf rfl
  obtain ⟨p', hp'⟩ := tru (fun q => (inn kw kh q ∧ mlf q = 1) ∧ ∀ q', q' < q → ¬ RC (fun q => inn kw kh q ∧ mlf q = 1) ((1 : Int32) = 0) (kw + 2) q' q)
  obtain ⟨z, g, g', e2⟩ := cparts hw.2 hh.2 hS ef gf gq hp'
  have eC : (fun q => q < (kw + 2) * (kh + 2) ∧ mlf q = 1) = (fun q => inn kw kh q ∧ mlf q = 1) := by
    funext q
    apply propext
    constructor
    · rintro ⟨-, h⟩
      exact ⟨hS.mf.inn (by rw [h]; decide), h⟩
    · rintro ⟨h1, h2⟩
      exact ⟨inn_A h1, h2⟩
  have ec : cntb p' ((kw + 2) * (kh + 2)) = cntb p ((kw + 2) * (kh + 2)) := cntb_congr (fun q hq => by
    rw [Bool.eq_iff_iff, hp' q, hp q hq, eC]
    constructor
    · rintro ⟨⟨h1, h2⟩, h3⟩
      exact ⟨h2, fun r hr => Classical.byContradiction fun c => h3 r (by omega) hr.symm⟩
    · rintro ⟨h1, h2⟩
      exact ⟨⟨hS.mf.inn (by rw [h1]; decide), h1⟩, fun q' g1 g2 => by have := h2 q' g2.symm; omega⟩)
  refine ⟨nI (cntb p' ((kw + 2) * (kh + 2))), z, g, g', g'', ?_, ?_, ?_⟩
  · rw [f_X_parts, e2, f_X_parts_q1]
  · rw [f_M_parts, e1, f_M_parts_q1, ec]
  · rw [z_M_parts, e1]; exact ⟨hz, trivial⟩
/-- the border hangs together -/
theorem border {kw kh : Nat} {mlf : Nat → Int32} (hM : MF kw kh mlf) {q : Nat} (hq : q < (kw + 2) * (kh + 2)) (hn : ¬ inn kw kh q) : RC (fun q => q < (kw + 2) * (kh + 2) ∧ mlf q = 0) ((0 : Int32) = 0) (kw + 2) 0 q := by
  have lt : ∀ {X Y : Nat}, X < kw + 2 → Y < kh + 2 → Y * (kw + 2) + X < (kw + 2) * (kh + 2) := by
    intro X Y hX hY
    have h1 : (Y + 1) * (kw + 2) ≤ (kh + 2) * (kw + 2) := Nat.mul_le_mul_right _ (by omega)
    rw [Nat.add_mul] at h1
    rw [Nat.mul_comm (kw + 2)]; omega
  have md : ∀ {X Y : Nat}, X < kw + 2 → (Y * (kw + 2) + X) % (kw + 2) = X := by
    intro X Y hX
    rw [Nat.mul_comm, Nat.mul_add_mod, Nat.mod_eq_of_lt hX]
  have dv : ∀ {X Y : Nat}, X < kw + 2 → (Y * (kw + 2) + X) / (kw + 2) = Y := by
    intro X Y hX
    rw [Nat.mul_comm, Nat.mul_add_div (by omega), Nat.div_eq_of_lt hX]; rfl
  have wh : ∀ {X Y : Nat}, X < kw + 2 → Y < kh + 2 → (X = 0 ∨ X = kw + 1 ∨ Y = 0 ∨ Y = kh + 1) → (Y * (kw + 2) + X) < (kw + 2) * (kh + 2) ∧ mlf (Y * (kw + 2) + X) = 0 := by
    intro X Y hX hY h
    refine ⟨lt hX hY, hM.2 _ ?_⟩
    rintro ⟨a, b, ha, hb, e⟩
    have h1 := lin_div (y := b) ha
    have h2 := lin_mod (y := b) ha
    rw [← e, dv hX] at h1
    rw [← e, md hX] at h2
    omega
  have ad : ∀ {X Y X' Y' : Nat}, X < kw + 2 → X' < kw + 2 → dd X X' + dd Y Y' ≤ 1 → AD ((0 : Int32) = 0) (kw + 2) (Y * (kw + 2) + X) (Y' * (kw + 2) + X') := by
    intro X Y X' Y' hX hX' h
    unfold AD
    rw [md hX, md hX', dv hX, dv hX']
    exact ⟨by omega, by omega, fun _ => h⟩
  have d1 : ∀ a, dd a (a + 1) = 1 := fun a => by unfold dd; omega
  have d0 : ∀ a, dd a a = 0 := fun a => by unfold dd; omega
  have top : ∀ X, X < kw + 2 → RC (fun q => q < (kw + 2) * (kh + 2) ∧ mlf q = 0) ((0 : Int32) = 0) (kw + 2) 0 (0 * (kw + 2) + X) := by
    intro X
    induction X with
    | zero => intro h; have := wh (X := 0) (Y := 0) h (by omega) (Or.inl rfl); simp only [Nat.zero_mul, Nat.zero_add] at *; exact RC.refl this
    | succ X ih => intro h; exact (ih (by omega)).step (ad (by omega) h (by rw [d1, d0]; omega)) (wh h (by omega) (Or.inr (Or.inr (Or.inl rfl))))
  have left : ∀ Y, Y < kh + 2 → RC (fun q => q < (kw + 2) * (kh + 2) ∧ mlf q = 0) ((0 : Int32) = 0) (kw + 2) 0 (Y * (kw + 2) + 0) := by
    intro Y
    induction Y with
    | zero => intro h; exact top 0 (by omega)
    | succ Y ih => intro h; exact (ih (by omega)).step (ad (by omega) (by omega) (by rw [d1, d0]; omega)) (wh (by omega) h (Or.inl rfl))
  have right : ∀ Y, Y < kh + 2 → RC (fun q => q < (kw + 2) * (kh + 2) ∧ mlf q = 0) ((0 : Int32) = 0) (kw + 2) 0 (Y * (kw + 2) + (kw + 1)) := by
    intro Y
    induction Y with
    | zero => intro h; exact top (kw + 1) (by omega)
    | succ Y ih => intro h; exact (ih (by omega)).step (ad (by omega) (by omega) (by rw [d1, d0]; omega)) (wh (by omega) h (Or.inr (Or.inl rfl)))
  have bot : ∀ X, X < kw + 2 → RC (fun q => q < (kw + 2) * (kh + 2) ∧ mlf q = 0) ((0 : Int32) = 0) (kw + 2) 0 ((kh + 1) * (kw + 2) + X) := by
    intro X
    induction X with
    | zero => intro h; exact left (kh + 1) (by omega)
    | succ X ih => intro h; exact (ih (by omega)).step (ad (by omega) h (by rw [d1, d0]; omega)) (wh h (by omega) (Or.inr (Or.inr (Or.inr rfl))))
  obtain ⟨X, Y, hX, hY, e⟩ : ∃ X Y, X < kw + 2 ∧ Y < kh + 2 ∧ q = Y * (kw + 2) + X := ⟨q % (kw + 2), q / (kw + 2), Nat.mod_lt _ (by omega), by rw [Nat.div_lt_iff_lt_mul (by omega), Nat.mul_comm]; exact hq, by rw [Nat.mul_comm]; exact (Nat.div_add_mod q (kw + 2)).symm⟩
  have hb : X = 0 ∨ X = kw + 1 ∨ Y = 0 ∨ Y = kh + 1 := Classical.byContradiction fun c => hn ⟨X - 1, Y - 1, by omega, by omega, by
    unfold lin
    rw [show Y - 1 + 1 = Y by omega, show X - 1 + 1 = X by omega]; exact e⟩
  rw [e]
  rcases hb with rfl | rfl | rfl | rfl
  · exact left _ hY
  · exact right _ hY
  · exact top _ hX
  · exact bot _ hX
theorem holes_both {kw kh : Nat} (hw : 1 ≤ kw ∧ kw ≤ 24) (hh : 1 ≤ kh ∧ kh ≤ 24) {sf mlf : Nat → Int32} (hS : SM kw kh sf mlf) (ef gf mbf : Nat → Int32) (gq : Int32) :
    ∃ b z g g' g'', f_X_holes (nI kw) (nI kh) sf (nI kw) (nI kh) kh ef (kw * kh) gf gq = (b, z, g, g') ∧ f_M_holes (nI kh) (nI (kw + 2)) mlf mbf = (b, 0, g'') ∧ z_M_holes (nI kh) (nI (kw + 2)) mlf mbf := by
  obtain ⟨p, g'', e1, hp, hz⟩ := mgroups hw hh 0 mlf mbf rfl
  obtain ⟨p', hp'⟩ := tru (fun q => (inn kw kh q ∧ mlf q = 0) ∧ (∀ q', q' < q → ¬ RC (fun q => inn kw kh q ∧ mlf q = 0) ((0 : Int32) = 0) (kw + 2) q' q) ∧ ¬ ∃ a s, RC (fun q => inn kw kh q ∧ mlf q = 0) ((0 : Int32) = 0) (kw + 2) q a ∧ s < (kw + 2) * (kh + 2) ∧ AD ((0 : Int32) = 0) (kw + 2) a s ∧ ¬ inn kw kh s)
  obtain ⟨z, g, g', e2⟩ := choles hw.2 hh.2 hS ef gf gq hp'
  have hpos : 0 < (kw + 2) * (kh + 2) := Nat.mul_pos (by omega) (by omega)
  have n0 : ¬ inn kw kh 0 := fun c => by have := inn_lt c; omega
  have up : ∀ {q r}, RC (fun q => inn kw kh q ∧ mlf q = 0) ((0 : Int32) = 0) (kw + 2) q r → RC (fun q => q < (kw + 2) * (kh + 2) ∧ mlf q = 0) ((0 : Int32) = 0) (kw + 2) q r := fun {q r} h => h.2 _ (RC.refl ⟨inn_A h.1.1, h.1.2⟩) (fun a b ha hab hb => ha.step hab ⟨inn_A hb.1, hb.2⟩)
  have ec : cntb p' ((kw + 2) * (kh + 2)) + 1 = cntb p ((kw + 2) * (kh + 2)) := by
    have h1 : ∀ j, j < (kw + 2) * (kh + 2) → j ≠ 0 → p' j = p j := by
      intro q hq hq0
      rw [Bool.eq_iff_iff, hp' q, hp q hq]
      constructor
      · rintro ⟨h1, h2, h3⟩
        have dn : ∀ r, RC (fun q => q < (kw + 2) * (kh + 2) ∧ mlf q = 0) ((0 : Int32) = 0) (kw + 2) q r → RC (fun q => inn kw kh q ∧ mlf q = 0) ((0 : Int32) = 0) (kw + 2) q r := fun r h => h.2 _ (RC.refl h1) (fun a b ha hab hb => ha.step hab ⟨Classical.byContradiction fun c => h3 ⟨a, b, ha, hb.1, hab, c⟩, hb.2⟩)
        exact ⟨h1.2, fun r hr => Classical.byContradiction fun c => h2 r (by omega) (dn r hr).symm⟩
      · rintro ⟨h1, h2⟩
        have hin : inn kw kh q := Classical.byContradiction fun c => by have := h2 0 (border hS.mf hq c).symm; omega
        refine ⟨⟨hin, h1⟩, fun q' g1 g2 => by have := h2 q' (up g2).symm; omega, ?_⟩
        rintro ⟨a, s, g1, g2, g3, g4⟩
        have r1 := (up g1).step g3 ⟨g2, hS.2.2 s g4⟩
        have := h2 0 (r1.trans (border hS.mf g2 g4).symm)
        omega
    have p0 : p 0 = true := (hp 0 hpos).mpr ⟨hS.2.2 0 n0, fun r _ => Nat.zero_le _⟩
    have p0' : p' 0 = false := by
      rw [Bool.eq_false_iff]; intro c
      exact n0 ((hp' _).mp c).1.1
    have h2 := cntb_one (p := fun j => if j < (kw + 2) * (kh + 2) then p j else p' j) (p' := p') (k := 0) (by simp only [if_pos hpos]; exact p0) p0' (fun j hj => by
      by_cases c : j < (kw + 2) * (kh + 2)
      · simp only [if_pos c]; exact h1 j c hj
      · simp only [if_neg c]) _ hpos
    rw [h2]
    exact cntb_congr (fun j hj => by simp only [if_pos hj])
  refine ⟨nI (cntb p' ((kw + 2) * (kh + 2))), z, g, g', g'', ?_, ?_, ?_⟩
  · rw [f_X_holes, e2, f_X_holes_q1]
  · rw [f_M_holes, e1, f_M_holes_q1, ← ec, nI_pred]
  · rw [z_M_holes, e1]; exact ⟨hz, trivial⟩
