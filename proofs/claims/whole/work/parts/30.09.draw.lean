/-! own: draw, on both sides -/
theorem if_congr {α : Type} {a b : Prop} [Decidable a] [Decidable b] {x y u v : α} (h : a ↔ b) (h1 : x = u) (h2 : y = v) : (if a then x else y) = (if b then u else v) := by
  subst h1 h2
  by_cases c : a
  · rw [if_pos c, if_pos (h.mp c)]
  · rw [if_neg c, if_neg (fun d => c (h.mpr d))]
theorem reach_ex {v : Nat} (hv : v ≤ 1250) : ∃ rr, rr ≤ 24 ∧ f_S_whitenDisc_L3 (lN v) FU 0 = nI rr ∧ (rr = 24 ∨ v ≤ (rr + 1) * (rr + 1)) := by
  have key : ∀ k n i, i + k = 24 → k < n → ∃ rr, rr ≤ 24 ∧ f_S_whitenDisc_L3 (lN v) n (nI i) = nI rr ∧ (rr = 24 ∨ v ≤ (rr + 1) * (rr + 1)) := by
    intro k
    induction k with
    | zero =>
      intro n i hi hn
      obtain ⟨n, rfl⟩ : ∃ m, n = m + 1 := ⟨n - 1, by omega⟩
      refine ⟨24, by omega, ?_, Or.inl rfl⟩
      rw [f_S_whitenDisc_L3, show i = 24 by omega, if_pos (by decide)]
    | succ k ih =>
      intro n i hi hn
      obtain ⟨n, rfl⟩ : ∃ m, n = m + 1 := ⟨n - 1, by omega⟩
      have h24 : ¬ (24 : Int32) ≤ nI i := nI_ge (b := 24) (by omega) (by omega)
      have hm : (i + 1) * (i + 1) ≤ 24 * 24 := Nat.mul_le_mul (by omega) (by omega)
      have em : (((nI i + 1) * (nI i + 1)).toInt64) = lN ((i + 1) * (i + 1)) := by rw [nI_1, pk_mul, nI_l (by omega)]
      rw [f_S_whitenDisc_L3, if_neg h24, em]
      by_cases hc : v ≤ (i + 1) * (i + 1)
      · rw [if_pos ((lg_cmp_ge _ _).mpr ((lN_le (by omega) (by omega)).mpr hc))]
        exact ⟨i, by omega, rfl, Or.inr hc⟩
      · rw [if_neg (fun c => hc ((lN_le (by omega) (by omega)).mp ((lg_cmp_ge _ _).mp c))), nI_1]
        exact ih n (i + 1) (by omega) (by omega)
  have := key 24 FU 0 (by omega) (lt_FU (by omega))
  rw [nI_0] at this
  exact this
theorem dd_up {x a rr : Nat} (h : dd (x + 1) (a + 1) ≤ rr) : x ≤ a + rr ∧ a ≤ x + rr := by unfold dd at h; omega
theorem dd_sh {x a rr i : Nat} (h : a + rr = x + i) : dd (x + 1) (a + 1) = dd rr i := by unfold dd; omega
theorem dd_rr {rr i : Nat} (h : i ≤ 2 * rr) : dd rr i ≤ rr := by unfold dd; omega
theorem disc_eq {kw kh : Nat} {sf mf : Nat → Int32} (hS : SM kw kh sf mf) (hw : kw ≤ 24) (hh : kh ≤ 24) {x y : Nat} (hx : x < kw) (hy : y < kh) {v : Nat} (hv : v ≤ 1250) : SM kw kh (f_S_whitenDisc (nI kw) (nI kh) sf (nI x) (nI y) (lN v)) (fun q => if sd (x + 1) (y + 1) (q % (kw + 2)) (q / (kw + 2)) < v then 0 else mf q) := by
  obtain ⟨rr, hr, er, hr2⟩ := reach_ex hv
  have ct : ∀ i, i < 100 → (cs rr i).toInt = (i : Int) - rr := fun i hi => cs_toInt (by omega) (by omega)
  have c0 : -nI rr = cs rr 0 := by unfold cs; rw [nI_0, Int32.zero_sub]
  have cle : ∀ i, i < 100 → (nI rr < cs rr i ↔ 2 * rr < i) := fun i hi => by rw [i_lt, ct i hi, nI_toInt (by omega)]; omega
  obtain ⟨s', es, f, hf, hfe⟩ := lsh (F := f_S_whitenDisc_L36 (nI kw) (nI kh) (nI x) (nI y) (lN v) (nI rr)) (cs rr) (fun j s => ∃ f, SM kw kh s f ∧ ∀ a b, a < kw → b < kh → f (lin kw a b) = if sd (x + 1) (y + 1) (a + 1) (b + 1) < v ∧ dd (x + 1) (a + 1) ≤ rr ∧ dd (y + 1) (b + 1) ≤ rr ∧ b + rr < y + j then 0 else mf (lin kw a b)) (2 * rr + 1) (by omega)
    (fun s _ n => by rw [f_S_whitenDisc_L36, if_pos ((cle _ (by omega)).mpr (by omega))])
    (fun j s hj hs => by
      obtain ⟨f0, hf0, hf1⟩ := hs
      obtain ⟨s', es, f, hf, hfe⟩ := lsh (F := f_S_whitenDisc_L48 (nI kw) (nI kh) (nI x) (nI y) (lN v) (nI rr) (cs rr j)) (cs rr) (fun i s => ∃ f, SM kw kh s f ∧ ∀ a b, a < kw → b < kh → f (lin kw a b) = if sd (x + 1) (y + 1) (a + 1) (b + 1) < v ∧ dd (x + 1) (a + 1) ≤ rr ∧ dd (y + 1) (b + 1) ≤ rr ∧ (b + rr < y + j ∨ (b + rr = y + j ∧ a + rr < x + i)) then 0 else mf (lin kw a b)) (2 * rr + 1) (by omega)
        (fun s _ n => by rw [f_S_whitenDisc_L48, if_pos ((cle _ (by omega)).mpr (by omega))])
        (fun i s hi hs => by
          obtain ⟨f, hf, hfe⟩ := hs
          have k1 := dd_rr (rr := rr) (i := i) (by omega)
          have k2 := dd_rr (rr := rr) (i := j) (by omega)
          have m1 : dd rr i * dd rr i ≤ 24 * 24 := Nat.mul_le_mul (by omega) (by omega)
          have m2 : dd rr j * dd rr j ≤ 24 * 24 := Nat.mul_le_mul (by omega) (by omega)
          have ed : ((cs rr i * cs rr i) + (cs rr j * cs rr j)).toInt64 = lN (dd rr i * dd rr i + dd rr j * dd rr j) := by
            rw [sq32 (k := dd rr i) (by omega) (by rw [ct i (by omega)]; have := dd_c rr i; omega), sq32 (k := dd rr j) (by omega) (by rw [ct j (by omega)]; have := dd_c rr j; omega), nI_add, nI_l (by omega)]
          have hn : ¬ nI rr < cs rr i := fun c => by rw [cle i (by omega)] at c; omega
          have px : (nI x + cs rr i).toInt = (x : Int) + i - rr := by rw [nx_toInt (by omega) (by rw [ct i (by omega)]; omega) (by rw [ct i (by omega)]; omega), ct i (by omega)]; omega
          have py : (nI y + cs rr j).toInt = (y : Int) + j - rr := by rw [nx_toInt (by omega) (by rw [ct j (by omega)]; omega) (by rw [ct j (by omega)]; omega), ct j (by omega)]; omega
          have same : ∀ a b, a + rr = x + i → b + rr = y + j → sd (x + 1) (y + 1) (a + 1) (b + 1) = dd rr i * dd rr i + dd rr j * dd rr j := by
            intro a b ha hb
            unfold sd
            rw [dd_sh ha, dd_sh hb]
          by_cases hc : v ≤ dd rr i * dd rr i + dd rr j * dd rr j
          · refine ⟨s, ⟨f, hf, fun a b ha hb => ?_⟩, fun n => ?_⟩
            · rw [hfe a b ha hb]
              by_cases g : a + rr = x + i ∧ b + rr = y + j
              · have := same a b g.1 g.2
                rw [if_neg (by omega), if_neg (by omega)]
              · exact if_congr (by omega) rfl rfl
            · rw [f_S_whitenDisc_L48, if_neg hn, ed, if_pos ((lg_cmp_ge _ _).mpr ((lN_le (by omega) (by omega)).mpr hc)), cs_1 (by omega) (by omega)]
          · have hc2 : ¬ 0 ≤ lg_cmp (lN (dd rr i * dd rr i + dd rr j * dd rr j)) (lN v) := fun c => hc ((lN_le (by omega) (by omega)).mp ((lg_cmp_ge _ _).mp c))
            by_cases g : f_S_has (nI kw) (nI kh) (nI x + cs rr i) (nI y + cs rr j) = 0
            · have g' : ¬ (0 ≤ (x : Int) + i - rr ∧ (x : Int) + i - rr < kw ∧ 0 ≤ (y : Int) + j - rr ∧ (y : Int) + j - rr < kh) := by
                intro c
                rw [has_eq (by omega) (by omega), px, py, if_pos c] at g
                exact absurd g (by decide)
              refine ⟨s, ⟨f, hf, fun a b ha hb => ?_⟩, fun n => ?_⟩
              · rw [hfe a b ha hb]
                exact if_congr (by omega) rfl rfl
              · rw [f_S_whitenDisc_L48, if_neg hn, ed, if_neg hc2, f_S_whitenDisc_q1, paint_out g, cs_1 (by omega) (by omega)]
            · obtain ⟨a', b', ha', hb', ea, eb⟩ := has_ex hw hh g
              have ga : a' + rr = x + i := by rw [ea, nI_toInt (by omega)] at px; omega
              have gb : b' + rr = y + j := by rw [eb, nI_toInt (by omega)] at py; omega
              refine ⟨_, ⟨upd f (lin kw a' b') 0, hf.paint hw hh ha' hb' (Or.inl rfl), fun a b ha hb => ?_⟩, fun n => ?_⟩
              · by_cases c : a = a' ∧ b = b'
                · obtain ⟨rfl, rfl⟩ := c
                  have := same a b ga gb
                  rw [pk_us, if_pos ⟨by omega, by rw [dd_sh ga]; exact k1, by rw [dd_sh gb]; exact k2, by omega⟩]
                · rw [pk_un (fun c' => c (lin_inj ha ha' c')), hfe a b ha hb]
                  exact if_congr (by omega) rfl rfl
              · rw [f_S_whitenDisc_L48, if_neg hn, ed, if_neg hc2, f_S_whitenDisc_q1, ea, eb, cs_1 (by omega) (by omega)])
        (s := s) ⟨f0, hf0, fun a b ha hb => by
          rw [hf1 a b ha hb]
          have h1 := dd_up (x := x) (a := a) (rr := rr)
          refine if_congr ⟨fun c => ⟨c.1, c.2.1, c.2.2.1, Or.inl c.2.2.2⟩, fun c => ⟨c.1, c.2.1, c.2.2.1, ?_⟩⟩ rfl rfl
          have := h1 c.2.1
          omega⟩
      have hn : ¬ nI rr < cs rr j := fun c => by rw [cle j (by omega)] at c; omega
      refine ⟨s', ⟨f, hf, fun a b ha hb => ?_⟩, fun n => ?_⟩
      · rw [hfe a b ha hb]
        have h1 := dd_up (x := x) (a := a) (rr := rr)
        refine if_congr ⟨fun c => ⟨c.1, c.2.1, c.2.2.1, ?_⟩, fun c => ⟨c.1, c.2.1, c.2.2.1, ?_⟩⟩ rfl rfl
        · omega
        · have := h1 c.2.1
          omega
      · rw [f_S_whitenDisc_L36, if_neg hn, c0, es, f_S_whitenDisc_k48, cs_1 (by omega) (by omega)])
    (s := sf) ⟨mf, hS, fun a b ha hb => by
      rw [if_neg]
      intro c
      have := dd_up c.2.2.1
      omega⟩
  rw [f_S_whitenDisc, er, f_S_whitenDisc_k3, c0, es, f_S_whitenDisc_k36]
  refine hf.arr (fun q => ?_)
  by_cases hq : inn kw kh q
  · obtain ⟨a, b, ha, hb, rfl⟩ := hq
    rw [hfe a b ha hb, lin_div ha, lin_mod ha]
    refine if_congr ⟨fun c => ?_, fun c => c.1⟩ rfl rfl
    have d1 : dd (x + 1) (a + 1) ≤ rr := by
      rcases hr2 with h | h
      · have := dd_lt (n := 25) (a := x + 1) (b := a + 1) (by omega) (by omega); omega
      · refine Classical.byContradiction fun h' => ?_
        have := Nat.mul_le_mul (show rr + 1 ≤ dd (x + 1) (a + 1) by omega) (show rr + 1 ≤ dd (x + 1) (a + 1) by omega)
        unfold sd at c
        omega
    have d2 : dd (y + 1) (b + 1) ≤ rr := by
      rcases hr2 with h | h
      · have := dd_lt (n := 25) (a := y + 1) (b := b + 1) (by omega) (by omega); omega
      · refine Classical.byContradiction fun h' => ?_
        have := Nat.mul_le_mul (show rr + 1 ≤ dd (y + 1) (b + 1) by omega) (show rr + 1 ≤ dd (y + 1) (b + 1) by omega)
        unfold sd at c
        omega
    have := dd_up d2
    exact ⟨c, d1, d2, by omega⟩
  · rw [hf.2.2 q hq, hS.2.2 q hq]
    split <;> rfl
/-- how near the nearest white one is, as the reference says -/
def nv (kw kh : Nat) (mpf : Nat → Int32) (q : Nat) : Nat := (f_M_nearestWhite (nI kh) (nI (kw + 2)) mpf (nI q)).toInt.toNat
/-- what is drawn by the samples before q -/
def dw (kw kh : Nat) (mpf mlf : Nat → Int32) : Nat → Nat → Int32
  | 0 => mpf
  | q + 1 => if mlf q = 0 then dw kw kh mpf mlf q else fun r => if sd (q % (kw + 2)) (q / (kw + 2)) (r % (kw + 2)) (r / (kw + 2)) < nv kw kh mpf q then 0 else dw kw kh mpf mlf q r
theorem nv_eq {kw kh : Nat} {sf mf : Nat → Int32} (hS : SM kw kh sf mf) (hw : 1 ≤ kw ∧ kw ≤ 24) (hh : 1 ≤ kh ∧ kh ≤ 24) {x y : Nat} (hx : x < kw) (hy : y < kh) : nv kw kh mf (lin kw x y) ≤ 1250 ∧ f_S_nearestWhite2 (nI kw) (nI kh) sf (nI x) (nI y) = lN (nv kw kh mf (lin kw x y)) ∧ f_M_nearestWhite (nI kh) (nI (kw + 2)) mf (nI (lin kw x y)) = lN (nv kw kh mf (lin kw x y)) ∧ z_M_nearestWhite (nI kh) (nI (kw + 2)) mf (nI (lin kw x y)) := by
  obtain ⟨v, h1, h2, h3, h4⟩ := near_both hS hw hh hx hy
  have e : nv kw kh mf (lin kw x y) = v := by
    unfold nv
    rw [h3, lN_toInt (by omega)]; rfl
  rw [e]
  exact ⟨h1, h2, h3, h4⟩
theorem cdraw {kw kh : Nat} {pf sf mpf mlf : Nat → Int32} (hP : SM kw kh pf mpf) (hS : SM kw kh sf mlf) (hw : 1 ≤ kw ∧ kw ≤ 24) (hh : 1 ≤ kh ∧ kh ≤ 24) (bf : Nat → Int32) : ∃ g, f_X_draw (nI kw) (nI kh) kh pf (nI kw) (nI kh) sf (nI kw) (nI kh) kh bf = (nI (blacks kw kh (dw kw kh mpf mlf ((kw + 2) * (kh + 2)))), g) := by
  obtain ⟨s', e, hJ⟩ := nest_inv (S := Nat → Int32) (fun q s => SM kw kh s (dw kw kh mpf mlf q)) hw.2 hh.2
    (inner := fun y => f_X_draw_L30 (nI kw) (nI kh) pf (nI kw) (nI kh) sf (nI kw) (nI kh) y) (outer := f_X_draw_L17 (nI kw) (nI kh) pf (nI kw) (nI kh) sf (nI kw) (nI kh))
    (fun y s n hy => by
      simp only [f_X_draw_L30]
      rw [if_pos (nI_le (Nat.le_refl _) (by omega))])
    (fun x y s hx hy hs => by
      have eb := hS.blk hw.2 hh.2 hx hy
      obtain ⟨n1, n2, -, -⟩ := nv_eq hP hw hh hx hy
      by_cases h0 : mlf (lin kw x y) = 0
      · refine ⟨s, ?_, fun n => ?_⟩
        · rw [dw, if_pos h0]; exact hs
        · simp only [f_X_draw_L30]
          rw [if_neg (nI_ge hx (by omega)), eb, if_pos h0, nI_1]
      · refine ⟨?_, ?_, fun n => ?_⟩
        · exact f_S_whitenDisc (nI kw) (nI kh) s (nI x) (nI y) (lN (nv kw kh mpf (lin kw x y)))
        · rw [dw, if_neg h0]
          have := disc_eq hs hw.2 hh.2 hx hy n1
          rw [lin_div hx, lin_mod hx]
          exact this
        · simp only [f_X_draw_L30]
          rw [if_neg (nI_ge hx (by omega)), eb, if_neg h0, f_X_draw_q2, n2, nI_1])
    (fun s n => by rw [f_X_draw_L17, if_pos (nI_le (Nat.le_refl _) (by omega))])
    (fun y s s' n hy hi => by
      rw [f_X_draw_L17, if_neg (nI_ge hy (by omega))]
      rw [hi, f_X_draw_k30, nI_1])
    (fun q s hq hs => by rw [dw, if_pos (hS.2.2 q hq)]; exact hs)
    (s := f_S_copyFrom kh bf kh pf) (hP.row (copy_eq hh.2 bf pf))
  refine ⟨s', ?_⟩
  rw [f_X_draw, f_X_draw_q1, e, f_X_draw_k17, ccount hJ hw.2 hh.2]
theorem mdraw {kw kh : Nat} {pf sf mpf mlf : Nat → Int32} (hP : SM kw kh pf mpf) (hS : SM kw kh sf mlf) (hw : 1 ≤ kw ∧ kw ≤ 24) (hh : 1 ≤ kh ∧ kh ≤ 24) (mcf : Nat → Int32) {mth : Int32} (hth : ¬ mth = 0) : (∃ g, f_M_draw (nI kh) (nI (kw + 2)) mpf mlf mth mcf = (nI (blacks kw kh (dw kw kh mpf mlf ((kw + 2) * (kh + 2)))), 0, g)) ∧ z_M_draw (nI kh) (nI (kw + 2)) mpf mlf mth mcf := by
  have ha := ar_le hw.2 hh.2
  have hD : ∀ q r, dw kw kh mpf mlf q r = 0 ∨ dw kw kh mpf mlf q r = 1 := by
    intro q
    induction q with
    | zero => exact hP.b01
    | succ q ih =>
      intro r
      rw [dw]
      by_cases h0 : mlf q = 0
      · rw [if_pos h0]; exact ih r
      · rw [if_neg h0]
        split
        · exact Or.inl rfl
        · exact ih r
  obtain ⟨s1, e1, I1, z1⟩ := lu_0z (F := f_M_draw_L27 (nI kh) (nI (kw + 2)) mpf) (Fz := f_M_draw_L27_z (nI kh) (nI (kw + 2)) mpf) (fun i s => ∀ r, r < i → s r = mpf r) ((kw + 2) * (kh + 2)) (by omega)
    (fun s _ n => by
      rw [f_M_draw_L27, f_M_draw_L27_z, ar_eq, if_pos (nI_le (Nat.le_refl _) (by omega)), if_pos (nI_le (Nat.le_refl _) (by omega))]
      exact ⟨rfl, trivial⟩)
    (fun i s hi hs => by
      refine ⟨upd s i (mpf i), fun r hr => ?_, fun n => ?_⟩
      · by_cases e : r = i
        · rw [e, pk_us]
        · rw [pk_un e]; exact hs r (by omega)
      · rw [f_M_draw_L27, f_M_draw_L27_z, ar_eq, if_neg (nI_ge hi (by omega)), if_neg (nI_ge hi (by omega)), nI_clamp (by omega), nI_1, nb_01 (hP.b01 i)]
        exact ⟨rfl, fun hz => ⟨vp_in_nI (by omega) (by omega), vp_in_nI (by omega) (by omega), hz⟩⟩)
    (s := mcf) (fun r hr => by omega)
  obtain ⟨s2, e2, I2, z2⟩ := lu_0z (F := f_M_draw_L55 (nI kh) (nI (kw + 2)) mpf mlf) (Fz := f_M_draw_L55_z (nI kh) (nI (kw + 2)) mpf mlf) (fun i s => ∀ r, r < (kw + 2) * (kh + 2) → s r = dw kw kh mpf mlf i r) ((kw + 2) * (kh + 2)) (by omega)
    (fun s _ n => by
      rw [f_M_draw_L55, f_M_draw_L55_z, ar_eq, if_pos (nI_le (Nat.le_refl _) (by omega)), if_pos (nI_le (Nat.le_refl _) (by omega))]
      exact ⟨rfl, trivial⟩)
    (fun i s hi hs => by
      have vi : vp_in (nI i) 676 := vp_in_nI (by omega) (by omega)
      by_cases h0 : mlf i = 0
      · refine ⟨s, fun r hr => ?_, fun n => ?_⟩
        · rw [dw, if_pos h0]; exact hs r hr
        · rw [f_M_draw_L55, f_M_draw_L55_z, ar_eq, if_neg (nI_ge hi (by omega)), if_neg (nI_ge hi (by omega)), nI_clamp (by omega), if_pos h0, if_pos h0, nI_1]
          exact ⟨rfl, fun hz => ⟨vi, hz⟩⟩
      · obtain ⟨x, y, hx, hy, eq⟩ := hS.mf.inn h0
        obtain ⟨n1, -, n3, n4⟩ := nv_eq hP hw hh hx hy
        rw [← eq] at n1 n3 n4
        obtain ⟨s3, e3, I3, z3⟩ := lu_0z (F := f_M_draw_L81 (nI kh) (nI (kw + 2)) mpf (nI i)) (Fz := f_M_draw_L81_z (nI kh) (nI (kw + 2)) mpf (nI i)) (fun k f => (∀ r, r < k → f r = dw kw kh mpf mlf (i + 1) r) ∧ ∀ r, k ≤ r → f r = s r) ((kw + 2) * (kh + 2)) (by omega)
          (fun s _ n => by
            rw [f_M_draw_L81, f_M_draw_L81_z, ar_eq, if_pos (nI_le (Nat.le_refl _) (by omega)), if_pos (nI_le (Nat.le_refl _) (by omega))]
            exact ⟨rfl, trivial⟩)
          (fun k f hk hf => by
            have vk : vp_in (nI k) 676 := vp_in_nI (by omega) (by omega)
            have ek : f k = dw kw kh mpf mlf i k := by rw [hf.2 k (Nat.le_refl _), hs k hk]
            have efar := far_eq (W := kw + 2) (q := i) (r := k) (by omega) (by omega) (by omega)
            refine ⟨upd f k (dw kw kh mpf mlf (i + 1) k), ⟨fun r hr => ?_, fun r hr => ?_⟩, fun n => ?_⟩
            · by_cases e : r = k
              · rw [e, pk_us]
              · rw [pk_un e]; exact hf.1 r (by omega)
            · rw [pk_un (by omega)]; exact hf.2 r (by omega)
            · rw [f_M_draw_L81, f_M_draw_L81_z, ar_eq, if_neg (nI_ge hk (by omega)), if_neg (nI_ge hk (by omega)), nI_clamp (by omega), ek, nI_1, efar, n3]
              have hdm : k % (kw + 2) < kw + 2 ∧ k / (kw + 2) < kh + 2 := ⟨Nat.mod_lt _ (by omega), by rw [Nat.div_lt_iff_lt_mul (by omega), Nat.mul_comm]; exact hk⟩
              have hdi : i % (kw + 2) < kw + 2 ∧ i / (kw + 2) < kh + 2 := ⟨Nat.mod_lt _ (by omega), by rw [Nat.div_lt_iff_lt_mul (by omega), Nat.mul_comm]; exact hi⟩
              have hb := sd_b (X0 := i % (kw + 2)) (X := k % (kw + 2)) (Y0 := i / (kw + 2)) (Y := k / (kw + 2)) (by omega) (by omega) (by omega) (by omega)
              have ew : dw kw kh mpf mlf (i + 1) k = if sd (i % (kw + 2)) (i / (kw + 2)) (k % (kw + 2)) (k / (kw + 2)) < nv kw kh mpf i then 0 else dw kw kh mpf mlf i k := by
                rw [dw, if_neg h0]
              rw [ew]
              by_cases c0 : dw kw kh mpf mlf i k = 0
              · rw [if_pos c0, if_pos c0, c0, nb_0]
                rw [show (if sd (i % (kw + 2)) (i / (kw + 2)) (k % (kw + 2)) (k / (kw + 2)) < nv kw kh mpf i then (0 : Int32) else 0) = 0 by split <;> rfl]
                exact ⟨rfl, fun hz => ⟨vk, vk, hz⟩⟩
              · rw [if_neg c0, if_neg c0]
                have c1 : dw kw kh mpf mlf i k = 1 := (hD i k).resolve_left c0
                by_cases cd : sd (i % (kw + 2)) (i / (kw + 2)) (k % (kw + 2)) (k / (kw + 2)) < nv kw kh mpf i
                · have cl := (lg_cmp_lt _ _).mpr ((lN_lt (by omega) (by omega)).mpr cd)
                  rw [if_pos cl, if_pos cl, if_pos cd, nb_0]
                  exact ⟨rfl, fun hz => ⟨vk, zfar (by omega), vk, hz⟩⟩
                · have cl : ¬ lg_cmp (lN (sd (i % (kw + 2)) (i / (kw + 2)) (k % (kw + 2)) (k / (kw + 2)))) (lN (nv kw kh mpf i)) < 0 := fun c => cd ((lN_lt (by omega) (by omega)).mp ((lg_cmp_lt _ _).mp c))
                  rw [if_neg cl, if_neg cl, if_neg cd, nb_1, c1]
                  exact ⟨rfl, fun hz => ⟨vk, zfar (by omega), vk, hz⟩⟩)
          (s := s) ⟨fun r hr => by omega, fun r _ => rfl⟩
        refine ⟨s3, fun r hr => I3.1 r hr, fun n => ?_⟩
        rw [f_M_draw_L55, f_M_draw_L55_z, ar_eq, if_neg (nI_ge hi (by omega)), if_neg (nI_ge hi (by omega)), nI_clamp (by omega), if_neg h0, if_neg h0, e3, f_M_draw_k81, f_M_draw_k81_z, nI_1]
        exact ⟨rfl, fun hz => ⟨vi, n4, z3, hz⟩⟩)
    (s := s1) (fun r hr => I1 r hr)
  obtain ⟨s4, e4, I4, z4⟩ := lu_0z (F := f_M_draw_L140 (nI kh) (nI (kw + 2)) s2) (Fz := f_M_draw_L140_z (nI kh) (nI (kw + 2)) s2) (fun i s => s = nI (cntb (fun q => decide (dw kw kh mpf mlf ((kw + 2) * (kh + 2)) q ≠ 0)) i)) ((kw + 2) * (kh + 2)) (by omega)
    (fun s _ n => by
      rw [f_M_draw_L140, f_M_draw_L140_z, ar_eq, if_pos (nI_le (Nat.le_refl _) (by omega)), if_pos (nI_le (Nat.le_refl _) (by omega))]
      exact ⟨rfl, trivial⟩)
    (fun i s hi hs => by
      have vi : vp_in (nI i) 676 := vp_in_nI (by omega) (by omega)
      refine ⟨_, rfl, fun n => ?_⟩
      subst hs
      rw [f_M_draw_L140, f_M_draw_L140_z, ar_eq, if_neg (nI_ge hi (by omega)), if_neg (nI_ge hi (by omega)), nI_clamp (by omega), nI_1, cntb, I2 i hi]
      by_cases h1 : dw kw kh mpf mlf ((kw + 2) * (kh + 2)) i = 0
      · simp only [if_pos h1, h1, ne_eq, not_true, decide_false, Int32.add_zero, Nat.add_zero, Bool.false_eq_true, if_false, if_true]
        exact ⟨trivial, fun hz => ⟨vi, hz⟩⟩
      · simp only [if_neg h1, h1, ne_eq, not_false_eq_true, decide_true, if_true]
        rw [nI_1]
        exact ⟨rfl, fun hz => ⟨vi, hz⟩⟩)
    (s := 0) rfl
  refine ⟨⟨s2, ?_⟩, ?_⟩
  · rw [f_M_draw, if_neg hth, e1, f_M_draw_k27, e2, f_M_draw_k55, e4, I4]; rfl
  · rw [z_M_draw, if_neg hth, e1, f_M_draw_k27_z, e2, f_M_draw_k55_z, e4]
    exact ⟨z1, z2, z4, trivial⟩
