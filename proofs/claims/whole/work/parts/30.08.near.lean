/-! own: the nearest white one, on both sides -/
def cs (k i : Nat) : Int32 := nI i - nI k
theorem cs_toInt {k i : Nat} (hk : k < 1000) (hi : i < 3000) : (cs k i).toInt = (i : Int) - k := pk_sub_toInt (by omega) (by omega)
theorem cs_1 {k i : Nat} (hk : k < 1000) (hi : i < 2999) : cs k i + 1 = cs k (i + 1) := by
  apply Int32.toInt_inj.mp
  rw [i_add (by rw [cs_toInt hk (by omega), i_1]; omega) (by rw [cs_toInt hk (by omega), i_1]; omega), cs_toInt hk (by omega), cs_toInt hk (by omega), i_1]; omega
theorem lsh {S : Type} {F : Nat → Int32 × S → Int32 × S} (c : Nat → Int32) (I : Nat → S → Prop) (b : Nat) (hb : b < 2147483648)
    (he : ∀ s, I b s → ∀ n, F (n + 1) (c b, s) = (c b, s))
    (hs : ∀ i s, i < b → I i s → ∃ s', I (i + 1) s' ∧ ∀ n, F (n + 1) (c i, s) = F n (c (i + 1), s')) {s : S} (h0 : I 0 s) : ∃ s', F FU (c 0, s) = (c b, s') ∧ I b s' := by
  have key : ∀ k i n s, i + k = b → k < n → I i s → ∃ s', F n (c i, s) = (c b, s') ∧ I b s' := by
    intro k
    induction k with
    | zero =>
      intro i n s hi hk hI
      obtain ⟨n, rfl⟩ : ∃ m, n = m + 1 := ⟨n - 1, by omega⟩
      have e : i = b := by omega
      subst e
      exact ⟨s, he s hI n, hI⟩
    | succ k ih =>
      intro i n s hi hk hI
      obtain ⟨n, rfl⟩ : ∃ m, n = m + 1 := ⟨n - 1, by omega⟩
      obtain ⟨s', hI', hn'⟩ := hs i s (by omega) hI
      obtain ⟨s2, e2, I2⟩ := ih (i + 1) n s' (by omega) (by omega) hI'
      exact ⟨s2, (hn' n).trans e2, I2⟩
  exact key b 0 FU s (by omega) (lt_FU hb) h0
def dd (a b : Nat) : Nat := (a - b) + (b - a)
theorem dd_c (a b : Nat) : (a : Int) - b = (dd a b : Nat) ∨ (a : Int) - b = -((dd a b : Nat) : Int) := by unfold dd; omega
theorem dd_lt {a b n : Nat} (ha : a < n) (hb : b < n) : dd a b < n := by unfold dd; omega
theorem dd_comm (a b : Nat) : dd a b = dd b a := by unfold dd; omega
theorem sqI {x : Int} {k : Nat} (h : x = k ∨ x = -(k : Int)) : x * x = ((k * k : Nat) : Int) := by
  rcases h with h | h <;> rw [h]
  · rw [Int.natCast_mul]
  · rw [Int.neg_mul_neg, Int.natCast_mul]
theorem sq_b {k : Nat} (hk : k < 1000) : k * k < 1000000 := Nat.mul_lt_mul'' hk hk
theorem sq32 {x : Int32} {k : Nat} (hk : k < 1000) (h : x.toInt = k ∨ x.toInt = -(k : Int)) : x * x = nI (k * k) := by
  have hkk := sq_b hk
  have e := sqI h
  apply Int32.toInt_inj.mp
  rw [i_mul (by rw [e]; omega) (by rw [e]; omega), e, nI_toInt (by omega)]
theorem sq64 {x : Int32} {k : Nat} (hk : k < 1000) (h : x.toInt = k ∨ x.toInt = -(k : Int)) : x.toInt64 * x.toInt64 = lN (k * k) := by
  have hkk := sq_b hk
  have e := sqI h
  apply Int64.toInt_inj.mp
  rw [Int64.toInt_mul, Int32.toInt_toInt64, e, lN_toInt (by omega)]
  exact Int.bmod_eq_of_le (by omega) (by omega)
/-- how far apart, squared -/
def sd (X0 Y0 X Y : Nat) : Nat := dd X0 X * dd X0 X + dd Y0 Y * dd Y0 Y
theorem sd_b {X0 Y0 X Y : Nat} (h1 : X0 < 26) (h2 : X < 26) (h3 : Y0 < 26) (h4 : Y < 26) : sd X0 Y0 X Y ≤ 1250 := by
  have a : dd X0 X * dd X0 X ≤ 25 * 25 := Nat.mul_le_mul (by have := dd_lt h1 h2; omega) (by have := dd_lt h1 h2; omega)
  have b : dd Y0 Y * dd Y0 Y ≤ 25 * 25 := Nat.mul_le_mul (by have := dd_lt h3 h4; omega) (by have := dd_lt h3 h4; omega)
  unfold sd; omega
theorem far_eq {W q r : Nat} (hW : 0 < W ∧ W < 100) (hq : q < 1000) (hr : r < 1000) : f_M_farFrom (nI W) (nI q) (nI r) = lN (sd (q % W) (q / W) (r % W) (r / W)) := by
  have h1 := Nat.mod_lt q hW.1
  have h2 := Nat.mod_lt r hW.1
  have h3 := Nat.div_le_self q W
  have h4 := Nat.div_le_self r W
  have m1 : ∀ {a b : Nat}, a < 1000 → b < 1000 → ((nI a - 1) - (nI b - 1)).toInt = (a : Int) - b := by
    intro a b ha hb
    have ea : (nI a - 1).toInt = (a : Int) - 1 := pk_sub_toInt (b := 1) (by omega) (by omega)
    have eb : (nI b - 1).toInt = (b : Int) - 1 := pk_sub_toInt (b := 1) (by omega) (by omega)
    rw [i_sub (by rw [ea, eb]; omega) (by rw [ea, eb]; omega), ea, eb]; omega
  unfold f_M_farFrom f_M_columnOf f_M_rowOf
  rw [pk_rem (by omega) hW.1 (by omega), pk_rem (by omega) hW.1 (by omega), pk_div (by omega) hW.1 (by omega), pk_div (by omega) hW.1 (by omega)]
  rw [sq64 (k := dd (q % W) (r % W)) (by have := dd_lt (n := 1000) (a := q % W) (b := r % W) (by omega) (by omega); omega) (by rw [m1 (by omega) (by omega)]; exact dd_c _ _)]
  rw [sq64 (k := dd (q / W) (r / W)) (by have := dd_lt (n := 1000) (a := q / W) (b := r / W) (by omega) (by omega); omega) (by rw [m1 (by omega) (by omega)]; exact dd_c _ _)]
  rw [lN_add]; rfl
theorem zfar {W : Nat} (hW : 0 < W ∧ W < 100) : z_M_farFrom (nI W) := by
  have h : ¬ nI W = 0 := nI_ne0 hW.1 (by omega)
  unfold z_M_farFrom z_M_columnOf z_M_rowOf
  exact ⟨⟨h, trivial⟩, ⟨h, trivial⟩, ⟨h, trivial⟩, ⟨h, trivial⟩, trivial⟩
/-- v is how far, squared, the nearest white one is from (X0, Y0); with the border -/
def NW (kw kh : Nat) (mf : Nat → Int32) (X0 Y0 v : Nat) : Prop :=
  (∃ X Y, X < kw + 2 ∧ Y < kh + 2 ∧ mf (Y * (kw + 2) + X) = 0 ∧ v = sd X0 Y0 X Y) ∧ ∀ X Y, X < kw + 2 → Y < kh + 2 → mf (Y * (kw + 2) + X) = 0 → v ≤ sd X0 Y0 X Y
theorem NW.uniq {kw kh : Nat} {mf : Nat → Int32} {X0 Y0 v w : Nat} (h : NW kw kh mf X0 Y0 v) (h' : NW kw kh mf X0 Y0 w) : v = w := by
  obtain ⟨⟨X, Y, a, b, c, d⟩, e⟩ := h
  obtain ⟨⟨X', Y', a', b', c', d'⟩, e'⟩ := h'
  have h1 := e X' Y' a' b' c'
  have h2 := e' X Y a b c
  omega
theorem mnear {kw kh : Nat} {mf : Nat → Int32} (hM : MF kw kh mf) (hw : 1 ≤ kw ∧ kw ≤ 24) (hh : 1 ≤ kh ∧ kh ≤ 24) {q : Nat} (hq : q < (kw + 2) * (kh + 2)) : ∃ v, f_M_nearestWhite (nI kh) (nI (kw + 2)) mf (nI q) = lN v ∧ NW kw kh mf (q % (kw + 2)) (q / (kw + 2)) v ∧ z_M_nearestWhite (nI kh) (nI (kw + 2)) mf (nI q) := by
  have ha := ar_le hw.2 hh.2
  have hdm : ∀ r, r < (kw + 2) * (kh + 2) → r % (kw + 2) < kw + 2 ∧ r / (kw + 2) < kh + 2 ∧ r / (kw + 2) * (kw + 2) + r % (kw + 2) = r := fun r hr => ⟨Nat.mod_lt _ (by omega), by rw [Nat.div_lt_iff_lt_mul (by omega), Nat.mul_comm]; exact hr, by rw [Nat.mul_comm]; exact Nat.div_add_mod r (kw + 2)⟩
  obtain ⟨q1, q2, q3⟩ := hdm q hq
  obtain ⟨s', e, hI, hz⟩ := lu_0z (F := f_M_nearestWhite_L7 (nI kh) (nI (kw + 2)) mf (nI q)) (Fz := f_M_nearestWhite_L7_z (nI kh) (nI (kw + 2)) mf (nI q))
    (fun i s => ∃ v, s = lN v ∧ v ≤ 10000 ∧ (v = 10000 ∨ ∃ r, r < i ∧ mf r = 0 ∧ v = sd (q % (kw + 2)) (q / (kw + 2)) (r % (kw + 2)) (r / (kw + 2))) ∧ ∀ r, r < i → mf r = 0 → v ≤ sd (q % (kw + 2)) (q / (kw + 2)) (r % (kw + 2)) (r / (kw + 2))) ((kw + 2) * (kh + 2)) (by omega)
    (fun s _ n => by
      rw [f_M_nearestWhite_L7, f_M_nearestWhite_L7_z, ar_eq, if_pos (nI_le (Nat.le_refl _) (by omega)), if_pos (nI_le (Nat.le_refl _) (by omega))]
      exact ⟨rfl, trivial⟩)
    (fun i s hi hs => by
      obtain ⟨v, rfl, v1, v2, v3⟩ := hs
      obtain ⟨i1, i2, i3⟩ := hdm i hi
      have vi : vp_in (nI i) 676 := vp_in_nI (by omega) (by omega)
      have hb := sd_b (X0 := q % (kw + 2)) (X := i % (kw + 2)) (Y0 := q / (kw + 2)) (Y := i / (kw + 2)) (by omega) (by omega) (by omega) (by omega)
      by_cases h0 : mf i = 0
      · by_cases hc : v ≤ sd (q % (kw + 2)) (q / (kw + 2)) (i % (kw + 2)) (i / (kw + 2))
        · refine ⟨lN v, ⟨v, rfl, v1, ?_, ?_⟩, fun n => ?_⟩
          · rcases v2 with v2 | ⟨r, r1, r2⟩
            · exact Or.inl v2
            · exact Or.inr ⟨r, by omega, r2⟩
          · intro r hr h
            by_cases e : r = i
            · rw [e]; exact hc
            · exact v3 r (by omega) h
          · have hg : 0 ≤ lg_cmp (lN (sd (q % (kw + 2)) (q / (kw + 2)) (i % (kw + 2)) (i / (kw + 2)))) (lN v) := (lg_cmp_ge _ _).mpr ((lN_le (by omega) (by omega)).mpr hc)
            rw [f_M_nearestWhite_L7, f_M_nearestWhite_L7_z, ar_eq, if_neg (nI_ge hi (by omega)), if_neg (nI_ge hi (by omega)), nI_clamp (by omega), if_pos h0, if_pos h0, far_eq (by omega) (by omega) (by omega), if_pos hg, if_pos hg, nI_1]
            exact ⟨rfl, fun hz => ⟨vi, zfar (by omega), hz⟩⟩
        · refine ⟨lN _, ⟨_, rfl, by omega, Or.inr ⟨i, by omega, h0, rfl⟩, ?_⟩, fun n => ?_⟩
          · intro r hr h
            by_cases e : r = i
            · rw [e]; exact Nat.le_refl _
            · have := v3 r (by omega) h; omega
          · have hg : ¬ 0 ≤ lg_cmp (lN (sd (q % (kw + 2)) (q / (kw + 2)) (i % (kw + 2)) (i / (kw + 2)))) (lN v) := fun c => hc ((lN_le (by omega) (by omega)).mp ((lg_cmp_ge _ _).mp c))
            rw [f_M_nearestWhite_L7, f_M_nearestWhite_L7_z, ar_eq, if_neg (nI_ge hi (by omega)), if_neg (nI_ge hi (by omega)), nI_clamp (by omega), if_pos h0, if_pos h0, far_eq (by omega) (by omega) (by omega), if_neg hg, if_neg hg, nI_1]
            exact ⟨rfl, fun hz => ⟨vi, zfar (by omega), zfar (by omega), hz⟩⟩
      · refine ⟨lN v, ⟨v, rfl, v1, ?_, ?_⟩, fun n => ?_⟩
        · rcases v2 with v2 | ⟨r, r1, r2⟩
          · exact Or.inl v2
          · exact Or.inr ⟨r, by omega, r2⟩
        · intro r hr h
          by_cases e : r = i
          · subst e; exact absurd h h0
          · exact v3 r (by omega) h
        · rw [f_M_nearestWhite_L7, f_M_nearestWhite_L7_z, ar_eq, if_neg (nI_ge hi (by omega)), if_neg (nI_ge hi (by omega)), nI_clamp (by omega), if_neg h0, if_neg h0, nI_1]
          exact ⟨rfl, fun hz => ⟨vi, hz⟩⟩)
    (s := lN 10000) ⟨10000, rfl, by omega, Or.inl rfl, fun r hr => by omega⟩
  obtain ⟨v, rfl, v1, v2, v3⟩ := hI
  have z0 : mf 0 = 0 := hM.2 0 (fun c => by have := inn_lt c; omega)
  have hpos : 0 < (kw + 2) * (kh + 2) := Nat.mul_pos (by omega) (by omega)
  have b0 := v3 0 hpos z0
  obtain ⟨o1, o2, -⟩ := hdm 0 hpos
  have b1 := sd_b (X0 := q % (kw + 2)) (X := 0 % (kw + 2)) (Y0 := q / (kw + 2)) (Y := 0 / (kw + 2)) (by omega) (by omega) (by omega) (by omega)
  refine ⟨v, ?_, ⟨?_, ?_⟩, ?_⟩
  · rw [f_M_nearestWhite]
    exact congrArg f_M_nearestWhite_k7 e
  · rcases v2 with v2 | ⟨r, r1, r2, r3⟩
    · omega
    · obtain ⟨t1, t2, t3⟩ := hdm r r1
      exact ⟨r % (kw + 2), r / (kw + 2), t1, t2, by rw [t3]; exact r2, r3⟩
  · intro X Y hX hY h
    have hr : Y * (kw + 2) + X < (kw + 2) * (kh + 2) := by
      have h1 : (Y + 1) * (kw + 2) ≤ (kh + 2) * (kw + 2) := Nat.mul_le_mul_right _ (by omega)
      rw [Nat.add_mul] at h1
      rw [Nat.mul_comm (kw + 2)]; omega
    have := v3 _ hr h
    rw [Nat.mul_comm, Nat.mul_add_mod, Nat.mod_eq_of_lt hX, Nat.mul_add_div (by omega), Nat.div_eq_of_lt hX, Nat.add_zero] at this
    exact this
  · refine ⟨hz, ?_⟩
    have e' : f_M_nearestWhite_L7 (nI kh) (nI (kw + 2)) mf (nI q) FU (0, 10000) = (nI ((kw + 2) * (kh + 2)), lN v) := e
    rw [e']; trivial
theorem mn_N {a b : Nat} (ha : a < 1000000000) (hb : b < 1000000000) : mn (nI a) (nI b) = nI (min a b) := by
  unfold mn
  by_cases h : b < a
  · rw [if_pos (nI_lt h (by omega)), Nat.min_eq_right (by omega)]
  · rw [if_neg (nI_nlt (by omega) (by omega)), Nat.min_eq_left (by omega)]
theorem cnear {kw kh : Nat} {sf mf : Nat → Int32} (hS : SM kw kh sf mf) (hw : 1 ≤ kw ∧ kw ≤ 24) (hh : 1 ≤ kh ∧ kh ≤ 24) {x y : Nat} (hx : x < kw) (hy : y < kh) : ∃ v, f_S_nearestWhite2 (nI kw) (nI kh) sf (nI x) (nI y) = lN v ∧ NW kw kh mf (x + 1) (y + 1) v := by
  have eb := hS.blk hw.2 hh.2 hx hy
  rw [f_S_nearestWhite2, eb]
  by_cases h0 : mf (lin kw x y) = 0
  · refine ⟨0, by rw [if_pos h0]; rfl, ⟨x + 1, y + 1, by omega, by omega, h0, ?_⟩, fun _ _ _ _ _ => Nat.zero_le _⟩
    unfold sd dd; simp
  rw [if_neg h0]
  obtain ⟨e, he⟩ : ∃ e, e = min (min (x + 1) (kw - x)) (min (y + 1) (kh - y)) := ⟨_, rfl⟩
  have ee : mn (mn (nI x + 1) (nI kw - nI x)) (mn (nI y + 1) (nI kh - nI y)) = nI e := by
    rw [nI_1, nI_1, pk_sub (by omega), pk_sub (by omega), mn_N (by omega) (by omega), mn_N (by omega) (by omega), mn_N (by omega) (by omega), he]
  rw [ee]
  have e1 : 1 ≤ e ∧ e ≤ x + 1 ∧ e + x ≤ kw ∧ e ≤ y + 1 ∧ e + y ≤ kh := by omega
  have e2 : e * e ≤ 24 * 24 := Nat.mul_le_mul (by omega) (by omega)
  have c0 : (1 : Int32) - nI e = cs (e - 1) 0 := by
    apply Int32.toInt_inj.mp
    rw [cs_toInt (by omega) (by omega), show (1 : Int32) = nI 1 from rfl, pk_sub_toInt (by omega) (by omega)]; omega
  have ct : ∀ i, i < 100 → (cs (e - 1) i).toInt = (i : Int) + 1 - e := fun i hi => by rw [cs_toInt (by omega) (by omega)]; omega
  have cle : ∀ i, i < 100 → (nI e ≤ cs (e - 1) i ↔ 2 * e ≤ i + 1) := fun i hi => by rw [i_le, ct i hi, nI_toInt (by omega)]; omega
  -- what holds with the rows before j done, and in row j the columns before i
  have key : ∃ s', f_S_nearestWhite2_L49 (nI kw) (nI kh) sf (nI x) (nI y) (nI e) FU (cs (e - 1) 0, nI e * nI e) = (cs (e - 1) (2 * e - 1), s') ∧ ∃ v, s' = nI v ∧ v ≤ e * e ∧ (∃ X Y, X < kw + 2 ∧ Y < kh + 2 ∧ mf (Y * (kw + 2) + X) = 0 ∧ v = sd (x + 1) (y + 1) X Y) ∧ ∀ X Y, X + e < x + 1 + 2 * e → x + 1 < X + e → Y + e < y + 2 + (2 * e - 1) → y + 1 < Y + e → mf (Y * (kw + 2) + X) = 0 → v ≤ sd (x + 1) (y + 1) X Y := by
    refine lsh (F := f_S_nearestWhite2_L49 (nI kw) (nI kh) sf (nI x) (nI y) (nI e)) (cs (e - 1)) (fun j s => ∃ v, s = nI v ∧ v ≤ e * e ∧ (∃ X Y, X < kw + 2 ∧ Y < kh + 2 ∧ mf (Y * (kw + 2) + X) = 0 ∧ v = sd (x + 1) (y + 1) X Y) ∧ ∀ X Y, X + e < x + 1 + 2 * e → x + 1 < X + e → Y + e < y + 2 + j → y + 1 < Y + e → mf (Y * (kw + 2) + X) = 0 → v ≤ sd (x + 1) (y + 1) X Y) (2 * e - 1) (by omega) ?_ ?_ ?_
    · intro s _ n
      rw [f_S_nearestWhite2_L49, if_pos ((cle _ (by omega)).mpr (by omega))]
    · intro j s hj hs
      obtain ⟨v0, rfl, a1, a2, a3⟩ := hs
      obtain ⟨s', es, v, rfl, b1, b2, b3⟩ := lsh (F := f_S_nearestWhite2_L60 (nI kw) (nI kh) sf (nI x) (nI y) (nI e) (cs (e - 1) j)) (cs (e - 1)) (fun i s => ∃ v, s = nI v ∧ v ≤ e * e ∧ (∃ X Y, X < kw + 2 ∧ Y < kh + 2 ∧ mf (Y * (kw + 2) + X) = 0 ∧ v = sd (x + 1) (y + 1) X Y) ∧ ∀ X Y, X + e < x + 1 + 2 * e → x + 1 < X + e → y + 1 < Y + e → (Y + e < y + 2 + j ∨ (Y + e = y + 2 + j ∧ X + e < x + 2 + i)) → mf (Y * (kw + 2) + X) = 0 → v ≤ sd (x + 1) (y + 1) X Y) (2 * e - 1) (by omega)
        (fun s _ n => by rw [f_S_nearestWhite2_L60, if_pos ((cle _ (by omega)).mpr (by omega))])
        (fun i s hi hs => by
          obtain ⟨v, rfl, b1, b2, b3⟩ := hs
          obtain ⟨X, hX⟩ : ∃ X, X + e = x + 2 + i := ⟨x + 2 + i - e, by omega⟩
          obtain ⟨Y, hY⟩ : ∃ Y, Y + e = y + 2 + j := ⟨y + 2 + j - e, by omega⟩
          have px : (nI x + cs (e - 1) i).toInt = (X : Int) - 1 := by rw [nx_toInt (by omega) (by rw [ct i (by omega)]; omega) (by rw [ct i (by omega)]; omega), ct i (by omega)]; omega
          have py : (nI y + cs (e - 1) j).toInt = (Y : Int) - 1 := by rw [nx_toInt (by omega) (by rw [ct j (by omega)]; omega) (by rw [ct j (by omega)]; omega), ct j (by omega)]; omega
          have ep := hS.pad hw.2 hh.2 (X := X) (Y := Y) (by omega) (by omega) px py
          have dx := dd_lt (n := 26) (a := x + 1) (b := X) (by omega) (by omega)
          have dy := dd_lt (n := 26) (a := y + 1) (b := Y) (by omega) (by omega)
          have ed : (cs (e - 1) i * cs (e - 1) i) + (cs (e - 1) j * cs (e - 1) j) = nI (sd (x + 1) (y + 1) X Y) := by
            rw [sq32 (k := dd (x + 1) X) (by omega) (by rw [ct i (by omega)]; have := dd_c (x + 1) X; omega), sq32 (k := dd (y + 1) Y) (by omega) (by rw [ct j (by omega)]; have := dd_c (y + 1) Y; omega), nI_add]; rfl
          have hb := sd_b (X0 := x + 1) (X := X) (Y0 := y + 1) (Y := Y) (by omega) (by omega) (by omega) (by omega)
          have hn : ¬ nI e ≤ cs (e - 1) i := fun c => by rw [cle i (by omega)] at c; omega
          by_cases hz : mf (Y * (kw + 2) + X) = 0
          · refine ⟨nI (min v (sd (x + 1) (y + 1) X Y)), ⟨_, rfl, by omega, ?_, ?_⟩, fun n => ?_⟩
            · by_cases hc : v ≤ sd (x + 1) (y + 1) X Y
              · rw [Nat.min_eq_left hc]; exact b2
              · rw [Nat.min_eq_right (by omega)]; exact ⟨X, Y, by omega, by omega, hz, rfl⟩
            · intro X' Y' g1 g2 g3 g4 g5
              by_cases g : X' = X ∧ Y' = Y
              · rw [g.1, g.2]; omega
              · have := b3 X' Y' g1 g2 g3 (by omega) g5; omega
            · rw [f_S_nearestWhite2_L60, if_neg hn, ep, if_pos hz, ed, mn_N (by omega) (by omega), cs_1 (by omega) (by omega)]
          · refine ⟨nI v, ⟨v, rfl, b1, b2, ?_⟩, fun n => ?_⟩
            · intro X' Y' g1 g2 g3 g4 g5
              by_cases g : X' = X ∧ Y' = Y
              · rw [g.1, g.2] at g5; exact absurd g5 hz
              · exact b3 X' Y' g1 g2 g3 (by omega) g5
            · rw [f_S_nearestWhite2_L60, if_neg hn, ep, if_neg hz, cs_1 (by omega) (by omega)])
        (s := nI v0) ⟨v0, rfl, a1, a2, fun X Y g1 g2 g3 g4 g5 => a3 X Y g1 g2 (by omega) g3 g5⟩
      have hn : ¬ nI e ≤ cs (e - 1) j := fun c => by rw [cle j (by omega)] at c; omega
      refine ⟨nI v, ⟨v, rfl, b1, b2, fun X Y g1 g2 g3 g4 g5 => b3 X Y g1 g2 g4 (by omega) g5⟩, fun n => ?_⟩
      rw [f_S_nearestWhite2_L49, if_neg hn, c0, es, f_S_nearestWhite2_k60, cs_1 (by omega) (by omega)]
    · refine ⟨e * e, pk_mul e e, Nat.le_refl _, ?_, fun X Y g1 g2 g3 g4 => by omega⟩
      -- the border, straight on
      have hb : ∀ X Y, X < kw + 2 → (X = 0 ∨ X = kw + 1 ∨ Y = 0 ∨ Y = kh + 1) → mf (Y * (kw + 2) + X) = 0 := by
        intro X Y hX h
        refine hS.2.2 _ ?_
        rintro ⟨x', y', hx', hy', e'⟩
        have h1 := lin_div (y := y') hx'
        have h2 := lin_mod (y := y') hx'
        rw [← e', Nat.mul_comm, Nat.mul_add_div (by omega), Nat.div_eq_of_lt hX] at h1
        rw [← e', Nat.mul_comm, Nat.mul_add_mod, Nat.mod_eq_of_lt hX] at h2
        omega
      have z : ∀ a, dd a a = 0 := fun a => by unfold dd; omega
      rcases (show e = x + 1 ∨ e = kw - x ∨ e = y + 1 ∨ e = kh - y by omega) with h | h | h | h
      · exact ⟨0, y + 1, by omega, by omega, hb _ _ (by omega) (Or.inl rfl), by unfold sd; rw [z, show dd (x + 1) 0 = e by unfold dd; omega]; omega⟩
      · exact ⟨kw + 1, y + 1, by omega, by omega, hb _ _ (by omega) (Or.inr (Or.inl rfl)), by unfold sd; rw [z, show dd (x + 1) (kw + 1) = e by unfold dd; omega]; omega⟩
      · exact ⟨x + 1, 0, by omega, by omega, hb _ _ (by omega) (Or.inr (Or.inr (Or.inl rfl))), by unfold sd; rw [z, show dd (y + 1) 0 = e by unfold dd; omega]; omega⟩
      · exact ⟨x + 1, kh + 1, by omega, by omega, hb _ _ (by omega) (Or.inr (Or.inr (Or.inr rfl))), by unfold sd; rw [z, show dd (y + 1) (kh + 1) = e by unfold dd; omega]; omega⟩
  obtain ⟨s', es, v, rfl, v1, v2, v3⟩ := key
  refine ⟨v, ?_, v2, ?_⟩
  · rw [f_S_nearestWhite2_t38, c0, es, f_S_nearestWhite2_k49, nI_l (by omega)]
  · intro X Y hX hY h
    by_cases g : X + e < x + 1 + 2 * e ∧ x + 1 < X + e ∧ Y + e < y + 1 + 2 * e ∧ y + 1 < Y + e
    · exact v3 X Y g.1 g.2.1 (by omega) g.2.2.2 h
    · have : e * e ≤ sd (x + 1) (y + 1) X Y := by
        unfold sd
        by_cases g2 : e ≤ dd (x + 1) X
        · have := Nat.mul_le_mul g2 g2; omega
        · have g3 : e ≤ dd (y + 1) Y := by unfold dd at *; omega
          have := Nat.mul_le_mul g3 g3; omega
      omega
/-- distance2, on both sides -/
theorem near_both {kw kh : Nat} {sf mf : Nat → Int32} (hS : SM kw kh sf mf) (hw : 1 ≤ kw ∧ kw ≤ 24) (hh : 1 ≤ kh ∧ kh ≤ 24) {x y : Nat} (hx : x < kw) (hy : y < kh) : ∃ v, v ≤ 1250 ∧ f_S_nearestWhite2 (nI kw) (nI kh) sf (nI x) (nI y) = lN v ∧ f_M_nearestWhite (nI kh) (nI (kw + 2)) mf (nI (lin kw x y)) = lN v ∧ z_M_nearestWhite (nI kh) (nI (kw + 2)) mf (nI (lin kw x y)) := by
  obtain ⟨v, e1, h1⟩ := cnear hS hw hh hx hy
  have hl := inn_lt (kh := kh) ⟨x, y, hx, hy, rfl⟩
  obtain ⟨w, e2, h2, h3⟩ := mnear hS.mf hw hh (q := lin kw x y) (by omega)
  rw [lin_div hx, lin_mod hx] at h2
  have e := h1.uniq h2
  subst e
  refine ⟨v, ?_, e1, e2, h3⟩
  obtain ⟨⟨X, Y, a, b, c, d⟩, -⟩ := h1
  have := sd_b (X0 := x + 1) (X := X) (Y0 := y + 1) (Y := Y) (by omega) (by omega) (by omega) (by omega)
  omega
