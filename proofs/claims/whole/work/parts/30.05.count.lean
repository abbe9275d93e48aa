/-! own: how many are black, on both sides -/
def cntb (p : Nat → Bool) : Nat → Nat
  | 0 => 0
  | n + 1 => cntb p n + if p n then 1 else 0
theorem cntb_add (p : Nat → Bool) (m : Nat) : ∀ n, cntb p (m + n) = cntb p m + cntb (fun j => p (m + j)) n
  | 0 => rfl
  | n + 1 => by
    rw [← Nat.add_assoc, cntb, cntb_add p m n, cntb]
    omega
theorem cntb_congr {p q : Nat → Bool} : ∀ {n : Nat}, (∀ j, j < n → p j = q j) → cntb p n = cntb q n
  | 0, _ => rfl
  | n + 1, h => by rw [cntb, cntb, cntb_congr (fun j hj => h j (by omega)), h n (by omega)]
theorem cntb_none {p : Nat → Bool} : ∀ {n : Nat}, (∀ j, j < n → p j = false) → cntb p n = 0
  | 0, _ => rfl
  | n + 1, h => by rw [cntb, cntb_none (fun j hj => h j (by omega)), h n (by omega)]; rfl
theorem cntb_le (p : Nat → Bool) : ∀ n, cntb p n ≤ n
  | 0 => Nat.le_refl _
  | n + 1 => by have := cntb_le p n; rw [cntb]; split <;> omega
theorem nI_and (a b : Nat) : nI a &&& nI b = nI (a &&& b) := by
  apply Int32.toBitVec_inj.mp
  rw [Int32.toBitVec_and]
  show BitVec.ofNat 32 a &&& BitVec.ofNat 32 b = BitVec.ofNat 32 (a &&& b)
  rw [BitVec.ofNat_and]
theorem and256 {a m c k : Nat} (ha : a < 256) (hc : c < 256) : (256 * m + a) &&& (256 * k + c) = 256 * (m &&& k) + (a &&& c) := by
  have e : (256 : Nat) = 2 ^ 8 := rfl
  have hac : a &&& c < 2 ^ 8 := Nat.and_lt_two_pow _ (by omega)
  rw [e]
  apply Nat.eq_of_testBit_eq
  intro i
  rw [Nat.testBit_and, Nat.testBit_two_pow_mul_add _ (by omega), Nat.testBit_two_pow_mul_add _ (by omega), Nat.testBit_two_pow_mul_add _ hac]
  by_cases h : i < 8
  · simp [h]
  · simp [h]
/-- the three bytes of a row -/
def by3 (f : Nat → Nat) (a b c : Nat) : Nat := 256 * (256 * f c + f b) + f a
def g1 (a : Nat) : Nat := a - ((a / 2) &&& 85)
def g2 (a : Nat) : Nat := (a &&& 51) + ((a / 4) &&& 51)
def g3 (a : Nat) : Nat := (a + a / 16) &&& 15
def pc8 (a : Nat) : Nat := cntb (fun j => a.testBit j) 8
theorem tb1 : ∀ a : Fin 256, ((a.val / 2) &&& 85) = ((128 + a.val / 2) &&& 85) ∧ ((a.val / 2) &&& 85) ≤ a.val ∧ g1 a.val < 256 := by decide +kernel
theorem tb2 : ∀ a : Fin 256, ((a.val / 4) &&& 51) = ((64 + a.val / 4) &&& 51) ∧ ((a.val / 4) &&& 51) = ((128 + a.val / 4) &&& 51) ∧ ((a.val / 4) &&& 51) = ((192 + a.val / 4) &&& 51) ∧ g2 a.val < 256 := by decide +kernel
theorem tb3 : ∀ a : Fin 256, g3 (g2 (g1 a.val)) = pc8 a.val ∧ pc8 a.val ≤ 8 ∧ g2 (g1 a.val) ≤ 68 ∧ g2 (g1 a.val) % 16 ≤ 4 := by decide +kernel
theorem tb4 : ∀ a : Fin 69, ∀ e : Fin 16, ((16 * e.val + (a.val + a.val / 16)) &&& 15) = g3 a.val := by decide +kernel
theorem d2 {a m : Nat} (ha : a < 256) : (256 * m + a) / 2 = 256 * (m / 2) + (128 * (m % 2) + a / 2) := by omega
theorem d4 {a m : Nat} (ha : a < 256) : (256 * m + a) / 4 = 256 * (m / 4) + (64 * (m % 4) + a / 4) := by omega
theorem p1_1 {a m K : Nat} (ha : a < 256) : ((256 * m + a) / 2) &&& (256 * K + 85) = 256 * ((m / 2) &&& K) + ((a / 2) &&& 85) := by
  rw [d2 ha, and256 (by omega) (by omega)]
  rcases Nat.mod_two_eq_zero_or_one m with e | e <;> rw [e]
  · simp
  · rw [(tb1 ⟨a, ha⟩).1]
theorem p2_1 {a m K : Nat} (ha : a < 256) : ((256 * m + a) / 4) &&& (256 * K + 51) = 256 * ((m / 4) &&& K) + ((a / 4) &&& 51) := by
  rw [d4 ha, and256 (by omega) (by omega)]
  obtain ⟨t1, t2, t3, -⟩ := tb2 ⟨a, ha⟩
  dsimp only at t1 t2 t3
  rcases (show m % 4 = 0 ∨ m % 4 = 1 ∨ m % 4 = 2 ∨ m % 4 = 3 by omega) with e | e | e | e <;> rw [e]
  · simp
  · rw [t1]
  · rw [t2]
  · rw [t3]
theorem step1 {a b c : Nat} (ha : a < 256) (hb : b < 256) (hc : c < 256) : by3 id a b c - ((by3 id a b c / 2) &&& 1431655765) = by3 g1 a b c ∧ ((by3 id a b c / 2) &&& 1431655765) ≤ by3 id a b c := by
  have e : ((by3 id a b c / 2) &&& 1431655765) = by3 (fun z => (z / 2) &&& 85) a b c := by
    unfold by3
    rw [show (1431655765 : Nat) = 256 * (256 * (256 * 85 + 85) + 85) + 85 from rfl]
    simp only [id]
    rw [p1_1 ha, p1_1 hb, show (256 * 85 + 85) = 256 * 85 + 85 from rfl]
    have := p1_1 (m := 0) (K := 85) hc
    simp only [Nat.mul_zero, Nat.zero_add, Nat.zero_div, Nat.zero_and] at this
    rw [this]
  have t1 := (tb1 ⟨a, ha⟩).2.1
  have t2 := (tb1 ⟨b, hb⟩).2.1
  have t3 := (tb1 ⟨c, hc⟩).2.1
  rw [e]
  unfold by3 g1
  simp only [id] at *
  omega
theorem step2 {a b c : Nat} (ha : a < 256) (hb : b < 256) (hc : c < 256) : (by3 id a b c &&& 858993459) + ((by3 id a b c / 4) &&& 858993459) = by3 g2 a b c := by
  have e : ((by3 id a b c / 4) &&& 858993459) = by3 (fun z => (z / 4) &&& 51) a b c := by
    unfold by3
    rw [show (858993459 : Nat) = 256 * (256 * (256 * 51 + 51) + 51) + 51 from rfl]
    simp only [id]
    rw [p2_1 ha, p2_1 hb]
    have := p2_1 (m := 0) (K := 51) hc
    simp only [Nat.mul_zero, Nat.zero_add, Nat.zero_div, Nat.zero_and] at this
    rw [this]
  have e2 : (by3 id a b c &&& 858993459) = by3 (fun z => z &&& 51) a b c := by
    unfold by3
    rw [show (858993459 : Nat) = 256 * (256 * (256 * 51 + 51) + 51) + 51 from rfl]
    simp only [id]
    rw [and256 ha (by omega), and256 hb (by omega)]
    have := and256 (m := 0) (k := 51) hc (show 51 < 256 by omega)
    simp only [Nat.mul_zero, Nat.zero_add, Nat.zero_and] at this
    rw [this]
  rw [e, e2]
  unfold by3 g2
  dsimp only
  omega
theorem step3 {a b c : Nat} (ha : a ≤ 68 ∧ a % 16 ≤ 4) (hb : b ≤ 68 ∧ b % 16 ≤ 4) (hc : c ≤ 68 ∧ c % 16 ≤ 4) : (by3 id a b c + by3 id a b c / 16) &&& 252645135 = by3 g3 a b c := by
  have s : by3 id a b c + by3 id a b c / 16 = 256 * (256 * (c + c / 16) + (16 * (c % 16) + (b + b / 16))) + (16 * (b % 16) + (a + a / 16)) := by
    unfold by3
    simp only [id]
    omega
  have ta := tb4 ⟨a, by omega⟩ ⟨b % 16, by omega⟩
  have tb := tb4 ⟨b, by omega⟩ ⟨c % 16, by omega⟩
  have tc := tb4 ⟨c, by omega⟩ ⟨0, by omega⟩
  dsimp only at ta tb tc
  rw [s, show (252645135 : Nat) = 256 * (256 * (256 * 15 + 15) + 15) + 15 from rfl, and256 (by omega) (by omega), and256 (by omega) (by omega), ta, tb]
  have := and256 (a := c + c / 16) (m := 0) (c := 15) (k := 15) (by omega) (by omega)
  simp only [Nat.mul_zero, Nat.zero_add, Nat.zero_and] at this tc
  rw [this, tc]
  rfl
theorem ush {n k : Nat} (h : n < 2147483648) (s : Int32) (hs : ((s.toUInt32 &&& Int32.toUInt32 31).toBitVec % 32).toNat = k) : ((nI n).toUInt32 >>> (s.toUInt32 &&& Int32.toUInt32 31)).toInt32 = nI (n / 2 ^ k) := pk_ushrN (by omega) s k hs
theorem by3_b {f : Nat → Nat} {a b c : Nat} (ha : f a < 256) (hb : f b < 256) (hc : f c < 256) : by3 f a b c < 16777216 := by unfold by3; omega
theorem by3_id (f : Nat → Nat) (a b c : Nat) : by3 id (f a) (f b) (f c) = by3 f a b c := rfl
theorem by3_comp (f g : Nat → Nat) (a b c : Nat) : by3 f (g a) (g b) (g c) = by3 (fun z => f (g z)) a b c := rfl
theorem bc_end {a b c : Nat} (ha : a ≤ 8) (hb : b ≤ 8) (hc : c ≤ 8) : (65536 * c + 256 * b + a + (65536 * c + 256 * b + a) / 256 + (65536 * c + 256 * b + a + (65536 * c + 256 * b + a) / 256) / 65536) % 2 ^ 6 = a + b + c := by
  have h1 : (65536 * c + 256 * b + a) / 256 = 256 * c + b := by omega
  rw [h1]
  have h2 : (65536 * c + 256 * b + a + (256 * c + b)) / 65536 = c := by omega
  rw [h2]
  omega
theorem bc3 {a b c : Nat} (ha : a < 256) (hb : b < 256) (hc : c < 256) : f_bitCount (nI (by3 id a b c)) = nI (pc8 a + pc8 b + pc8 c) := by
  have B0 : by3 id a b c < 16777216 := by3_b ha hb hc
  have A1 := (tb1 ⟨a, ha⟩).2.2
  have A2 := (tb1 ⟨b, hb⟩).2.2
  have A3 := (tb1 ⟨c, hc⟩).2.2
  dsimp only at A1 A2 A3
  have B1 : by3 g1 a b c < 16777216 := by3_b A1 A2 A3
  obtain ⟨P1, Q1, R1⟩ := tb3 ⟨a, ha⟩
  obtain ⟨P2, Q2, R2⟩ := tb3 ⟨b, hb⟩
  obtain ⟨P3, Q3, R3⟩ := tb3 ⟨c, hc⟩
  dsimp only at P1 Q1 R1 P2 Q2 R2 P3 Q3 R3
  have s1 := step1 ha hb hc
  have s2 := step2 A1 A2 A3
  have s3 := step3 R1 R2 R3
  rw [by3_id] at s2 s3
  rw [by3_comp g2 g1] at s2
  have B2 : by3 (fun z => g2 (g1 z)) a b c < 16777216 := by3_b (f := fun z => g2 (g1 z)) (by omega) (by omega) (by omega)
  have E4 : by3 g3 (g2 (g1 a)) (g2 (g1 b)) (g2 (g1 c)) = by3 pc8 a b c := by unfold by3; rw [P1, P2, P3]
  rw [show by3 (fun z => g2 (g1 z)) a b c = by3 id (g2 (g1 a)) (g2 (g1 b)) (g2 (g1 c)) from rfl] at s2 B2
  rw [f_bitCount, ush (k := 1) (by omega) 1 (by decide +kernel), show (1431655765 : Int32) = nI 1431655765 from rfl, nI_and, show (2 : Nat) ^ 1 = 2 from rfl, pk_sub s1.2, s1.1]
  rw [f_bitCount_t9, ush (k := 2) (by omega) 2 (by decide +kernel), show (858993459 : Int32) = nI 858993459 from rfl, nI_and, nI_and, show (2 : Nat) ^ 2 = 4 from rfl, nI_add, s2]
  rw [f_bitCount_t23, ush (k := 4) (by omega) 4 (by decide +kernel), show (252645135 : Int32) = nI 252645135 from rfl, show (2 : Nat) ^ 4 = 16 from rfl, nI_add, nI_and]
  rw [show (by3 id (g2 (g1 a)) (g2 (g1 b)) (g2 (g1 c)) + by3 id (g2 (g1 a)) (g2 (g1 b)) (g2 (g1 c)) / 16 &&& 252645135) = by3 pc8 a b c from s3.trans E4]
  have B4 : by3 pc8 a b c = 65536 * pc8 c + 256 * pc8 b + pc8 a := by unfold by3; omega
  rw [f_bitCount_t33, ush (k := 8) (by omega) 8 (by decide +kernel), show (2 : Nat) ^ 8 = 256 from rfl, nI_add]
  rw [f_bitCount_t40, ush (k := 16) (by omega) 16 (by decide +kernel), show (2 : Nat) ^ 16 = 65536 from rfl, nI_add]
  rw [f_bitCount_t47, pk_andN (by omega) 6 (by decide +kernel)]
  congr 1
  rw [B4]
  exact bc_end Q1 Q2 Q3
theorem bt_nI {n j : Nat} (hn : n < 4294967296) (hj : j < 32) : bt (nI n) j = n.testBit j := by
  show (BitVec.ofNat 32 n).getLsbD j = _
  rw [BitVec.getLsbD_ofNat]
  simp [hj]
theorem bc_row {v : Int32} (h : ∀ x, 24 ≤ x → bt v x = false) : f_bitCount v = nI (cntb (bt v) 24) := by
  have e0 : v = nI v.toBitVec.toNat := by
    apply Int32.toBitVec_inj.mp
    show _ = BitVec.ofNat 32 v.toBitVec.toNat
    rw [BitVec.ofNat_toNat]; simp
  have hlt : v.toBitVec.toNat < 2 ^ 24 := Nat.lt_pow_two_of_testBit _ (fun i hi => h i hi)
  generalize hn : v.toBitVec.toNat = n at e0 hlt
  have hb : ∀ j, bt v j = n.testBit j := fun j => by rw [← hn]; rfl
  have e1 : n = by3 id (n % 256) (n / 256 % 256) (n / 65536) := by unfold by3; simp only [id]; omega
  rw [e0, e1, bc3 (by omega) (by omega) (by omega), ← e1, ← e0]
  congr 1
  rw [show (24 : Nat) = 8 + (8 + 8) from rfl, cntb_add, cntb_add]
  have k1 : pc8 (n % 256) = cntb (bt v) 8 := cntb_congr (fun j hj => by
    rw [hb, show (256 : Nat) = 2 ^ 8 from rfl, Nat.testBit_mod_two_pow]; simp [hj])
  have k2 : pc8 (n / 256 % 256) = cntb (fun j => bt v (8 + j)) 8 := cntb_congr (fun j hj => by
    rw [hb, show (256 : Nat) = 2 ^ 8 from rfl, Nat.testBit_mod_two_pow, Nat.testBit_div_two_pow, Nat.add_comm j 8]; simp [hj])
  have k3 : pc8 (n / 65536) = cntb (fun j => bt v (8 + (8 + j))) 8 := cntb_congr (fun j hj => by
    rw [hb, show (65536 : Nat) = 2 ^ 16 from rfl, Nat.testBit_div_two_pow, show j + 16 = 8 + (8 + j) by omega])
  rw [k1, k2, k3]
  omega
/-- the sum of the rows -/
def sumn (f : Nat → Nat) : Nat → Nat
  | 0 => 0
  | n + 1 => sumn f n + f n
theorem sumn_congr {f g : Nat → Nat} : ∀ {n : Nat}, (∀ j, j < n → f j = g j) → sumn f n = sumn g n
  | 0, _ => rfl
  | n + 1, h => by rw [sumn, sumn, sumn_congr (fun j hj => h j (by omega)), h n (by omega)]
theorem sumn_le {f : Nat → Nat} {c : Nat} : ∀ {n : Nat}, (∀ j, j < n → f j ≤ c) → sumn f n ≤ n * c
  | 0, _ => by simp [sumn]
  | n + 1, h => by
    have h1 := sumn_le (n := n) (fun j hj => h j (by omega))
    have h2 := h n (by omega)
    rw [sumn, Nat.add_mul]; omega
theorem sumn_head (f : Nat → Nat) : ∀ n, sumn f (n + 1) = f 0 + sumn (fun j => f (j + 1)) n
  | 0 => by simp [sumn]
  | n + 1 => by rw [sumn, sumn_head f n, sumn]; omega
theorem cntb_rows (p : Nat → Bool) (W : Nat) : ∀ a, cntb p (a * W) = sumn (fun Y => cntb (fun X => p (Y * W + X)) W) a
  | 0 => by rw [Nat.zero_mul]; rfl
  | a + 1 => by rw [Nat.add_mul, Nat.one_mul, cntb_add, cntb_rows p W a, sumn]
/-- how many are black in the reference's array -/
def blacks (kw kh : Nat) (mf : Nat → Int32) : Nat := cntb (fun q => decide (mf q ≠ 0)) ((kw + 2) * (kh + 2))
theorem SM.count {kw kh : Nat} {sf mf : Nat → Int32} (h : SM kw kh sf mf) (hw : kw ≤ 24) : blacks kw kh mf = sumn (fun y => cntb (bt (sf y)) 24) kh := by
  unfold blacks
  rw [Nat.mul_comm, cntb_rows, sumn, sumn_head]
  have z0 : cntb (fun X => decide (mf (0 * (kw + 2) + X) ≠ 0)) (kw + 2) = 0 := cntb_none (fun X hX => by
    simp only [decide_eq_false_iff_not, Decidable.not_not]
    refine h.2.2 _ ?_
    rintro ⟨x, y, hx, hy, e⟩
    have : kw + 2 ≤ lin kw x y := by unfold lin; rw [Nat.add_mul]; omega
    omega)
  have z1 : cntb (fun X => decide (mf ((kh + 1) * (kw + 2) + X) ≠ 0)) (kw + 2) = 0 := cntb_none (fun X hX => by
    simp only [decide_eq_false_iff_not, Decidable.not_not]
    refine h.2.2 _ ?_
    rintro ⟨x, y, hx, hy, e⟩
    have h1 := lin_div (y := y) hx
    rw [← e, Nat.mul_comm, Nat.mul_add_div (by omega), Nat.div_eq_of_lt hX] at h1
    omega)
  rw [z0, z1, Nat.zero_add, Nat.add_zero]
  refine sumn_congr (fun y hy => ?_)
  rw [show kw + 2 = 1 + (kw + 1) by omega, cntb_add, cntb]
  have w0 : decide (mf ((y + 1) * (1 + (kw + 1)) + 0) ≠ 0) = false := by
    simp only [decide_eq_false_iff_not, Decidable.not_not]
    refine h.2.2 _ ?_
    rintro ⟨x, y', hx, hy', e⟩
    have h2 := lin_mod (y := y') hx
    rw [← e, show 1 + (kw + 1) = kw + 2 by omega, Nat.mul_comm, Nat.mul_add_mod] at h2
    simp at h2
  have w1 : decide (mf ((y + 1) * (1 + (kw + 1)) + (1 + kw)) ≠ 0) = false := by
    simp only [decide_eq_false_iff_not, Decidable.not_not]
    refine h.2.2 _ ?_
    rintro ⟨x, y', hx, hy', e⟩
    have h2 := lin_mod (y := y') hx
    rw [← e, show 1 + (kw + 1) = kw + 2 by omega, Nat.mul_comm, Nat.mul_add_mod, Nat.mod_eq_of_lt (by omega)] at h2
    omega
  rw [show cntb (fun X => decide (mf ((y + 1) * (1 + (kw + 1)) + X) ≠ 0)) 0 = 0 from rfl, w0, cntb, w1]
  rw [show (24 : Nat) = kw + (24 - kw) by omega, cntb_add]
  rw [cntb_none (p := fun j => bt (sf y) (kw + j)) (fun j hj => h.1 y hy _ (by omega))]
  rw [cntb_congr (q := bt (sf y)) (fun x hx => by
    have e := h.2.1 x y hx hy
    rw [show (y + 1) * (1 + (kw + 1)) + (1 + x) = lin kw x y by unfold lin; rw [show 1 + (kw + 1) = kw + 2 by omega]; omega, e]
    cases bt (sf y) x <;> decide)]
  simp
theorem ccount {kw kh : Nat} {sf mf : Nat → Int32} (h : SM kw kh sf mf) (hw : kw ≤ 24) (hh : kh ≤ 24) : f_S_blackCount kh sf = nI (blacks kw kh mf) := by
  obtain ⟨s', e, hI⟩ := lu_0 (F := f_S_blackCount_L4 kh sf) (fun i s => s = nI (sumn (fun y => cntb (bt (sf y)) 24) i)) kh (by omega)
    (fun s _ n => by rw [f_S_blackCount_L4, if_pos (nI_le (Nat.le_refl _) (by omega))])
    (fun i s hi hs => by
      refine ⟨_, rfl, fun n => ?_⟩
      rw [f_S_blackCount_L4, if_neg (nI_ge hi (by omega)), nI_clamp (by omega), nI_1, bc_row (fun x hx => h.1 i hi x (by omega)), hs, nI_add]
      rfl)
    (s := 0) rfl
  rw [f_S_blackCount, e, h.count hw]
  exact hI
theorem told_loop {kw kh : Nat} (hw : kw ≤ 24) (hh : kh ≤ 24) (mpf mlf : Nat → Int32) : f_M_told_L12 (nI kh) (nI (kw + 2)) mpf mlf FU (0, 0, 0) = (nI ((kw + 2) * (kh + 2)), nI (blacks kw kh mlf), nI (blacks kw kh mpf)) ∧ f_M_told_L12_z (nI kh) (nI (kw + 2)) mpf mlf FU (0, 0, 0) := by
  have ha := ar_le hw hh
  obtain ⟨s', e, hI, hz⟩ := lu_0z (F := f_M_told_L12 (nI kh) (nI (kw + 2)) mpf mlf) (Fz := f_M_told_L12_z (nI kh) (nI (kw + 2)) mpf mlf) (fun i s => s = (nI (cntb (fun q => decide (mlf q ≠ 0)) i), nI (cntb (fun q => decide (mpf q ≠ 0)) i))) ((kw + 2) * (kh + 2)) (by omega)
    (fun s _ n => by
      obtain ⟨a, b⟩ := s
      rw [f_M_told_L12, f_M_told_L12_z, ar_eq, if_pos (nI_le (Nat.le_refl _) (by omega)), if_pos (nI_le (Nat.le_refl _) (by omega))]
      exact ⟨rfl, trivial⟩)
    (fun i s hi hs => by
      refine ⟨_, rfl, fun n => ?_⟩
      subst hs
      have v : vp_in (nI i) 676 := vp_in_nI (by omega) (by omega)
      rw [f_M_told_L12, f_M_told_L12_z, ar_eq, if_neg (nI_ge hi (by omega)), if_neg (nI_ge hi (by omega)), nI_clamp (by omega), nI_1]
      rw [cntb, cntb]
      by_cases h1 : mpf i = 0
      · by_cases h2 : mlf i = 0
        · simp only [if_pos h1, if_pos h2, h1, h2, ne_eq, not_true, decide_false, Int32.add_zero, Nat.add_zero, Bool.false_eq_true, if_false, if_true]
          exact ⟨trivial, fun hz => ⟨v, v, hz⟩⟩
        · simp only [if_pos h1, if_neg h2, h1, h2, ne_eq, not_true, not_false_eq_true, decide_false, decide_true, Int32.add_zero, Nat.add_zero, Bool.false_eq_true, if_false, if_true, nI_1]
          exact ⟨trivial, fun hz => ⟨v, v, hz⟩⟩
      · by_cases h2 : mlf i = 0
        · simp only [if_neg h1, if_pos h2, h1, h2, ne_eq, not_true, not_false_eq_true, decide_false, decide_true, Int32.add_zero, Nat.add_zero, Bool.false_eq_true, if_false, if_true, nI_1]
          exact ⟨trivial, fun hz => ⟨v, v, hz⟩⟩
        · simp only [if_neg h1, if_neg h2, h1, h2, ne_eq, not_true, not_false_eq_true, decide_false, decide_true, Int32.add_zero, Nat.add_zero, Bool.false_eq_true, if_false, if_true, nI_1]
          exact ⟨trivial, fun hz => ⟨v, v, hz⟩⟩)
    (s := (0, 0)) rfl
  rw [hI] at e
  exact ⟨e, hz⟩
