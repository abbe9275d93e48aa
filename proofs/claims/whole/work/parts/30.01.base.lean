/-! own: the pure part: loops, bits of rows, places -/
theorem lw_z {S : Type} {F : Nat → S → S} {Fz : Nat → S → Prop} (I Q : S → Prop) (μ : S → Nat)
    (h : ∀ s, I s → (Q s ∧ ∀ n, F (n + 1) s = s ∧ Fz (n + 1) s) ∨ ∃ s', I s' ∧ μ s' < μ s ∧ ∀ n, F (n + 1) s = F n s' ∧ (Fz n s' → Fz (n + 1) s)) :
    ∀ n s, μ s < n → I s → Q (F n s) ∧ Fz n s := by
  intro n
  induction n with
  | zero => intro s h0; omega
  | succ n ih =>
    intro s hm hI
    rcases h s hI with ⟨hq, he⟩ | ⟨s', hI', hm', hs⟩
    · rw [(he n).1]; exact ⟨hq, (he n).2⟩
    · obtain ⟨a, b⟩ := ih s' (by omega) hI'
      rw [(hs n).1]; exact ⟨a, (hs n).2 b⟩
theorem lu_z {S : Type} {F : Nat → Int32 × S → Int32 × S} {Fz : Nat → Int32 × S → Prop} (I : Nat → S → Prop) (b : Nat)
    (he : ∀ s, I b s → ∀ n, F (n + 1) (nI b, s) = (nI b, s) ∧ Fz (n + 1) (nI b, s)) {a : Nat}
    (hs : ∀ i s, a ≤ i → i < b → I i s → ∃ s', I (i + 1) s' ∧ ∀ n, F (n + 1) (nI i, s) = F n (nI (i + 1), s') ∧ (Fz n (nI (i + 1), s') → Fz (n + 1) (nI i, s))) (hab : a ≤ b)
    {n : Nat} (hn : b - a < n) {s : S} (h0 : I a s) : ∃ s', F n (nI a, s) = (nI b, s') ∧ I b s' ∧ Fz n (nI a, s) := by
  have key : ∀ k c n s, a ≤ c → c + k = b → k < n → I c s → ∃ s', F n (nI c, s) = (nI b, s') ∧ I b s' ∧ Fz n (nI c, s) := by
    intro k
    induction k with
    | zero =>
      intro c n s hac hc hk hI
      obtain ⟨n, rfl⟩ : ∃ m, n = m + 1 := ⟨n - 1, by omega⟩
      have e : c = b := by omega
      subst e
      exact ⟨s, (he s hI n).1, hI, (he s hI n).2⟩
    | succ k ih =>
      intro c n s hac hc hk hI
      obtain ⟨n, rfl⟩ : ∃ m, n = m + 1 := ⟨n - 1, by omega⟩
      obtain ⟨s', hI', hn'⟩ := hs c s hac (by omega) hI
      obtain ⟨s2, e2, I2, z2⟩ := ih (c + 1) n s' (by omega) (by omega) (by omega) hI'
      exact ⟨s2, (hn' n).1.trans e2, I2, (hn' n).2 z2⟩
  exact key (b - a) a n s (Nat.le_refl a) (by omega) hn h0
theorem lt_FU {k : Nat} (h : k < 2147483648) : k < FU := by unfold FU; omega
/-- from 0, without a safety -/
theorem lu_0 {S : Type} {F : Nat → Int32 × S → Int32 × S} (I : Nat → S → Prop) (b : Nat) (hb : b < 2147483648)
    (he : ∀ s, I b s → ∀ n, F (n + 1) (nI b, s) = (nI b, s))
    (hs : ∀ i s, i < b → I i s → ∃ s', I (i + 1) s' ∧ ∀ n, F (n + 1) (nI i, s) = F n (nI (i + 1), s')) {s : S} (h0 : I 0 s) : ∃ s', F FU (0, s) = (nI b, s') ∧ I b s' := by
  obtain ⟨s', e, h, -⟩ := lu_z (F := F) (Fz := fun _ _ => True) I b (fun s h n => ⟨he s h n, trivial⟩) (a := 0) (fun i s _ hi h => by
    obtain ⟨s', h1, h2⟩ := hs i s hi h
    exact ⟨s', h1, fun n => ⟨h2 n, fun _ => trivial⟩⟩) (Nat.zero_le _) (n := FU) (lt_FU (by omega)) h0
  rw [nI_0] at e
  exact ⟨s', e, h⟩
/-- from 0, with a safety -/
theorem lu_0z {S : Type} {F : Nat → Int32 × S → Int32 × S} {Fz : Nat → Int32 × S → Prop} (I : Nat → S → Prop) (b : Nat) (hb : b < 2147483648)
    (he : ∀ s, I b s → ∀ n, F (n + 1) (nI b, s) = (nI b, s) ∧ Fz (n + 1) (nI b, s))
    (hs : ∀ i s, i < b → I i s → ∃ s', I (i + 1) s' ∧ ∀ n, F (n + 1) (nI i, s) = F n (nI (i + 1), s') ∧ (Fz n (nI (i + 1), s') → Fz (n + 1) (nI i, s))) {s : S} (h0 : I 0 s) : ∃ s', F FU (0, s) = (nI b, s') ∧ I b s' ∧ Fz FU (0, s) := by
  have := lu_z (F := F) (Fz := Fz) I b he (a := 0) (fun i s _ hi h => hs i s hi h) (Nat.zero_le _) (n := FU) (lt_FU (by omega)) h0
  rw [nI_0] at this
  exact this
/-- bit x of a row -/
def bt (v : Int32) (x : Nat) : Bool := v.toBitVec.getLsbD x
theorem sm31 : ∀ x : Fin 32, ((nI x.val &&& 31).toBitVec.smod 32).toNat = x.val := by decide
theorem sm31' {x : Nat} (h : x < 32) : ((nI x &&& 31).toBitVec.smod 32).toNat = x := sm31 ⟨x, h⟩
theorem bt_iff {v s : Int32} {x : Nat} (hs : (s.toBitVec.smod 32).toNat = x) (hx : x < 32) : (v >>> s) &&& 1 = 0 ↔ bt v x = false := by
  have e : (v >>> s).toBitVec = v.toBitVec.sshiftRight x := by
    show v.toBitVec.sshiftRight (s.toBitVec.smod 32).toNat = _
    rw [hs]
  rw [← Int32.toBitVec_inj, Int32.toBitVec_and, e]
  show v.toBitVec.sshiftRight x &&& 1#32 = 0#32 ↔ _
  unfold bt
  have g0 : (v.toBitVec.sshiftRight x).getLsbD 0 = v.toBitVec.getLsbD x := by
    rw [BitVec.getLsbD_sshiftRight, if_pos (by omega), Nat.add_zero]
    rfl
  constructor
  · intro h
    have t := congrArg (fun z => z.getLsbD 0) h
    rw [BitVec.getLsbD_and, g0] at t
    simpa using t
  · intro h
    apply BitVec.eq_of_getLsbD_eq
    intro i hi
    rw [BitVec.getLsbD_and]
    by_cases hi0 : i = 0
    · subst hi0
      rw [g0, h]
      simp
    · simp [BitVec.getLsbD_one, hi0]
theorem bt_one {s : Int32} {x j : Nat} (hs : (s.toBitVec.smod 32).toNat = x) (hx : x < 32) (hj : j < 32) : bt (1 <<< s) j = decide (j = x) := by
  have e : ((1 : Int32) <<< s).toBitVec = 1#32 <<< x := by
    show (1#32) <<< (s.toBitVec.smod 32) = _
    rw [BitVec.shiftLeft_eq', hs]
  unfold bt
  rw [e, BitVec.getLsbD_shiftLeft, BitVec.getLsbD_one]
  by_cases h : j = x
  · subst h; simp [hj]
  · by_cases h2 : j < x
    · simp [h, h2]
    · have : ¬ j - x = 0 := by omega
      simp [h, this]
theorem bt_or (v w : Int32) (j : Nat) : bt (v ||| w) j = (bt v j || bt w j) := by unfold bt; rw [Int32.toBitVec_or, BitVec.getLsbD_or]
theorem bt_and (v w : Int32) (j : Nat) : bt (v &&& w) j = (bt v j && bt w j) := by unfold bt; rw [Int32.toBitVec_and, BitVec.getLsbD_and]
theorem bt_xor (v w : Int32) (j : Nat) : bt (v ^^^ w) j = (bt v j ^^ bt w j) := by unfold bt; rw [Int32.toBitVec_xor, BitVec.getLsbD_xor]
theorem bt_0 (j : Nat) : bt 0 j = false := by
  show (0#32).getLsbD j = false
  simp
theorem bt_m1 {j : Nat} (hj : j < 32) : bt (-1) j = true := by
  have h : ∀ j : Fin 32, bt (-1) j.val = true := by decide
  exact h ⟨j, hj⟩
theorem bt_big (v : Int32) {j : Nat} (hj : 32 ≤ j) : bt v j = false := BitVec.getLsbD_of_ge _ _ hj
theorem bt_not {s : Int32} {x j : Nat} (hs : (s.toBitVec.smod 32).toNat = x) (hx : x < 32) (hj : j < 32) : bt ((1 <<< s) ^^^ (-1)) j = !decide (j = x) := by
  rw [bt_xor, bt_one hs hx hj, bt_m1 hj]; simp
theorem bt_ext {v w : Int32} (h : ∀ j, j < 32 → bt v j = bt w j) : v = w := Int32.toBitVec_inj.mp (BitVec.eq_of_getLsbD_eq (fun i hi => h i hi))
theorem has_eq {kw kh : Nat} (hw : kw < 2147483648) (hh : kh < 2147483648) (px py : Int32) : f_S_has (nI kw) (nI kh) px py = if 0 ≤ px.toInt ∧ px.toInt < kw ∧ 0 ≤ py.toInt ∧ py.toInt < kh then 1 else 0 := by
  unfold f_S_has
  simp only [i_lt, i_0, i_le, nI_toInt hw, nI_toInt hh]
  by_cases h1 : px.toInt < 0
  · rw [if_pos h1, if_neg (by omega)]
  rw [if_neg h1]
  by_cases h2 : (kw : Int) ≤ px.toInt
  · rw [if_pos h2, if_neg (by omega)]
  rw [if_neg h2]
  by_cases h3 : py.toInt < 0
  · rw [if_pos h3, if_neg (by omega)]
  rw [if_neg h3]
  by_cases h4 : (kh : Int) ≤ py.toInt
  · rw [if_pos h4, if_neg (by omega)]
  rw [if_neg h4, if_pos (by omega)]
theorem blk_in {kw kh x y : Nat} (hw : kw ≤ 24) (hh : kh ≤ 24) (hx : x < kw) (hy : y < kh) (sf : Nat → Int32) : f_S_isBlack (nI kw) (nI kh) sf (nI x) (nI y) = if bt (sf y) x then 1 else 0 := by
  unfold f_S_isBlack
  rw [has_eq (by omega) (by omega), nI_toInt (by omega), nI_toInt (by omega), if_pos (by omega : (0 : Int) ≤ x ∧ (x : Int) < kw ∧ (0 : Int) ≤ y ∧ (y : Int) < kh), if_neg (by decide), nI_clamp (by omega)]
  cases hb : bt (sf y) x with
  | false => rw [if_pos ((bt_iff (sm31' (by omega)) (by omega)).mpr hb)]; rfl
  | true => rw [if_neg (fun h => by rw [(bt_iff (sm31' (by omega)) (by omega)).mp h] at hb; cases hb)]; rfl
theorem blk_out {kw kh : Nat} (hw : kw ≤ 24) (hh : kh ≤ 24) {px py : Int32} (h : ¬ (0 ≤ px.toInt ∧ px.toInt < kw ∧ 0 ≤ py.toInt ∧ py.toInt < kh)) (sf : Nat → Int32) : f_S_isBlack (nI kw) (nI kh) sf px py = 0 := by
  unfold f_S_isBlack
  rw [has_eq (by omega) (by omega), if_neg h, if_pos rfl]
/-- the reference's place of a sample -/
abbrev lin (kw x y : Nat) : Nat := (y + 1) * (kw + 2) + (x + 1)
theorem lin_div {kw x y : Nat} (hx : x < kw) : lin kw x y / (kw + 2) = y + 1 := by
  unfold lin
  rw [Nat.mul_comm, Nat.mul_add_div (by omega), Nat.div_eq_of_lt (by omega)]
theorem lin_mod {kw x y : Nat} (hx : x < kw) : lin kw x y % (kw + 2) = x + 1 := by
  unfold lin
  rw [Nat.mul_comm, Nat.mul_add_mod, Nat.mod_eq_of_lt (by omega)]
theorem lin_inj {kw x y x' y' : Nat} (hx : x < kw) (hx' : x' < kw) (h : lin kw x y = lin kw x' y') : x = x' ∧ y = y' := by
  have h1 := lin_div (y := y) hx
  have h2 := lin_div (y := y') hx'
  have h3 := lin_mod (y := y) hx
  have h4 := lin_mod (y := y') hx'
  rw [h] at h1 h3
  omega
def inn (kw kh q : Nat) : Prop := ∃ x y, x < kw ∧ y < kh ∧ q = lin kw x y
theorem inn_lt {kw kh q : Nat} (h : inn kw kh q) : kw + 3 ≤ q ∧ q + (kw + 3) < (kw + 2) * (kh + 2) := by
  obtain ⟨x, y, hx, hy, rfl⟩ := h
  unfold lin
  have h1 : (y + 1) * (kw + 2) ≤ kh * (kw + 2) := Nat.mul_le_mul_right _ (by omega)
  have h2 : (kw + 2) * (kh + 2) = kh * (kw + 2) + 2 * (kw + 2) := by rw [Nat.mul_comm, Nat.add_mul]
  have h3 : (y + 1) * (kw + 2) = y * (kw + 2) + (kw + 2) := by rw [Nat.add_mul, Nat.one_mul]
  omega
theorem ar_le {kw kh : Nat} (hw : kw ≤ 24) (hh : kh ≤ 24) : (kw + 2) * (kh + 2) ≤ 676 := Nat.mul_le_mul (by omega : kw + 2 ≤ 26) (by omega : kh + 2 ≤ 26)
/-- a Samples' rows beside the reference's array -/
def SM (kw kh : Nat) (sf mf : Nat → Int32) : Prop :=
  (∀ y, y < kh → ∀ x, kw ≤ x → bt (sf y) x = false) ∧ (∀ x y, x < kw → y < kh → mf (lin kw x y) = if bt (sf y) x then 1 else 0) ∧ ∀ q, ¬ inn kw kh q → mf q = 0
theorem SM.b01 {kw kh : Nat} {sf mf : Nat → Int32} (h : SM kw kh sf mf) (q : Nat) : mf q = 0 ∨ mf q = 1 := by
  by_cases hq : inn kw kh q
  · obtain ⟨x, y, hx, hy, rfl⟩ := hq
    rw [h.2.1 x y hx hy]
    cases bt (sf y) x <;> simp
  · exact Or.inl (h.2.2 q hq)
theorem SM.blk {kw kh : Nat} {sf mf : Nat → Int32} (h : SM kw kh sf mf) (hw : kw ≤ 24) (hh : kh ≤ 24) {x y : Nat} (hx : x < kw) (hy : y < kh) : f_S_isBlack (nI kw) (nI kh) sf (nI x) (nI y) = mf (lin kw x y) := by
  rw [blk_in hw hh hx hy, h.2.1 x y hx hy]
/-- the same with a border of one round about -/
theorem SM.pad {kw kh : Nat} {sf mf : Nat → Int32} (h : SM kw kh sf mf) (hw : kw ≤ 24) (hh : kh ≤ 24) {X Y : Nat} (hX : X < kw + 2) (hY : Y < kh + 2) {px py : Int32} (ex : px.toInt = (X : Int) - 1) (ey : py.toInt = (Y : Int) - 1) : f_S_isBlack (nI kw) (nI kh) sf px py = mf (Y * (kw + 2) + X) := by
  by_cases hi : 1 ≤ X ∧ X ≤ kw ∧ 1 ≤ Y ∧ Y ≤ kh
  · have e1 : px = nI (X - 1) := Int32.toInt_inj.mp (by rw [ex, nI_toInt (by omega)]; omega)
    have e2 : py = nI (Y - 1) := Int32.toInt_inj.mp (by rw [ey, nI_toInt (by omega)]; omega)
    rw [e1, e2, h.blk hw hh (by omega) (by omega)]
    unfold lin
    rw [show X - 1 + 1 = X by omega, show Y - 1 + 1 = Y by omega]
  · rw [blk_out hw hh (by omega), h.2.2]
    rintro ⟨x, y, hx, hy, e⟩
    have h1 := lin_div (y := y) hx
    have h2 := lin_mod (y := y) hx
    rw [← e, Nat.mul_comm, Nat.mul_add_div (by omega), Nat.div_eq_of_lt hX] at h1
    rw [← e, Nat.mul_comm, Nat.mul_add_mod, Nat.mod_eq_of_lt hX] at h2
    omega
/-- the neighbour in direction d -/
def nbr (W q d : Nat) : Nat := match d with | 0 => q - W | 1 => q - W + 1 | 2 => q + 1 | 3 => q + W + 1 | 4 => q + W | 5 => q + W - 1 | 6 => q - 1 | _ => q - W - 1
theorem i_m1 : (-1 : Int32).toInt = -1 := by decide
