/-! own: the eight round about, on both sides -/
theorem nx_toInt {x : Nat} {c : Int32} (hx : x < 100000) (h1 : -100000 ≤ c.toInt) (h2 : c.toInt ≤ 100000) : (nI x + c).toInt = (x : Int) + c.toInt := by
  rw [i_add (by rw [nI_toInt (by omega)]; omega) (by rw [nI_toInt (by omega)]; omega), nI_toInt (by omega)]
theorem c8 {P : Nat → Prop} (h0 : P 0) (h1 : P 1) (h2 : P 2) (h3 : P 3) (h4 : P 4) (h5 : P 5) (h6 : P 6) (h7 : P 7) : ∀ d : Nat, d < 8 → P d := fun d hd => by
  rcases (show d = 0 ∨ d = 1 ∨ d = 2 ∨ d = 3 ∨ d = 4 ∨ d = 5 ∨ d = 6 ∨ d = 7 by omega) with rfl | rfl | rfl | rfl | rfl | rfl | rfl | rfl <;> assumption
theorem rx_b : ∀ d : Fin 8, -1 ≤ (ts_rx d.val).toInt ∧ (ts_rx d.val).toInt ≤ 1 ∧ -1 ≤ (ts_ry d.val).toInt ∧ (ts_ry d.val).toInt ≤ 1 := by decide
/-- the neighbour's place, with a border of one -/
theorem nb_pad {kw kh x y : Nat} (hx : x < kw) (hy : y < kh) : ∀ d : Nat, d < 8 → ∃ X Y : Nat, X < kw + 2 ∧ Y < kh + 2 ∧ (X : Int) = (x : Int) + 1 + (ts_rx d).toInt ∧ (Y : Int) = (y : Int) + 1 + (ts_ry d).toInt ∧ Y * (kw + 2) + X = nbr (kw + 2) (lin kw x y) d := by
  have e1 : (y + 1) * (kw + 2) = y * (kw + 2) + (kw + 2) := by rw [Nat.add_mul, Nat.one_mul]
  have e2 : (y + 2) * (kw + 2) = y * (kw + 2) + 2 * (kw + 2) := by rw [Nat.add_mul]
  refine c8 ?_ ?_ ?_ ?_ ?_ ?_ ?_ ?_
  · refine ⟨x + 1, y, by omega, by omega, ?_, ?_, ?_⟩
    · rw [show (ts_rx 0).toInt = 0 from by decide]; omega
    · rw [show (ts_ry 0).toInt = -1 from by decide]; omega
    · simp only [nbr, lin]; omega
  · refine ⟨x + 2, y, by omega, by omega, ?_, ?_, ?_⟩
    · rw [show (ts_rx 1).toInt = 1 from by decide]; omega
    · rw [show (ts_ry 1).toInt = -1 from by decide]; omega
    · simp only [nbr, lin]; omega
  · refine ⟨x + 2, y + 1, by omega, by omega, ?_, ?_, ?_⟩
    · rw [show (ts_rx 2).toInt = 1 from by decide]; omega
    · rw [show (ts_ry 2).toInt = 0 from by decide]; omega
    · simp only [nbr, lin]; omega
  · refine ⟨x + 2, y + 2, by omega, by omega, ?_, ?_, ?_⟩
    · rw [show (ts_rx 3).toInt = 1 from by decide]; omega
    · rw [show (ts_ry 3).toInt = 1 from by decide]; omega
    · simp only [nbr, lin]; omega
  · refine ⟨x + 1, y + 2, by omega, by omega, ?_, ?_, ?_⟩
    · rw [show (ts_rx 4).toInt = 0 from by decide]; omega
    · rw [show (ts_ry 4).toInt = 1 from by decide]; omega
    · simp only [nbr, lin]; omega
  · refine ⟨x, y + 2, by omega, by omega, ?_, ?_, ?_⟩
    · rw [show (ts_rx 5).toInt = -1 from by decide]; omega
    · rw [show (ts_ry 5).toInt = 1 from by decide]; omega
    · simp only [nbr, lin]; omega
  · refine ⟨x, y + 1, by omega, by omega, ?_, ?_, ?_⟩
    · rw [show (ts_rx 6).toInt = -1 from by decide]; omega
    · rw [show (ts_ry 6).toInt = 0 from by decide]; omega
    · simp only [nbr, lin]; omega
  · refine ⟨x, y, by omega, by omega, ?_, ?_, ?_⟩
    · rw [show (ts_rx 7).toInt = -1 from by decide]; omega
    · rw [show (ts_ry 7).toInt = -1 from by decide]; omega
    · simp only [nbr, lin]; omega
theorem SM.nb {kw kh : Nat} {sf mf : Nat → Int32} (h : SM kw kh sf mf) (hw : kw ≤ 24) (hh : kh ≤ 24) {x y d : Nat} (hx : x < kw) (hy : y < kh) (hd : d < 8) : f_S_isBlack (nI kw) (nI kh) sf (nI x + ts_rx d) (nI y + ts_ry d) = mf (nbr (kw + 2) (lin kw x y) d) := by
  obtain ⟨X, Y, hX, hY, e1, e2, e3⟩ := nb_pad hx hy d hd
  have hb := rx_b ⟨d, hd⟩
  dsimp only at hb
  rw [← e3]
  exact h.pad hw hh hX hY (by rw [nx_toInt (by omega) (by omega) (by omega)]; omega) (by rw [nx_toInt (by omega) (by omega) (by omega)]; omega)
theorem nr_c {q W r : Nat} {a b : Int32} (hq : q < 100000) (hW : W < 100) (ha : a.toInt = -1 ∨ a.toInt = 0 ∨ a.toInt = 1) (hb : -1 ≤ b.toInt ∧ b.toInt ≤ 1) (h : (r : Int) = (q : Int) + a.toInt * W + b.toInt) : (nI q + (a * nI W)) + b = nI r := by
  have em : (a * nI W).toInt = a.toInt * W := by
    rw [i_mul, nI_toInt (by omega)]
    · rw [nI_toInt (by omega)]; rcases ha with h | h | h <;> rw [h] <;> omega
    · rw [nI_toInt (by omega)]; rcases ha with h | h | h <;> rw [h] <;> omega
  have hm : -100 < a.toInt * (W : Int) ∧ a.toInt * (W : Int) < 100 := by rcases ha with h | h | h <;> rw [h] <;> omega
  apply Int32.toInt_inj.mp
  have e1 : (nI q + (a * nI W)).toInt = (q : Int) + a.toInt * W := by rw [i_add (by rw [nI_toInt (by omega), em]; omega) (by rw [nI_toInt (by omega), em]; omega), nI_toInt (by omega), em]
  rw [i_add (by rw [e1]; omega) (by rw [e1]; omega), e1, nI_toInt (by omega)]
  omega
theorem near_eq {W q : Nat} (hW : 3 ≤ W ∧ W ≤ 26) (hq : W + 1 ≤ q) (hq2 : q < 10000) : ∀ d : Nat, d < 8 → f_M_near (nI W) (nI q) (nI d) = nI (nbr W q d) := by
  have m1 : (-1 : Int32).toInt = -1 := by decide
  refine c8 ?_ ?_ ?_ ?_ ?_ ?_ ?_ ?_
  · rw [f_M_near, if_pos (show (nI 0 - nI 0 / 4 * 4) = 0 by decide), if_neg (show ¬ nI 0 = 2 by decide), if_neg (show ¬ nI 0 = 6 by decide), if_neg (show ¬ nI 0 = 7 by decide), if_neg (show ¬ (2 : Int32) ≤ nI 0 by decide)]
    exact nr_c (by omega) (by omega) (by decide) (by decide) (by simp only [nbr, i_0, i_1, m1]; omega)
  · rw [f_M_near, if_neg (show ¬ (nI 1 - nI 1 / 4 * 4) = 0 by decide), if_neg (show ¬ (4 : Int32) ≤ nI 1 by decide), if_neg (show ¬ nI 1 = 2 by decide), if_neg (show ¬ nI 1 = 6 by decide), if_neg (show ¬ nI 1 = 7 by decide), if_neg (show ¬ (2 : Int32) ≤ nI 1 by decide)]
    exact nr_c (by omega) (by omega) (by decide) (by decide) (by simp only [nbr, i_0, i_1, m1]; omega)
  · rw [f_M_near, if_neg (show ¬ (nI 2 - nI 2 / 4 * 4) = 0 by decide), if_neg (show ¬ (4 : Int32) ≤ nI 2 by decide), if_pos (show nI 2 = 2 by decide)]
    exact nr_c (by omega) (by omega) (by decide) (by decide) (by simp only [nbr, i_0, i_1, m1]; omega)
  · rw [f_M_near, if_neg (show ¬ (nI 3 - nI 3 / 4 * 4) = 0 by decide), if_neg (show ¬ (4 : Int32) ≤ nI 3 by decide), if_neg (show ¬ nI 3 = 2 by decide), if_neg (show ¬ nI 3 = 6 by decide), if_neg (show ¬ nI 3 = 7 by decide), if_pos (show (2 : Int32) ≤ nI 3 by decide)]
    exact nr_c (by omega) (by omega) (by decide) (by decide) (by simp only [nbr, i_0, i_1, m1]; omega)
  · rw [f_M_near, if_pos (show (nI 4 - nI 4 / 4 * 4) = 0 by decide), if_neg (show ¬ nI 4 = 2 by decide), if_neg (show ¬ nI 4 = 6 by decide), if_neg (show ¬ nI 4 = 7 by decide), if_pos (show (2 : Int32) ≤ nI 4 by decide)]
    exact nr_c (by omega) (by omega) (by decide) (by decide) (by simp only [nbr, i_0, i_1, m1]; omega)
  · rw [f_M_near, if_neg (show ¬ (nI 5 - nI 5 / 4 * 4) = 0 by decide), if_pos (show (4 : Int32) ≤ nI 5 by decide), if_neg (show ¬ nI 5 = 2 by decide), if_neg (show ¬ nI 5 = 6 by decide), if_neg (show ¬ nI 5 = 7 by decide), if_pos (show (2 : Int32) ≤ nI 5 by decide)]
    exact nr_c (by omega) (by omega) (by decide) (by decide) (by simp only [nbr, i_0, i_1, m1]; omega)
  · rw [f_M_near, if_neg (show ¬ (nI 6 - nI 6 / 4 * 4) = 0 by decide), if_pos (show (4 : Int32) ≤ nI 6 by decide), if_neg (show ¬ nI 6 = 2 by decide), if_pos (show nI 6 = 6 by decide)]
    exact nr_c (by omega) (by omega) (by decide) (by decide) (by simp only [nbr, i_0, i_1, m1]; omega)
  · rw [f_M_near, if_neg (show ¬ (nI 7 - nI 7 / 4 * 4) = 0 by decide), if_pos (show (4 : Int32) ≤ nI 7 by decide), if_neg (show ¬ nI 7 = 2 by decide), if_neg (show ¬ nI 7 = 6 by decide), if_pos (show nI 7 = 7 by decide)]
    exact nr_c (by omega) (by omega) (by decide) (by decide) (by simp only [nbr, i_0, i_1, m1]; omega)
theorem rem8 {e : Nat} (h : e < 1000) : nI e - nI e / 8 * 8 = nI (e % 8) := pk_rem (a := e) (d := 8) (by omega) (by omega) (by omega)
theorem nb_lt {kw kh q d : Nat} (hi : inn kw kh q) (hd : d < 8) : nbr (kw + 2) q d < (kw + 2) * (kh + 2) := by
  have h := inn_lt hi
  revert d
  have : ∀ d : Nat, d < 8 → nbr (kw + 2) q d < (kw + 2) * (kh + 2) := by
    refine c8 ?_ ?_ ?_ ?_ ?_ ?_ ?_ ?_ <;> simp only [nbr] <;> omega
  exact fun {d} hd => this d hd
theorem mblk {kw kh : Nat} (hw : kw ≤ 24) (hh : kh ≤ 24) (mf : Nat → Int32) {q e : Nat} (hi : inn kw kh q) (he : e < 100) : f_M_black (nI (kw + 2)) mf (nI q) (nI e) = mf (nbr (kw + 2) q (e % 8)) := by
  have h1 := inn_lt hi
  have h2 := ar_le hw hh
  have h3 := nb_lt hi (d := e % 8) (by omega)
  have hk : 1 ≤ kw := by obtain ⟨x, y, hx, -⟩ := hi; omega
  rw [f_M_black, rem8 (by omega), near_eq (by omega) (by omega) (by omega) _ (by omega), nI_clamp (by omega)]
theorem zblk {kw kh : Nat} (hw : kw ≤ 24) (hh : kh ≤ 24) {mf : Nat → Int32} (h01 : ∀ q, mf q = 0 ∨ mf q = 1) {q e : Nat} (hi : inn kw kh q) (he : e < 100) : z_M_black (nI (kw + 2)) mf (nI q) (nI e) := by
  have h1 := inn_lt hi
  have h2 := ar_le hw hh
  have h3 := nb_lt hi (d := e % 8) (by omega)
  have hk : 1 ≤ kw := by obtain ⟨x, y, hx, -⟩ := hi; omega
  rw [z_M_black, rem8 (by omega), near_eq (by omega) (by omega) (by omega) _ (by omega)]
  exact ⟨vp_in_nI (by omega) (by omega), isb_of (h01 _), trivial⟩
/-- the round as a number -/
def gr (r d : Nat) : Int32 := if r.testBit d then 1 else 0
def b8 (b0 b1 b2 b3 b4 b5 b6 b7 : Bool) : Nat := (if b0 then 1 else 0) + (if b1 then 2 else 0) + (if b2 then 4 else 0) + (if b3 then 8 else 0) + (if b4 then 16 else 0) + (if b5 then 32 else 0) + (if b6 then 64 else 0) + (if b7 then 128 else 0)
theorem rnd_tab : ∀ b0 b1 b2 b3 b4 b5 b6 b7 : Bool, b8 b0 b1 b2 b3 b4 b5 b6 b7 < 256 ∧ (b8 b0 b1 b2 b3 b4 b5 b6 b7).testBit 0 = b0 ∧ (b8 b0 b1 b2 b3 b4 b5 b6 b7).testBit 1 = b1 ∧ (b8 b0 b1 b2 b3 b4 b5 b6 b7).testBit 2 = b2 ∧ (b8 b0 b1 b2 b3 b4 b5 b6 b7).testBit 3 = b3 ∧ (b8 b0 b1 b2 b3 b4 b5 b6 b7).testBit 4 = b4 ∧ (b8 b0 b1 b2 b3 b4 b5 b6 b7).testBit 5 = b5 ∧ (b8 b0 b1 b2 b3 b4 b5 b6 b7).testBit 6 = b6 ∧ (b8 b0 b1 b2 b3 b4 b5 b6 b7).testBit 7 = b7 := by decide +kernel
theorem rnd_ex (g : Nat → Int32) (h : ∀ d, d < 8 → g d = 0 ∨ g d = 1) : ∃ r : Nat, r < 256 ∧ ∀ d, d < 8 → g d = gr r d := by
  obtain ⟨t, t0, t1, t2, t3, t4, t5, t6, t7⟩ := rnd_tab (decide (g 0 = 1)) (decide (g 1 = 1)) (decide (g 2 = 1)) (decide (g 3 = 1)) (decide (g 4 = 1)) (decide (g 5 = 1)) (decide (g 6 = 1)) (decide (g 7 = 1))
  generalize b8 (decide (g 0 = 1)) (decide (g 1 = 1)) (decide (g 2 = 1)) (decide (g 3 = 1)) (decide (g 4 = 1)) (decide (g 5 = 1)) (decide (g 6 = 1)) (decide (g 7 = 1)) = r at *
  refine ⟨r, t, c8 (P := fun d => g d = gr r d) ?_ ?_ ?_ ?_ ?_ ?_ ?_ ?_⟩
  · unfold gr; rw [t0]; rcases h 0 (by omega) with e | e <;> rw [e] <;> decide
  · unfold gr; rw [t1]; rcases h 1 (by omega) with e | e <;> rw [e] <;> decide
  · unfold gr; rw [t2]; rcases h 2 (by omega) with e | e <;> rw [e] <;> decide
  · unfold gr; rw [t3]; rcases h 3 (by omega) with e | e <;> rw [e] <;> decide
  · unfold gr; rw [t4]; rcases h 4 (by omega) with e | e <;> rw [e] <;> decide
  · unfold gr; rw [t5]; rcases h 5 (by omega) with e | e <;> rw [e] <;> decide
  · unfold gr; rw [t6]; rcases h 6 (by omega) with e | e <;> rw [e] <;> decide
  · unfold gr; rw [t7]; rcases h 7 (by omega) with e | e <;> rw [e] <;> decide
/-- the loops over the round, with the round as a table -/
def al_round (g : Nat → Int32) : Nat → Int32 × Int32 → Int32 × Int32
  | 0, σ => σ
  | n + 1, (i, v) => if 8 ≤ i then (i, v) else (if g i.toNatClampNeg = 0 then al_round g n (i + 1, v) else al_round g n (i + 1, v ||| (1 <<< (i &&& 31))))
def al_cnt (g : Nat → Int32) : Nat → Int32 × Int32 → Int32 × Int32
  | 0, σ => σ
  | n + 1, (i, v) => if 8 ≤ i then (i, v) else (if g i.toNatClampNeg = 0 then al_cnt g n (i + 1, v + 0) else al_cnt g n (i + 1, v + 1))
def al_simple (g : Nat → Int32) : Nat → Int32 × Int32 → Int32 × Int32
  | 0, σ => σ
  | n + 1, (i, v) => if 8 ≤ i then (i, v) else (if g i.toNatClampNeg = 0 then (if g ((i.toNatClampNeg + 1) % 8) = 0 then (if g ((i.toNatClampNeg + 2) % 8) = 0 then al_simple g n (i + 2, v + 0) else al_simple g n (i + 2, v + 1)) else al_simple g n (i + 2, v + 1)) else al_simple g n (i + 2, v + 0))
/-- linked in direction d, by the round of a black one -/
def lnk (r d : Nat) : Bool := r.testBit d && (d % 2 == 0 || (!r.testBit ((d + 7) % 8) && !r.testBit ((d + 1) % 8)))
def lnkI (r d : Nat) : Int32 := if lnk r d then 1 else 0
def lby (r : Nat) : Nat := (if lnk r 0 then 1 else 0) + (if lnk r 1 then 2 else 0) + (if lnk r 2 then 4 else 0) + (if lnk r 3 then 8 else 0) + (if lnk r 4 then 16 else 0) + (if lnk r 5 then 32 else 0) + (if lnk r 6 then 64 else 0) + (if lnk r 7 then 128 else 0)
def dgr (r : Nat) : Nat := (if lnk r 0 then 1 else 0) + (if lnk r 1 then 1 else 0) + (if lnk r 2 then 1 else 0) + (if lnk r 3 then 1 else 0) + (if lnk r 4 then 1 else 0) + (if lnk r 5 then 1 else 0) + (if lnk r 6 then 1 else 0) + (if lnk r 7 then 1 else 0)
theorem t_round : ∀ r : Fin 256, al_round (gr r.val) FU (0, 0) = (8, nI r.val) := by decide +kernel
theorem t_cnt : ∀ r : Fin 256, al_cnt (gr r.val) FU (0, 0) = (8, f_bitCount (nI r.val)) := by decide +kernel
theorem t_simple : ∀ r : Fin 256, f_M_isSimple_k4 (al_simple (gr r.val) FU (0, 0)) = f_H_isSimple (nI r.val) := by decide +kernel
theorem t_deg : ∀ r : Fin 256, al_cnt (lnkI r.val) FU (0, 0) = (8, nI (dgr r.val)) := by decide +kernel
theorem t_links : ∀ r : Fin 256, f_S_linksAt_t17 (nI r.val) = nI (lby r.val) := by decide +kernel
theorem t_bits : ∀ r : Fin 256, f_bitCount (nI (lby r.val)) = nI (dgr r.val) := by decide +kernel
theorem t_has : ∀ r : Fin 256, ∀ d : Fin 8, f_hasBit (nI r.val) (nI d.val) = gr r.val d.val := by decide +kernel
theorem t_hasl : ∀ r : Fin 256, ∀ d : Fin 8, f_hasBit (nI (lby r.val)) (nI d.val) = lnkI r.val d.val := by decide +kernel
theorem t_dgr : ∀ r : Fin 256, dgr r.val ≤ 4 := by decide +kernel
theorem t_lby : ∀ r : Fin 256, lby r.val < 256 := by decide +kernel
