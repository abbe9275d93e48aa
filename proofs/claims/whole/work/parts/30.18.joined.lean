/-! own: joined, on both sides -/
theorem mulb {a b : Int} {A B : Nat} (ha : a.natAbs ≤ A) (hb : b.natAbs ≤ B) : (a * b).natAbs ≤ A * B := by rw [Int.natAbs_mul]; exact Nat.mul_le_mul ha hb
theorem i_mul' {x y : Int32} (h : (x.toInt * y.toInt).natAbs ≤ 2000000000) : (x * y).toInt = x.toInt * y.toInt := i_mul (by omega) (by omega)
theorem l_mul {x y : Int64} (h : (x.toInt * y.toInt).natAbs ≤ 9000000000000000000) : (x * y).toInt = x.toInt * y.toInt := by
  rw [Int64.toInt_mul]
  exact Int.bmod_eq_of_le (by omega) (by omega)
theorem l_add {x y : Int64} (h : (x.toInt + y.toInt).natAbs ≤ 9000000000000000000) : (x + y).toInt = x.toInt + y.toInt := by
  rw [Int64.toInt_add]
  exact Int.bmod_eq_of_le (by omega) (by omega)
/-- the scalar product at c -/
def sp (W c a b : Nat) : Int := (((a % W : Nat) : Int) - ((c % W : Nat) : Int)) * (((b % W : Nat) : Int) - ((c % W : Nat) : Int)) + (((a / W : Nat) : Int) - ((c / W : Nat) : Int)) * (((b / W : Nat) : Int) - ((c / W : Nat) : Int))
section
variable {kw kh : Nat}
theorem inn_xy (hw : kw ≤ 24) (hh : kh ≤ 24) {q : Nat} (h : inn kw kh q) : 1 ≤ q % (kw + 2) ∧ q % (kw + 2) ≤ 24 ∧ 1 ≤ q / (kw + 2) ∧ q / (kw + 2) ≤ 24 := by
  obtain ⟨x, y, hx, hy, rfl⟩ := h
  rw [lin_div hx, lin_mod hx]; omega
theorem sp_b (hw : kw ≤ 24) (hh : kh ≤ 24) {c a b : Nat} (hc : inn kw kh c) (ha : inn kw kh a) (hb : inn kw kh b) : (sp (kw + 2) c a b).natAbs ≤ 1058 := by
  have h1 := inn_xy hw hh hc
  have h2 := inn_xy hw hh ha
  have h3 := inn_xy hw hh hb
  have m1 := mulb (A := 23) (B := 23) (a := ((a % (kw + 2) : Nat) : Int) - ((c % (kw + 2) : Nat) : Int)) (b := ((b % (kw + 2) : Nat) : Int) - ((c % (kw + 2) : Nat) : Int)) (by omega) (by omega)
  have m2 := mulb (A := 23) (B := 23) (a := ((a / (kw + 2) : Nat) : Int) - ((c / (kw + 2) : Nat) : Int)) (b := ((b / (kw + 2) : Nat) : Int) - ((c / (kw + 2) : Nat) : Int)) (by omega) (by omega)
  unfold sp
  omega
theorem cdot (hw : kw ≤ 24) (hh : kh ≤ 24) {c a b : Nat} (hc : inn kw kh c) (ha : inn kw kh a) (hb : inn kw kh b) : (f_C_dot (nI (pl kw c)) (nI (pl kw a)) (nI (pl kw b))).toInt = sp (kw + 2) c a b := by
  have hbd := sp_b hw hh hc ha hb
  obtain ⟨x1, y1, hx1, hy1, rfl⟩ := hc
  obtain ⟨x2, y2, hx2, hy2, rfl⟩ := ha
  obtain ⟨x3, y3, hx3, hy3, rfl⟩ := hb
  have e1 := ccol hw hh hx1 hy1
  have e2 := ccol hw hh hx2 hy2
  have e3 := ccol hw hh hx3 hy3
  have m1 := mulb (A := 23) (B := 23) (a := (x2 : Int) - x1) (b := (x3 : Int) - x1) (by omega) (by omega)
  have m2 := mulb (A := 23) (B := 23) (a := (y2 : Int) - y1) (b := (y3 : Int) - y1) (by omega) (by omega)
  have p1 : ((nI x2 - nI x1) * (nI x3 - nI x1)).toInt = ((x2 : Int) - x1) * ((x3 : Int) - x1) := by
    rw [i_mul' (by rw [pk_sub_toInt (by omega) (by omega), pk_sub_toInt (by omega) (by omega)]; omega), pk_sub_toInt (by omega) (by omega), pk_sub_toInt (by omega) (by omega)]
  have p2 : ((nI y2 - nI y1) * (nI y3 - nI y1)).toInt = ((y2 : Int) - y1) * ((y3 : Int) - y1) := by
    rw [i_mul' (by rw [pk_sub_toInt (by omega) (by omega), pk_sub_toInt (by omega) (by omega)]; omega), pk_sub_toInt (by omega) (by omega), pk_sub_toInt (by omega) (by omega)]
  rw [f_C_dot, e1.1, e1.2, e2.1, e2.2, e3.1, e3.2, i_add (by rw [p1, p2]; omega) (by rw [p1, p2]; omega), p1, p2]
  unfold sp
  rw [lin_div hx1, lin_mod hx1, lin_div hx2, lin_mod hx2, lin_div hx3, lin_mod hx3]
  congr 2 <;> omega
theorem mdot (hw : kw ≤ 24) (hh : kh ≤ 24) {c a b : Nat} (hc : inn kw kh c) (ha : inn kw kh a) (hb : inn kw kh b) : (f_M_dot (nI (kw + 2)) (nI c) (nI a) (nI b)).toInt = sp (kw + 2) c a b ∧ z_M_dot (nI (kw + 2)) := by
  obtain ⟨x1, y1, hx1, hy1, rfl⟩ := hc
  obtain ⟨x2, y2, hx2, hy2, rfl⟩ := ha
  obtain ⟨x3, y3, hx3, hy3, rfl⟩ := hb
  have hW0 : ¬ nI (kw + 2) = 0 := nI_ne0 (by omega) (by omega)
  refine ⟨?_, ⟨hW0, trivial⟩, ⟨hW0, trivial⟩, ⟨hW0, trivial⟩, ⟨hW0, trivial⟩, ⟨hW0, trivial⟩, ⟨hW0, trivial⟩, ⟨hW0, trivial⟩, ⟨hW0, trivial⟩, trivial⟩
  have m1 := mulb (A := 23) (B := 23) (a := (x2 : Int) - x1) (b := (x3 : Int) - x1) (by omega) (by omega)
  have m2 := mulb (A := 23) (B := 23) (a := (y2 : Int) - y1) (b := (y3 : Int) - y1) (by omega) (by omega)
  have p1 : ((nI x2 - nI x1).toInt64 * (nI x3 - nI x1).toInt64).toInt = ((x2 : Int) - x1) * ((x3 : Int) - x1) := by
    rw [l_mul (by rw [Int32.toInt_toInt64, Int32.toInt_toInt64, pk_sub_toInt (by omega) (by omega), pk_sub_toInt (by omega) (by omega)]; omega), Int32.toInt_toInt64, Int32.toInt_toInt64, pk_sub_toInt (by omega) (by omega), pk_sub_toInt (by omega) (by omega)]
  have p2 : ((nI y2 - nI y1).toInt64 * (nI y3 - nI y1).toInt64).toInt = ((y2 : Int) - y1) * ((y3 : Int) - y1) := by
    rw [l_mul (by rw [Int32.toInt_toInt64, Int32.toInt_toInt64, pk_sub_toInt (by omega) (by omega), pk_sub_toInt (by omega) (by omega)]; omega), Int32.toInt_toInt64, Int32.toInt_toInt64, pk_sub_toInt (by omega) (by omega), pk_sub_toInt (by omega) (by omega)]
  rw [f_M_dot, mcol hw hh hx1 hy1, mcol hw hh hx2 hy2, mcol hw hh hx3 hy3, mrow hw hh hx1 hy1, mrow hw hh hx2 hy2, mrow hw hh hx3 hy3, l_add (by rw [p1, p2]; omega), p1, p2]
  unfold sp
  rw [lin_div hx1, lin_mod hx1, lin_div hx2, lin_mod hx2, lin_div hx3, lin_mod hx3]
  congr 2 <;> omega
end
/-- the sample that tells a stroke's direction at c -/
def ahd (B S : Nat → Nat) (t c : Nat) : Nat := S (B t + if S (B t) = c then min 3 (B (t + 1) - B t - 1) else B (t + 1) - B t - 1 - min 3 (B (t + 1) - B t - 1))
def lst (B S : Nat → Nat) (t : Nat) : Nat := S (B (t + 1) - 1)
/-- what is best before t -/
def jn (W : Nat) (B S : Nat → Nat) (s : Nat) : Nat → Int × Int × Int32
  | 0 => (1, 0, -1)
  | t + 1 => if ¬ t = s ∧ (S (B t) = lst B S s ∨ lst B S t = lst B S s) ∧ sp W (lst B S s) (ahd B S s (lst B S s)) (ahd B S t (lst B S s)) < 0 ∧ (jn W B S s t).2.1 * (jn W B S s t).2.1 * sp W (lst B S s) (ahd B S t (lst B S s)) (ahd B S t (lst B S s)) < sp W (lst B S s) (ahd B S s (lst B S s)) (ahd B S t (lst B S s)) * sp W (lst B S s) (ahd B S s (lst B S s)) (ahd B S t (lst B S s)) * (jn W B S s t).1 then (sp W (lst B S s) (ahd B S t (lst B S s)) (ahd B S t (lst B S s)), sp W (lst B S s) (ahd B S s (lst B S s)) (ahd B S t (lst B S s)), nI t) else jn W B S s t
section
variable {kw kh : Nat} {mf : Nat → Int32} {n N : Nat} {B S : Nat → Nat}
theorem kn_inn (hM : MF kw kh mf) (hK : KN kw kh mf n N B S) {k : Nat} (hk : k < N) : inn kw kh (S k) := hM.inn (hK.2.2.2.1 k hk)
theorem ahd_inn (hM : MF kw kh mf) (hK : KN kw kh mf n N B S) {t c : Nat} (ht : t < n) : inn kw kh (ahd B S t c) := by
  have h3 := hK.2.2.1 t ht
  unfold ahd
  refine kn_inn hM hK ?_
  split <;> omega
theorem lst_inn (hM : MF kw kh mf) (hK : KN kw kh mf n N B S) {t : Nat} (ht : t < n) : inn kw kh (lst B S t) := by
  have h3 := hK.2.2.1 t ht
  exact kn_inn hM hK (by omega)
theorem jn_b (hM : MF kw kh mf) (hw : kw ≤ 24) (hh : kh ≤ 24) (hK : KN kw kh mf n N B S) {s : Nat} (hs : s < n) : ∀ t, t ≤ n → ((jn (kw + 2) B S s t).1.natAbs ≤ 1058 ∧ (jn (kw + 2) B S s t).2.1.natAbs ≤ 1058) ∧ ((jn (kw + 2) B S s t).2.2 = -1 → (jn (kw + 2) B S s t).1 = 1 ∧ (jn (kw + 2) B S s t).2.1 = 0)
  | 0, _ => ⟨⟨by show (1 : Int).natAbs ≤ 1058; decide, by show (0 : Int).natAbs ≤ 1058; decide⟩, fun _ => ⟨rfl, rfl⟩⟩
  | t + 1, ht => by
    have hkk : kw * kh ≤ 576 := Nat.mul_le_mul hw hh
    have := hK.1
    rw [jn]
    split
    · refine ⟨⟨sp_b hw hh (lst_inn hM hK hs) (ahd_inn hM hK (by omega)) (ahd_inn hM hK (by omega)), sp_b hw hh (lst_inn hM hK hs) (ahd_inn hM hK hs) (ahd_inn hM hK (by omega))⟩, fun c => ?_⟩
      have c' : nI t = -1 := c
      have : (nI t).toInt = -1 := by rw [c', i_m1]
      rw [nI_toInt (by omega)] at this; omega
    · exact jn_b hM hw hh hK hs t (by omega)
theorem cfirst {csf cbf : Nat → Int32} {csc : Int32} (hw : kw ≤ 24) (hh : kh ≤ 24) (hK : KN kw kh mf n N B S) (hC : CF kw csf cbf csc n N B S) {t : Nat} (ht : t < n) : f_C_firstOf (4 * (kw * kh)) csf (2 * (kw * kh) + 1) cbf csc (nI t) = nI (pl kw (S (B t))) := by
  have h3 := hK.2.2.1 t ht
  have := csmp hw hh hK hC (s := t) (k := 0) ht (by omega)
  rw [nI_0] at this
  rw [f_C_firstOf, this]; rfl
theorem clast {csf cbf : Nat → Int32} {csc : Int32} (hw : kw ≤ 24) (hh : kh ≤ 24) (hK : KN kw kh mf n N B S) (hC : CF kw csf cbf csc n N B S) {t : Nat} (ht : t < n) : f_C_lastOf (4 * (kw * kh)) csf (2 * (kw * kh) + 1) cbf csc (nI t) = nI (pl kw (lst B S t)) := by
  have h3 := hK.2.2.1 t ht
  rw [f_C_lastOf, clen hw hh hK hC ht, show nI (B (t + 1) - B t) - 1 = nI (B (t + 1) - B t - 1) from pk_sub (b := 1) (by omega), csmp hw hh hK hC ht (by omega)]
  unfold lst
  rw [show B t + (B (t + 1) - B t - 1) = B (t + 1) - 1 by omega]
theorem cahead {csf cbf : Nat → Int32} {csc : Int32} (hM : MF kw kh mf) (hw : kw ≤ 24) (hh : kh ≤ 24) (hK : KN kw kh mf n N B S) (hC : CF kw csf cbf csc n N B S) {t c : Nat} (ht : t < n) (hc : inn kw kh c) : f_C_aheadOf (4 * (kw * kh)) csf (2 * (kw * kh) + 1) cbf csc (nI t) (nI (pl kw c)) = nI (pl kw (ahd B S t c)) := by
  have h3 := hK.2.2.1 t ht
  have hkk : kw * kh ≤ 576 := Nat.mul_le_mul hw hh
  have h2 := hK.2.1
  have hi : inn kw kh (S (B t)) := kn_inn hM hK (by omega)
  rw [f_C_aheadOf, clen hw hh hK hC ht, show nI (B (t + 1) - B t) - 1 = nI (B (t + 1) - B t - 1) from pk_sub (b := 1) (by omega), f_C_aheadOf_t7, show (3 : Int32) = nI 3 from rfl, mn_N (by omega) (by omega), f_C_aheadOf_t13, cfirst hw hh hK hC ht]
  unfold ahd
  by_cases c1 : S (B t) = c
  · rw [if_pos ((nI_pl hw hh hi hc).mpr c1), if_pos c1, csmp hw hh hK hC ht (by omega)]
  · rw [if_neg (fun h => c1 ((nI_pl hw hh hi hc).mp h)), if_neg c1, pk_sub (by omega), csmp hw hh hK hC ht (by omega)]
/-- joined, of the class -/
theorem cjoined {clf csf cbf : Nat → Int32} {csc : Int32} (hM : MF kw kh mf) (hw : kw ≤ 24) (hh : kh ≤ 24) (hT : CT kw kh mf clf) (hK : KN kw kh mf n N B S) (hC : CF kw csf cbf csc n N B S) {s : Nat} (hs : s < n) : f_X_joined (kh * 32) clf (4 * (kw * kh)) csf (2 * (kw * kh) + 1) cbf csc (nI s) = if 3 ≤ dg (kw + 2) mf (lst B S s) then (jn (kw + 2) B S s n).2.2 else -1 := by
  have hkk : kw * kh ≤ 576 := Nat.mul_le_mul hw hh
  have hn := hK.1
  have hl := lst_inn hM hK hs
  have h4 := dg_le (kw + 2) mf (lst B S s)
  rw [f_X_joined, f_C_straightOn, clast hw hh hK hC hs, f_C_straightOn_t5, cdeg hT hw hh hl]
  by_cases c3 : 3 ≤ dg (kw + 2) mf (lst B S s)
  · rw [if_pos c3, if_pos (show (3 : Int32) ≤ nI _ from nI_le (a := 3) c3 (by omega)), cahead hM hw hh hK hC hs hl, f_C_straightOn_t23]
    obtain ⟨s', e, hI⟩ := lu_0 (F := f_C_straightOn_L36 (4 * (kw * kh)) csf (2 * (kw * kh) + 1) cbf csc (nI s) (nI (pl kw (lst B S s))) (nI (pl kw (ahd B S s (lst B S s))))) (fun t u => u.1.toInt = (jn (kw + 2) B S s t).1 ∧ u.2.1.toInt = (jn (kw + 2) B S s t).2.1 ∧ u.2.2 = (jn (kw + 2) B S s t).2.2) n (by omega)
      (fun u _ m => by
        obtain ⟨u1, u2, u3⟩ := u
        rw [f_C_straightOn_L36, hC.1, if_pos (nI_le (Nat.le_refl _) (by omega))])
      (fun t u ht hu => by
        obtain ⟨u1, u2, u3⟩ := u
        obtain ⟨a1, a2, a3⟩ := hu
        try dsimp only at a1 a2 a3
        have hnle : ¬ csc ≤ nI t := by rw [hC.1]; exact nI_ge ht (by omega)
        have hai := ahd_inn hM hK (c := lst B S s) ht
        have hoi := ahd_inn hM hK (c := lst B S s) hs
        have hfi : inn kw kh (S (B t)) := kn_inn hM hK (by have := hK.2.2.1 t ht; omega)
        have hli := lst_inn hM hK ht
        have d1 := cdot hw hh hl hoi hai
        have d2 := cdot hw hh hl hai hai
        have b1 := sp_b hw hh hl hoi hai
        have b2 := sp_b hw hh hl hai hai
        obtain ⟨⟨b3, b4⟩, -⟩ := jn_b hM hw hh hK hs t (by omega)
        by_cases c1 : t = s
        · refine ⟨(u1, u2, u3), ?_, fun m => ?_⟩
          · rw [jn, if_neg (fun c => c.1 c1)]; exact ⟨a1, a2, a3⟩
          · rw [f_C_straightOn_L36, if_neg hnle, if_pos (by rw [c1]), nI_1]
        · have hne : ¬ nI t = nI s := fun c => c1 ((nI_eq (by omega) (by omega)).mp c)
          have et : f_C_touches (4 * (kw * kh)) csf (2 * (kw * kh) + 1) cbf csc (nI t) (nI (pl kw (lst B S s))) = if S (B t) = lst B S s ∨ lst B S t = lst B S s then 1 else 0 := by
            rw [f_C_touches, cfirst hw hh hK hC ht, clast hw hh hK hC ht]
            by_cases x1 : S (B t) = lst B S s
            · rw [if_pos ((nI_pl hw hh hfi hl).mpr x1), if_pos (Or.inl x1)]
            · rw [if_neg (fun c => x1 ((nI_pl hw hh hfi hl).mp c))]
              by_cases x2 : lst B S t = lst B S s
              · rw [if_pos ((nI_pl hw hh hli hl).mpr x2), if_pos (Or.inr x2)]
              · rw [if_neg (fun c => x2 ((nI_pl hw hh hli hl).mp c)), if_neg (fun c => c.elim x1 x2)]
          by_cases c2 : S (B t) = lst B S s ∨ lst B S t = lst B S s
          · have hstep : ∀ m, f_C_straightOn_L36 (4 * (kw * kh)) csf (2 * (kw * kh) + 1) cbf csc (nI s) (nI (pl kw (lst B S s))) (nI (pl kw (ahd B S s (lst B S s)))) (m + 1) (nI t, u1, u2, u3) = f_C_straightOn_t90 (nI t) u1 u2 u3 (f_C_straightOn_L36 (4 * (kw * kh)) csf (2 * (kw * kh) + 1) cbf csc (nI s) (nI (pl kw (lst B S s))) (nI (pl kw (ahd B S s (lst B S s)))) m) (f_C_dot (nI (pl kw (lst B S s))) (nI (pl kw (ahd B S s (lst B S s)))) (nI (pl kw (ahd B S t (lst B S s))))) (f_C_dot (nI (pl kw (lst B S s))) (nI (pl kw (ahd B S t (lst B S s)))) (nI (pl kw (ahd B S t (lst B S s))))) := by
              intro m
              rw [f_C_straightOn_L36, if_neg hnle, if_neg hne, et, if_pos c2, if_neg (by decide), cahead hM hw hh hK hC ht hl, f_C_straightOn_t71, f_C_straightOn_t80]
            by_cases c5 : sp (kw + 2) (lst B S s) (ahd B S s (lst B S s)) (ahd B S t (lst B S s)) < 0
            · have hd0 : ¬ 0 ≤ f_C_dot (nI (pl kw (lst B S s))) (nI (pl kw (ahd B S s (lst B S s)))) (nI (pl kw (ahd B S t (lst B S s)))) := by rw [i_le, i_0, d1]; omega
              generalize f_C_dot (nI (pl kw (lst B S s))) (nI (pl kw (ahd B S s (lst B S s)))) (nI (pl kw (ahd B S t (lst B S s)))) = dt at *
              generalize f_C_dot (nI (pl kw (lst B S s))) (nI (pl kw (ahd B S t (lst B S s)))) (nI (pl kw (ahd B S t (lst B S s)))) = ln at *
              have q1 : (dt * dt).toInt = dt.toInt * dt.toInt := i_mul' (by rw [d1]; have := mulb b1 b1; omega)
              have q2 : (u2 * u2).toInt = u2.toInt * u2.toInt := i_mul' (by rw [a2]; have := mulb b4 b4; omega)
              have q3 : (dt * dt * u1).toInt = dt.toInt * dt.toInt * u1.toInt := by rw [i_mul' (by rw [q1, d1, a1]; have := mulb (mulb b1 b1) b3; omega), q1]
              have q4 : (u2 * u2 * ln).toInt = u2.toInt * u2.toInt * ln.toInt := by rw [i_mul' (by rw [q2, d2, a2]; have := mulb (mulb b4 b4) b2; omega), q2]
              have q5 : (dt * dt * u1 ≤ u2 * u2 * ln) ↔ ¬ ((jn (kw + 2) B S s t).2.1 * (jn (kw + 2) B S s t).2.1 * sp (kw + 2) (lst B S s) (ahd B S t (lst B S s)) (ahd B S t (lst B S s)) < sp (kw + 2) (lst B S s) (ahd B S s (lst B S s)) (ahd B S t (lst B S s)) * sp (kw + 2) (lst B S s) (ahd B S s (lst B S s)) (ahd B S t (lst B S s)) * (jn (kw + 2) B S s t).1) := by
                rw [i_le, q3, q4, d1, d2, a1, a2, Int.not_lt]
              by_cases c6 : (jn (kw + 2) B S s t).2.1 * (jn (kw + 2) B S s t).2.1 * sp (kw + 2) (lst B S s) (ahd B S t (lst B S s)) (ahd B S t (lst B S s)) < sp (kw + 2) (lst B S s) (ahd B S s (lst B S s)) (ahd B S t (lst B S s)) * sp (kw + 2) (lst B S s) (ahd B S s (lst B S s)) (ahd B S t (lst B S s)) * (jn (kw + 2) B S s t).1
              · refine ⟨(ln, dt, nI t), ?_, fun m => ?_⟩
                · rw [jn, if_pos ⟨c1, c2, c5, c6⟩]; exact ⟨d2, d1, rfl⟩
                · rw [hstep m, f_C_straightOn_t90, if_neg hd0, if_neg (fun c => q5.mp c c6), nI_1]
              · refine ⟨(u1, u2, u3), ?_, fun m => ?_⟩
                · rw [jn, if_neg (fun c => c6 c.2.2.2)]; exact ⟨a1, a2, a3⟩
                · rw [hstep m, f_C_straightOn_t90, if_neg hd0, if_pos (q5.mpr c6), nI_1]
            · refine ⟨(u1, u2, u3), ?_, fun m => ?_⟩
              · rw [jn, if_neg (fun c => c5 c.2.2.1)]; exact ⟨a1, a2, a3⟩
              · rw [hstep m, f_C_straightOn_t90, if_pos (by rw [i_le, i_0, d1]; omega), nI_1]
          · refine ⟨(u1, u2, u3), ?_, fun m => ?_⟩
            · rw [jn, if_neg (fun c => c2 c.2.1)]; exact ⟨a1, a2, a3⟩
            · rw [f_C_straightOn_L36, if_neg hnle, if_neg hne, et, if_neg c2, if_pos rfl, nI_1])
      (s := (1, 0, -1)) ⟨rfl, rfl, rfl⟩
    obtain ⟨u1, u2, u3⟩ := s'
    rw [e, f_C_straightOn_k36]
    exact hI.2.2
  · rw [if_neg c3, if_neg (show ¬ (3 : Int32) ≤ nI _ from nI_ge (b := 3) (by omega) (by omega))]
theorem mfirst {mgf mqf : Nat → Int32} {mst : Int32} (hw : kw ≤ 24) (hh : kh ≤ 24) (hK : KN kw kh mf n N B S) (hG : GF mst mgf mqf n N B S) {t : Nat} (ht : t < n) : f_M_firstOf mgf mqf (nI t) = nI (S (B t)) ∧ z_M_firstOf mgf (nI t) := by
  have hkk : kw * kh ≤ 576 := Nat.mul_le_mul hw hh
  have h3 := hK.2.2.1 t ht
  have h1 := hK.1
  have h2 := hK.2.1
  obtain ⟨g1, g2, g3⟩ := hG
  refine ⟨?_, vp_in_nI (by omega) (by omega), ?_, trivial⟩
  · rw [f_M_firstOf, nI_clamp (by omega), g2 t (by omega), nI_clamp (by omega), g3 _ (by omega)]
  · rw [nI_clamp (by omega), g2 t (by omega)]; exact vp_in_nI (by omega) (by omega)
theorem mlast {mgf mqf : Nat → Int32} {mst : Int32} (hw : kw ≤ 24) (hh : kh ≤ 24) (hK : KN kw kh mf n N B S) (hG : GF mst mgf mqf n N B S) {t : Nat} (ht : t < n) : f_M_lastOf mgf mqf (nI t) = nI (lst B S t) ∧ z_M_lastOf mgf (nI t) := by
  have hkk : kw * kh ≤ 576 := Nat.mul_le_mul hw hh
  have h3 := hK.2.2.1 t ht
  have h1 := hK.1
  have h2 := hK.2.1
  obtain ⟨g1, g2, g3⟩ := hG
  have e : nI (B (t + 1)) - 1 = nI (B (t + 1) - 1) := pk_sub (b := 1) (by omega)
  refine ⟨?_, ?_, ?_, trivial⟩
  · rw [f_M_lastOf, nI_1, nI_clamp (by omega), g2 _ (by omega), e, nI_clamp (by omega), g3 _ (by omega)]; rfl
  · rw [nI_1]; exact vp_in_nI (by omega) (by omega)
  · rw [nI_1, nI_clamp (by omega), g2 _ (by omega), e]; exact vp_in_nI (by omega) (by omega)
theorem mahead {mgf mqf : Nat → Int32} {mst : Int32} (hM : MF kw kh mf) (hw : kw ≤ 24) (hh : kh ≤ 24) (hK : KN kw kh mf n N B S) (hG : GF mst mgf mqf n N B S) {t c : Nat} (ht : t < n) (hc : c < 676) : f_M_aheadOf mgf mqf (nI t) (nI c) = nI (ahd B S t c) ∧ z_M_aheadOf mgf mqf (nI t) (nI c) := by
  have hkk : kw * kh ≤ 576 := Nat.mul_le_mul hw hh
  have ha := ar_le hw hh
  have h3 := hK.2.2.1 t ht
  have h1 := hK.1
  have h2 := hK.2.1
  obtain ⟨es, zs⟩ := msize hw hh hK hG ht
  obtain ⟨ef, zf⟩ := mfirst hw hh hK hG ht
  have hi := inn_A (kn_inn hM hK (k := B t) (by omega))
  have hfc : nI (S (B t)) = nI c ↔ S (B t) = c := nI_eq (by omega) (by omega)
  obtain ⟨g1, g2, g3⟩ := hG
  have e : nI (B (t + 1)) - 1 = nI (B (t + 1) - 1) := pk_sub (b := 1) (by omega)
  have e' : nI (B (t + 1) - B t) - 1 = nI (B (t + 1) - B t - 1) := pk_sub (b := 1) (by omega)
  have v1 : vp_in (nI t) 3000 := vp_in_nI (by omega) (by omega)
  have v2 : vp_in (nI (t + 1)) 3000 := vp_in_nI (by omega) (by omega)
  unfold ahd
  rw [f_M_aheadOf, z_M_aheadOf, es, ef, e', nI_1, nI_clamp (by omega), nI_clamp (by omega), g2 t (by omega), g2 (t + 1) (by omega), e]
  by_cases c3 : 3 ≤ B (t + 1) - B t - 1
  · have c3' : (3 : Int32) ≤ nI (B (t + 1) - B t - 1) := nI_le (a := 3) c3 (by omega)
    rw [if_pos c3', if_pos c3', show nI (B t) + 3 = nI (B t + 3) from nI_add _ 3, show nI (B (t + 1) - 1) - 3 = nI (B (t + 1) - 1 - 3) from pk_sub (b := 3) (by omega)]
    by_cases cc : S (B t) = c
    · rw [if_pos (hfc.mpr cc), if_pos (hfc.mpr cc), if_pos cc, nI_clamp (by omega), g3 _ (by omega), Nat.min_eq_left c3]
      exact ⟨rfl, zs, zf, v1, vp_in_nI (by omega) (by omega), trivial⟩
    · rw [if_neg (fun h => cc (hfc.mp h)), if_neg (fun h => cc (hfc.mp h)), if_neg cc, nI_clamp (by omega), g3 _ (by omega), Nat.min_eq_left c3]
      refine ⟨?_, zs, zf, v2, vp_in_nI (by omega) (by omega), trivial⟩
      rw [show B (t + 1) - 1 - 3 = B t + (B (t + 1) - B t - 1 - 3) by omega]
  · have c3' : ¬ (3 : Int32) ≤ nI (B (t + 1) - B t - 1) := nI_ge (b := 3) (by omega) (by omega)
    rw [if_neg c3', if_neg c3', nI_add, pk_sub (a := B (t + 1) - 1) (by omega)]
    by_cases cc : S (B t) = c
    · rw [if_pos (hfc.mpr cc), if_pos (hfc.mpr cc), if_pos cc, nI_clamp (by omega), g3 _ (by omega), Nat.min_eq_right (by omega)]
      exact ⟨rfl, zs, zs, zf, v1, vp_in_nI (by omega) (by omega), trivial⟩
    · rw [if_neg (fun h => cc (hfc.mp h)), if_neg (fun h => cc (hfc.mp h)), if_neg cc, nI_clamp (by omega), g3 _ (by omega), Nat.min_eq_right (by omega)]
      refine ⟨?_, zs, zs, zf, v2, vp_in_nI (by omega) (by omega), trivial⟩
      rw [show B (t + 1) - 1 - (B (t + 1) - B t - 1) = B t + (B (t + 1) - B t - 1 - (B (t + 1) - B t - 1)) by omega]
theorem sp_pos {W c a b : Nat} (h : sp W c a b < 0) : 0 < sp W c a a := by
  unfold sp at *
  generalize ((a % W : Nat) : Int) - ((c % W : Nat) : Int) = u at *
  generalize ((a / W : Nat) : Int) - ((c / W : Nat) : Int) = v at *
  have h1 : 0 ≤ u * u := by rcases Int.le_total 0 u with x | x; exact Int.mul_nonneg x x; exact Int.mul_nonneg_of_nonpos_of_nonpos x x
  have h2 : 0 ≤ v * v := by rcases Int.le_total 0 v with x | x; exact Int.mul_nonneg x x; exact Int.mul_nonneg_of_nonpos_of_nonpos x x
  refine Classical.byContradiction fun c => ?_
  have z1 : u * u = 0 := by omega
  have z2 : v * v = 0 := by omega
  have u0 : u = 0 := (Int.mul_eq_zero.mp z1).elim id id
  have v0 : v = 0 := (Int.mul_eq_zero.mp z2).elim id id
  rw [u0, v0, Int.zero_mul, Int.zero_mul] at h
  omega
/-- joined, of the reference -/
theorem mjoined {mgf mqf : Nat → Int32} {mst : Int32} (hM : MF kw kh mf) (hw : 1 ≤ kw ∧ kw ≤ 24) (hh : 1 ≤ kh ∧ kh ≤ 24) (hK : KN kw kh mf n N B S) (hG : GF mst mgf mqf n N B S) {s : Nat} (hs : s < n) : ∃ v9 v6 v4, f_M_joined_L35 (nI (kw + 2)) mf (nI s) mgf mst mqf FU (0, 1, 0, (-1)) = (v9, v6, v4, if 3 ≤ dg (kw + 2) mf (lst B S s) then (jn (kw + 2) B S s n).2.2 else -1) ∧ f_M_joined_L35_z (nI (kw + 2)) mf (nI s) mgf mst mqf FU (0, 1, 0, (-1)) := by
  have hkk : kw * kh ≤ 576 := Nat.mul_le_mul hw.2 hh.2
  have ha := ar_le hw.2 hh.2
  have hn := hK.1
  have hl := lst_inn hM hK hs
  have hlA := inn_A hl
  have h4 := dg_le (kw + 2) mf (lst B S s)
  obtain ⟨el, zl⟩ := mlast hw.2 hh.2 hK hG hs
  obtain ⟨ed, zd⟩ := mdeg hM hw.2 hh.2 (q := lst B S s) (by omega)
  obtain ⟨eo, zo⟩ := mahead hM hw.2 hh.2 hK hG (c := lst B S s) hs (by omega)
  by_cases c3 : 3 ≤ dg (kw + 2) mf (lst B S s)
  · have hn3 : ¬ nI (dg (kw + 2) mf (lst B S s)) < 3 := nI_nlt (b := 3) c3 (by omega)
    obtain ⟨s', e, hI, hz⟩ := lu_0z (F := f_M_joined_L35 (nI (kw + 2)) mf (nI s) mgf mst mqf) (Fz := f_M_joined_L35_z (nI (kw + 2)) mf (nI s) mgf mst mqf) (fun t u => u.1.toInt = (if (jn (kw + 2) B S s t).2.2 = -1 then 1 else sp (kw + 2) (lst B S s) (ahd B S s (lst B S s)) (ahd B S s (lst B S s)) * (jn (kw + 2) B S s t).1) ∧ u.2.1.toInt = (jn (kw + 2) B S s t).2.1 * (jn (kw + 2) B S s t).2.1 ∧ u.2.2 = (jn (kw + 2) B S s t).2.2) n (by omega)
      (fun u _ m => by
        obtain ⟨u1, u2, u3⟩ := u
        rw [f_M_joined_L35, f_M_joined_L35_z, hG.1, if_pos (nI_le (Nat.le_refl _) (by omega)), if_pos (nI_le (Nat.le_refl _) (by omega))]
        exact ⟨rfl, trivial⟩)
      (fun t u ht hu => by
        obtain ⟨u1, u2, u3⟩ := u
        obtain ⟨a1, a2, a3⟩ := hu
        try dsimp only at a1 a2 a3
        have hnle : ¬ mst ≤ nI t := by rw [hG.1]; exact nI_ge ht (by omega)
        have hai := ahd_inn hM hK (c := lst B S s) ht
        have hoi := ahd_inn hM hK (c := lst B S s) hs
        have hfi : inn kw kh (S (B t)) := kn_inn hM hK (by have := hK.2.2.1 t ht; omega)
        have hli := lst_inn hM hK ht
        have hfA := inn_A hfi
        have hliA := inn_A hli
        obtain ⟨ef, zf⟩ := mfirst hw.2 hh.2 hK hG ht
        obtain ⟨et, zt⟩ := mlast hw.2 hh.2 hK hG ht
        obtain ⟨ea, za⟩ := mahead hM hw.2 hh.2 hK hG (c := lst B S s) ht (by omega)
        obtain ⟨d1, zdot⟩ := mdot hw.2 hh.2 hl hoi hai
        obtain ⟨d2, -⟩ := mdot hw.2 hh.2 hl hai hai
        obtain ⟨d3, -⟩ := mdot hw.2 hh.2 hl hoi hoi
        have b1 := sp_b hw.2 hh.2 hl hoi hai
        have b2 := sp_b hw.2 hh.2 hl hai hai
        have b5 := sp_b hw.2 hh.2 hl hoi hoi
        obtain ⟨⟨b3, b4⟩, b6⟩ := jn_b hM hw.2 hh.2 hK hs t (by omega)
        by_cases c1 : t = s
        · refine ⟨(u1, u2, u3), ?_, fun m => ?_⟩
          · rw [show jn (kw + 2) B S s (t + 1) = jn (kw + 2) B S s t by rw [jn, if_neg (fun c => c.1 c1)]]; exact ⟨a1, a2, a3⟩
          · rw [f_M_joined_L35, f_M_joined_L35_z, if_neg hnle, if_neg hnle, el, ed, if_neg hn3, if_neg hn3, if_pos (by rw [c1]), if_pos (by rw [c1]), nI_1]
            exact ⟨rfl, fun hz => ⟨zd, hz⟩⟩
        · have hne : ¬ nI t = nI s := fun c => c1 ((nI_eq (by omega) (by omega)).mp c)
          have hff : nI (S (B t)) = nI (lst B S s) ↔ S (B t) = lst B S s := nI_eq (by omega) (by omega)
          have hll : nI (lst B S t) = nI (lst B S s) ↔ lst B S t = lst B S s := nI_eq (by omega) (by omega)
          by_cases c2 : S (B t) = lst B S s ∨ lst B S t = lst B S s
          · -- what both roads do
            have common : ∃ u', (u'.1.toInt = (if (jn (kw + 2) B S s (t + 1)).2.2 = -1 then 1 else sp (kw + 2) (lst B S s) (ahd B S s (lst B S s)) (ahd B S s (lst B S s)) * (jn (kw + 2) B S s (t + 1)).1) ∧ u'.2.1.toInt = (jn (kw + 2) B S s (t + 1)).2.1 * (jn (kw + 2) B S s (t + 1)).2.1 ∧ u'.2.2 = (jn (kw + 2) B S s (t + 1)).2.2) ∧ ∀ (R : Int32 × Int64 × Int64 × Int32 → Int32 × Int64 × Int64 × Int32) (Rz : Int32 × Int64 × Int64 × Int32 → Prop), (if 0 ≤ (lg_cmp (f_M_dot (nI (kw + 2)) (nI (lst B S s)) (nI (ahd B S s (lst B S s))) (nI (ahd B S t (lst B S s)))) 0) then R (nI t + 1, u1, u2, u3) else (if (lg_cmp (((f_M_dot (nI (kw + 2)) (nI (lst B S s)) (nI (ahd B S s (lst B S s))) (nI (ahd B S t (lst B S s)))) * (f_M_dot (nI (kw + 2)) (nI (lst B S s)) (nI (ahd B S s (lst B S s))) (nI (ahd B S t (lst B S s))))) * u1) (u2 * ((f_M_dot (nI (kw + 2)) (nI (lst B S s)) (nI (ahd B S s (lst B S s))) (nI (ahd B S s (lst B S s)))) * (f_M_dot (nI (kw + 2)) (nI (lst B S s)) (nI (ahd B S t (lst B S s))) (nI (ahd B S t (lst B S s))))))) ≤ 0 then R (nI t + 1, u1, u2, u3) else R (nI t + 1, (f_M_dot (nI (kw + 2)) (nI (lst B S s)) (nI (ahd B S s (lst B S s))) (nI (ahd B S s (lst B S s)))) * (f_M_dot (nI (kw + 2)) (nI (lst B S s)) (nI (ahd B S t (lst B S s))) (nI (ahd B S t (lst B S s)))), (f_M_dot (nI (kw + 2)) (nI (lst B S s)) (nI (ahd B S s (lst B S s))) (nI (ahd B S t (lst B S s)))) * (f_M_dot (nI (kw + 2)) (nI (lst B S s)) (nI (ahd B S s (lst B S s))) (nI (ahd B S t (lst B S s)))), nI t))) = R (nI (t + 1), u') ∧ (Rz (nI (t + 1), u') → (if 0 ≤ (lg_cmp (f_M_dot (nI (kw + 2)) (nI (lst B S s)) (nI (ahd B S s (lst B S s))) (nI (ahd B S t (lst B S s)))) 0) then Rz (nI t + 1, u1, u2, u3) else (if (lg_cmp (((f_M_dot (nI (kw + 2)) (nI (lst B S s)) (nI (ahd B S s (lst B S s))) (nI (ahd B S t (lst B S s)))) * (f_M_dot (nI (kw + 2)) (nI (lst B S s)) (nI (ahd B S s (lst B S s))) (nI (ahd B S t (lst B S s))))) * u1) (u2 * ((f_M_dot (nI (kw + 2)) (nI (lst B S s)) (nI (ahd B S s (lst B S s))) (nI (ahd B S s (lst B S s)))) * (f_M_dot (nI (kw + 2)) (nI (lst B S s)) (nI (ahd B S t (lst B S s))) (nI (ahd B S t (lst B S s))))))) ≤ 0 then Rz (nI t + 1, u1, u2, u3) else Rz (nI t + 1, (f_M_dot (nI (kw + 2)) (nI (lst B S s)) (nI (ahd B S s (lst B S s))) (nI (ahd B S s (lst B S s)))) * (f_M_dot (nI (kw + 2)) (nI (lst B S s)) (nI (ahd B S t (lst B S s))) (nI (ahd B S t (lst B S s)))), (f_M_dot (nI (kw + 2)) (nI (lst B S s)) (nI (ahd B S s (lst B S s))) (nI (ahd B S t (lst B S s)))) * (f_M_dot (nI (kw + 2)) (nI (lst B S s)) (nI (ahd B S s (lst B S s))) (nI (ahd B S t (lst B S s)))), nI t)))) := by
              generalize f_M_dot (nI (kw + 2)) (nI (lst B S s)) (nI (ahd B S s (lst B S s))) (nI (ahd B S t (lst B S s))) = dt at *
              generalize f_M_dot (nI (kw + 2)) (nI (lst B S s)) (nI (ahd B S t (lst B S s))) (nI (ahd B S t (lst B S s))) = ln at *
              generalize f_M_dot (nI (kw + 2)) (nI (lst B S s)) (nI (ahd B S s (lst B S s))) (nI (ahd B S s (lst B S s))) = ow at *
              have z0 : (0 : Int64).toInt = 0 := by decide
              have g0 : (0 ≤ lg_cmp dt 0) ↔ ¬ sp (kw + 2) (lst B S s) (ahd B S s (lst B S s)) (ahd B S t (lst B S s)) < 0 := by
                rw [lg_cmp_ge, Int64.le_iff_toInt_le, z0, d1, Int.not_lt]
              by_cases c5 : sp (kw + 2) (lst B S s) (ahd B S s (lst B S s)) (ahd B S t (lst B S s)) < 0
              · have h0 : ¬ 0 ≤ lg_cmp dt 0 := fun c => g0.mp c c5
                have opos := sp_pos c5
                -- bounds
                have bu1 : u1.toInt.natAbs ≤ 1058 * 1058 := by
                  rw [a1]
                  split
                  · decide
                  · exact mulb b5 b3
                have q1 : (dt * dt).toInt = dt.toInt * dt.toInt := l_mul (by rw [d1]; have := mulb b1 b1; omega)
                have q2 : (dt * dt * u1).toInt = dt.toInt * dt.toInt * u1.toInt := by rw [l_mul (by rw [q1, d1]; have := mulb (mulb b1 b1) bu1; omega), q1]
                have q3 : (ow * ln).toInt = ow.toInt * ln.toInt := l_mul (by rw [d2, d3]; have := mulb b5 b2; omega)
                have q4 : (u2 * (ow * ln)).toInt = u2.toInt * (ow.toInt * ln.toInt) := by rw [l_mul (by rw [q3, d2, d3, a2]; have := mulb (mulb b4 b4) (mulb b5 b2); omega), q3]
                have q5 : (lg_cmp (dt * dt * u1) (u2 * (ow * ln)) ≤ 0) ↔ ¬ ((jn (kw + 2) B S s t).2.1 * (jn (kw + 2) B S s t).2.1 * sp (kw + 2) (lst B S s) (ahd B S t (lst B S s)) (ahd B S t (lst B S s)) < sp (kw + 2) (lst B S s) (ahd B S s (lst B S s)) (ahd B S t (lst B S s)) * sp (kw + 2) (lst B S s) (ahd B S s (lst B S s)) (ahd B S t (lst B S s)) * (jn (kw + 2) B S s t).1) := by
                  rw [lg_cmp_le, Int64.le_iff_toInt_le, q2, q4, d1, d2, d3, a1, a2, Int.not_lt]
                  by_cases hb : (jn (kw + 2) B S s t).2.2 = -1
                  · rw [if_pos hb, (b6 hb).1, (b6 hb).2, Int.zero_mul, Int.zero_mul, Int.zero_mul]
                  · rw [if_neg hb]
                    generalize sp (kw + 2) (lst B S s) (ahd B S s (lst B S s)) (ahd B S t (lst B S s)) = D at *
                    generalize sp (kw + 2) (lst B S s) (ahd B S t (lst B S s)) (ahd B S t (lst B S s)) = E at *
                    generalize sp (kw + 2) (lst B S s) (ahd B S s (lst B S s)) (ahd B S s (lst B S s)) = O at *
                    generalize (jn (kw + 2) B S s t).1 = P at *
                    generalize (jn (kw + 2) B S s t).2.1 = Q at *
                    have r1 : D * D * (O * P) = O * (D * D * P) := by rw [Int.mul_left_comm]
                    have r2 : Q * Q * (O * E) = O * (Q * Q * E) := by rw [Int.mul_left_comm]
                    rw [r1, r2]
                    exact ⟨fun h => Int.le_of_mul_le_mul_left h opos, fun h => Int.mul_le_mul_of_nonneg_left h (Int.le_of_lt opos)⟩
                by_cases c6 : (jn (kw + 2) B S s t).2.1 * (jn (kw + 2) B S s t).2.1 * sp (kw + 2) (lst B S s) (ahd B S t (lst B S s)) (ahd B S t (lst B S s)) < sp (kw + 2) (lst B S s) (ahd B S s (lst B S s)) (ahd B S t (lst B S s)) * sp (kw + 2) (lst B S s) (ahd B S s (lst B S s)) (ahd B S t (lst B S s)) * (jn (kw + 2) B S s t).1
                · refine ⟨(ow * ln, dt * dt, nI t), ?_, fun R Rz => ?_⟩
                  · rw [show jn (kw + 2) B S s (t + 1) = (sp (kw + 2) (lst B S s) (ahd B S t (lst B S s)) (ahd B S t (lst B S s)), sp (kw + 2) (lst B S s) (ahd B S s (lst B S s)) (ahd B S t (lst B S s)), nI t) by rw [jn, if_pos ⟨c1, c2, c5, c6⟩]]
                    try dsimp only
                    have hm1 : ¬ nI t = -1 := fun c => by
                      have : (nI t).toInt = -1 := by rw [c, i_m1]
                      rw [nI_toInt (by omega)] at this; omega
                    rw [if_neg hm1]
                    exact ⟨by rw [q3, d3, d2], by rw [q1, d1], rfl⟩
                  · rw [if_neg h0, if_neg h0, if_neg (fun c => q5.mp c c6), if_neg (fun c => q5.mp c c6), nI_1]
                    exact ⟨rfl, id⟩
                · refine ⟨(u1, u2, u3), ?_, fun R Rz => ?_⟩
                  · rw [show jn (kw + 2) B S s (t + 1) = jn (kw + 2) B S s t by rw [jn, if_neg (fun c => c6 c.2.2.2)]]; exact ⟨a1, a2, a3⟩
                  · rw [if_neg h0, if_neg h0, if_pos (q5.mpr c6), if_pos (q5.mpr c6), nI_1]
                    exact ⟨rfl, id⟩
              · have h0 : 0 ≤ lg_cmp dt 0 := g0.mpr c5
                refine ⟨(u1, u2, u3), ?_, fun R Rz => ?_⟩
                · rw [show jn (kw + 2) B S s (t + 1) = jn (kw + 2) B S s t by rw [jn, if_neg (fun c => c5 c.2.2.1)]]; exact ⟨a1, a2, a3⟩
                · rw [if_pos h0, if_pos h0, nI_1]
                  exact ⟨rfl, id⟩
            obtain ⟨u', hu', hR⟩ := common
            refine ⟨u', hu', fun m => ?_⟩
            obtain ⟨k1, k2⟩ := hR (f_M_joined_L35 (nI (kw + 2)) mf (nI s) mgf mst mqf m) (f_M_joined_L35_z (nI (kw + 2)) mf (nI s) mgf mst mqf m)
            rw [f_M_joined_L35, f_M_joined_L35_z, if_neg hnle, if_neg hnle, el, ed, if_neg hn3, if_neg hn3, if_neg hne, if_neg hne, ef, et, eo, ea]
            by_cases x1 : S (B t) = lst B S s
            · rw [if_pos (hff.mpr x1), if_pos (hff.mpr x1)]
              exact ⟨k1, fun hz => ⟨zd, zf, za, zdot, zdot, zdot, k2 hz⟩⟩
            · have x2 := c2.resolve_left x1
              rw [if_neg (fun c => x1 (hff.mp c)), if_neg (fun c => x1 (hff.mp c)), if_pos (hll.mpr x2), if_pos (hll.mpr x2)]
              exact ⟨k1, fun hz => ⟨zd, zf, zt, za, zdot, zdot, zdot, k2 hz⟩⟩
          · refine ⟨(u1, u2, u3), ?_, fun m => ?_⟩
            · rw [show jn (kw + 2) B S s (t + 1) = jn (kw + 2) B S s t by rw [jn, if_neg (fun c => c2 c.2.1)]]; exact ⟨a1, a2, a3⟩
            · rw [f_M_joined_L35, f_M_joined_L35_z, if_neg hnle, if_neg hnle, el, ed, if_neg hn3, if_neg hn3, if_neg hne, if_neg hne, ef, et, if_neg (fun c => c2 (Or.inl (hff.mp c))), if_neg (fun c => c2 (Or.inl (hff.mp c))), if_neg (fun c => c2 (Or.inr (hll.mp c))), if_neg (fun c => c2 (Or.inr (hll.mp c))), nI_1]
              exact ⟨rfl, fun hz => ⟨zd, zf, zt, hz⟩⟩)
      (s := (1, 0, -1)) ⟨rfl, rfl, rfl⟩
    obtain ⟨u1, u2, u3⟩ := s'
    refine ⟨nI n, u1, u2, ?_, hz⟩
    rw [e, if_pos c3, show u3 = _ from hI.2.2]
  · have hn3 : nI (dg (kw + 2) mf (lst B S s)) < 3 := nI_lt (b := 3) (by omega) (by omega)
    obtain ⟨F, hF⟩ : ∃ m, FU = m + 1 := ⟨FU - 1, by have := lt_FU (k := 1) (by omega); omega⟩
    have h0 : ¬ mst ≤ 0 := by rw [hG.1]; exact nI_nle (by omega) (by omega)
    refine ⟨0, 1, 0, ?_, ?_⟩
    · rw [hF, f_M_joined_L35, if_neg h0, el, ed, if_pos hn3, if_neg c3]
    · rw [hF, f_M_joined_L35_z, if_neg h0, el, ed, if_pos hn3]
      exact ⟨zd, trivial⟩
end
