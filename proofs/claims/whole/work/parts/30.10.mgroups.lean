/-! own: groups: the reference -/
def AD (ev : Prop) (W q r : Nat) : Prop := dd (q % W) (r % W) ≤ 1 ∧ dd (q / W) (r / W) ≤ 1 ∧ (ev → dd (q % W) (r % W) + dd (q / W) (r / W) ≤ 1)
theorem AD.symm {ev : Prop} {W q r : Nat} (h : AD ev W q r) : AD ev W r q := by
  unfold AD at *
  rw [dd_comm (r % W), dd_comm (r / W)]
  exact h
/-- reached over steps within C -/
def RC (C : Nat → Prop) (ev : Prop) (W q r : Nat) : Prop := C q ∧ ∀ P : Nat → Prop, P q → (∀ a b, P a → AD ev W a b → C b → P b) → P r
section
variable {C : Nat → Prop} {ev : Prop} {W q r s : Nat}
theorem RC.refl (h : C q) : RC C ev W q q := ⟨h, fun _ h0 _ => h0⟩
theorem RC.step (h : RC C ev W q r) (a : AD ev W r s) (c : C s) : RC C ev W q s := ⟨h.1, fun P h0 hs => hs r s (h.2 P h0 hs) a c⟩
theorem RC.col (h : RC C ev W q r) : C r := h.2 C h.1 (fun _ _ _ _ c => c)
theorem RC.trans (h1 : RC C ev W q r) (h2 : RC C ev W r s) : RC C ev W q s := h2.2 (RC C ev W q) h1 (fun _ _ ha hab hb => ha.step hab hb)
theorem RC.symm (h : RC C ev W q r) : RC C ev W r q :=
  (h.2 (fun r => C r ∧ RC C ev W r q) ⟨h.1, RC.refl h.1⟩ (fun a b ha hab hb => ⟨hb, ((RC.refl hb).step hab.symm ha.1).trans ha.2⟩)).2
end
theorem nr_v {q W : Nat} {a b : Int32} (hq : q < 100000) (hW : W < 100) (ha : a.toInt = -1 ∨ a.toInt = 0 ∨ a.toInt = 1) (hb : -1 ≤ b.toInt ∧ b.toInt ≤ 1) : ((nI q + (a * nI W)) + b).toInt = (q : Int) + a.toInt * W + b.toInt := by
  have em : (a * nI W).toInt = a.toInt * W := by
    rw [i_mul, nI_toInt (by omega)]
    · rw [nI_toInt (by omega)]; rcases ha with h | h | h <;> rw [h] <;> omega
    · rw [nI_toInt (by omega)]; rcases ha with h | h | h <;> rw [h] <;> omega
  have hm : -100 < a.toInt * (W : Int) ∧ a.toInt * (W : Int) < 100 := by rcases ha with h | h | h <;> rw [h] <;> omega
  have e1 : (nI q + (a * nI W)).toInt = (q : Int) + a.toInt * W := by rw [i_add (by rw [nI_toInt (by omega), em]; omega) (by rw [nI_toInt (by omega), em]; omega), nI_toInt (by omega), em]
  rw [i_add (by rw [e1]; omega) (by rw [e1]; omega), e1]
theorem near_val {W q : Nat} (hW : 3 ≤ W ∧ W ≤ 26) (hq2 : q < 10000) : ∀ d : Nat, d < 8 → (f_M_near (nI W) (nI q) (nI d)).toInt = (q : Int) + (ts_ry d).toInt * W + (ts_rx d).toInt := by
  refine c8 ?_ ?_ ?_ ?_ ?_ ?_ ?_ ?_
  · rw [f_M_near, if_pos (show (nI 0 - nI 0 / 4 * 4) = 0 by decide), if_neg (show ¬ nI 0 = 2 by decide), if_neg (show ¬ nI 0 = 6 by decide), if_neg (show ¬ nI 0 = 7 by decide), if_neg (show ¬ (2 : Int32) ≤ nI 0 by decide)]
    exact nr_v (by omega) (by omega) (by decide) (by decide)
  · rw [f_M_near, if_neg (show ¬ (nI 1 - nI 1 / 4 * 4) = 0 by decide), if_neg (show ¬ (4 : Int32) ≤ nI 1 by decide), if_neg (show ¬ nI 1 = 2 by decide), if_neg (show ¬ nI 1 = 6 by decide), if_neg (show ¬ nI 1 = 7 by decide), if_neg (show ¬ (2 : Int32) ≤ nI 1 by decide)]
    exact nr_v (by omega) (by omega) (by decide) (by decide)
  · rw [f_M_near, if_neg (show ¬ (nI 2 - nI 2 / 4 * 4) = 0 by decide), if_neg (show ¬ (4 : Int32) ≤ nI 2 by decide), if_pos (show nI 2 = 2 by decide)]
    exact nr_v (by omega) (by omega) (by decide) (by decide)
  · rw [f_M_near, if_neg (show ¬ (nI 3 - nI 3 / 4 * 4) = 0 by decide), if_neg (show ¬ (4 : Int32) ≤ nI 3 by decide), if_neg (show ¬ nI 3 = 2 by decide), if_neg (show ¬ nI 3 = 6 by decide), if_neg (show ¬ nI 3 = 7 by decide), if_pos (show (2 : Int32) ≤ nI 3 by decide)]
    exact nr_v (by omega) (by omega) (by decide) (by decide)
  · rw [f_M_near, if_pos (show (nI 4 - nI 4 / 4 * 4) = 0 by decide), if_neg (show ¬ nI 4 = 2 by decide), if_neg (show ¬ nI 4 = 6 by decide), if_neg (show ¬ nI 4 = 7 by decide), if_pos (show (2 : Int32) ≤ nI 4 by decide)]
    exact nr_v (by omega) (by omega) (by decide) (by decide)
  · rw [f_M_near, if_neg (show ¬ (nI 5 - nI 5 / 4 * 4) = 0 by decide), if_pos (show (4 : Int32) ≤ nI 5 by decide), if_neg (show ¬ nI 5 = 2 by decide), if_neg (show ¬ nI 5 = 6 by decide), if_neg (show ¬ nI 5 = 7 by decide), if_pos (show (2 : Int32) ≤ nI 5 by decide)]
    exact nr_v (by omega) (by omega) (by decide) (by decide)
  · rw [f_M_near, if_neg (show ¬ (nI 6 - nI 6 / 4 * 4) = 0 by decide), if_pos (show (4 : Int32) ≤ nI 6 by decide), if_neg (show ¬ nI 6 = 2 by decide), if_pos (show nI 6 = 6 by decide)]
    exact nr_v (by omega) (by omega) (by decide) (by decide)
  · rw [f_M_near, if_neg (show ¬ (nI 7 - nI 7 / 4 * 4) = 0 by decide), if_pos (show (4 : Int32) ≤ nI 7 by decide), if_neg (show ¬ nI 7 = 2 by decide), if_neg (show ¬ nI 7 = 6 by decide), if_pos (show nI 7 = 7 by decide)]
    exact nr_v (by omega) (by omega) (by decide) (by decide)
/-- r is the neighbour of q in direction d, in a grid of width W with A places -/
def NBr (W A q d r : Nat) : Prop := r < A ∧ ((r % W : Nat) : Int) = ((q % W : Nat) : Int) + (ts_rx d).toInt ∧ ((r / W : Nat) : Int) = ((q / W : Nat) : Int) + (ts_ry d).toInt
theorem rxy8 : ∀ d : Fin 8, ((ts_rx d.val).toInt = -1 ∨ (ts_rx d.val).toInt = 0 ∨ (ts_rx d.val).toInt = 1) ∧ ((ts_ry d.val).toInt = -1 ∨ (ts_ry d.val).toInt = 0 ∨ (ts_ry d.val).toInt = 1) ∧ (d.val % 2 = 0 → (ts_rx d.val).toInt = 0 ∨ (ts_ry d.val).toInt = 0) := by decide
theorem NBr.ad {W A q d r : Nat} (h : NBr W A q d r) (hd : d < 8) {ev : Prop} (he : ev → d % 2 = 0) : AD ev W q r := by
  obtain ⟨h1, h2, h3⟩ := h
  obtain ⟨a, b, c⟩ := rxy8 ⟨d, hd⟩
  try dsimp only at a b c
  have h2' : ((r % W : Nat) : Int) = ((q % W : Nat) : Int) + (ts_rx d).toInt := h2
  have h3' : ((r / W : Nat) : Int) = ((q / W : Nat) : Int) + (ts_ry d).toInt := h3
  refine ⟨by unfold dd; omega, by unfold dd; omega, fun hev => ?_⟩
  have := c (he hev)
  unfold dd; omega
theorem AD.nb {W A q r : Nat} {ev : Prop} (h : AD ev W q r) (hr : r < A) (hn : ¬ r = q) : ∃ d, d < 8 ∧ (ev → d % 2 = 0) ∧ NBr W A q d r := by
  obtain ⟨h1, h2, h3⟩ := h
  have e1 : q = W * (q / W) + q % W := (Nat.div_add_mod q W).symm
  have e2 : r = W * (r / W) + r % W := (Nat.div_add_mod r W).symm
  have key : ∀ d, d < 8 → (ev → d % 2 = 0) → (((r % W : Nat) : Int) = ((q % W : Nat) : Int) + (ts_rx d).toInt) → (((r / W : Nat) : Int) = ((q / W : Nat) : Int) + (ts_ry d).toInt) → ∃ d, d < 8 ∧ (ev → d % 2 = 0) ∧ NBr W A q d r := fun d h1 h2 h3 h4 => ⟨d, h1, h2, hr, h3, h4⟩
  have hne : ¬ (r % W = q % W ∧ r / W = q / W) := fun c => hn (by rw [e1, e2, c.1, c.2])
  generalize r % W = X' at *
  generalize q % W = X at *
  generalize r / W = Y' at *
  generalize q / W = Y at *
  unfold dd at h1 h2 h3
  rcases (show (X' = X ∧ Y' + 1 = Y) ∨ (X' = X + 1 ∧ Y' + 1 = Y) ∨ (X' = X + 1 ∧ Y' = Y) ∨ (X' = X + 1 ∧ Y' = Y + 1) ∨ (X' = X ∧ Y' = Y + 1) ∨ (X' + 1 = X ∧ Y' = Y + 1) ∨ (X' + 1 = X ∧ Y' = Y) ∨ (X' + 1 = X ∧ Y' + 1 = Y) by omega) with c | c | c | c | c | c | c | c
  · exact key 0 (by omega) (fun _ => rfl) (by rw [show (ts_rx 0).toInt = 0 from by decide]; omega) (by rw [show (ts_ry 0).toInt = -1 from by decide]; omega)
  · exact key 1 (by omega) (fun e => by have := h3 e; omega) (by rw [show (ts_rx 1).toInt = 1 from by decide]; omega) (by rw [show (ts_ry 1).toInt = -1 from by decide]; omega)
  · exact key 2 (by omega) (fun _ => rfl) (by rw [show (ts_rx 2).toInt = 1 from by decide]; omega) (by rw [show (ts_ry 2).toInt = 0 from by decide]; omega)
  · exact key 3 (by omega) (fun e => by have := h3 e; omega) (by rw [show (ts_rx 3).toInt = 1 from by decide]; omega) (by rw [show (ts_ry 3).toInt = 1 from by decide]; omega)
  · exact key 4 (by omega) (fun _ => rfl) (by rw [show (ts_rx 4).toInt = 0 from by decide]; omega) (by rw [show (ts_ry 4).toInt = 1 from by decide]; omega)
  · exact key 5 (by omega) (fun e => by have := h3 e; omega) (by rw [show (ts_rx 5).toInt = -1 from by decide]; omega) (by rw [show (ts_ry 5).toInt = 1 from by decide]; omega)
  · exact key 6 (by omega) (fun _ => rfl) (by rw [show (ts_rx 6).toInt = -1 from by decide]; omega) (by rw [show (ts_ry 6).toInt = 0 from by decide]; omega)
  · exact key 7 (by omega) (fun e => by have := h3 e; omega) (by rw [show (ts_rx 7).toInt = -1 from by decide]; omega) (by rw [show (ts_ry 7).toInt = -1 from by decide]; omega)
theorem in_eq (px a b : Int32) : f_M_in px a b = if a.toInt ≤ px.toInt ∧ px.toInt ≤ b.toInt then 1 else 0 := by
  unfold f_M_in
  simp only [i_lt]
  by_cases h1 : px.toInt < a.toInt
  · rw [if_pos h1, if_neg (by omega)]
  by_cases h2 : b.toInt < px.toInt
  · rw [if_neg h1, if_pos h2, if_neg (by omega)]
  · rw [if_neg h1, if_neg h2, if_pos (by omega)]
/-- the reference's look at one neighbour -/
theorem gnb {W A q d : Nat} (hW : 3 ≤ W ∧ W ≤ 26) (hA : 0 < A ∧ A ≤ 676) (hq : q < A) (hd : d < 8) :
    (∃ r, NBr W A q d r ∧ f_M_near (nI W) (nI q) (nI d) = nI r ∧ f_M_in (nI r) 0 (nI A - 1) = 1 ∧ f_M_in ((nI r - nI r / nI W * nI W) - (nI q - nI q / nI W * nI W)) (-1) 1 = 1) ∨
    ((∀ r, ¬ NBr W A q d r) ∧ (f_M_in (f_M_near (nI W) (nI q) (nI d)) 0 (nI A - 1) = 0 ∨ ∃ r, r < A ∧ f_M_near (nI W) (nI q) (nI d) = nI r ∧ f_M_in (nI r) 0 (nI A - 1) = 1 ∧ f_M_in ((nI r - nI r / nI W * nI W) - (nI q - nI q / nI W * nI W)) (-1) 1 = 0)) := by
  have ev := near_val hW (q := q) (by omega) d hd
  have eA : (nI A - 1).toInt = (A : Int) - 1 := pk_sub_toInt (b := 1) (by omega) (by omega)
  obtain ⟨ha, hb, -⟩ := rxy8 ⟨d, hd⟩
  try dsimp only at ha hb
  have hmod : ∀ r, r < A → ((nI r - nI r / nI W * nI W) - (nI q - nI q / nI W * nI W)).toInt = ((r % W : Nat) : Int) - ((q % W : Nat) : Int) := by
    intro r hr
    have := Nat.mod_lt r (show 0 < W by omega)
    have := Nat.mod_lt q (show 0 < W by omega)
    rw [pk_rem (by omega) (by omega) (by omega), pk_rem (by omega) (by omega) (by omega), pk_sub_toInt (by omega) (by omega)]
  have eq : (q : Int) = (W : Int) * ((q / W : Nat) : Int) + ((q % W : Nat) : Int) := by
    have := Nat.div_add_mod q W
    rw [← Int.natCast_mul]; omega
  by_cases hv : 0 ≤ (f_M_near (nI W) (nI q) (nI d)).toInt ∧ (f_M_near (nI W) (nI q) (nI d)).toInt ≤ (A : Int) - 1
  · obtain ⟨r, hr⟩ : ∃ r : Nat, (r : Int) = (f_M_near (nI W) (nI q) (nI d)).toInt := ⟨_, Int.toNat_of_nonneg hv.1⟩
    have er : f_M_near (nI W) (nI q) (nI d) = nI r := Int32.toInt_inj.mp (by rw [nI_toInt (by omega), hr])
    have i1 : f_M_in (nI r) 0 (nI A - 1) = 1 := by rw [in_eq, nI_toInt (by omega), eA, i_0, if_pos (by omega)]
    have e2 : (r : Int) = (W : Int) * ((r / W : Nat) : Int) + ((r % W : Nat) : Int) := by
      have := Nat.div_add_mod r W
      rw [← Int.natCast_mul]; omega
    by_cases hc : -1 ≤ ((r % W : Nat) : Int) - ((q % W : Nat) : Int) ∧ ((r % W : Nat) : Int) - ((q % W : Nat) : Int) ≤ 1
    · left
      have hk : (W : Int) * (((r / W : Nat) : Int) - ((q / W : Nat) : Int) - (ts_ry d).toInt) = ((q % W : Nat) : Int) + (ts_rx d).toInt - ((r % W : Nat) : Int) := by
        rw [Int.mul_sub, Int.mul_sub, Int.mul_comm (W : Int) (ts_ry d).toInt]
        omega
      have k0 : ((r / W : Nat) : Int) - ((q / W : Nat) : Int) - (ts_ry d).toInt = 0 := by
        generalize ((r / W : Nat) : Int) - ((q / W : Nat) : Int) - (ts_ry d).toInt = k at hk
        rcases (show k ≤ -1 ∨ k = 0 ∨ 1 ≤ k by omega) with h | h | h
        · have := Int.mul_le_mul_of_nonneg_left h (show (0 : Int) ≤ W by omega)
          omega
        · exact h
        · have := Int.mul_le_mul_of_nonneg_left h (show (0 : Int) ≤ W by omega)
          omega
      rw [k0, Int.mul_zero] at hk
      refine ⟨r, ⟨by omega, ?_, ?_⟩, er, i1, ?_⟩
      · show ((r % W : Nat) : Int) = ((q % W : Nat) : Int) + (ts_rx d).toInt
        omega
      · show ((r / W : Nat) : Int) = ((q / W : Nat) : Int) + (ts_ry d).toInt
        omega
      · rw [in_eq, hmod r (by omega), i_m1, i_1, if_pos hc]
    · right
      refine ⟨?_, Or.inr ⟨r, by omega, er, i1, ?_⟩⟩
      · rintro r' ⟨-, h2, h3⟩
        have h2' : ((r' % W : Nat) : Int) = ((q % W : Nat) : Int) + (ts_rx d).toInt := h2
        have h3' : ((r' / W : Nat) : Int) = ((q / W : Nat) : Int) + (ts_ry d).toInt := h3
        have e3 : (r' : Int) = (W : Int) * ((r' / W : Nat) : Int) + ((r' % W : Nat) : Int) := by
          have := Nat.div_add_mod r' W
          rw [← Int.natCast_mul]; omega
        rw [h3', h2', Int.mul_add, Int.mul_comm (W : Int) (ts_ry d).toInt] at e3
        have : r' = r := by omega
        subst this
        omega
      · rw [in_eq, hmod r (by omega), i_m1, i_1, if_neg hc]
  · right
    refine ⟨?_, Or.inl ?_⟩
    · rintro r' ⟨h1, h2, h3⟩
      have h2' : ((r' % W : Nat) : Int) = ((q % W : Nat) : Int) + (ts_rx d).toInt := h2
      have h3' : ((r' / W : Nat) : Int) = ((q / W : Nat) : Int) + (ts_ry d).toInt := h3
      have e3 : (r' : Int) = (W : Int) * ((r' / W : Nat) : Int) + ((r' % W : Nat) : Int) := by
        have := Nat.div_add_mod r' W
        rw [← Int.natCast_mul]; omega
      rw [h3', h2', Int.mul_add, Int.mul_comm (W : Int) (ts_ry d).toInt] at e3
      omega
    · rw [in_eq, eA, i_0, if_neg hv]
theorem sumn_upd {g : Nat → Nat} {i m : Nat} : ∀ {n : Nat}, i < n → sumn (fun r => if r = i then m else g r) n + g i = sumn g n + m
  | 0, h => by omega
  | n + 1, h => by
    rw [sumn, sumn]
    by_cases e : i = n
    · subst e
      have : sumn (fun r => if r = i then m else g r) i = sumn g i := sumn_congr (fun j hj => if_neg (by omega))
      rw [this, if_pos rfl]; omega
    · have := sumn_upd (g := g) (m := m) (n := n) (i := i) (by omega)
      rw [if_neg (fun c => e c.symm)]; omega
/-- the least label round about -/
theorem mleast {kw kh : Nat} (hw : 1 ≤ kw ∧ kw ≤ 24) (hh : 1 ≤ kh ∧ kh ≤ 24) {px : Int32} {f : Nat → Int32} {g : Nat → Nat} {A : Nat} (hA : A = (kw + 2) * (kh + 2)) (hf : ∀ r, r < A → f r = nI (g r)) (hg : ∀ r, r < A → g r ≤ 676) {i : Nat} (hi : i < A) (hlt : g i < 676) :
    ∃ v m, f_M_groups_L68 (nI kh) (nI (kw + 2)) px (nI i) f FU (0, nI (g i)) = (v, nI m) ∧ m ≤ g i ∧ (m = g i ∨ ∃ r, r < A ∧ AD (px = 0) (kw + 2) i r ∧ m = g r) ∧ (∀ r, r < A → AD (px = 0) (kw + 2) i r → m ≤ g r) ∧ f_M_groups_L68_z (nI kh) (nI (kw + 2)) px (nI i) f FU (0, nI (g i)) := by
  have ha := ar_le hw.2 hh.2
  have hW0 : ¬ nI (kw + 2) = 0 := nI_ne0 (by omega) (by omega)
  have key := lw_z (F := f_M_groups_L68 (nI kh) (nI (kw + 2)) px (nI i) f) (Fz := f_M_groups_L68_z (nI kh) (nI (kw + 2)) px (nI i) f)
    (fun s => ∃ d m, s = (nI d, nI m) ∧ d ≤ 8 ∧ (px = 0 → d % 2 = 0) ∧ m ≤ g i ∧ (m = g i ∨ ∃ r, r < A ∧ AD (px = 0) (kw + 2) i r ∧ m = g r) ∧ ∀ d', d' < d → (px = 0 → d' % 2 = 0) → ∀ r, NBr (kw + 2) A i d' r → m ≤ g r)
    (fun s => ∃ m, s = (nI 8, nI m) ∧ m ≤ g i ∧ (m = g i ∨ ∃ r, r < A ∧ AD (px = 0) (kw + 2) i r ∧ m = g r) ∧ ∀ d', d' < 8 → (px = 0 → d' % 2 = 0) → ∀ r, NBr (kw + 2) A i d' r → m ≤ g r)
    (fun s => 8 - s.1.toNatClampNeg) (by
      rintro s ⟨d, m, rfl, d8, de, m1, m2, m3⟩
      by_cases h8 : (8 : Int32) ≤ nI d
      · have e8 : d = 8 := (k8 d8).mp h8
        subst e8
        left
        refine ⟨⟨m, rfl, m1, m2, m3⟩, fun n => ?_⟩
        rw [f_M_groups_L68, f_M_groups_L68_z, if_pos h8, if_pos h8]
        exact ⟨rfl, trivial⟩
      · have hd : d < 8 := by rw [k8 d8] at h8; omega
        have h676 : ¬ (676 : Int32) ≤ nI m := nI_ge (b := 676) (by omega) (by omega)
        right
        -- the next direction and the next least
        have fin : ∀ m', m' ≤ g i → (m' = g i ∨ ∃ r, r < A ∧ AD (px = 0) (kw + 2) i r ∧ m' = g r) → (∀ d', d' ≤ d → (px = 0 → d' % 2 = 0) → ∀ r, NBr (kw + 2) A i d' r → m' ≤ g r) →
            (∀ n, f_M_groups_L68 (nI kh) (nI (kw + 2)) px (nI i) f (n + 1) (nI d, nI m) = (if px = 0 then f_M_groups_L68 (nI kh) (nI (kw + 2)) px (nI i) f n (nI d + 2, nI m') else f_M_groups_L68 (nI kh) (nI (kw + 2)) px (nI i) f n (nI d + 1, nI m')) ∧ ((if px = 0 then f_M_groups_L68_z (nI kh) (nI (kw + 2)) px (nI i) f n (nI d + 2, nI m') else f_M_groups_L68_z (nI kh) (nI (kw + 2)) px (nI i) f n (nI d + 1, nI m')) → f_M_groups_L68_z (nI kh) (nI (kw + 2)) px (nI i) f (n + 1) (nI d, nI m))) →
            ∃ s', (∃ d m, s' = (nI d, nI m) ∧ d ≤ 8 ∧ (px = 0 → d % 2 = 0) ∧ m ≤ g i ∧ (m = g i ∨ ∃ r, r < A ∧ AD (px = 0) (kw + 2) i r ∧ m = g r) ∧ ∀ d', d' < d → (px = 0 → d' % 2 = 0) → ∀ r, NBr (kw + 2) A i d' r → m ≤ g r) ∧ 8 - s'.1.toNatClampNeg < 8 - (nI d).toNatClampNeg ∧ ∀ n, f_M_groups_L68 (nI kh) (nI (kw + 2)) px (nI i) f (n + 1) (nI d, nI m) = f_M_groups_L68 (nI kh) (nI (kw + 2)) px (nI i) f n s' ∧ (f_M_groups_L68_z (nI kh) (nI (kw + 2)) px (nI i) f n s' → f_M_groups_L68_z (nI kh) (nI (kw + 2)) px (nI i) f (n + 1) (nI d, nI m)) := by
          intro m' a1 a2 a3 a4
          by_cases hp : px = 0
          · simp only [if_pos hp] at a4
            rw [show nI d + 2 = nI (d + 2) from nI_add d 2] at a4
            have de' := de hp
            refine ⟨(nI (d + 2), nI m'), ⟨d + 2, m', rfl, by omega, fun _ => by omega, a1, a2, fun d' h1 h2 r h3 => a3 d' (by have := h2 hp; omega) h2 r h3⟩, ?_, a4⟩
            try dsimp only
            rw [nI_clamp (by omega), nI_clamp (by omega)]; omega
          · simp only [if_neg hp] at a4
            rw [nI_1] at a4
            refine ⟨(nI (d + 1), nI m'), ⟨d + 1, m', rfl, by omega, fun h => absurd h hp, a1, a2, fun d' h1 h2 r h3 => a3 d' (by omega) h2 r h3⟩, ?_, a4⟩
            try dsimp only
            rw [nI_clamp (by omega), nI_clamp (by omega)]; omega
        rcases gnb (W := kw + 2) (A := A) (q := i) (d := d) (by omega) (by omega) hi hd with ⟨r, hN, er, i1, i2⟩ | ⟨hN, hv⟩
        · have hr := hN.1
          by_cases hc : m ≤ g r
          · refine fin m m1 m2 ?_ ?_
            · intro d' h1 h2 r' h3
              by_cases e : d' = d
              · subst e
                have : r' = r := by
                  have e1 := Nat.div_add_mod r' (kw + 2)
                  have e2 := Nat.div_add_mod r (kw + 2)
                  have x1 : r' % (kw + 2) = r % (kw + 2) := by have := h3.2.1; have := hN.2.1; omega
                  have x2 : r' / (kw + 2) = r / (kw + 2) := by have := h3.2.2; have := hN.2.2; omega
                  rw [← e1, ← e2, x1, x2]
                rw [this]; exact hc
              · exact m3 d' (by omega) h2 r' h3
            · intro n
              have hcl : nI m ≤ nI (g r) := nI_le hc (by have := hg r hr; omega)
              rw [f_M_groups_L68, f_M_groups_L68_z, if_neg h8, if_neg h8, if_neg h676, if_neg h676, er, f_M_groups_t90, f_M_groups_t90_z, ar_eq, ← hA, i1, i2, nI_clamp (by omega), hf r hr]
              simp only [if_neg (show ¬ (1 : Int32) = 0 by decide), if_pos hcl]
              refine ⟨trivial, fun hz => ⟨hW0, hW0, vp_in_nI (by omega) (by omega), hz⟩⟩
          · refine fin (g r) (by omega) (Or.inr ⟨r, hr, ?_, rfl⟩) ?_ ?_
            · exact hN.ad hd de
            · intro d' h1 h2 r' h3
              by_cases e : d' = d
              · subst e
                have : r' = r := by
                  have e1 := Nat.div_add_mod r' (kw + 2)
                  have e2 := Nat.div_add_mod r (kw + 2)
                  have x1 : r' % (kw + 2) = r % (kw + 2) := by have := h3.2.1; have := hN.2.1; omega
                  have x2 : r' / (kw + 2) = r / (kw + 2) := by have := h3.2.2; have := hN.2.2; omega
                  rw [← e1, ← e2, x1, x2]
                rw [this]; exact Nat.le_refl _
              · have := m3 d' (by omega) h2 r' h3; omega
            · intro n
              have hcl : ¬ nI m ≤ nI (g r) := nI_ge (by omega) (by omega)
              rw [f_M_groups_L68, f_M_groups_L68_z, if_neg h8, if_neg h8, if_neg h676, if_neg h676, er, f_M_groups_t90, f_M_groups_t90_z, ar_eq, ← hA, i1, i2, nI_clamp (by omega), hf r hr]
              simp only [if_neg (show ¬ (1 : Int32) = 0 by decide), if_neg hcl]
              refine ⟨trivial, fun hz => ⟨hW0, hW0, vp_in_nI (by omega) (by omega), vp_in_nI (by omega) (by omega), hz⟩⟩
        · refine fin m m1 m2 ?_ ?_
          · intro d' h1 h2 r' h3
            by_cases e : d' = d
            · subst e; exact absurd h3 (hN r')
            · exact m3 d' (by omega) h2 r' h3
          · intro n
            rw [f_M_groups_L68, f_M_groups_L68_z, if_neg h8, if_neg h8, if_neg h676, if_neg h676, f_M_groups_t90, f_M_groups_t90_z, ar_eq, ← hA]
            rcases hv with hv | ⟨r, hr, er, i1, i2⟩
            · simp only [if_pos hv]
              exact ⟨trivial, fun hz => hz⟩
            · rw [er]
              simp only [i1, i2, if_neg (show ¬ (1 : Int32) = 0 by decide), if_true]
              exact ⟨trivial, fun hz => ⟨hW0, hW0, hz⟩⟩)
    FU (nI 0, nI (g i)) (by have := lt_FU (k := 8) (by omega); omega) ⟨0, g i, rfl, by omega, fun _ => rfl, Nat.le_refl _, Or.inl rfl, fun d' h => by omega⟩
  rw [nI_0] at key
  obtain ⟨⟨m, e, m1, m2, m3⟩, hz⟩ := key
  refine ⟨_, m, e, m1, m2, fun r hr had => ?_, hz⟩
  by_cases hn : r = i
  · rw [hn]; exact m1
  · obtain ⟨d, d1, d2, d3⟩ := had.nb hr hn
    exact m3 d d1 d2 r d3
/-- labels that may stand at any time -/
def GG (A W : Nat) (px : Int32) (mlf : Nat → Int32) (g : Nat → Nat) : Prop := ∀ q, q < A → (mlf q = px → g q ≤ q ∧ RC (fun q => q < A ∧ mlf q = px) (px = 0) W q (g q)) ∧ (¬ mlf q = px → g q = 676)
theorem GG.le {A W : Nat} {px : Int32} {mlf : Nat → Int32} {g : Nat → Nat} (h : GG A W px mlf g) (hA : A ≤ 676) {r : Nat} (hr : r < A) : g r ≤ 676 := by
  by_cases c : mlf r = px
  · have := ((h r hr).1 c).1; omega
  · have := (h r hr).2 c; omega
theorem mrounds {kw kh : Nat} (hw : 1 ≤ kw ∧ kw ≤ 24) (hh : 1 ≤ kh ∧ kh ≤ 24) {px : Int32} {mlf f0 : Nat → Int32} {g0 : Nat → Nat} {A : Nat} (hA : A = (kw + 2) * (kh + 2)) (hf0 : ∀ r, r < A → f0 r = nI (g0 r)) (hG0 : GG A (kw + 2) px mlf g0) :
    ∃ v g f, f_M_groups_L49 (nI kh) (nI (kw + 2)) px FU (0, 0, f0) = (nI A, v, f) ∧ (∀ r, r < A → f r = nI (g r)) ∧ GG A (kw + 2) px mlf g ∧ ((v = 0 ∧ (∀ r, r < A → g r = g0 r) ∧ ∀ i r, i < A → r < A → mlf i = px → AD (px = 0) (kw + 2) i r → g0 i ≤ g0 r) ∨ (v = 1 ∧ sumn g A < sumn g0 A)) ∧ f_M_groups_L49_z (nI kh) (nI (kw + 2)) px FU (0, 0, f0) := by
  have ha := ar_le hw.2 hh.2
  obtain ⟨s', e, ⟨g, c1, c2, c3⟩, hz⟩ := lu_0z (F := f_M_groups_L49 (nI kh) (nI (kw + 2)) px) (Fz := f_M_groups_L49_z (nI kh) (nI (kw + 2)) px)
    (fun i s => ∃ g, (∀ r, r < A → s.2 r = nI (g r)) ∧ GG A (kw + 2) px mlf g ∧ ((s.1 = 0 ∧ (∀ r, r < A → g r = g0 r) ∧ ∀ i' r, i' < i → r < A → mlf i' = px → AD (px = 0) (kw + 2) i' r → g0 i' ≤ g0 r) ∨ (s.1 = 1 ∧ sumn g A < sumn g0 A))) A (by omega)
    (fun s _ n => by
      obtain ⟨v, f⟩ := s
      rw [f_M_groups_L49, f_M_groups_L49_z, ar_eq, ← hA, if_pos (nI_le (Nat.le_refl _) (by omega)), if_pos (nI_le (Nat.le_refl _) (by omega))]
      exact ⟨rfl, trivial⟩)
    (fun i s hi hs => by
      obtain ⟨v, f⟩ := s
      obtain ⟨g, c1, c2, c3⟩ := hs
      try dsimp only at c1 c3
      have vi : vp_in (nI i) 676 := vp_in_nI (by omega) (by omega)
      have hgi := c2.le (by omega) hi
      have key : ∃ v5 m, f_M_groups_L68 (nI kh) (nI (kw + 2)) px (nI i) f FU (0, nI (g i)) = (v5, nI m) ∧ m ≤ g i ∧ (mlf i = px → m ≤ i ∧ RC (fun q => q < A ∧ mlf q = px) (px = 0) (kw + 2) i m) ∧ (¬ mlf i = px → m = 676) ∧ (mlf i = px → ∀ r, r < A → AD (px = 0) (kw + 2) i r → m ≤ g r) ∧ f_M_groups_L68_z (nI kh) (nI (kw + 2)) px (nI i) f FU (0, nI (g i)) := by
        by_cases cp : mlf i = px
        · obtain ⟨a1, a2⟩ := (c2 i hi).1 cp
          obtain ⟨v5, m, e, m1, m2, m3, mz⟩ := mleast hw hh (px := px) hA c1 (fun r hr => c2.le (by omega) hr) hi (by omega)
          refine ⟨v5, m, e, m1, fun _ => ⟨by omega, ?_⟩, fun h => absurd cp h, fun _ => m3, mz⟩
          rcases m2 with h | ⟨r, r1, r2, r3⟩
          · rw [h]; exact a2
          · have cr : mlf r = px := Classical.byContradiction fun c => by have := (c2 r r1).2 c; omega
            have a3 : RC (fun q => q < A ∧ mlf q = px) (px = 0) (kw + 2) i r := (RC.refl (C := fun q => q < A ∧ mlf q = px) ⟨hi, cp⟩).step r2 ⟨r1, cr⟩
            rw [r3]
            exact a3.trans ((c2 r r1).1 cr).2
        · have g6 := (c2 i hi).2 cp
          obtain ⟨n, hn⟩ : ∃ n, FU = n + 1 := ⟨FU - 1, by have := lt_FU (k := 1) (by omega); omega⟩
          have h6 : (676 : Int32) ≤ nI 676 := by decide
          have h8 : ¬ (8 : Int32) ≤ 0 := by decide
          refine ⟨0, 676, ?_, by omega, fun h => absurd h cp, fun _ => rfl, fun h => absurd h cp, ?_⟩
          · rw [g6, hn, f_M_groups_L68, if_neg h8, if_pos h6]
          · rw [g6, hn, f_M_groups_L68_z, if_neg h8, if_pos h6]; trivial
      obtain ⟨v5, m, e, m1, m2, m3, m4, mz⟩ := key
      have fi := c1 i hi
      have hstep : ∀ n, f_M_groups_L49 (nI kh) (nI (kw + 2)) px (n + 1) (nI i, v, f) = f_M_groups_L49 (nI kh) (nI (kw + 2)) px n (nI (i + 1), (if v = 0 then (if g i ≤ m then (0 : Int32) else 1) else 1), upd f i (nI m)) ∧ (f_M_groups_L49_z (nI kh) (nI (kw + 2)) px n (nI (i + 1), (if v = 0 then (if g i ≤ m then (0 : Int32) else 1) else 1), upd f i (nI m)) → f_M_groups_L49_z (nI kh) (nI (kw + 2)) px (n + 1) (nI i, v, f)) := by
        intro n
        rw [f_M_groups_L49, f_M_groups_L49_z, ar_eq, ← hA, if_neg (nI_ge hi (by omega)), if_neg (nI_ge hi (by omega)), nI_clamp (by omega), fi, f_M_groups_t63, f_M_groups_t63_z, e, f_M_groups_k68, f_M_groups_k68_z, nI_clamp (by omega), fi, nI_1]
        by_cases hv : v = 0
        · simp only [if_pos hv]
          by_cases hc : g i ≤ m
          · have hcl : nI (g i) ≤ nI m := nI_le hc (by omega)
            simp only [if_pos hcl, if_pos hc]
            exact ⟨trivial, fun hz => ⟨vi, mz, vi, vi, hz⟩⟩
          · have hcl : ¬ nI (g i) ≤ nI m := nI_ge (by omega) (by omega)
            simp only [if_neg hcl, if_neg hc]
            exact ⟨trivial, fun hz => ⟨vi, mz, vi, vi, hz⟩⟩
        · simp only [if_neg hv]
          exact ⟨trivial, fun hz => ⟨vi, mz, vi, hz⟩⟩
      refine ⟨(_, _), ⟨fun r => if r = i then m else g r, ?_, ?_, ?_⟩, hstep⟩
      · intro r hr
        try dsimp only
        by_cases e : r = i
        · rw [e, pk_us, if_pos rfl]
        · rw [pk_un e, if_neg e]; exact c1 r hr
      · intro q hq
        try dsimp only
        by_cases e : q = i
        · subst e
          rw [if_pos rfl]
          exact ⟨m2, m3⟩
        · rw [if_neg e]; exact c2 q hq
      · try dsimp only
        have hsum := sumn_upd (g := g) (m := m) hi
        rcases c3 with ⟨v0, d1, d2⟩ | ⟨v1, d1⟩
        · rw [if_pos v0]
          by_cases hc : g i ≤ m
          · left
            rw [if_pos hc]
            have em : m = g i := by omega
            refine ⟨rfl, fun r hr => ?_, fun i' r h1 h2 h3 h4 => ?_⟩
            · by_cases e : r = i
              · rw [if_pos e, em, e, d1 i hi]
              · rw [if_neg e]; exact d1 r hr
            · by_cases e : i' = i
              · subst e
                have := m4 h3 r h2 h4
                rw [← d1 i' hi, ← d1 r h2]; omega
              · exact d2 i' r (by omega) h2 h3 h4
          · right
            rw [if_neg hc]
            refine ⟨rfl, ?_⟩
            have : sumn g A = sumn g0 A := sumn_congr d1
            omega
        · right
          rw [if_neg (by rw [v1]; decide)]
          exact ⟨rfl, by omega⟩)
    (s := (0, f0)) ⟨g0, hf0, hG0, Or.inl ⟨rfl, fun _ _ => rfl, fun i' r h => by omega⟩⟩
  obtain ⟨v, f⟩ := s'
  exact ⟨v, g, f, e, c1, c2, c3, hz⟩
/-- how many groups the reference finds -/
theorem mgroups {kw kh : Nat} (hw : 1 ≤ kw ∧ kw ≤ 24) (hh : 1 ≤ kh ∧ kh ≤ 24) (px : Int32) (mlf mbf : Nat → Int32) {A : Nat} (hA : A = (kw + 2) * (kh + 2)) :
    ∃ (p : Nat → Bool) (g : Nat → Int32), f_M_groups (nI kh) (nI (kw + 2)) mlf mbf px = (nI (cntb p A), g) ∧ (∀ q, q < A → (p q = true ↔ (mlf q = px ∧ ∀ r, RC (fun q => q < A ∧ mlf q = px) (px = 0) (kw + 2) q r → q ≤ r))) ∧ z_M_groups (nI kh) (nI (kw + 2)) mlf mbf px := by
  have ha := ar_le hw.2 hh.2
  obtain ⟨f1, e1, I1, z1⟩ := lu_0z (F := f_M_groups_L2 (nI kh) (nI (kw + 2)) mlf px) (Fz := f_M_groups_L2_z (nI kh) (nI (kw + 2)) mlf px) (fun i s => ∀ r, r < i → s r = nI (if mlf r = px then r else 676)) A (by omega)
    (fun s _ n => by
      rw [f_M_groups_L2, f_M_groups_L2_z, ar_eq, ← hA, if_pos (nI_le (Nat.le_refl _) (by omega)), if_pos (nI_le (Nat.le_refl _) (by omega))]
      exact ⟨rfl, trivial⟩)
    (fun i s hi hs => by
      have vi : vp_in (nI i) 676 := vp_in_nI (by omega) (by omega)
      refine ⟨upd s i (nI (if mlf i = px then i else 676)), fun r hr => ?_, fun n => ?_⟩
      · by_cases e : r = i
        · rw [e, pk_us]
        · rw [pk_un e]; exact hs r (by omega)
      · rw [f_M_groups_L2, f_M_groups_L2_z, ar_eq, ← hA, if_neg (nI_ge hi (by omega)), if_neg (nI_ge hi (by omega)), nI_clamp (by omega), nI_1]
        by_cases c : mlf i = px
        · simp only [if_pos c]
          exact ⟨trivial, fun hz => ⟨vi, vi, hz⟩⟩
        · simp only [if_neg c]
          exact ⟨rfl, fun hz => ⟨vi, vi, hz⟩⟩)
    (s := mbf) (fun r hr => by omega)
  have G1 : GG A (kw + 2) px mlf (fun r => if mlf r = px then r else 676) := fun q hq => by
    try dsimp only
    refine ⟨fun c => ?_, fun c => if_neg c⟩
    rw [if_pos c]
    exact ⟨Nat.le_refl _, RC.refl ⟨hq, c⟩⟩
  have key := lw_z (F := f_M_groups_L41 (nI kh) (nI (kw + 2)) px) (Fz := f_M_groups_L41_z (nI kh) (nI (kw + 2)) px)
    (fun s => ∃ g, (∀ r, r < A → s.2 r = nI (g r)) ∧ GG A (kw + 2) px mlf g ∧ (s.1 = 0 → ∀ i r, i < A → r < A → mlf i = px → AD (px = 0) (kw + 2) i r → g i ≤ g r))
    (fun s => ∃ g, (∀ r, r < A → s.2 r = nI (g r)) ∧ GG A (kw + 2) px mlf g ∧ ∀ i r, i < A → r < A → mlf i = px → AD (px = 0) (kw + 2) i r → g i ≤ g r)
    (fun s => if s.1 = 0 then 0 else sumn (fun r => (s.2 r).toNatClampNeg) A + 1) (by
      rintro ⟨v, f⟩ ⟨g, c1, c2, c3⟩
      try dsimp only at c1 c3
      by_cases hv : v = 0
      · left
        refine ⟨⟨g, c1, c2, c3 hv⟩, fun n => ?_⟩
        rw [f_M_groups_L41, f_M_groups_L41_z, if_pos hv, if_pos hv]
        exact ⟨rfl, trivial⟩
      · right
        obtain ⟨v', g', f', e, k1, k2, k3, kz⟩ := mrounds hw hh hA c1 c2
        have hsum : ∀ (f : Nat → Int32) (g : Nat → Nat), (∀ r, r < A → f r = nI (g r)) → GG A (kw + 2) px mlf g → sumn (fun r => (f r).toNatClampNeg) A = sumn g A := fun f g h1 h2 => sumn_congr (fun j hj => by
          rw [h1 j hj, nI_clamp (by have := h2.le (by omega) hj; omega)])
        refine ⟨(v', f'), ⟨g', k1, k2, fun h0 => ?_⟩, ?_, fun n => ?_⟩
        · rcases k3 with ⟨-, d1, d2⟩ | ⟨h1, -⟩
          · intro i r h1 h2 h3 h4
            rw [d1 i h1, d1 r h2]; exact d2 i r h1 h2 h3 h4
          · try dsimp only at h0
            rw [h1] at h0; exact absurd h0 (by decide)
        · try dsimp only
          rw [if_neg hv, hsum f g c1 c2, hsum f' g' k1 k2]
          rcases k3 with ⟨h0, -⟩ | ⟨h1, d1⟩
          · rw [if_pos h0]; omega
          · split <;> omega
        · rw [f_M_groups_L41, f_M_groups_L41_z, if_neg hv, if_neg hv, e, f_M_groups_k49, f_M_groups_k49_z]
          exact ⟨rfl, fun hz => ⟨kz, hz⟩⟩)
    FU (1, f1) (by
      try dsimp only
      rw [if_neg (by decide)]
      have : sumn (fun r => (f1 r).toNatClampNeg) A ≤ A * 676 := sumn_le (fun j hj => by
        rw [I1 j hj, nI_clamp (by split <;> omega)]
        split <;> omega)
      exact lt_FU (by omega)) ⟨_, I1, G1, fun h => absurd (show (1 : Int32) = 0 from h) (by decide)⟩
  obtain ⟨⟨g, c1, c2, c3⟩, z2⟩ := key
  obtain ⟨v, f, hs2⟩ : ∃ v f, f_M_groups_L41 (nI kh) (nI (kw + 2)) px FU (1, f1) = (v, f) := ⟨_, _, rfl⟩
  rw [hs2] at c1
  try dsimp only at c1
  obtain ⟨s3, e3, I3, z3⟩ := lu_0z (F := f_M_groups_L227 (nI kh) (nI (kw + 2)) f) (Fz := f_M_groups_L227_z (nI kh) (nI (kw + 2)) f) (fun i s => s = nI (cntb (fun q => decide (g q = q)) i)) A (by omega)
    (fun s _ n => by
      rw [f_M_groups_L227, f_M_groups_L227_z, ar_eq, ← hA, if_pos (nI_le (Nat.le_refl _) (by omega)), if_pos (nI_le (Nat.le_refl _) (by omega))]
      exact ⟨rfl, trivial⟩)
    (fun i s hi hs => by
      have vi : vp_in (nI i) 676 := vp_in_nI (by omega) (by omega)
      refine ⟨_, rfl, fun n => ?_⟩
      subst hs
      rw [f_M_groups_L227, f_M_groups_L227_z, ar_eq, ← hA, if_neg (nI_ge hi (by omega)), if_neg (nI_ge hi (by omega)), nI_clamp (by omega), nI_1, cntb, c1 i hi]
      have hgi := c2.le (by omega) hi
      by_cases h1 : g i = i
      · have h2 : nI (g i) = nI i := by rw [h1]
        simp only [if_pos h2, h1, decide_true, if_true]
        rw [nI_1]
        exact ⟨rfl, fun hz => ⟨vi, hz⟩⟩
      · have h2 : ¬ nI (g i) = nI i := fun c => h1 ((nI_eq (by omega) (by omega)).mp c)
        simp only [if_neg h2, h1, decide_false, Int32.add_zero, Nat.add_zero, Bool.false_eq_true, if_false]
        exact ⟨trivial, fun hz => ⟨vi, hz⟩⟩)
    (s := 0) rfl
  refine ⟨fun q => decide (g q = q), f, ?_, ?_, ?_⟩
  · rw [f_M_groups, e1, f_M_groups_k2, hs2, f_M_groups_k41, e3, I3]; rfl
  · intro q hq
    -- equal labels along a way
    have lab : ∀ q r, q < A → mlf q = px → RC (fun q => q < A ∧ mlf q = px) (px = 0) (kw + 2) q r → g r = g q := fun q r h1 h2 h => (h.2 (fun r => (r < A ∧ mlf r = px) ∧ g r = g q) ⟨⟨h1, h2⟩, rfl⟩ (fun a b ha hab hb => by
      have l1 := c3 a b ha.1.1 hb.1 ha.1.2 hab
      have l2 := c3 b a hb.1 ha.1.1 hb.2 hab.symm
      exact ⟨hb, by omega⟩)).2
    simp only [decide_eq_true_eq]
    constructor
    · intro h
      have cp : mlf q = px := Classical.byContradiction fun c => by have := (c2 q hq).2 c; omega
      refine ⟨cp, fun r hr => ?_⟩
      have h1 := lab q r hq cp hr
      have h2 := hr.col
      have h3 := ((c2 r h2.1).1 h2.2).1
      omega
    · rintro ⟨cp, h⟩
      obtain ⟨a1, a2⟩ := (c2 q hq).1 cp
      have := h _ a2
      omega
  · rw [z_M_groups, e1, f_M_groups_k2_z, hs2, f_M_groups_k41_z, e3]
    exact ⟨z1, z2, z3, trivial⟩
