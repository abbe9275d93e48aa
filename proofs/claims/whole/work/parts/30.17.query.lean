/-! own: what is asked of strokes and crossings -/
/-- n strokes, N samples in them, where they begin, and which they are -/
def KN (kw kh : Nat) (mf : Nat → Int32) (n N : Nat) (B S : Nat → Nat) : Prop := n ≤ 2 * (kw * kh) ∧ N ≤ 4 * (kw * kh) ∧ (∀ s, s < n → B s < B (s + 1) ∧ B (s + 1) ≤ N) ∧ (∀ k, k < N → mf (S k) ≠ 0) ∧ ∀ s k, s < n → B s < k → k + 1 < B (s + 1) → dg (kw + 2) mf (S k) = 2
def nS (kw kh : Nat) (mf : Nat → Int32) : Nat := (tr2 kw kh mf ((kw + 2) * (kh + 2))).2.2.length - 1
def nN (kw kh : Nat) (mf : Nat → Int32) : Nat := (tr2 kw kh mf ((kw + 2) * (kh + 2))).2.1.length
def bS (kw kh : Nat) (mf : Nat → Int32) (s : Nat) : Nat := (tr2 kw kh mf ((kw + 2) * (kh + 2))).2.2.getD s 0
def sS (kw kh : Nat) (mf : Nat → Int32) (k : Nat) : Nat := (tr2 kw kh mf ((kw + 2) * (kh + 2))).2.1.getD k 0
theorem getD_some {L : List Nat} {n : Nat} (h : n < L.length) : L[n]? = some (L.getD n 0) := by
  rw [List.getD_eq_getElem?_getD, List.getElem?_eq_getElem h]; rfl
section
variable {kw kh : Nat} {mf : Nat → Int32}
theorem kn_ok {sf : Nat → Int32} (hS : SM kw kh sf mf) (hw : kw ≤ 24) : KN kw kh mf (nS kw kh mf) (nN kw kh mf) (bS kw kh mf) (sS kw kh mf) := by
  obtain ⟨⟨b1, b2, b3, b4, b5, -⟩, -, -⟩ := tr2_ok hS.mf hS hw ((kw + 2) * (kh + 2))
  obtain ⟨g1, g2, g3, g4, g5⟩ := b5
  unfold KN nS nN bS sS
  refine ⟨by omega, by omega, fun s hs => ?_, fun k hk => ?_, fun s k hs h1 h2 => ?_⟩
  · obtain ⟨a1, a2, -⟩ := g4 s _ _ (getD_some (by omega)) (getD_some (by omega))
    exact ⟨a1, a2⟩
  · exact g5 _ (List.mem_of_getElem? (getD_some hk))
  · obtain ⟨a1, a2, a3⟩ := g4 s _ _ (getD_some (by omega)) (getD_some (by omega))
    exact a3 k _ h1 h2 (getD_some (by omega))
/-- the class's arrays -/
def CF (kw : Nat) (csf cbf : Nat → Int32) (csc : Int32) (n N : Nat) (B S : Nat → Nat) : Prop := csc = nI n ∧ (∀ s, s ≤ n → cbf s = nI (B s)) ∧ ∀ k, k < N → csf k = nI (pl kw (S k))
/-- the reference's arrays -/
def GF (mst : Int32) (mgf mqf : Nat → Int32) (n N : Nat) (B S : Nat → Nat) : Prop := mst = nI n ∧ (∀ s, s ≤ n → mgf s = nI (B s)) ∧ ∀ k, k < N → mqf k = nI (S k)
theorem TD.cf {sf clf csf cbf ccf : Nat → Int32} {csc csm ccr : Int32} (hS : SM kw kh sf mf) (hw : kw ≤ 24) (h : TD kw kh mf clf csf cbf ccf csc csm ccr) : CF kw csf cbf csc (nS kw kh mf) (nN kw kh mf) (bS kw kh mf) (sS kw kh mf) := by
  obtain ⟨⟨b1, b2, b3, b4, b5, -⟩, -, -⟩ := tr2_ok hS.mf hS hw ((kw + 2) * (kh + 2))
  have h1 := b5.2.1
  obtain ⟨-, -, c1, c2, c3, -⟩ := h
  refine ⟨c1, fun s hs => c3 s _ (getD_some ?_), fun k hk => c2 k _ (getD_some hk)⟩
  unfold nS at hs; omega
theorem MD.gf {sf mgf mqf : Nat → Int32} {mst : Int32} (hS : SM kw kh sf mf) (hw : kw ≤ 24) (h : MD kw kh mf mst mgf mqf) : GF mst mgf mqf (nS kw kh mf) (nN kw kh mf) (bS kw kh mf) (sS kw kh mf) := by
  obtain ⟨⟨b1, b2, b3, b4, b5, -⟩, -, -⟩ := tr2_ok hS.mf hS hw ((kw + 2) * (kh + 2))
  have h1 := b5.2.1
  obtain ⟨c1, c2, c3⟩ := h
  refine ⟨c1, fun s hs => c3 s _ (getD_some ?_), fun k hk => c2 k _ (getD_some hk)⟩
  unfold nS at hs; omega
/-- an index that is none, or one -/
theorem ix_c (px : Int32) {n : Nat} (hn : n < 1000000) : ((px < 0 ∨ nI n ≤ px) ∧ f_M_in px 0 (nI n - 1) = 0) ∨ (∃ s, s < n ∧ px = nI s ∧ ¬ (px < 0 ∨ nI n ≤ px) ∧ f_M_in px 0 (nI n - 1) = 1) := by
  have e1 : (nI n - 1).toInt = (n : Int) - 1 := pk_sub_toInt (b := 1) (by omega) (by omega)
  rcases pk_ix px (n := n) (by omega) with h | h | ⟨s, hs, rfl⟩
  · left
    refine ⟨Or.inl h, ?_⟩
    rw [in_eq, i_0, if_neg]
    rw [i_lt, i_0] at h; omega
  · left
    refine ⟨Or.inr h, ?_⟩
    rw [in_eq, e1, if_neg]
    rw [i_le, nI_toInt (by omega)] at h; omega
  · right
    refine ⟨s, hs, rfl, fun c => c.elim (nI_pos (by omega)) (nI_ge hs (by omega)), ?_⟩
    rw [in_eq, e1, i_0, nI_toInt (by omega), if_pos (by omega)]
theorem clen {csf cbf : Nat → Int32} {csc : Int32} {n N : Nat} {B S : Nat → Nat} (hw : kw ≤ 24) (hh : kh ≤ 24) (hK : KN kw kh mf n N B S) (hC : CF kw csf cbf csc n N B S) {s : Nat} (hs : s < n) : f_C_lengthOf (2 * (kw * kh) + 1) cbf csc (nI s) = nI (B (s + 1) - B s) := by
  have hkk : kw * kh ≤ 576 := Nat.mul_le_mul hw hh
  obtain ⟨k1, k2, k3, -⟩ := hK
  obtain ⟨c1, c2, c3⟩ := hC
  have h3 := k3 s hs
  rw [f_C_lengthOf, c1, if_neg (nI_pos (by omega)), if_neg (nI_ge hs (by omega)), nI_1, if_pos (nI_lt (by omega) (by omega)), nI_clamp (by omega), nI_clamp (by omega), c2 _ (by omega), c2 _ (by omega), pk_sub (by omega)]
theorem csmp {csf cbf : Nat → Int32} {csc : Int32} {n N : Nat} {B S : Nat → Nat} (hw : kw ≤ 24) (hh : kh ≤ 24) (hK : KN kw kh mf n N B S) (hC : CF kw csf cbf csc n N B S) {s k : Nat} (hs : s < n) (hk : k < B (s + 1) - B s) : f_C_sampleOf (4 * (kw * kh)) csf (2 * (kw * kh) + 1) cbf csc (nI s) (nI k) = nI (pl kw (S (B s + k))) := by
  have hkk : kw * kh ≤ 576 := Nat.mul_le_mul hw hh
  have el := clen hw hh hK hC hs
  obtain ⟨k1, k2, k3, -⟩ := hK
  obtain ⟨c1, c2, c3⟩ := hC
  have h3 := k3 s hs
  rw [f_C_sampleOf, el, if_neg (nI_pos (by omega)), if_pos (nI_lt hk (by omega)), nI_clamp (by omega), c2 _ (by omega), nI_add, f_C_sampleOf_t23, if_neg (nI_pos (by omega)), if_neg (nI_ge (by omega) (by omega)), nI_clamp (by omega), c3 _ (by omega)]
theorem msize {mgf mqf : Nat → Int32} {mst : Int32} {n N : Nat} {B S : Nat → Nat} (hw : kw ≤ 24) (hh : kh ≤ 24) (hK : KN kw kh mf n N B S) (hG : GF mst mgf mqf n N B S) {s : Nat} (hs : s < n) : f_M_sizeOf mgf (nI s) = nI (B (s + 1) - B s) ∧ z_M_sizeOf (nI s) := by
  have hkk : kw * kh ≤ 576 := Nat.mul_le_mul hw hh
  obtain ⟨k1, k2, k3, -⟩ := hK
  obtain ⟨c1, c2, c3⟩ := hG
  have h3 := k3 s hs
  refine ⟨?_, ?_, vp_in_nI (by omega) (by omega), trivial⟩
  · rw [f_M_sizeOf, nI_1, nI_clamp (by omega), nI_clamp (by omega), c2 _ (by omega), c2 _ (by omega), pk_sub (by omega)]
  · rw [nI_1]; exact vp_in_nI (by omega) (by omega)
theorem mcol {x y : Nat} (hw : kw ≤ 24) (hh : kh ≤ 24) (hx : x < kw) (hy : y < kh) : f_M_columnOf (nI (kw + 2)) (nI (lin kw x y)) = nI x := by
  have := lin_676 hw hh hx hy
  rw [f_M_columnOf, pk_rem (by omega) (by omega) (by omega), lin_mod hx, nI_pred]
theorem mrow {x y : Nat} (hw : kw ≤ 24) (hh : kh ≤ 24) (hx : x < kw) (hy : y < kh) : f_M_rowOf (nI (kw + 2)) (nI (lin kw x y)) = nI y := by
  have := lin_676 hw hh hx hy
  rw [f_M_rowOf, pk_div (by omega) (by omega) (by omega), lin_div hx, nI_pred]
theorem zcol : z_M_columnOf (nI (kw + 2)) ↔ ¬ nI (kw + 2) = 0 := ⟨fun h => h.1, fun h => ⟨h, trivial⟩⟩
theorem ccol {x y : Nat} (hw : kw ≤ 24) (hh : kh ≤ 24) (hx : x < kw) (hy : y < kh) : f_columnOf (nI (pl kw (lin kw x y))) = nI x ∧ f_rowOf (nI (pl kw (lin kw x y))) = nI y := by
  rw [pl_lin hx]
  exact ⟨col_eq (by omega) (by omega), row_eq (by omega) (by omega)⟩
/-- the crossing with number px, by the reference -/
theorem mcross (hM : MF kw kh mf) (hw : 1 ≤ kw ∧ kw ≤ 24) (hh : 1 ≤ kh ∧ kh ≤ 24) (px : Int32) : ∃ v3 v4, f_M_crossing_L33 (nI kh) (nI (kw + 2)) mf px FU (0, (-1), 0) = (nI ((kw + 2) * (kh + 2)), v4, v3) ∧ ((∃ k a, px = nI k ∧ (cl (crs (kw + 2) mf) ((kw + 2) * (kh + 2)))[k]? = some a ∧ v4 = nI a) ∨ (v4 = -1 ∧ ∀ k, k < 2147483648 → px = nI k → (cl (crs (kw + 2) mf) ((kw + 2) * (kh + 2))).length ≤ k)) ∧ f_M_crossing_L33_z (nI kh) (nI (kw + 2)) mf px FU (0, (-1), 0) := by
  have ha := ar_le hw.2 hh.2
  obtain ⟨s', e, hI, hz⟩ := lu_0z (F := f_M_crossing_L33 (nI kh) (nI (kw + 2)) mf px) (Fz := f_M_crossing_L33_z (nI kh) (nI (kw + 2)) mf px) (fun i t => t.2 = nI (cl (crs (kw + 2) mf) i).length ∧ ((∃ k a, px = nI k ∧ (cl (crs (kw + 2) mf) i)[k]? = some a ∧ t.1 = nI a) ∨ (t.1 = -1 ∧ ∀ k, k < 2147483648 → px = nI k → (cl (crs (kw + 2) mf) i).length ≤ k))) ((kw + 2) * (kh + 2)) (by omega)
    (fun t _ n => by
      obtain ⟨t1, t2⟩ := t
      rw [f_M_crossing_L33, f_M_crossing_L33_z, ar_eq, if_pos (nI_le (Nat.le_refl _) (by omega)), if_pos (nI_le (Nat.le_refl _) (by omega))]
      exact ⟨rfl, trivial⟩)
    (fun i t hi ht => by
      obtain ⟨t1, t2⟩ := t
      obtain ⟨h1, h2⟩ := ht
      try dsimp only at h1 h2
      have vi : vp_in (nI i) 676 := vp_in_nI (by omega) (by omega)
      obtain ⟨e2, z2⟩ := mdeg hM hw.2 hh.2 (q := i) (by omega)
      have h4 := dg_le (kw + 2) mf i
      have hlen : (cl (crs (kw + 2) mf) i).length ≤ i := by rw [cl_len]; exact cntb_le _ _
      rw [cl_s]
      by_cases c3 : 3 ≤ dg (kw + 2) mf i
      · have ec : crs (kw + 2) mf i = true := by simp [crs, c3]
        have c0 : ¬ mf i = 0 := fun c => by rw [dg0 c] at c3; omega
        have hn3 : ¬ nI (dg (kw + 2) mf i) < 3 := nI_nlt (b := 3) c3 (by omega)
        rw [ec, if_pos rfl]
        by_cases cp : t2 = px
        · refine ⟨(nI i, nI ((cl (crs (kw + 2) mf) i).length + 1)), ⟨by rw [List.length_append]; rfl, Or.inl ⟨(cl (crs (kw + 2) mf) i).length, i, by rw [← cp]; exact h1, ?_, rfl⟩⟩, fun n => ?_⟩
          · rw [List.getElem?_append_right (Nat.le_refl _)]; simp
          · rw [f_M_crossing_L33, f_M_crossing_L33_z, ar_eq, if_neg (nI_ge hi (by omega)), if_neg (nI_ge hi (by omega)), nI_clamp (by omega), if_neg c0, if_neg c0, e2, if_neg hn3, if_neg hn3, if_pos cp, if_pos cp, nI_1, h1, nI_1]
            exact ⟨rfl, fun hz => ⟨vi, z2, hz⟩⟩
        · refine ⟨(t1, nI ((cl (crs (kw + 2) mf) i).length + 1)), ⟨by rw [List.length_append]; rfl, ?_⟩, fun n => ?_⟩
          · rcases h2 with ⟨k, a, k1, k2, k3⟩ | ⟨k1, k2⟩
            · exact Or.inl ⟨k, a, k1, by rw [List.getElem?_append_left (lt_of_get k2)]; exact k2, k3⟩
            · refine Or.inr ⟨k1, fun k hk he => ?_⟩
              have := k2 k hk he
              have hne : k ≠ (cl (crs (kw + 2) mf) i).length := fun c => cp (by rw [he, c]; exact h1)
              rw [List.length_append]
              simp only [List.length_cons, List.length_nil]; omega
          · rw [f_M_crossing_L33, f_M_crossing_L33_z, ar_eq, if_neg (nI_ge hi (by omega)), if_neg (nI_ge hi (by omega)), nI_clamp (by omega), if_neg c0, if_neg c0, e2, if_neg hn3, if_neg hn3, if_neg cp, if_neg cp, nI_1, h1, nI_1]
            exact ⟨rfl, fun hz => ⟨vi, z2, hz⟩⟩
      · have ec : crs (kw + 2) mf i = false := by simp [crs, c3]
        have hn3 : nI (dg (kw + 2) mf i) < 3 := nI_lt (b := 3) (by omega) (by omega)
        rw [ec]
        simp only [Bool.false_eq_true, if_false, List.append_nil]
        refine ⟨(t1, t2), ⟨h1, h2⟩, fun n => ?_⟩
        rw [f_M_crossing_L33, f_M_crossing_L33_z, ar_eq, if_neg (nI_ge hi (by omega)), if_neg (nI_ge hi (by omega)), nI_clamp (by omega), e2, nI_1, Int32.add_zero]
        by_cases c0 : mf i = 0
        · rw [if_pos c0, if_pos c0]
          exact ⟨rfl, fun hz => ⟨vi, hz⟩⟩
        · rw [if_neg c0, if_neg c0, if_pos hn3, if_pos hn3]
          exact ⟨rfl, fun hz => ⟨vi, z2, hz⟩⟩)
    (s := (-1, 0)) ⟨rfl, Or.inr ⟨rfl, fun k _ _ => by simp [cl_0]⟩⟩
  obtain ⟨v4, v3⟩ := s'
  exact ⟨v3, v4, e, hI.2, hz⟩
end
/-- crossing, when thinned -/
theorem cross_both {kw kh : Nat} {sf mf clf ccf : Nat → Int32} {ccr : Int32} (hS : SM kw kh sf mf) (hw : 1 ≤ kw ∧ kw ≤ 24) (hh : 1 ≤ kh ∧ kh ≤ 24) (hC : CT kw kh mf clf) (h1 : ccr = nI (cl (crs (kw + 2) mf) ((kw + 2) * (kh + 2))).length) (h2 : ∀ n a, (cl (crs (kw + 2) mf) ((kw + 2) * (kh + 2)))[n]? = some a → ccf n = nI (pl kw a)) {th mth : Int32} (hth : ¬ th = 0) (hmth : ¬ mth = 0) (outf : Nat → Int64) (x1 x2 : Int32) {r1 : Int32} {g2 : Nat → Int64} {r3 z4 : Int32} (hw1 : f_W_crossing (kh * 32) clf (kw * kh) ccf ccr th outf x1 x2 = (r1, g2)) (hw2 : f_M_crossing (nI kh) (nI (kw + 2)) mf mth x1 x2 = (r3, z4)) : (z4 = r1 ∧ (r1 = 0 → g2 (0 : Int32).toNatClampNeg = r3.toInt64)) ∧ z_M_crossing (nI kh) (nI (kw + 2)) mf mth x1 x2 := by
  have ha := ar_le hw.2 hh.2
  have hkk : kw * kh ≤ 576 := Nat.mul_le_mul hw.2 hh.2
  have hM := hS.mf
  have hlen := crs_len hS hw.2
  obtain ⟨v3, v4, e, hv, hz⟩ := mcross hM hw hh x1
  rw [f_M_crossing, if_neg hmth, e, f_M_crossing_k33] at hw2
  rw [z_M_crossing, if_neg hmth, e, f_M_crossing_k33_z]
  rw [f_W_crossing, if_neg hth, h1] at hw1
  have hW0 : ¬ nI (kw + 2) = 0 := nI_ne0 (by omega) (by omega)
  rcases hv with ⟨k, a, k1, k2, k3⟩ | ⟨k1, k2⟩
  · have hk := lt_of_get k2
    have hmem := cl_mem.mp (List.mem_of_getElem? k2)
    have h3 : 3 ≤ dg (kw + 2) mf a := by have := hmem.2; simp only [crs, decide_eq_true_eq] at this; exact this
    have hin : inn kw kh a := hM.inn (fun c => by rw [dg0 c] at h3; omega)
    have hp := pl_lt hw.2 hin
    obtain ⟨e2, z2⟩ := mdeg hM hw.2 hh.2 (q := a) (by omega)
    have v0 : 0 ≤ v4 := by rw [k3]; exact nI_pos' (by omega)
    rw [if_pos v0] at hw2 ⊢
    have hx : ¬ (x1 < 0 ∨ nI (cl (crs (kw + 2) mf) ((kw + 2) * (kh + 2))).length ≤ x1) := by
      rw [k1]
      exact fun c => c.elim (nI_pos (by omega)) (nI_ge hk (by omega))
    rw [if_neg hx] at hw1
    have hpl : f_C_crossingPlace (kw * kh) ccf (nI (cl (crs (kw + 2) mf) ((kw + 2) * (kh + 2))).length) x1 = nI (pl kw a) := by
      rw [k1, f_C_crossingPlace, if_neg (nI_pos (by omega)), if_neg (nI_ge hk (by omega)), if_neg (nI_ge (by omega) (by omega)), nI_clamp (by omega), h2 k a k2]
    have hdeg := cdeg hC hw.2 hh.2 hin
    obtain ⟨x, y, hx', hy', rfl⟩ := hin
    have hcol := ccol hw.2 hh.2 hx' hy'
    have hmc := mcol hw.2 hh.2 hx' hy'
    have hmr := mrow hw.2 hh.2 hx' hy'
    rw [k3] at hw2 ⊢
    by_cases y0 : x2 = 0
    · subst y0
      rw [if_neg (by decide), f_X_crossing, hpl, f_X_crossing_t37, if_pos rfl, hcol.1] at hw1
      rw [if_neg (by decide), if_pos rfl, hmc] at hw2
      rw [if_neg (by decide), if_pos rfl]
      simp only [Prod.mk.injEq] at hw1 hw2
      obtain ⟨rfl, rfl⟩ := hw1
      obtain ⟨rfl, rfl⟩ := hw2
      exact ⟨⟨rfl, fun _ => pk_uLs⟩, hz, ⟨hW0, trivial⟩, trivial⟩
    · by_cases y1 : x2 = 1
      · subst y1
        rw [if_neg (by decide), f_X_crossing, hpl, f_X_crossing_t37, if_neg (by decide), if_pos rfl, hcol.2] at hw1
        rw [if_neg (by decide), if_neg (by decide), if_pos rfl, hmr] at hw2
        rw [if_neg (by decide), if_neg (by decide), if_pos rfl]
        simp only [Prod.mk.injEq] at hw1 hw2
        obtain ⟨rfl, rfl⟩ := hw1
        obtain ⟨rfl, rfl⟩ := hw2
        exact ⟨⟨rfl, fun _ => pk_uLs⟩, hz, ⟨hW0, trivial⟩, trivial⟩
      · by_cases y2 : x2 = 2
        · subst y2
          rw [if_neg (by decide), f_X_crossing, hpl, f_X_crossing_t37, if_neg (by decide), if_neg (by decide), if_pos rfl, hdeg] at hw1
          rw [if_neg (by decide), if_neg (by decide), if_neg (by decide), e2] at hw2
          rw [if_neg (by decide), if_neg (by decide), if_neg (by decide)]
          simp only [Prod.mk.injEq] at hw1 hw2
          obtain ⟨rfl, rfl⟩ := hw1
          obtain ⟨rfl, rfl⟩ := hw2
          exact ⟨⟨rfl, fun _ => pk_uLs⟩, hz, z2, trivial⟩
        · have hni : f_M_in x2 0 2 = 0 := by
            rw [in_eq, i_0, i_2, if_neg]
            intro c
            have h0 : x2.toInt ≠ 0 := fun h => y0 (Int32.toInt_inj.mp (by rw [h, i_0]))
            have h1 : x2.toInt ≠ 1 := fun h => y1 (Int32.toInt_inj.mp (by rw [h, i_1]))
            have h2 : x2.toInt ≠ 2 := fun h => y2 (Int32.toInt_inj.mp (by rw [h, i_2]))
            omega
          rw [if_pos ⟨y0, y1, y2⟩] at hw1
          rw [if_pos hni] at hw2 ⊢
          simp only [Prod.mk.injEq] at hw1 hw2
          obtain ⟨rfl, rfl⟩ := hw1
          obtain ⟨rfl, rfl⟩ := hw2
          exact ⟨⟨rfl, fun h => absurd h (by decide)⟩, hz, trivial⟩
  · have v0 : ¬ 0 ≤ v4 := by rw [k1]; decide
    rw [if_neg v0] at hw2 ⊢
    have hx : x1 < 0 ∨ nI (cl (crs (kw + 2) mf) ((kw + 2) * (kh + 2))).length ≤ x1 := by
      rcases pk_ix x1 (n := (cl (crs (kw + 2) mf) ((kw + 2) * (kh + 2))).length) (by omega) with h | h | ⟨s, hs, hx⟩
      · exact Or.inl h
      · exact Or.inr h
      · have := k2 s (by omega) hx; omega
    rw [if_pos hx] at hw1
    simp only [Prod.mk.injEq] at hw1 hw2
    obtain ⟨rfl, rfl⟩ := hw1
    obtain ⟨rfl, rfl⟩ := hw2
    exact ⟨⟨rfl, fun h => absurd h (by decide)⟩, hz, trivial⟩
/-- points -/
theorem points_both {kw kh : Nat} {mf csf cbf mgf mqf : Nat → Int32} {csc mst : Int32} {n N : Nat} {B S : Nat → Nat} (hw : 1 ≤ kw ∧ kw ≤ 24) (hh : 1 ≤ kh ∧ kh ≤ 24) (hK : KN kw kh mf n N B S) (hC : CF kw csf cbf csc n N B S) (hG : GF mst mgf mqf n N B S) {th : Int32} (hth : ¬ th = 0) (outf : Nat → Int64) (x1 : Int32) {r1 : Int32} {g2 : Nat → Int64} (hw1 : f_W_points (2 * (kw * kh) + 1) cbf csc th outf x1 = (r1, g2)) : (∃ s, s < n ∧ x1 = nI s ∧ f_M_in x1 0 (mst - 1) = 1 ∧ r1 = 0 ∧ g2 (0 : Int32).toNatClampNeg = (f_M_sizeOf mgf x1).toInt64 ∧ z_M_sizeOf x1) ∨ (f_M_in x1 0 (mst - 1) = 0 ∧ r1 = 2) := by
  have hkk : kw * kh ≤ 576 := Nat.mul_le_mul hw.2 hh.2
  have hn : n < 1000000 := by have := hK.1; omega
  rw [f_W_points, if_neg hth, hC.1] at hw1
  rw [hG.1]
  rcases ix_c x1 hn with ⟨h1, h2⟩ | ⟨s, hs, hx, h1, h2⟩
  · rw [if_pos h1] at hw1
    simp only [Prod.mk.injEq] at hw1
    exact Or.inr ⟨h2, hw1.1.symm⟩
  · rw [if_neg h1] at hw1
    simp only [Prod.mk.injEq] at hw1
    obtain ⟨rfl, rfl⟩ := hw1
    have el := clen hw.2 hh.2 hK hC hs
    rw [hC.1] at el
    obtain ⟨em, zm⟩ := msize hw.2 hh.2 hK hG hs
    refine Or.inl ⟨s, hs, hx, h2, rfl, ?_, by rw [hx]; exact zm⟩
    rw [pk_uLs, f_X_points, hx, el, em]
