/-! own: the relation, and that every call keeps it -/
def Rel (kw : Nat) (kh : Nat) (pf : Nat → Int32) (sf : Nat → Int32) (th : Int32) (clf : Nat → Int32) (csf : Nat → Int32) (cbf : Nat → Int32) (ccf : Nat → Int32) (csc : Int32) (csm : Int32) (ccr : Int32) (mpf : Nat → Int32) (mlf : Nat → Int32) (mth : Int32) (mkn : Int32) (mst : Int32) (mgf : Nat → Int32) (mqf : Nat → Int32) : Prop := ((1 ≤ kw ∧ kw ≤ 24) ∧ (1 ≤ kh ∧ kh ≤ 24)) ∧ (bd csc (2 * (kw * kh) + 1) ∧ bd csm (4 * (kw * kh)) ∧ bd ccr (kw * kh)) ∧ SM kw kh pf mpf ∧ SM kw kh sf mlf ∧ cbf 0 = 0 ∧ th = mth ∧ (¬ th = 0 → TD kw kh mlf clf csf cbf ccf csc csm ccr) ∧ (¬ mkn = 0 → MD kw kh mlf mst mgf mqf)
theorem rel_sz {kw kh : Nat} {pf : Nat → Int32} {sf : Nat → Int32} {th : Int32} {clf : Nat → Int32} {csf : Nat → Int32} {cbf : Nat → Int32} {ccf : Nat → Int32} {csc : Int32} {csm : Int32} {ccr : Int32} {mpf : Nat → Int32} {mlf : Nat → Int32} {mth : Int32} {mkn : Int32} {mst : Int32} {mgf : Nat → Int32} {mqf : Nat → Int32} (hR : Rel kw kh pf sf th clf csf cbf ccf csc csm ccr mpf mlf mth mkn mst mgf mqf) : (1 ≤ kw ∧ kw ≤ 24) ∧ (1 ≤ kh ∧ kh ≤ 24) := hR.1
theorem rel_bd {kw kh : Nat} {pf : Nat → Int32} {sf : Nat → Int32} {th : Int32} {clf : Nat → Int32} {csf : Nat → Int32} {cbf : Nat → Int32} {ccf : Nat → Int32} {csc : Int32} {csm : Int32} {ccr : Int32} {mpf : Nat → Int32} {mlf : Nat → Int32} {mth : Int32} {mkn : Int32} {mst : Int32} {mgf : Nat → Int32} {mqf : Nat → Int32} (hR : Rel kw kh pf sf th clf csf cbf ccf csc csm ccr mpf mlf mth mkn mst mgf mqf) : bd csc (2 * (kw * kh) + 1) ∧ bd csm (4 * (kw * kh)) ∧ bd ccr (kw * kh) := hR.2.1
theorem pr_init {kw kh : Nat} (bw : 1 ≤ kw ∧ kw ≤ 24) (bh : 1 ≤ kh ∧ kh ≤ 24) : Rel kw kh (fun _ => 0) (fun _ => 0) 0 (fun _ => 0) (fun _ => 0) (fun _ => 0) (fun _ => 0) 0 0 0 (fun _ => 0) (fun _ => 0) 0 0 0 (fun _ => 0) (fun _ => 0) := ⟨⟨bw, bh⟩, ⟨bd_0 _, bd_0 _, bd_0 _⟩, SM.zero (fun _ _ => rfl) (fun _ => rfl), SM.zero (fun _ _ => rfl) (fun _ => rfl), rfl, rfl, fun h => absurd rfl h, fun h => absurd rfl h⟩
theorem learn_ok {kw kh : Nat} {sf mf : Nat → Int32} (hS : SM kw kh sf mf) (bw : 1 ≤ kw ∧ kw ≤ 24) (bh : 1 ≤ kh ∧ kh ≤ 24) {mkn mst : Int32} {mgf mqf : Nat → Int32} (hD : ¬ mkn = 0 → MD kw kh mf mst mgf mqf) (mus : Int32) (mof mef : Nat → Int32) : ∃ g1 z2 g3 g4 z5 g6 z7, f_M_learn (nI kh) (nI (kw + 2)) mf mkn mst mgf mqf mus mof mef = (g1, z2, g3, g4, z5, g6, z7) ∧ ¬ z7 = 0 ∧ MD kw kh mf z2 g1 g3 ∧ z_M_learn (nI kh) (nI (kw + 2)) mf mkn mgf mqf mof mef := by
  by_cases h : mkn = 0
  · obtain ⟨g1, z2, g3, g4, z5, g6, e, h1, h2⟩ := mlearn hS bw bh h mst mus mgf mqf mef mof
    exact ⟨g1, z2, g3, g4, z5, g6, 1, e, by decide, h1, h2⟩
  · refine ⟨mgf, mst, mqf, mef, mus, mof, mkn, ?_, h, hD h, ?_⟩
    · rw [f_M_learn, if_neg h]
    · rw [z_M_learn, if_neg h]; trivial
/-- whether there is such a stroke, by the reference -/
theorem is_ok {kw kh : Nat} {sf mf : Nat → Int32} (hS : SM kw kh sf mf) (bw : 1 ≤ kw ∧ kw ≤ 24) (bh : 1 ≤ kh ∧ kh ≤ 24) {mth mkn mst : Int32} {mgf mqf : Nat → Int32} (hth : ¬ mth = 0) (hD : ¬ mkn = 0 → MD kw kh mf mst mgf mqf) (mus : Int32) (mof mef : Nat → Int32) (px : Int32) : ∃ g1 z2 g3 g4 z5 g6 z7, f_M_isStroke (nI kh) (nI (kw + 2)) mf mth mkn mst mgf mqf mus mof mef px = (if (f_M_in px 0 (z2 - 1)) = 0 then (0, 2, g1, z2, g3, g4, z5, g6, z7) else (1, 0, g1, z2, g3, g4, z5, g6, z7)) ∧ ¬ z7 = 0 ∧ MD kw kh mf z2 g1 g3 ∧ z_M_isStroke (nI kh) (nI (kw + 2)) mf mth mkn mst mgf mqf mus mof mef px := by
  obtain ⟨g1, z2, g3, g4, z5, g6, z7, e, h1, h2, h3⟩ := learn_ok hS bw bh hD mus mof mef
  refine ⟨g1, z2, g3, g4, z5, g6, z7, ?_, h1, h2, ?_⟩
  · rw [f_M_isStroke, if_neg hth, e, f_M_isStroke_q1]
  · rw [z_M_isStroke, if_neg hth, e, f_M_isStroke_q1_z]
    refine ⟨h3, ?_⟩
    split <;> trivial
theorem TD.b0 {kw kh : Nat} {sf mf clf csf cbf ccf : Nat → Int32} {csc csm ccr : Int32} (hS : SM kw kh sf mf) (hw : kw ≤ 24) (h : TD kw kh mf clf csf cbf ccf csc csm ccr) : cbf 0 = 0 := by
  obtain ⟨⟨b1, b2, b3, b4, b5, -⟩, -, -⟩ := tr2_ok hS.mf hS hw ((kw + 2) * (kh + 2))
  exact h.2.2.2.2.1 0 0 b5.1
theorem pr_put {kw kh : Nat} {pf : Nat → Int32} {sf : Nat → Int32} {clf : Nat → Int32} {csf : Nat → Int32} {cbf : Nat → Int32} {ccf : Nat → Int32} {csc : Int32} {csm : Int32} {ccr : Int32} {th : Int32} {outf : Nat → Int64} {mpf : Nat → Int32} {mlf : Nat → Int32} {mth : Int32} {mkn : Int32} {mst : Int32} {mgf : Nat → Int32} {mqf : Nat → Int32} (hR : Rel kw kh pf sf th clf csf cbf ccf csc csm ccr mpf mlf mth mkn mst mgf mqf) (x1 : Int32) (x2 : Int32) (x3 : Int32) {r1 : Int32} {g2 : Nat → Int32} {g3 : Nat → Int32} {z4 : Int32} {g5 : Nat → Int64} {r6 : Int32} {z7 : Int32} {g8 : Nat → Int32} {g9 : Nat → Int32} {z10 : Int32} {z11 : Int32} (hw1 : f_W_put (nI kw) (nI kh) kh pf kh sf th outf x1 x2 (if x3 = 0 then (0 : Int32) else 1) = (r1, g2, g3, z4, g5)) (hw2 : f_M_put (nI kw) (nI kh) (nI (kw + 2)) mpf mlf mth mkn x1 x2 (if x3 = 0 then (0 : Int32) else 1) = (r6, z7, g8, g9, z10, z11)) : f_M_thrown z7 = r1 ∧ (r1 = 0 → g5 (0 : Int32).toNatClampNeg = (if r6 = 0 then 0 else 1)) ∧ Rel kw kh g2 g3 z4 clf csf cbf ccf csc csm ccr g8 g9 z10 z11 mst mgf mqf := by
  have hR0 := hR
  obtain ⟨⟨bw, bh⟩, hbd, hP, hS, h0, hth, hT, hD⟩ := hR
  by_cases hc : f_S_has (nI kw) (nI kh) x1 x2 = 0
  · rw [f_W_put, if_pos hc] at hw1
    rw [f_M_put, mplace_eq bw bh, if_pos hc] at hw2
    simp only [Prod.mk.injEq] at hw1 hw2
    obtain ⟨rfl, rfl, rfl, rfl, rfl⟩ := hw1
    obtain ⟨rfl, rfl, rfl, rfl, rfl, rfl⟩ := hw2
    exact ⟨rfl, fun h => absurd h (by decide), hR0⟩
  · obtain ⟨x, y, hx, hy, rfl, rfl⟩ := has_ex bw.2 bh.2 hc
    have hv : (if x3 = 0 then (0 : Int32) else 1) = 0 ∨ (if x3 = 0 then (0 : Int32) else 1) = 1 := by split <;> simp
    obtain ⟨b, g2', g3', g8', g9', e1, e2, hb, S1, S2, -⟩ := put_in bw bh hP hS mth mkn hx hy hv
    rw [f_W_put, if_neg hc, e1, f_W_put_q1] at hw1
    rw [e2] at hw2
    simp only [Prod.mk.injEq] at hw2
    obtain ⟨rfl, rfl, rfl, rfl, rfl, rfl⟩ := hw2
    by_cases hb0 : b = 0
    · rw [if_pos hb0] at hw1
      simp only [Prod.mk.injEq] at hw1
      obtain ⟨rfl, rfl, rfl, rfl, rfl⟩ := hw1
      exact ⟨rfl, fun _ => by rw [pk_uLs, if_pos hb0], ⟨bw, bh⟩, hbd, S1, S2, h0, rfl, fun h => absurd rfl h, fun h => absurd rfl h⟩
    · rw [if_neg hb0] at hw1
      simp only [Prod.mk.injEq] at hw1
      obtain ⟨rfl, rfl, rfl, rfl, rfl⟩ := hw1
      exact ⟨rfl, fun _ => by rw [pk_uLs, if_neg hb0], ⟨bw, bh⟩, hbd, S1, S2, h0, rfl, fun h => absurd rfl h, fun h => absurd rfl h⟩
theorem pz_put {kw kh : Nat} {pf : Nat → Int32} {sf : Nat → Int32} {clf : Nat → Int32} {csf : Nat → Int32} {cbf : Nat → Int32} {ccf : Nat → Int32} {csc : Int32} {csm : Int32} {ccr : Int32} {th : Int32} {mpf : Nat → Int32} {mlf : Nat → Int32} {mth : Int32} {mkn : Int32} {mst : Int32} {mgf : Nat → Int32} {mqf : Nat → Int32} (hR : Rel kw kh pf sf th clf csf cbf ccf csc csm ccr mpf mlf mth mkn mst mgf mqf) (px : Int32) (py : Int32) (pz : Int32) : z_M_put (nI kw) (nI kh) (nI (kw + 2)) mpf mlf px py pz := by
  obtain ⟨⟨bw, bh⟩, hbd, hP, hS, h0, hth, hT, hD⟩ := hR
  by_cases hc : f_S_has (nI kw) (nI kh) px py = 0
  · rw [z_M_put, mplace_eq bw bh, if_pos hc]; trivial
  · obtain ⟨x, y, hx, hy, rfl, rfl⟩ := has_ex bw.2 bh.2 hc
    have ha := ar_le bw.2 bh.2
    have hl := lin_676 bw.2 bh.2 hx hy
    have hp : f_M_isPlace (nI kw) (nI kh) (nI x) (nI y) = 1 := by rw [mplace_eq bw bh, hs_in bw.2 bh.2 hx hy]
    have hcl : (f_M_placeOf (nI (kw + 2)) (nI x) (nI y)).toNatClampNeg = lin kw x y := by rw [mlin, nI_clamp (by omega)]
    obtain ⟨s', e, -, hz⟩ := lu_0z (F := f_M_put_L64 (nI kh) (nI (kw + 2)) mpf (nI x) (nI y) pz) (Fz := f_M_put_L64_z (nI kh) (nI (kw + 2)) mpf (nI x) (nI y) pz) (fun _ _ => True) ((kw + 2) * (kh + 2)) (by omega)
      (fun s _ n => by
        rw [f_M_put_L64, f_M_put_L64_z, ar_eq, if_pos (nI_le (Nat.le_refl _) (by omega)), if_pos (nI_le (Nat.le_refl _) (by omega))]
        exact ⟨rfl, trivial⟩)
      (fun i s hi _ => by
        refine ⟨upd s i (nb ((upd mpf (f_M_placeOf (nI (kw + 2)) (nI x) (nI y)).toNatClampNeg (nb pz)) i)), trivial, fun n => ?_⟩
        · rw [f_M_put_L64, f_M_put_L64_z, ar_eq, if_neg (nI_ge hi (by omega)), if_neg (nI_ge hi (by omega)), nI_clamp (by omega), nI_1]
          exact ⟨rfl, fun hz => ⟨vp_in_nI (by omega) (by omega), vp_in_nI (by omega) (by omega), hz⟩⟩)
      (s := mlf) trivial
    rw [z_M_put, hp, if_neg (by decide), f_M_put_t47_z, e, f_M_put_k64_z, f_M_put_q1_z, hcl, mlin]
    refine ⟨vp_in_nI hl (by omega), vp_in_nI hl (by omega), hz, isb_of ?_, trivial⟩
    split <;> simp
theorem pr_thin {kw kh : Nat} {pf : Nat → Int32} {sf : Nat → Int32} {tf : Nat → Int32} {clf : Nat → Int32} {ctf : Nat → Int32} {csf : Nat → Int32} {cbf : Nat → Int32} {ccf : Nat → Int32} {csc : Int32} {csm : Int32} {ccr : Int32} {th : Int32} {mpf : Nat → Int32} {mlf : Nat → Int32} {mth : Int32} {mcf : Nat → Int32} {mkn : Int32} {mst : Int32} {mgf : Nat → Int32} {mqf : Nat → Int32} (hR : Rel kw kh pf sf th clf csf cbf ccf csc csm ccr mpf mlf mth mkn mst mgf mqf)  {r1 : Int32} {g2 : Nat → Int32} {g3 : Nat → Int32} {g4 : Nat → Int32} {g5 : Nat → Int32} {g6 : Nat → Int32} {g7 : Nat → Int32} {g8 : Nat → Int32} {z9 : Int32} {z10 : Int32} {z11 : Int32} {z12 : Int32} {r13 : Int32} {z14 : Int32} {g15 : Nat → Int32} {g16 : Nat → Int32} {z17 : Int32} {z18 : Int32} (hw1 : f_X_thin (nI kw) (nI kh) sf (kw * kh) tf (kh * 32) clf (kh * 32) ctf (4 * (kw * kh)) csf (2 * (kw * kh) + 1) cbf (kw * kh) ccf = (r1, g2, g3, g4, g5, g6, g7, g8, z9, z10, z11, z12) ∧ bd z9 (2 * (kw * kh) + 1) ∧ bd z10 (4 * (kw * kh)) ∧ bd z11 (kw * kh)) (hw2 : f_M_thin (nI kh) (nI (kw + 2)) mlf mcf = (r13, z14, g15, g16, z17, z18)) : r1 = r13 ∧ Rel kw kh pf g2 z12 g4 g6 g7 g8 z9 z10 z11 mpf g15 z17 z18 mst mgf mqf := by
  obtain ⟨⟨bw, bh⟩, hbd, hP, hS, h0, hth, hT, hD⟩ := hR
  obtain ⟨hw1, hbd'⟩ := hw1
  obtain ⟨Pq, tf', sf', mf', mcf', e1, e2, S1, -⟩ := thin_eq hS bw.2 bh.2 tf mcf
  obtain ⟨a1, a2, a3, a4, a5, a6, a7, a8, e3, hTD⟩ := ctrace S1 bw.2 bh.2 clf ctf csf cbf ccf h0
  rw [f_X_thin, e1, f_X_thin_q1, e3, f_X_thin_q2] at hw1
  rw [e2] at hw2
  simp only [Prod.mk.injEq] at hw1 hw2
  obtain ⟨rfl, rfl, rfl, rfl, rfl, rfl, rfl, rfl, rfl, rfl, rfl, rfl⟩ := hw1
  obtain ⟨rfl, rfl, rfl, rfl, rfl, rfl⟩ := hw2
  exact ⟨rfl, ⟨bw, bh⟩, hbd', hP, S1, hTD.b0 S1 bw.2, rfl, fun _ => hTD, fun h => absurd rfl h⟩
theorem pz_thin {kw kh : Nat} {pf : Nat → Int32} {sf : Nat → Int32} {clf : Nat → Int32} {csf : Nat → Int32} {cbf : Nat → Int32} {ccf : Nat → Int32} {csc : Int32} {csm : Int32} {ccr : Int32} {th : Int32} {mpf : Nat → Int32} {mlf : Nat → Int32} {mth : Int32} {mcf : Nat → Int32} {mkn : Int32} {mst : Int32} {mgf : Nat → Int32} {mqf : Nat → Int32} (hR : Rel kw kh pf sf th clf csf cbf ccf csc csm ccr mpf mlf mth mkn mst mgf mqf)  : z_M_thin (nI kh) (nI (kw + 2)) mlf mcf := by
  obtain ⟨⟨bw, bh⟩, hbd, hP, hS, h0, hth, hT, hD⟩ := hR
  obtain ⟨Pq, tf', sf', mf', mcf', e1, e2, S1, hz⟩ := thin_eq hS bw.2 bh.2 mcf mcf
  exact hz
theorem pr_at {kw kh : Nat} {pf : Nat → Int32} {sf : Nat → Int32} {clf : Nat → Int32} {csf : Nat → Int32} {cbf : Nat → Int32} {ccf : Nat → Int32} {csc : Int32} {csm : Int32} {ccr : Int32} {th : Int32} {outf : Nat → Int64} {mpf : Nat → Int32} {mlf : Nat → Int32} {mth : Int32} {mkn : Int32} {mst : Int32} {mgf : Nat → Int32} {mqf : Nat → Int32} (hR : Rel kw kh pf sf th clf csf cbf ccf csc csm ccr mpf mlf mth mkn mst mgf mqf) (x1 : Int32) (x2 : Int32) {r1 : Int32} {g2 : Nat → Int64} {r3 : Int32} {z4 : Int32} (hw1 : f_W_at (nI kw) (nI kh) (nI kw) (nI kh) sf outf x1 x2 = (r1, g2)) (hw2 : f_M_at (nI kw) (nI kh) (nI (kw + 2)) mlf x1 x2 = (r3, z4)) : f_M_thrown z4 = r1 ∧ (r1 = 0 → g2 (0 : Int32).toNatClampNeg = (if r3 = 0 then 0 else 1)) ∧ Rel kw kh pf sf th clf csf cbf ccf csc csm ccr mpf mlf mth mkn mst mgf mqf := by
  have hR0 := hR
  obtain ⟨⟨bw, bh⟩, hbd, hP, hS, h0, hth, hT, hD⟩ := hR
  by_cases hc : f_S_has (nI kw) (nI kh) x1 x2 = 0
  · rw [f_W_at, if_pos hc] at hw1
    rw [f_M_at, mplace_eq bw bh, if_pos hc] at hw2
    simp only [Prod.mk.injEq] at hw1 hw2
    obtain ⟨rfl, rfl⟩ := hw1
    obtain ⟨rfl, rfl⟩ := hw2
    exact ⟨rfl, fun h => absurd h (by decide), hR0⟩
  · obtain ⟨x, y, hx, hy, rfl, rfl⟩ := has_ex bw.2 bh.2 hc
    have hl := lin_676 bw.2 bh.2 hx hy
    have eb := hS.blk bw.2 bh.2 hx hy
    rw [f_W_at, if_neg hc, f_X_at, eb] at hw1
    rw [f_M_at, mplace_eq bw bh, if_neg hc, mlin, nI_clamp (by omega)] at hw2
    by_cases hb0 : mlf (lin kw x y) = 0
    · rw [if_pos hb0] at hw1 hw2
      simp only [Prod.mk.injEq] at hw1 hw2
      obtain ⟨rfl, rfl⟩ := hw1
      obtain ⟨rfl, rfl⟩ := hw2
      exact ⟨rfl, fun _ => by rw [pk_uLs, if_pos rfl], hR0⟩
    · rw [if_neg hb0] at hw1 hw2
      simp only [Prod.mk.injEq] at hw1 hw2
      obtain ⟨rfl, rfl⟩ := hw1
      obtain ⟨rfl, rfl⟩ := hw2
      exact ⟨rfl, fun _ => by rw [pk_uLs, if_neg (by decide)], hR0⟩
theorem pz_at {kw kh : Nat} {pf : Nat → Int32} {sf : Nat → Int32} {clf : Nat → Int32} {csf : Nat → Int32} {cbf : Nat → Int32} {ccf : Nat → Int32} {csc : Int32} {csm : Int32} {ccr : Int32} {th : Int32} {mpf : Nat → Int32} {mlf : Nat → Int32} {mth : Int32} {mkn : Int32} {mst : Int32} {mgf : Nat → Int32} {mqf : Nat → Int32} (hR : Rel kw kh pf sf th clf csf cbf ccf csc csm ccr mpf mlf mth mkn mst mgf mqf) (px : Int32) (py : Int32) : z_M_at (nI kw) (nI kh) (nI (kw + 2)) mlf px py := by
  obtain ⟨⟨bw, bh⟩, hbd, hP, hS, h0, hth, hT, hD⟩ := hR
  by_cases hc : f_S_has (nI kw) (nI kh) px py = 0
  · rw [z_M_at, mplace_eq bw bh, if_pos hc]; trivial
  · obtain ⟨x, y, hx, hy, rfl, rfl⟩ := has_ex bw.2 bh.2 hc
    have hl := lin_676 bw.2 bh.2 hx hy
    rw [z_M_at, mplace_eq bw bh, if_neg hc, mlin]
    refine ⟨vp_in_nI hl (by omega), ?_⟩
    split <;> trivial
theorem pr_prune {kw kh : Nat} {pf : Nat → Int32} {sf : Nat → Int32} {clf : Nat → Int32} {ctf : Nat → Int32} {csf : Nat → Int32} {cbf : Nat → Int32} {ccf : Nat → Int32} {csc : Int32} {csm : Int32} {ccr : Int32} {th : Int32} {outf : Nat → Int64} {mpf : Nat → Int32} {mlf : Nat → Int32} {mth : Int32} {mkn : Int32} {mst : Int32} {mgf : Nat → Int32} {mqf : Nat → Int32} {mus : Int32} {mof : Nat → Int32} {mef : Nat → Int32} {mcu : Int32} {mvf : Nat → Int32} {myf : Nat → Int32} (hR : Rel kw kh pf sf th clf csf cbf ccf csc csm ccr mpf mlf mth mkn mst mgf mqf) (x1 : Int32) {r1 : Int32} {g2 : Nat → Int32} {g3 : Nat → Int32} {g4 : Nat → Int32} {g5 : Nat → Int32} {g6 : Nat → Int32} {g7 : Nat → Int32} {z8 : Int32} {z9 : Int32} {z10 : Int32} {g11 : Nat → Int64} {r12 : Int32} {z13 : Int32} {g14 : Nat → Int32} {z15 : Int32} {g16 : Nat → Int32} {g17 : Nat → Int32} {z18 : Int32} {g19 : Nat → Int32} {z20 : Int32} {z21 : Int32} {g22 : Nat → Int32} {g23 : Nat → Int32} {g24 : Nat → Int32} (hw1 : f_W_prune (nI kw) (nI kh) sf (kh * 32) clf (kh * 32) ctf (4 * (kw * kh)) csf (2 * (kw * kh) + 1) cbf (kw * kh) ccf csc csm ccr th outf x1 = (r1, g2, g3, g4, g5, g6, g7, z8, z9, z10, g11) ∧ bd z8 (2 * (kw * kh) + 1) ∧ bd z9 (4 * (kw * kh)) ∧ bd z10 (kw * kh)) (hw2 : f_M_prune (nI kh) (nI (kw + 2)) mlf mth mkn mst mgf mqf mus mof mef mcu mvf myf x1 = (r12, z13, g14, z15, g16, g17, z18, g19, z20, z21, g22, g23, g24)) : f_M_thrown z13 = r1 ∧ (r1 = 0 → g11 (0 : Int32).toNatClampNeg = r12.toInt64) ∧ Rel kw kh pf g2 th g3 g5 g6 g7 z8 z9 z10 mpf g24 mth z20 z15 g14 g16 := by
  have hR0 := hR
  obtain ⟨⟨bw, bh⟩, hbd, hP, hS, h0, hth, hT, hD⟩ := hR
  obtain ⟨hw1, hbd'⟩ := hw1
  by_cases ht : th = 0
  · rw [f_W_prune, if_pos ht] at hw1
    rw [f_M_prune, if_pos (by rw [← hth]; exact ht)] at hw2
    simp only [Prod.mk.injEq] at hw1 hw2
    obtain ⟨rfl, rfl, rfl, rfl, rfl, rfl, rfl, rfl, rfl, rfl, rfl⟩ := hw1
    obtain ⟨rfl, rfl, rfl, rfl, rfl, rfl, rfl, rfl, rfl, rfl, rfl, rfl, rfl⟩ := hw2
    exact ⟨rfl, fun h => absurd h (by decide), hR0⟩
  · have hmt : ¬ mth = 0 := by rw [← hth]; exact ht
    rw [f_W_prune, if_neg ht] at hw1
    rw [f_M_prune, if_neg hmt, in_eq, i_0] at hw2
    have e600 : (600 : Int32).toInt = 600 := by decide
    rw [e600] at hw2
    by_cases hx : x1 < 0 ∨ 600 < x1
    · rw [if_pos hx] at hw1
      have hx' : ¬ (0 ≤ x1.toInt ∧ x1.toInt ≤ 600) := by
        rw [i_lt, i_lt, i_0, e600] at hx; omega
      rw [if_neg hx', if_pos rfl] at hw2
      simp only [Prod.mk.injEq] at hw1 hw2
      obtain ⟨rfl, rfl, rfl, rfl, rfl, rfl, rfl, rfl, rfl, rfl, rfl⟩ := hw1
      obtain ⟨rfl, rfl, rfl, rfl, rfl, rfl, rfl, rfl, rfl, rfl, rfl, rfl, rfl⟩ := hw2
      exact ⟨rfl, fun h => absurd h (by decide), hR0⟩
    · have hx' : 0 ≤ x1.toInt ∧ x1.toInt ≤ 600 := by
        rw [i_lt, i_lt, i_0, e600] at hx; omega
      obtain ⟨q, hq, rfl⟩ : ∃ q : Nat, q ≤ 600 ∧ x1 = nI q := ⟨x1.toInt.toNat, by omega, Int32.toInt_inj.mp (by rw [nI_toInt (by omega)]; omega)⟩
      rw [if_neg hx] at hw1
      rw [if_pos hx', if_neg (by decide)] at hw2
      obtain ⟨l1, l2, l3, l4, l5, l6, l7, e, h7, hMD, -⟩ := learn_ok hS bw bh hD mus mof mef
      have hTD := hT ht
      have hK := kn_ok hS bw.2
      have hC := hTD.cf hS bw.2
      have hG := hMD.gf hS bw.2
      obtain ⟨g, ec, hSc⟩ := ccuts hS bw.2 bh.2 hTD.1 hK hC hq
      obtain ⟨g9, g10, e51, hc51, -⟩ := mcuts hS.mf bw.2 bh.2 hK hG hq mvf myf
      obtain ⟨v, e168, -⟩ := mcutall hS.mf bw.2 bh.2 hK hG hq hc51
      obtain ⟨a1, a2, a3, a4, a5, a6, a7, a8, e3, hTD'⟩ := ctrace hSc bw.2 bh.2 clf ctf csf cbf ccf h0
      rw [f_X_prune, ec, f_X_prune_q1, e3, f_X_prune_q2, f_W_prune_q1] at hw1
      rw [e, f_M_prune_q1, e51, f_M_prune_k51, e168, f_M_prune_k168, f_M_prune_q2] at hw2
      simp only [Prod.mk.injEq] at hw1 hw2
      obtain ⟨rfl, rfl, rfl, rfl, rfl, rfl, rfl, rfl, rfl, rfl, rfl⟩ := hw1
      obtain ⟨rfl, rfl, rfl, rfl, rfl, rfl, rfl, rfl, rfl, rfl, rfl, rfl, rfl⟩ := hw2
      exact ⟨rfl, fun _ => pk_uLs, ⟨bw, bh⟩, hbd', hP, hSc, hTD'.b0 hSc bw.2, hth, fun _ => hTD', fun h => absurd rfl h⟩
theorem pz_prune {kw kh : Nat} {pf : Nat → Int32} {sf : Nat → Int32} {clf : Nat → Int32} {csf : Nat → Int32} {cbf : Nat → Int32} {ccf : Nat → Int32} {csc : Int32} {csm : Int32} {ccr : Int32} {th : Int32} {mpf : Nat → Int32} {mlf : Nat → Int32} {mth : Int32} {mkn : Int32} {mst : Int32} {mgf : Nat → Int32} {mqf : Nat → Int32} {mus : Int32} {mof : Nat → Int32} {mef : Nat → Int32} {mvf : Nat → Int32} {myf : Nat → Int32} (hR : Rel kw kh pf sf th clf csf cbf ccf csc csm ccr mpf mlf mth mkn mst mgf mqf) (px : Int32) : z_M_prune (nI kh) (nI (kw + 2)) mlf mth mkn mst mgf mqf mus mof mef mvf myf px := by
  obtain ⟨⟨bw, bh⟩, hbd, hP, hS, h0, hth, hT, hD⟩ := hR
  by_cases ht : mth = 0
  · rw [z_M_prune, if_pos ht]; trivial
  · rw [z_M_prune, if_neg ht, in_eq, i_0]
    have e600 : (600 : Int32).toInt = 600 := by decide
    rw [e600]
    by_cases hx' : 0 ≤ px.toInt ∧ px.toInt ≤ 600
    · obtain ⟨q, hq, rfl⟩ : ∃ q : Nat, q ≤ 600 ∧ px = nI q := ⟨px.toInt.toNat, by omega, Int32.toInt_inj.mp (by rw [nI_toInt (by omega)]; omega)⟩
      rw [if_pos hx', if_neg (by decide)]
      obtain ⟨l1, l2, l3, l4, l5, l6, l7, e, h7, hMD, zl⟩ := learn_ok hS bw bh hD mus mof mef
      have hK := kn_ok hS bw.2
      have hG := hMD.gf hS bw.2
      obtain ⟨g9, g10, e51, hc51, z51⟩ := mcuts hS.mf bw.2 bh.2 hK hG hq mvf myf
      obtain ⟨v, e168, z168⟩ := mcutall hS.mf bw.2 bh.2 hK hG hq hc51
      rw [e, f_M_prune_q1_z, e51, f_M_prune_k51_z, e168, f_M_prune_k168_z]
      exact ⟨zl, z51, z168, trivial⟩
    · rw [if_neg hx', if_pos rfl]; trivial
theorem pr_strokes {kw kh : Nat} {pf : Nat → Int32} {sf : Nat → Int32} {clf : Nat → Int32} {csf : Nat → Int32} {cbf : Nat → Int32} {ccf : Nat → Int32} {csc : Int32} {csm : Int32} {ccr : Int32} {th : Int32} {outf : Nat → Int64} {mpf : Nat → Int32} {mlf : Nat → Int32} {mth : Int32} {mkn : Int32} {mst : Int32} {mgf : Nat → Int32} {mqf : Nat → Int32} {mus : Int32} {mof : Nat → Int32} {mef : Nat → Int32} (hR : Rel kw kh pf sf th clf csf cbf ccf csc csm ccr mpf mlf mth mkn mst mgf mqf)  {r1 : Int32} {g2 : Nat → Int64} {r3 : Int32} {z4 : Int32} {g5 : Nat → Int32} {z6 : Int32} {g7 : Nat → Int32} {g8 : Nat → Int32} {z9 : Int32} {g10 : Nat → Int32} {z11 : Int32} (hw1 : f_W_strokes csc th outf = (r1, g2)) (hw2 : f_M_strokes (nI kh) (nI (kw + 2)) mlf mth mkn mst mgf mqf mus mof mef = (r3, z4, g5, z6, g7, g8, z9, g10, z11)) : f_M_thrown z4 = r1 ∧ (r1 = 0 → g2 (0 : Int32).toNatClampNeg = r3.toInt64) ∧ Rel kw kh pf sf th clf csf cbf ccf csc csm ccr mpf mlf mth z11 z6 g5 g7 := by
  have hR0 := hR
  obtain ⟨⟨bw, bh⟩, hbd, hP, hS, h0, hth, hT, hD⟩ := hR
  by_cases ht : th = 0
  · rw [f_W_strokes, if_pos ht] at hw1
    rw [f_M_strokes, if_pos (by rw [← hth]; exact ht)] at hw2
    simp only [Prod.mk.injEq] at hw1 hw2
    obtain ⟨rfl, rfl⟩ := hw1
    obtain ⟨rfl, rfl, rfl, rfl, rfl, rfl, rfl, rfl, rfl⟩ := hw2
    exact ⟨rfl, fun h => absurd h (by decide), hR0⟩
  have hmt : ¬ mth = 0 := by rw [← hth]; exact ht
  have hTD := hT ht
  have hK := kn_ok hS bw.2
  have hC := hTD.cf hS bw.2
  obtain ⟨l1, l2, l3, l4, l5, l6, l7, e, h7, hMD, -⟩ := learn_ok hS bw bh hD mus mof mef
  have hG := hMD.gf hS bw.2
  rw [f_W_strokes, if_neg ht] at hw1
  rw [f_M_strokes, if_neg hmt, e, f_M_strokes_q1] at hw2
  simp only [Prod.mk.injEq] at hw1 hw2
  obtain ⟨rfl, rfl⟩ := hw1
  obtain ⟨rfl, rfl, rfl, rfl, rfl, rfl, rfl, rfl, rfl⟩ := hw2
  refine ⟨rfl, fun _ => ?_, ⟨bw, bh⟩, hbd, hP, hS, h0, hth, hT, fun _ => hMD⟩
  rw [pk_uLs, f_X_strokes, f_C_strokeCount, hC.1, hG.1]
theorem pz_strokes {kw kh : Nat} {pf : Nat → Int32} {sf : Nat → Int32} {clf : Nat → Int32} {csf : Nat → Int32} {cbf : Nat → Int32} {ccf : Nat → Int32} {csc : Int32} {csm : Int32} {ccr : Int32} {th : Int32} {mpf : Nat → Int32} {mlf : Nat → Int32} {mth : Int32} {mkn : Int32} {mst : Int32} {mgf : Nat → Int32} {mqf : Nat → Int32} {mus : Int32} {mof : Nat → Int32} {mef : Nat → Int32} (hR : Rel kw kh pf sf th clf csf cbf ccf csc csm ccr mpf mlf mth mkn mst mgf mqf)  : z_M_strokes (nI kh) (nI (kw + 2)) mlf mth mkn mst mgf mqf mus mof mef := by
  obtain ⟨⟨bw, bh⟩, hbd, hP, hS, h0, hth, hT, hD⟩ := hR
  by_cases ht : mth = 0
  · rw [z_M_strokes, if_pos ht]; trivial
  · obtain ⟨l1, l2, l3, l4, l5, l6, l7, e, h7, hMD, zl⟩ := learn_ok hS bw bh hD mus mof mef
    rw [z_M_strokes, if_neg ht, e]
    exact ⟨zl, trivial⟩
theorem pr_points {kw kh : Nat} {pf : Nat → Int32} {sf : Nat → Int32} {clf : Nat → Int32} {csf : Nat → Int32} {cbf : Nat → Int32} {ccf : Nat → Int32} {csc : Int32} {csm : Int32} {ccr : Int32} {th : Int32} {outf : Nat → Int64} {mpf : Nat → Int32} {mlf : Nat → Int32} {mth : Int32} {mkn : Int32} {mst : Int32} {mgf : Nat → Int32} {mqf : Nat → Int32} {mus : Int32} {mof : Nat → Int32} {mef : Nat → Int32} (hR : Rel kw kh pf sf th clf csf cbf ccf csc csm ccr mpf mlf mth mkn mst mgf mqf) (x1 : Int32) {r1 : Int32} {g2 : Nat → Int64} {r3 : Int32} {z4 : Int32} {g5 : Nat → Int32} {z6 : Int32} {g7 : Nat → Int32} {g8 : Nat → Int32} {z9 : Int32} {g10 : Nat → Int32} {z11 : Int32} (hw1 : f_W_points (2 * (kw * kh) + 1) cbf csc th outf x1 = (r1, g2)) (hw2 : f_M_points (nI kh) (nI (kw + 2)) mlf mth mkn mst mgf mqf mus mof mef x1 = (r3, z4, g5, z6, g7, g8, z9, g10, z11)) : f_M_thrown z4 = r1 ∧ (r1 = 0 → g2 (0 : Int32).toNatClampNeg = r3.toInt64) ∧ Rel kw kh pf sf th clf csf cbf ccf csc csm ccr mpf mlf mth z11 z6 g5 g7 := by
  have hR0 := hR
  obtain ⟨⟨bw, bh⟩, hbd, hP, hS, h0, hth, hT, hD⟩ := hR
  by_cases ht : th = 0
  · rw [f_W_points, if_pos ht] at hw1
    rw [f_M_points, f_M_isStroke, if_pos (by rw [← hth]; exact ht), f_M_points_q1, if_pos rfl] at hw2
    simp only [Prod.mk.injEq] at hw1 hw2
    obtain ⟨rfl, rfl⟩ := hw1
    obtain ⟨rfl, rfl, rfl, rfl, rfl, rfl, rfl, rfl, rfl⟩ := hw2
    exact ⟨rfl, fun h => absurd h (by decide), hR0⟩
  have hmt : ¬ mth = 0 := by rw [← hth]; exact ht
  have hTD := hT ht
  have hK := kn_ok hS bw.2
  have hC := hTD.cf hS bw.2
  obtain ⟨l1, l2, l3, l4, l5, l6, l7, e, h7, hMD, -⟩ := is_ok hS bw bh hmt hD mus mof mef x1
  have hG := hMD.gf hS bw.2
  rw [f_M_points, e] at hw2
  rcases points_both bw bh hK hC hG ht outf x1 hw1 with ⟨s, hs, hx, hin, hr, hg, -⟩ | ⟨hin, hr⟩
  · rw [hin, if_neg (by decide), f_M_points_q1, if_neg (by decide)] at hw2
    simp only [Prod.mk.injEq] at hw2
    obtain ⟨rfl, rfl, rfl, rfl, rfl, rfl, rfl, rfl, rfl⟩ := hw2
    exact ⟨hr.symm, fun _ => hg, ⟨bw, bh⟩, hbd, hP, hS, h0, hth, hT, fun _ => hMD⟩
  · rw [hin, if_pos rfl, f_M_points_q1, if_pos rfl] at hw2
    simp only [Prod.mk.injEq] at hw2
    obtain ⟨rfl, rfl, rfl, rfl, rfl, rfl, rfl, rfl, rfl⟩ := hw2
    exact ⟨hr.symm, fun h => by rw [hr] at h; exact absurd h (by decide), ⟨bw, bh⟩, hbd, hP, hS, h0, hth, hT, fun _ => hMD⟩
theorem pz_points {kw kh : Nat} {pf : Nat → Int32} {sf : Nat → Int32} {clf : Nat → Int32} {csf : Nat → Int32} {cbf : Nat → Int32} {ccf : Nat → Int32} {csc : Int32} {csm : Int32} {ccr : Int32} {th : Int32} {mpf : Nat → Int32} {mlf : Nat → Int32} {mth : Int32} {mkn : Int32} {mst : Int32} {mgf : Nat → Int32} {mqf : Nat → Int32} {mus : Int32} {mof : Nat → Int32} {mef : Nat → Int32} (hR : Rel kw kh pf sf th clf csf cbf ccf csc csm ccr mpf mlf mth mkn mst mgf mqf) (px : Int32) : z_M_points (nI kh) (nI (kw + 2)) mlf mth mkn mst mgf mqf mus mof mef px := by
  obtain ⟨⟨bw, bh⟩, hbd, hP, hS, h0, hth, hT, hD⟩ := hR
  by_cases ht : mth = 0
  · rw [z_M_points, z_M_isStroke, f_M_isStroke, if_pos ht, if_pos ht, f_M_points_q1_z, if_pos rfl]
    exact ⟨trivial, trivial⟩
  obtain ⟨l1, l2, l3, l4, l5, l6, l7, e, h7, hMD, zi⟩ := is_ok hS bw bh ht hD mus mof mef px
  have hK := kn_ok hS bw.2
  have hG := hMD.gf hS bw.2
  have hkk : kw * kh ≤ 576 := Nat.mul_le_mul bw.2 bh.2
  have h1 := hK.1
  have h2 := hK.2.1
  rw [z_M_points, e]
  refine ⟨zi, ?_⟩
  rw [hG.1]
  rcases ix_c px (n := nS kw kh mlf) (by omega) with ⟨-, hin⟩ | ⟨s, hs, rfl, -, hin⟩
  · rw [hin, if_pos rfl, f_M_points_q1_z, if_pos rfl]; trivial
  rw [hin, if_neg (by decide), f_M_points_q1_z, if_neg (by decide)]
  have h3 := hK.2.2.1 s hs
  exact ⟨(msize bw.2 bh.2 hK hG hs).2, trivial⟩
theorem pr_place {kw kh : Nat} {pf : Nat → Int32} {sf : Nat → Int32} {clf : Nat → Int32} {csf : Nat → Int32} {cbf : Nat → Int32} {ccf : Nat → Int32} {csc : Int32} {csm : Int32} {ccr : Int32} {th : Int32} {outf : Nat → Int64} {mpf : Nat → Int32} {mlf : Nat → Int32} {mth : Int32} {mkn : Int32} {mst : Int32} {mgf : Nat → Int32} {mqf : Nat → Int32} {mus : Int32} {mof : Nat → Int32} {mef : Nat → Int32} (hR : Rel kw kh pf sf th clf csf cbf ccf csc csm ccr mpf mlf mth mkn mst mgf mqf) (x1 : Int32) (x2 : Int32) (x3 : Int32) {r1 : Int32} {g2 : Nat → Int64} {r3 : Int32} {z4 : Int32} {g5 : Nat → Int32} {z6 : Int32} {g7 : Nat → Int32} {g8 : Nat → Int32} {z9 : Int32} {g10 : Nat → Int32} {z11 : Int32} (hw1 : f_W_place (4 * (kw * kh)) csf (2 * (kw * kh) + 1) cbf csc th outf x1 x2 x3 = (r1, g2)) (hw2 : f_M_place (nI kh) (nI (kw + 2)) mlf mth mkn mst mgf mqf mus mof mef x1 x2 x3 = (r3, z4, g5, z6, g7, g8, z9, g10, z11)) : f_M_thrown z4 = r1 ∧ (r1 = 0 → g2 (0 : Int32).toNatClampNeg = r3.toInt64) ∧ Rel kw kh pf sf th clf csf cbf ccf csc csm ccr mpf mlf mth z11 z6 g5 g7 := by
  have hR0 := hR
  obtain ⟨⟨bw, bh⟩, hbd, hP, hS, h0, hth, hT, hD⟩ := hR
  by_cases ht : th = 0
  · rw [f_W_place, if_pos ht] at hw1
    rw [f_M_place, f_M_isStroke, if_pos (by rw [← hth]; exact ht), f_M_place_q1, if_pos rfl] at hw2
    simp only [Prod.mk.injEq] at hw1 hw2
    obtain ⟨rfl, rfl⟩ := hw1
    obtain ⟨rfl, rfl, rfl, rfl, rfl, rfl, rfl, rfl, rfl⟩ := hw2
    exact ⟨rfl, fun h => absurd h (by decide), hR0⟩
  have hmt : ¬ mth = 0 := by rw [← hth]; exact ht
  have hTD := hT ht
  have hK := kn_ok hS bw.2
  have hC := hTD.cf hS bw.2
  obtain ⟨l1, l2, l3, l4, l5, l6, l7, e, h7, hMD, -⟩ := is_ok hS bw bh hmt hD mus mof mef x1
  have hG := hMD.gf hS bw.2
  have hkk : kw * kh ≤ 576 := Nat.mul_le_mul bw.2 bh.2
  have h1 := hK.1
  have h2 := hK.2.1
  rw [f_W_place, if_neg ht, hC.1] at hw1
  rw [f_M_place, e, hG.1] at hw2
  have hRel : Rel kw kh pf sf th clf csf cbf ccf csc csm ccr mpf mlf mth l7 (nI (nS kw kh mlf)) l1 l3 := by
    have : MD kw kh mlf (nI (nS kw kh mlf)) l1 l3 := by rw [← hG.1]; exact hMD
    exact ⟨⟨bw, bh⟩, hbd, hP, hS, h0, hth, hT, fun _ => this⟩
  rcases ix_c x1 (n := nS kw kh mlf) (by omega) with ⟨hx, hin⟩ | ⟨s, hs, rfl, hx, hin⟩
  · rw [if_pos hx] at hw1
    rw [hin, if_pos rfl, f_M_place_q1, if_pos rfl] at hw2
    simp only [Prod.mk.injEq] at hw1 hw2
    obtain ⟨rfl, rfl⟩ := hw1
    obtain ⟨rfl, rfl, rfl, rfl, rfl, rfl, rfl, rfl, rfl⟩ := hw2
    exact ⟨rfl, fun h => absurd h (by decide), hRel⟩
  have h3 := hK.2.2.1 s hs
  have el := clen bw.2 bh.2 hK hC hs
  rw [hC.1] at el
  have em := (msize bw.2 bh.2 hK hG hs).1
  rw [if_neg hx, el] at hw1
  rw [hin, if_neg (by decide), f_M_place_q1, if_neg (by decide), em] at hw2
  rcases ix_c x2 (n := bS kw kh mlf (s + 1) - bS kw kh mlf s) (by omega) with ⟨hy, hin2⟩ | ⟨k, hk, rfl, hy, hin2⟩
  · rw [if_pos hy] at hw1
    rw [hin2, if_pos rfl] at hw2
    simp only [Prod.mk.injEq] at hw1 hw2
    obtain ⟨rfl, rfl⟩ := hw1
    obtain ⟨rfl, rfl, rfl, rfl, rfl, rfl, rfl, rfl, rfl⟩ := hw2
    exact ⟨rfl, fun h => absurd h (by decide), hRel⟩
  have es := csmp bw.2 bh.2 hK hC hs hk
  rw [hC.1] at es
  have eg : l1 s = nI (bS kw kh mlf s) := hG.2.1 s (by omega)
  have eq : l3 (bS kw kh mlf s + k) = nI (sS kw kh mlf (bS kw kh mlf s + k)) := hG.2.2 _ (by omega)
  obtain ⟨x, y, hxx, hyy, exy⟩ := kn_inn hS.mf hK (k := bS kw kh mlf s + k) (by omega)
  rw [exy] at es eq
  have hcol := ccol bw.2 bh.2 hxx hyy
  have hmc := mcol bw.2 bh.2 hxx hyy
  have hmr := mrow bw.2 bh.2 hxx hyy
  rw [if_neg hy] at hw1
  rw [hin2, if_neg (by decide), nI_clamp (by omega), eg, nI_add, nI_clamp (by omega), eq, hmc, hmr] at hw2
  by_cases z0 : x3 = 0
  · subst z0
    rw [if_neg (by decide), f_X_place, if_pos rfl, f_X_place_j54, es, f_X_place_t63, if_pos rfl, hcol.1] at hw1
    rw [if_neg (by decide), if_pos rfl] at hw2
    simp only [Prod.mk.injEq] at hw1 hw2
    obtain ⟨rfl, rfl⟩ := hw1
    obtain ⟨rfl, rfl, rfl, rfl, rfl, rfl, rfl, rfl, rfl⟩ := hw2
    exact ⟨rfl, fun _ => pk_uLs, hRel⟩
  · by_cases z1 : x3 = 1
    · subst z1
      rw [if_neg (by decide), f_X_place, if_neg (by decide), f_X_place_j54, es, f_X_place_t63, if_neg (by decide), hcol.2] at hw1
      rw [if_neg (by decide), if_neg (by decide)] at hw2
      simp only [Prod.mk.injEq] at hw1 hw2
      obtain ⟨rfl, rfl⟩ := hw1
      obtain ⟨rfl, rfl, rfl, rfl, rfl, rfl, rfl, rfl, rfl⟩ := hw2
      exact ⟨rfl, fun _ => pk_uLs, hRel⟩
    · have hni : f_M_in x3 0 1 = 0 := by
        rw [in_eq, i_0, i_1, if_neg]
        intro c
        have q0 : x3.toInt ≠ 0 := fun h => z0 (Int32.toInt_inj.mp (by rw [h, i_0]))
        have q1 : x3.toInt ≠ 1 := fun h => z1 (Int32.toInt_inj.mp (by rw [h, i_1]))
        omega
      rw [if_pos ⟨z0, z1⟩] at hw1
      rw [hni, if_pos rfl] at hw2
      simp only [Prod.mk.injEq] at hw1 hw2
      obtain ⟨rfl, rfl⟩ := hw1
      obtain ⟨rfl, rfl, rfl, rfl, rfl, rfl, rfl, rfl, rfl⟩ := hw2
      exact ⟨rfl, fun h => absurd h (by decide), hRel⟩
theorem pz_place {kw kh : Nat} {pf : Nat → Int32} {sf : Nat → Int32} {clf : Nat → Int32} {csf : Nat → Int32} {cbf : Nat → Int32} {ccf : Nat → Int32} {csc : Int32} {csm : Int32} {ccr : Int32} {th : Int32} {mpf : Nat → Int32} {mlf : Nat → Int32} {mth : Int32} {mkn : Int32} {mst : Int32} {mgf : Nat → Int32} {mqf : Nat → Int32} {mus : Int32} {mof : Nat → Int32} {mef : Nat → Int32} (hR : Rel kw kh pf sf th clf csf cbf ccf csc csm ccr mpf mlf mth mkn mst mgf mqf) (px : Int32) (py : Int32) (pz : Int32) : z_M_place (nI kh) (nI (kw + 2)) mlf mth mkn mst mgf mqf mus mof mef px py pz := by
  obtain ⟨⟨bw, bh⟩, hbd, hP, hS, h0, hth, hT, hD⟩ := hR
  by_cases ht : mth = 0
  · rw [z_M_place, z_M_isStroke, f_M_isStroke, if_pos ht, if_pos ht, f_M_place_q1_z, if_pos rfl]
    exact ⟨trivial, trivial⟩
  obtain ⟨l1, l2, l3, l4, l5, l6, l7, e, h7, hMD, zi⟩ := is_ok hS bw bh ht hD mus mof mef px
  have hK := kn_ok hS bw.2
  have hG := hMD.gf hS bw.2
  have hkk : kw * kh ≤ 576 := Nat.mul_le_mul bw.2 bh.2
  have h1 := hK.1
  have h2 := hK.2.1
  rw [z_M_place, e]
  refine ⟨zi, ?_⟩
  rw [hG.1]
  rcases ix_c px (n := nS kw kh mlf) (by omega) with ⟨-, hin⟩ | ⟨s, hs, rfl, -, hin⟩
  · rw [hin, if_pos rfl, f_M_place_q1_z, if_pos rfl]; trivial
  rw [hin, if_neg (by decide), f_M_place_q1_z, if_neg (by decide)]
  have h3 := hK.2.2.1 s hs
  obtain ⟨em, zm⟩ := msize bw.2 bh.2 hK hG hs
  have hW0 : ¬ nI (kw + 2) = 0 := nI_ne0 (by omega) (by omega)
  refine ⟨zm, ?_⟩
  rw [em]
  rcases ix_c py (n := bS kw kh mlf (s + 1) - bS kw kh mlf s) (by omega) with ⟨-, hin2⟩ | ⟨k, hk, rfl, -, hin2⟩
  · rw [hin2, if_pos rfl]; trivial
  have eg : l1 s = nI (bS kw kh mlf s) := hG.2.1 s (by omega)
  rw [hin2, if_neg (by decide), nI_clamp (by omega), eg, nI_add]
  split
  · trivial
  · refine ⟨vp_in_nI (by omega) (by omega), vp_in_nI (by omega) (by omega), ?_⟩
    split
    · exact ⟨⟨hW0, trivial⟩, trivial⟩
    · exact ⟨⟨hW0, trivial⟩, trivial⟩
theorem pr_distance2 {kw kh : Nat} {pf : Nat → Int32} {sf : Nat → Int32} {clf : Nat → Int32} {csf : Nat → Int32} {cbf : Nat → Int32} {ccf : Nat → Int32} {csc : Int32} {csm : Int32} {ccr : Int32} {th : Int32} {outf : Nat → Int64} {mpf : Nat → Int32} {mlf : Nat → Int32} {mth : Int32} {mkn : Int32} {mst : Int32} {mgf : Nat → Int32} {mqf : Nat → Int32} (hR : Rel kw kh pf sf th clf csf cbf ccf csc csm ccr mpf mlf mth mkn mst mgf mqf) (x1 : Int32) (x2 : Int32) {r1 : Int32} {g2 : Nat → Int64} {r3 : Int64} {z4 : Int32} (hw1 : f_W_distance2 (nI kw) (nI kh) pf outf x1 x2 = (r1, g2)) (hw2 : f_M_distance2 (nI kw) (nI kh) (nI (kw + 2)) mpf x1 x2 = (r3, z4)) : f_M_thrown z4 = r1 ∧ (r1 = 0 → g2 (0 : Int32).toNatClampNeg = r3) ∧ Rel kw kh pf sf th clf csf cbf ccf csc csm ccr mpf mlf mth mkn mst mgf mqf := by
  have hR0 := hR
  obtain ⟨⟨bw, bh⟩, hbd, hP, hS, h0, hth, hT, hD⟩ := hR
  by_cases hc : f_S_has (nI kw) (nI kh) x1 x2 = 0
  · rw [f_W_distance2, if_pos hc] at hw1
    rw [f_M_distance2, mplace_eq bw bh, if_pos hc] at hw2
    simp only [Prod.mk.injEq] at hw1 hw2
    obtain ⟨rfl, rfl⟩ := hw1
    obtain ⟨rfl, rfl⟩ := hw2
    exact ⟨rfl, fun h => absurd h (by decide), hR0⟩
  · obtain ⟨x, y, hx, hy, rfl, rfl⟩ := has_ex bw.2 bh.2 hc
    obtain ⟨v, -, e1, e2, -⟩ := near_both hP bw bh hx hy
    rw [f_W_distance2, if_neg hc, f_X_distance2, e1] at hw1
    rw [f_M_distance2, mplace_eq bw bh, if_neg hc, mlin, e2] at hw2
    simp only [Prod.mk.injEq] at hw1 hw2
    obtain ⟨rfl, rfl⟩ := hw1
    obtain ⟨rfl, rfl⟩ := hw2
    exact ⟨rfl, fun _ => pk_uLs, hR0⟩
theorem pz_distance2 {kw kh : Nat} {pf : Nat → Int32} {sf : Nat → Int32} {clf : Nat → Int32} {csf : Nat → Int32} {cbf : Nat → Int32} {ccf : Nat → Int32} {csc : Int32} {csm : Int32} {ccr : Int32} {th : Int32} {mpf : Nat → Int32} {mlf : Nat → Int32} {mth : Int32} {mkn : Int32} {mst : Int32} {mgf : Nat → Int32} {mqf : Nat → Int32} (hR : Rel kw kh pf sf th clf csf cbf ccf csc csm ccr mpf mlf mth mkn mst mgf mqf) (px : Int32) (py : Int32) : z_M_distance2 (nI kw) (nI kh) (nI (kw + 2)) mpf px py := by
  obtain ⟨⟨bw, bh⟩, hbd, hP, hS, h0, hth, hT, hD⟩ := hR
  by_cases hc : f_S_has (nI kw) (nI kh) px py = 0
  · rw [z_M_distance2, mplace_eq bw bh, if_pos hc]; trivial
  · obtain ⟨x, y, hx, hy, rfl, rfl⟩ := has_ex bw.2 bh.2 hc
    obtain ⟨v, -, e1, e2, hz⟩ := near_both hP bw bh hx hy
    rw [z_M_distance2, mplace_eq bw bh, if_neg hc, mlin]
    exact ⟨hz, trivial⟩
theorem pr_crossing {kw kh : Nat} {pf : Nat → Int32} {sf : Nat → Int32} {clf : Nat → Int32} {csf : Nat → Int32} {cbf : Nat → Int32} {ccf : Nat → Int32} {csc : Int32} {csm : Int32} {ccr : Int32} {th : Int32} {outf : Nat → Int64} {mpf : Nat → Int32} {mlf : Nat → Int32} {mth : Int32} {mkn : Int32} {mst : Int32} {mgf : Nat → Int32} {mqf : Nat → Int32} (hR : Rel kw kh pf sf th clf csf cbf ccf csc csm ccr mpf mlf mth mkn mst mgf mqf) (x1 : Int32) (x2 : Int32) {r1 : Int32} {g2 : Nat → Int64} {r3 : Int32} {z4 : Int32} (hw1 : f_W_crossing (kh * 32) clf (kw * kh) ccf ccr th outf x1 x2 = (r1, g2)) (hw2 : f_M_crossing (nI kh) (nI (kw + 2)) mlf mth x1 x2 = (r3, z4)) : f_M_thrown z4 = r1 ∧ (r1 = 0 → g2 (0 : Int32).toNatClampNeg = r3.toInt64) ∧ Rel kw kh pf sf th clf csf cbf ccf csc csm ccr mpf mlf mth mkn mst mgf mqf := by
  have hR0 := hR
  obtain ⟨⟨bw, bh⟩, hbd, hP, hS, h0, hth, hT, hD⟩ := hR
  by_cases ht : th = 0
  · rw [f_W_crossing, if_pos ht] at hw1
    rw [f_M_crossing, if_pos (by rw [← hth]; exact ht)] at hw2
    simp only [Prod.mk.injEq] at hw1 hw2
    obtain ⟨rfl, rfl⟩ := hw1
    obtain ⟨rfl, rfl⟩ := hw2
    exact ⟨rfl, fun h => absurd h (by decide), hR0⟩
  · obtain ⟨t1, -, -, -, -, t6, t7⟩ := hT ht
    obtain ⟨⟨c1, c2⟩, -⟩ := cross_both hS bw bh t1 t6 t7 ht (by rw [← hth]; exact ht) outf x1 x2 hw1 hw2
    exact ⟨c1, c2, hR0⟩
theorem pz_crossing {kw kh : Nat} {pf : Nat → Int32} {sf : Nat → Int32} {clf : Nat → Int32} {csf : Nat → Int32} {cbf : Nat → Int32} {ccf : Nat → Int32} {csc : Int32} {csm : Int32} {ccr : Int32} {th : Int32} {mpf : Nat → Int32} {mlf : Nat → Int32} {mth : Int32} {mkn : Int32} {mst : Int32} {mgf : Nat → Int32} {mqf : Nat → Int32} (hR : Rel kw kh pf sf th clf csf cbf ccf csc csm ccr mpf mlf mth mkn mst mgf mqf) (px : Int32) (py : Int32) : z_M_crossing (nI kh) (nI (kw + 2)) mlf mth px py := by
  obtain ⟨⟨bw, bh⟩, hbd, hP, hS, h0, hth, hT, hD⟩ := hR
  by_cases ht : mth = 0
  · rw [z_M_crossing, if_pos ht]; trivial
  · have ht' : ¬ th = 0 := by rw [hth]; exact ht
    obtain ⟨t1, -, -, -, -, t6, t7⟩ := hT ht'
    exact (cross_both hS bw bh t1 t6 t7 ht' ht (fun _ => 0) px py rfl rfl).2
theorem pr_joined {kw kh : Nat} {pf : Nat → Int32} {sf : Nat → Int32} {clf : Nat → Int32} {csf : Nat → Int32} {cbf : Nat → Int32} {ccf : Nat → Int32} {csc : Int32} {csm : Int32} {ccr : Int32} {th : Int32} {outf : Nat → Int64} {mpf : Nat → Int32} {mlf : Nat → Int32} {mth : Int32} {mkn : Int32} {mst : Int32} {mgf : Nat → Int32} {mqf : Nat → Int32} {mus : Int32} {mof : Nat → Int32} {mef : Nat → Int32} (hR : Rel kw kh pf sf th clf csf cbf ccf csc csm ccr mpf mlf mth mkn mst mgf mqf) (x1 : Int32) {r1 : Int32} {g2 : Nat → Int64} {r3 : Int32} {z4 : Int32} {g5 : Nat → Int32} {z6 : Int32} {g7 : Nat → Int32} {g8 : Nat → Int32} {z9 : Int32} {g10 : Nat → Int32} {z11 : Int32} (hw1 : f_W_joined (kh * 32) clf (4 * (kw * kh)) csf (2 * (kw * kh) + 1) cbf csc th outf x1 = (r1, g2)) (hw2 : f_M_joined (nI kh) (nI (kw + 2)) mlf mth mkn mst mgf mqf mus mof mef x1 = (r3, z4, g5, z6, g7, g8, z9, g10, z11)) : f_M_thrown z4 = r1 ∧ (r1 = 0 → g2 (0 : Int32).toNatClampNeg = r3.toInt64) ∧ Rel kw kh pf sf th clf csf cbf ccf csc csm ccr mpf mlf mth z11 z6 g5 g7 := by
  have hR0 := hR
  obtain ⟨⟨bw, bh⟩, hbd, hP, hS, h0, hth, hT, hD⟩ := hR
  by_cases ht : th = 0
  · rw [f_W_joined, if_pos ht] at hw1
    rw [f_M_joined, f_M_isStroke, if_pos (by rw [← hth]; exact ht), f_M_joined_q1, if_pos rfl] at hw2
    simp only [Prod.mk.injEq] at hw1 hw2
    obtain ⟨rfl, rfl⟩ := hw1
    obtain ⟨rfl, rfl, rfl, rfl, rfl, rfl, rfl, rfl, rfl⟩ := hw2
    exact ⟨rfl, fun h => absurd h (by decide), hR0⟩
  have hmt : ¬ mth = 0 := by rw [← hth]; exact ht
  have hTD := hT ht
  have hK := kn_ok hS bw.2
  have hC := hTD.cf hS bw.2
  obtain ⟨l1, l2, l3, l4, l5, l6, l7, e, h7, hMD, -⟩ := is_ok hS bw bh hmt hD mus mof mef x1
  have hG := hMD.gf hS bw.2
  have hkk : kw * kh ≤ 576 := Nat.mul_le_mul bw.2 bh.2
  have h1 := hK.1
  rw [f_W_joined, if_neg ht] at hw1
  rw [f_M_joined, e] at hw2
  have hRel : Rel kw kh pf sf th clf csf cbf ccf csc csm ccr mpf mlf mth l7 l2 l1 l3 := ⟨⟨bw, bh⟩, hbd, hP, hS, h0, hth, hT, fun _ => hMD⟩
  rcases ix_c x1 (n := nS kw kh mlf) (by omega) with ⟨hx, hin⟩ | ⟨s, hs, rfl, hx, hin⟩
  · rw [hC.1, if_pos hx] at hw1
    rw [hG.1, hin, if_pos rfl, f_M_joined_q1, if_pos rfl] at hw2
    simp only [Prod.mk.injEq] at hw1 hw2
    obtain ⟨rfl, rfl⟩ := hw1
    obtain ⟨rfl, rfl, rfl, rfl, rfl, rfl, rfl, rfl, rfl⟩ := hw2
    rw [← hG.1]
    exact ⟨rfl, fun h => absurd h (by decide), hRel⟩
  · have ej := cjoined hS.mf bw.2 bh.2 hTD.1 hK hC hs
    obtain ⟨v9, v6, v4, em, -⟩ := mjoined hS.mf bw bh hK hG hs
    rw [ej, hC.1, if_neg hx] at hw1
    rw [show f_M_in (nI s) 0 (l2 - 1) = 1 by rw [hG.1]; exact hin, if_neg (by decide), f_M_joined_q1, if_neg (by decide), em, f_M_joined_k35] at hw2
    simp only [Prod.mk.injEq] at hw1 hw2
    obtain ⟨rfl, rfl⟩ := hw1
    obtain ⟨rfl, rfl, rfl, rfl, rfl, rfl, rfl, rfl, rfl⟩ := hw2
    exact ⟨rfl, fun _ => pk_uLs, hRel⟩
theorem pz_joined {kw kh : Nat} {pf : Nat → Int32} {sf : Nat → Int32} {clf : Nat → Int32} {csf : Nat → Int32} {cbf : Nat → Int32} {ccf : Nat → Int32} {csc : Int32} {csm : Int32} {ccr : Int32} {th : Int32} {mpf : Nat → Int32} {mlf : Nat → Int32} {mth : Int32} {mkn : Int32} {mst : Int32} {mgf : Nat → Int32} {mqf : Nat → Int32} {mus : Int32} {mof : Nat → Int32} {mef : Nat → Int32} (hR : Rel kw kh pf sf th clf csf cbf ccf csc csm ccr mpf mlf mth mkn mst mgf mqf) (px : Int32) : z_M_joined (nI kh) (nI (kw + 2)) mlf mth mkn mst mgf mqf mus mof mef px := by
  obtain ⟨⟨bw, bh⟩, hbd, hP, hS, h0, hth, hT, hD⟩ := hR
  by_cases ht : mth = 0
  · rw [z_M_joined, z_M_isStroke, f_M_isStroke, if_pos ht, if_pos ht, f_M_joined_q1_z, if_pos rfl]
    exact ⟨trivial, trivial⟩
  obtain ⟨l1, l2, l3, l4, l5, l6, l7, e, h7, hMD, zi⟩ := is_ok hS bw bh ht hD mus mof mef px
  have hK := kn_ok hS bw.2
  have hG := hMD.gf hS bw.2
  have hkk : kw * kh ≤ 576 := Nat.mul_le_mul bw.2 bh.2
  have h1 := hK.1
  have h2 := hK.2.1
  rw [z_M_joined, e]
  refine ⟨zi, ?_⟩
  rcases ix_c px (n := nS kw kh mlf) (by omega) with ⟨-, hin⟩ | ⟨s, hs, rfl, -, hin⟩
  · rw [hG.1, hin, if_pos rfl, f_M_joined_q1_z, if_pos rfl]; trivial
  rw [show f_M_in (nI s) 0 (l2 - 1) = 1 by rw [hG.1]; exact hin, if_neg (by decide), f_M_joined_q1_z, if_neg (by decide)]
  have h3 := hK.2.2.1 s hs
  have ha := ar_le bw.2 bh.2
  have hli := inn_A (lst_inn hS.mf hK hs)
  obtain ⟨el, zl⟩ := mlast bw.2 bh.2 hK hG hs
  obtain ⟨ea, za⟩ := mahead hS.mf bw.2 bh.2 hK hG (c := lst (bS kw kh mlf) (sS kw kh mlf) s) hs (by omega)
  obtain ⟨v9, v6, v4, em, zm⟩ := mjoined hS.mf bw bh hK hG hs
  rw [el, em]
  exact ⟨zl, za, zm, trivial⟩
theorem pr_parts {kw kh : Nat} {pf : Nat → Int32} {sf : Nat → Int32} {clf : Nat → Int32} {csf : Nat → Int32} {cbf : Nat → Int32} {ccf : Nat → Int32} {csc : Int32} {csm : Int32} {ccr : Int32} {ef : Nat → Int32} {gf : Nat → Int32} {gq : Int32} {th : Int32} {mpf : Nat → Int32} {mlf : Nat → Int32} {mth : Int32} {mbf : Nat → Int32} {mkn : Int32} {mst : Int32} {mgf : Nat → Int32} {mqf : Nat → Int32} (hR : Rel kw kh pf sf th clf csf cbf ccf csc csm ccr mpf mlf mth mkn mst mgf mqf)  {r1 : Int32} {z2 : Int32} {g3 : Nat → Int32} {g4 : Nat → Int32} {r5 : Int32} {z6 : Int32} {g7 : Nat → Int32} (hw1 : f_X_parts (nI kw) (nI kh) sf (nI kw) (nI kh) kh ef (kw * kh) gf gq = (r1, z2, g3, g4)) (hw2 : f_M_parts (nI kh) (nI (kw + 2)) mlf mbf = (r5, z6, g7)) : r1 = r5 ∧ Rel kw kh pf sf th clf csf cbf ccf csc csm ccr mpf mlf mth mkn mst mgf mqf := by
  have hR0 := hR
  obtain ⟨⟨bw, bh⟩, hbd, hP, hS, h0, hth, hT, hD⟩ := hR
  obtain ⟨b, z, g, g', g'', e1, e2, -⟩ := parts_both bw bh hS ef gf mbf gq
  rw [e1] at hw1
  rw [e2] at hw2
  simp only [Prod.mk.injEq] at hw1 hw2
  exact ⟨hw1.1.symm.trans hw2.1, hR0⟩
theorem pz_parts {kw kh : Nat} {pf : Nat → Int32} {sf : Nat → Int32} {clf : Nat → Int32} {csf : Nat → Int32} {cbf : Nat → Int32} {ccf : Nat → Int32} {csc : Int32} {csm : Int32} {ccr : Int32} {th : Int32} {mpf : Nat → Int32} {mlf : Nat → Int32} {mth : Int32} {mbf : Nat → Int32} {mkn : Int32} {mst : Int32} {mgf : Nat → Int32} {mqf : Nat → Int32} (hR : Rel kw kh pf sf th clf csf cbf ccf csc csm ccr mpf mlf mth mkn mst mgf mqf)  : z_M_parts (nI kh) (nI (kw + 2)) mlf mbf := by
  obtain ⟨⟨bw, bh⟩, hbd, hP, hS, h0, hth, hT, hD⟩ := hR
  obtain ⟨b, z, g, g', g'', e1, e2, hz⟩ := parts_both bw bh hS mbf mbf mbf 0
  exact hz
theorem pr_holes {kw kh : Nat} {pf : Nat → Int32} {sf : Nat → Int32} {clf : Nat → Int32} {csf : Nat → Int32} {cbf : Nat → Int32} {ccf : Nat → Int32} {csc : Int32} {csm : Int32} {ccr : Int32} {ef : Nat → Int32} {gf : Nat → Int32} {gq : Int32} {th : Int32} {mpf : Nat → Int32} {mlf : Nat → Int32} {mth : Int32} {mbf : Nat → Int32} {mkn : Int32} {mst : Int32} {mgf : Nat → Int32} {mqf : Nat → Int32} (hR : Rel kw kh pf sf th clf csf cbf ccf csc csm ccr mpf mlf mth mkn mst mgf mqf)  {r1 : Int32} {z2 : Int32} {g3 : Nat → Int32} {g4 : Nat → Int32} {r5 : Int32} {z6 : Int32} {g7 : Nat → Int32} (hw1 : f_X_holes (nI kw) (nI kh) sf (nI kw) (nI kh) kh ef (kw * kh) gf gq = (r1, z2, g3, g4)) (hw2 : f_M_holes (nI kh) (nI (kw + 2)) mlf mbf = (r5, z6, g7)) : r1 = r5 ∧ Rel kw kh pf sf th clf csf cbf ccf csc csm ccr mpf mlf mth mkn mst mgf mqf := by
  have hR0 := hR
  obtain ⟨⟨bw, bh⟩, hbd, hP, hS, h0, hth, hT, hD⟩ := hR
  obtain ⟨b, z, g, g', g'', e1, e2, -⟩ := holes_both bw bh hS ef gf mbf gq
  rw [e1] at hw1
  rw [e2] at hw2
  simp only [Prod.mk.injEq] at hw1 hw2
  exact ⟨hw1.1.symm.trans hw2.1, hR0⟩
theorem pz_holes {kw kh : Nat} {pf : Nat → Int32} {sf : Nat → Int32} {clf : Nat → Int32} {csf : Nat → Int32} {cbf : Nat → Int32} {ccf : Nat → Int32} {csc : Int32} {csm : Int32} {ccr : Int32} {th : Int32} {mpf : Nat → Int32} {mlf : Nat → Int32} {mth : Int32} {mbf : Nat → Int32} {mkn : Int32} {mst : Int32} {mgf : Nat → Int32} {mqf : Nat → Int32} (hR : Rel kw kh pf sf th clf csf cbf ccf csc csm ccr mpf mlf mth mkn mst mgf mqf)  : z_M_holes (nI kh) (nI (kw + 2)) mlf mbf := by
  obtain ⟨⟨bw, bh⟩, hbd, hP, hS, h0, hth, hT, hD⟩ := hR
  obtain ⟨b, z, g, g', g'', e1, e2, hz⟩ := holes_both bw bh hS mbf mbf mbf 0
  exact hz
theorem pr_draw {kw kh : Nat} {pf : Nat → Int32} {sf : Nat → Int32} {bf : Nat → Int32} {clf : Nat → Int32} {csf : Nat → Int32} {cbf : Nat → Int32} {ccf : Nat → Int32} {csc : Int32} {csm : Int32} {ccr : Int32} {th : Int32} {outf : Nat → Int64} {mpf : Nat → Int32} {mlf : Nat → Int32} {mth : Int32} {mcf : Nat → Int32} {mkn : Int32} {mst : Int32} {mgf : Nat → Int32} {mqf : Nat → Int32} (hR : Rel kw kh pf sf th clf csf cbf ccf csc csm ccr mpf mlf mth mkn mst mgf mqf)  {r1 : Int32} {g2 : Nat → Int32} {g3 : Nat → Int64} {r4 : Int32} {z5 : Int32} {g6 : Nat → Int32} (hw1 : f_W_draw (nI kw) (nI kh) kh pf (nI kw) (nI kh) sf (nI kw) (nI kh) kh bf th outf = (r1, g2, g3)) (hw2 : f_M_draw (nI kh) (nI (kw + 2)) mpf mlf mth mcf = (r4, z5, g6)) : f_M_thrown z5 = r1 ∧ (r1 = 0 → g3 (0 : Int32).toNatClampNeg = r4.toInt64) ∧ Rel kw kh pf sf th clf csf cbf ccf csc csm ccr mpf mlf mth mkn mst mgf mqf := by
  have hR0 := hR
  obtain ⟨⟨bw, bh⟩, hbd, hP, hS, h0, hth, hT, hD⟩ := hR
  by_cases ht : th = 0
  · rw [f_W_draw, if_pos ht] at hw1
    rw [f_M_draw, if_pos (by rw [← hth]; exact ht)] at hw2
    simp only [Prod.mk.injEq] at hw1 hw2
    obtain ⟨rfl, rfl, rfl⟩ := hw1
    obtain ⟨rfl, rfl, rfl⟩ := hw2
    exact ⟨rfl, fun h => absurd h (by decide), hR0⟩
  · obtain ⟨g, e1⟩ := cdraw hP hS bw bh bf
    obtain ⟨⟨g', e2⟩, -⟩ := mdraw hP hS bw bh mcf (mth := mth) (by rw [← hth]; exact ht)
    rw [f_W_draw, if_neg ht, e1, f_W_draw_q1] at hw1
    rw [e2] at hw2
    simp only [Prod.mk.injEq] at hw1 hw2
    obtain ⟨rfl, rfl, rfl⟩ := hw1
    obtain ⟨rfl, rfl, rfl⟩ := hw2
    exact ⟨rfl, fun _ => pk_uLs, hR0⟩
theorem pz_draw {kw kh : Nat} {pf : Nat → Int32} {sf : Nat → Int32} {clf : Nat → Int32} {csf : Nat → Int32} {cbf : Nat → Int32} {ccf : Nat → Int32} {csc : Int32} {csm : Int32} {ccr : Int32} {th : Int32} {mpf : Nat → Int32} {mlf : Nat → Int32} {mth : Int32} {mcf : Nat → Int32} {mkn : Int32} {mst : Int32} {mgf : Nat → Int32} {mqf : Nat → Int32} (hR : Rel kw kh pf sf th clf csf cbf ccf csc csm ccr mpf mlf mth mkn mst mgf mqf)  : z_M_draw (nI kh) (nI (kw + 2)) mpf mlf mth mcf := by
  obtain ⟨⟨bw, bh⟩, hbd, hP, hS, h0, hth, hT, hD⟩ := hR
  by_cases ht : mth = 0
  · rw [z_M_draw, if_pos ht]; trivial
  · exact (mdraw hP hS bw bh mcf ht).2
theorem pr_told {kw kh : Nat} {pf : Nat → Int32} {sf : Nat → Int32} {clf : Nat → Int32} {csf : Nat → Int32} {cbf : Nat → Int32} {ccf : Nat → Int32} {csc : Int32} {csm : Int32} {ccr : Int32} {th : Int32} {mpf : Nat → Int32} {mlf : Nat → Int32} {mth : Int32} {mkn : Int32} {mst : Int32} {mgf : Nat → Int32} {mqf : Nat → Int32} (hR : Rel kw kh pf sf th clf csf cbf ccf csc csm ccr mpf mlf mth mkn mst mgf mqf) (x1 : Int32) {r1 : Int32} {z2 : Int32} (hw1 : f_M_told (nI kw) (nI kh) (nI (kw + 2)) mpf mlf mth x1 = (r1, z2)) : (f_X_told (nI kw) (nI kh) kh pf kh sf th x1) = r1 ∧ Rel kw kh pf sf th clf csf cbf ccf csc csm ccr mpf mlf mth mkn mst mgf mqf := by
  have hR0 := hR
  obtain ⟨⟨bw, bh⟩, hbd, hP, hS, h0, hth, hT, hD⟩ := hR
  refine ⟨?_, hR0⟩
  obtain ⟨e1, -⟩ := told_loop bw.2 bh.2 mpf mlf
  rw [f_M_told, e1, f_M_told_k12] at hw1
  rw [f_X_told, ccount hP bw.2 bh.2, ccount hS bw.2 bh.2]
  by_cases c0 : x1 = 0
  · rw [if_pos c0] at hw1 ⊢
    exact (Prod.mk.inj hw1).1
  rw [if_neg c0] at hw1 ⊢
  by_cases c1 : x1 = 1
  · rw [if_pos c1] at hw1 ⊢
    exact (Prod.mk.inj hw1).1
  rw [if_neg c1] at hw1 ⊢
  by_cases c2 : x1 = 2
  · rw [if_pos c2] at hw1 ⊢
    exact (Prod.mk.inj hw1).1
  rw [if_neg c2] at hw1 ⊢
  by_cases c3 : x1 = 3
  · rw [if_pos c3] at hw1 ⊢
    exact (Prod.mk.inj hw1).1
  rw [if_neg c3] at hw1 ⊢
  by_cases c4 : x1 = 4
  · rw [if_pos c4] at hw1 ⊢
    rw [hth]
    by_cases c5 : mth = 0
    · rw [if_pos c5] at hw1 ⊢
      exact (Prod.mk.inj hw1).1
    · rw [if_neg c5] at hw1 ⊢
      exact (Prod.mk.inj hw1).1
  rw [if_neg c4] at hw1 ⊢
  exact (Prod.mk.inj hw1).1
theorem pz_told {kw kh : Nat} {pf : Nat → Int32} {sf : Nat → Int32} {clf : Nat → Int32} {csf : Nat → Int32} {cbf : Nat → Int32} {ccf : Nat → Int32} {csc : Int32} {csm : Int32} {ccr : Int32} {th : Int32} {mpf : Nat → Int32} {mlf : Nat → Int32} {mth : Int32} {mkn : Int32} {mst : Int32} {mgf : Nat → Int32} {mqf : Nat → Int32} (hR : Rel kw kh pf sf th clf csf cbf ccf csc csm ccr mpf mlf mth mkn mst mgf mqf) (px : Int32) : z_M_told (nI kh) (nI (kw + 2)) mpf mlf mth px := by
  obtain ⟨⟨bw, bh⟩, hbd, hP, hS, h0, hth, hT, hD⟩ := hR
  obtain ⟨e1, hz⟩ := told_loop bw.2 bh.2 mpf mlf
  rw [z_M_told, e1, f_M_told_k12_z]
  refine ⟨hz, ?_⟩
  repeat' split
  all_goals trivial
theorem pr_clear {kw kh : Nat} {pf : Nat → Int32} {sf : Nat → Int32} {clf : Nat → Int32} {csf : Nat → Int32} {cbf : Nat → Int32} {ccf : Nat → Int32} {csc : Int32} {csm : Int32} {ccr : Int32} {th : Int32} {mpf : Nat → Int32} {mlf : Nat → Int32} {mth : Int32} {mkn : Int32} {mst : Int32} {mgf : Nat → Int32} {mqf : Nat → Int32} (hR : Rel kw kh pf sf th clf csf cbf ccf csc csm ccr mpf mlf mth mkn mst mgf mqf)  {g1 : Nat → Int32} {g2 : Nat → Int32} {z3 : Int32} {z4 : Int32} {g5 : Nat → Int32} {g6 : Nat → Int32} {z7 : Int32} {z8 : Int32} (hw1 : f_X_clear kh pf kh sf = (g1, g2, z3)) (hw2 : f_M_clear mpf mlf = (z4, g5, g6, z7, z8)) : Rel kw kh g1 g2 z3 clf csf cbf ccf csc csm ccr g5 g6 z7 z8 mst mgf mqf := by
  obtain ⟨⟨bw, bh⟩, hbd, hP, hS, h0, hth, hT, hD⟩ := hR
  obtain ⟨a1, a2, a5, a6, e1, e2, S1, S2, -⟩ := clear_eq bh.2 hP hS bw.2
  rw [e1] at hw1
  rw [e2] at hw2
  simp only [Prod.mk.injEq] at hw1 hw2
  obtain ⟨rfl, rfl, rfl⟩ := hw1
  obtain ⟨rfl, rfl, rfl, rfl, rfl⟩ := hw2
  exact ⟨⟨bw, bh⟩, hbd, S1, S2, h0, rfl, fun h => absurd rfl h, fun h => absurd rfl h⟩
theorem pz_clear {kw kh : Nat} {pf : Nat → Int32} {sf : Nat → Int32} {clf : Nat → Int32} {csf : Nat → Int32} {cbf : Nat → Int32} {ccf : Nat → Int32} {csc : Int32} {csm : Int32} {ccr : Int32} {th : Int32} {mpf : Nat → Int32} {mlf : Nat → Int32} {mth : Int32} {mkn : Int32} {mst : Int32} {mgf : Nat → Int32} {mqf : Nat → Int32} (hR : Rel kw kh pf sf th clf csf cbf ccf csc csm ccr mpf mlf mth mkn mst mgf mqf)  : z_M_clear mpf mlf := by
  obtain ⟨⟨bw, bh⟩, hbd, hP, hS, h0, hth, hT, hD⟩ := hR
  obtain ⟨a1, a2, a5, a6, e1, e2, S1, S2, hz⟩ := clear_eq bh.2 hP hS bw.2
  exact hz
