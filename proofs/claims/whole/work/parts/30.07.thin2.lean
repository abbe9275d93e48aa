/-! own: thinning, the class, and both together -/
theorem chalf {kw kh : Nat} {sf mf : Nat → Int32} (hS : SM kw kh sf mf) (hw : kw ≤ 24) (hh : kh ≤ 24) (tf : Nat → Int32) {a b : Nat} (ha : a < 8) (hb : b < 8) : ∃ g sf' : Nat → Int32, f_H_takeHalf (kw * kh) tf (nI kw) (nI kh) sf (nI a) (nI b) = (nI (hlf kw kh mf a b).1, g, sf') ∧ SM kw kh sf' (hlf kw kh mf a b).2 := by
  have har := ar_le hw hh
  have hkk : kw * kh ≤ 576 := Nat.mul_le_mul hw hh
  have hbl := blacks_le hS hw
  obtain ⟨s', e, hJ⟩ := nest_inv (S := Int32 × (Nat → Int32)) (fun q s => s.1 = nI (cl (cand (kw + 2) mf a b) q).length ∧ ∀ n (h : n < (cl (cand (kw + 2) mf a b) q).length), s.2 n = nI (pl kw ((cl (cand (kw + 2) mf a b) q)[n]))) hw hh
    (inner := fun y => f_H_collect_L18 (kw * kh) (nI kw) (nI kh) sf (nI a) (nI b) y) (outer := f_H_collect_L6 (kw * kh) (nI kw) (nI kh) sf (nI a) (nI b))
    (fun y s n hy => by
      obtain ⟨s1, s2⟩ := s
      simp only [f_H_collect_L18]
      rw [if_pos (nI_le (Nat.le_refl _) (by omega))])
    (fun x y s hx hy hs => by
      obtain ⟨s1, s2⟩ := s
      obtain ⟨h1, h2⟩ := hs
      dsimp only at h1 h2
      have hin : inn kw kh (lin kw x y) := ⟨x, y, hx, hy, rfl⟩
      have eb := hS.blk hw hh hx hy
      have er := cround hS hw hh hx hy
      have ga : f_hasBit (nI (rd (kw + 2) mf (lin kw x y))) (nI a) = mf (nbr (kw + 2) (lin kw x y) a) := by rw [t_has ⟨_, rd_lt _ _ _⟩ ⟨a, ha⟩, rd_gr hS.b01 _ _ a ha]
      have gb : f_hasBit (nI (rd (kw + 2) mf (lin kw x y))) (nI b) = mf (nbr (kw + 2) (lin kw x y) b) := by rw [t_has ⟨_, rd_lt _ _ _⟩ ⟨b, hb⟩, rd_gr hS.b01 _ _ b hb]
      have step : ∀ n, f_H_collect_L18 (kw * kh) (nI kw) (nI kh) sf (nI a) (nI b) (nI y) (n + 1) (nI x, s1, s2) = f_H_collect_L18 (kw * kh) (nI kw) (nI kh) sf (nI a) (nI b) (nI y) n (nI (x + 1), if cand (kw + 2) mf a b (lin kw x y) then (if nI (kw * kh) ≤ s1 then (s1, s2) else (s1 + 1, upd s2 s1.toNatClampNeg (f_placeOf (nI x) (nI y)))) else (s1, s2)) := by
        intro n
        rw [f_H_collect_L18, if_neg (nI_ge hx (by omega)), eb, nI_1]
        by_cases c0 : mf (lin kw x y) = 0
        · have ec : cand (kw + 2) mf a b (lin kw x y) = false := by simp [cand, c0]
          rw [if_pos c0, ec]
          rfl
        · rw [if_neg c0, er, f_H_collect_t49, ga, gb, nI_1]
          by_cases cm : f_H_mayGo (nI (rd (kw + 2) mf (lin kw x y))) = 0
          · have ec : cand (kw + 2) mf a b (lin kw x y) = false := by simp [cand, cm]
            simp only [if_pos cm, ec]
            split
            · rfl
            · split <;> rfl
          · by_cases ca : mf (nbr (kw + 2) (lin kw x y) a) = 0
            · have ec : cand (kw + 2) mf a b (lin kw x y) = true := by simp [cand, c0, ca, cm]
              simp only [if_neg cm, if_pos ca, ec, if_true]
              split <;> rfl
            · by_cases cb : mf (nbr (kw + 2) (lin kw x y) b) = 0
              · have ec : cand (kw + 2) mf a b (lin kw x y) = true := by simp [cand, c0, cb, cm]
                simp only [if_neg cm, if_neg ca, if_pos cb, ec, if_true]
                split <;> rfl
              · have ec : cand (kw + 2) mf a b (lin kw x y) = false := by simp [cand, ca, cb]
                simp only [if_neg ca, if_neg cb, ec]
                rfl
      refine ⟨_, ?_, step⟩
      rw [cl_s]
      cases ec : cand (kw + 2) mf a b (lin kw x y) with
      | false => simpa using ⟨h1, h2⟩
      | true =>
        have hlen : (cl (cand (kw + 2) mf a b) (lin kw x y)).length + 1 ≤ kw * kh := by
          have l1 := cl_len (cand (kw + 2) mf a b) (lin kw x y)
          have l2 : cntb (cand (kw + 2) mf a b) (lin kw x y + 1) = cntb (cand (kw + 2) mf a b) (lin kw x y) + 1 := by rw [cntb, ec]; rfl
          have l3 := cntb_mono (cand (kw + 2) mf a b) (lin kw x y + 1) ((kw + 2) * (kh + 2) - (lin kw x y + 1))
          have l5 := inn_lt hin
          rw [Nat.add_sub_cancel' (by omega)] at l3
          have l4 : cntb (cand (kw + 2) mf a b) ((kw + 2) * (kh + 2)) ≤ blacks kw kh mf := cntb_imp (fun j hj => by
            simp only [cand, Bool.and_eq_true] at hj
            exact hj.1.1) _
          omega
        have hnle : ¬ nI (kw * kh) ≤ s1 := by rw [h1]; exact nI_ge (by omega) (by omega)
        simp only [if_true, if_neg hnle]
        rw [h1, nI_clamp (by omega), pl_eq (by omega) (by omega)]
        refine ⟨?_, fun n hn => ?_⟩
        · rw [List.length_append, nI_1]; rfl
        · rw [List.length_append] at hn
          by_cases e : n = (cl (cand (kw + 2) mf a b) (lin kw x y)).length
          · rw [List.getElem_append_right (by omega)]
            simp only [e, Nat.sub_self, List.getElem_cons_zero]
            rw [pk_us, pl_lin hx]
          · have hn' : n < (cl (cand (kw + 2) mf a b) (lin kw x y)).length := by
              simp only [List.length_cons, List.length_nil] at hn
              omega
            rw [List.getElem_append_left hn', pk_un e]
            exact h2 n hn')
    (fun s n => by
      obtain ⟨s1, s2⟩ := s
      rw [f_H_collect_L6, if_pos (nI_le (Nat.le_refl _) (by omega))])
    (fun y s s' n hy hi => by
      obtain ⟨s1, s2⟩ := s
      obtain ⟨t1, t2⟩ := s'
      rw [f_H_collect_L6, if_neg (nI_ge hy (by omega)), hi, f_H_collect_k18, nI_1])
    (fun q s hq hs => by
      rw [cl_s]
      have ec : cand (kw + 2) mf a b q = false := by simp [cand, hS.2.2 q hq]
      simpa [ec] using hs)
    (s := (0, tf)) ⟨rfl, fun n hn => by simp [cl_0] at hn⟩
  obtain ⟨c, g⟩ := s'
  obtain ⟨h1, h2⟩ := hJ
  dsimp only at h1 h2
  have hcol : f_H_collect (kw * kh) tf (nI kw) (nI kh) sf (nI a) (nI b) = (c, g) := by rw [f_H_collect, e]; rfl
  have hmem : ∀ n (h : n < (cl (cand (kw + 2) mf a b) ((kw + 2) * (kh + 2))).length), inn kw kh ((cl (cand (kw + 2) mf a b) ((kw + 2) * (kh + 2)))[n]) := fun n h => by
    have := (cl_mem.mp (List.getElem_mem h)).2
    simp only [cand, Bool.and_eq_true, decide_eq_true_eq] at this
    exact hS.mf.inn this.1.1
  have hlen : (cl (cand (kw + 2) mf a b) ((kw + 2) * (kh + 2))).length ≤ kw * kh := by
    rw [cl_len]
    have l4 : cntb (cand (kw + 2) mf a b) ((kw + 2) * (kh + 2)) ≤ blacks kw kh mf := cntb_imp (fun j hj => by
      simp only [cand, Bool.and_eq_true] at hj
      exact hj.1.1) _
    omega
  unfold hlf
  generalize cl (cand (kw + 2) mf a b) ((kw + 2) * (kh + 2)) = L at h1 h2 hmem hlen ⊢
  obtain ⟨s', e2, hI⟩ := lu_0 (F := f_H_takeHalf_L15 (kw * kh) (nI kw) (nI kh) c g) (fun i s => s.1 = nI ((L.take i).foldl (pstep (kw + 2)) (0, mf)).1 ∧ SM kw kh s.2 ((L.take i).foldl (pstep (kw + 2)) (0, mf)).2) L.length (by omega)
    (fun s _ n => by
      obtain ⟨s1, s2⟩ := s
      rw [f_H_takeHalf_L15, h1, if_pos (nI_le (Nat.le_refl _) (by omega))])
    (fun i s hi hs => by
      obtain ⟨s1, s2⟩ := s
      obtain ⟨k1, k2⟩ := hs
      dsimp only at k1 k2
      have ei : L.take (i + 1) = L.take i ++ [L[i]] := by rw [List.take_append_getElem]
      rw [ei, List.foldl_append]
      generalize (L.take i).foldl (pstep (kw + 2)) (0, mf) = p at k1 k2 ⊢
      obtain ⟨k, f⟩ := p
      dsimp only at k1 k2
      obtain ⟨x, y, hx, hy, eq⟩ := hmem i hi
      have eg : g i = nI (y * 32 + x) := by rw [h2 i hi, eq, pl_lin hx]
      have eb := k2.blk hw hh hx hy
      have er := cround k2 hw hh hx hy
      simp only [List.foldl_cons, List.foldl_nil, pstep]
      rw [eq]
      refine ⟨(nI (if f (lin kw x y) ≠ 0 ∧ f_H_mayGo (nI (rd (kw + 2) f (lin kw x y))) ≠ 0 then (k + 1, upd f (lin kw x y) 0) else (k, f)).1, if f (lin kw x y) ≠ 0 ∧ f_H_mayGo (nI (rd (kw + 2) f (lin kw x y))) ≠ 0 then f_S_paint (nI kw) (nI kh) s2 (nI x) (nI y) 0 else s2), ⟨rfl, ?_⟩, fun n => ?_⟩
      · dsimp only
        split
        · exact k2.paint hw hh hx hy (Or.inl rfl)
        · exact k2
      · rw [f_H_takeHalf_L15, h1, if_neg (nI_ge hi (by omega)), if_neg (nI_ge (show i < kw * kh by omega) (by omega)), nI_clamp (by omega), eg, col_eq (by omega) (by omega), f_H_takeHalf_t42, nI_clamp (by omega), eg, row_eq (by omega) (by omega), f_H_takeHalf_t54, eb, er, nI_1, k1]
        by_cases c0 : f (lin kw x y) = 0
        · have hn : ¬ (f (lin kw x y) ≠ 0 ∧ f_H_mayGo (nI (rd (kw + 2) f (lin kw x y))) ≠ 0) := fun c => c.1 c0
          simp only [if_pos c0, if_neg hn]
        · by_cases cm : f_H_mayGo (nI (rd (kw + 2) f (lin kw x y))) = 0
          · have hn : ¬ (f (lin kw x y) ≠ 0 ∧ f_H_mayGo (nI (rd (kw + 2) f (lin kw x y))) ≠ 0) := fun c => c.2 cm
            simp only [if_neg c0, if_pos cm, if_neg hn]
          · have hn : f (lin kw x y) ≠ 0 ∧ f_H_mayGo (nI (rd (kw + 2) f (lin kw x y))) ≠ 0 := ⟨c0, cm⟩
            simp only [if_neg c0, if_neg cm, if_pos hn]
            rw [f_H_takeHalf_q2, nI_1, nI_1])
    (s := (0, sf)) ⟨rfl, hS⟩
  obtain ⟨t1, t2⟩ := s'
  obtain ⟨k1, k2⟩ := hI
  rw [List.take_length] at k1 k2
  dsimp only at k1 k2
  refine ⟨g, t2, ?_, k2⟩
  rw [f_H_takeHalf, hcol, f_H_takeHalf_q1, e2, f_H_takeHalf_k15, k1]
theorem thin_both {kw kh : Nat} (hw : kw ≤ 24) (hh : kh ≤ 24) : ∀ (B n p : Nat) (sf mf tf mcf : Nat → Int32) (took : Int32) (fc fm : Nat), SM kw kh sf mf → blacks kw kh mf ≤ B → n + B ≤ kw * kh → B + 1 < fc → B + 1 < fm → 0 < took.toInt →
    ∃ (P v w : Int32) (tf' sf' mf' mcf' : Nat → Int32), f_H_passesOver_L4 (kw * kh) (nI kw) (nI kh) fc (nI n, nI p, tf, sf) = (v, P, tf', sf') ∧ f_M_thin_L9 (nI kh) (nI (kw + 2)) fm (took, nI p, mf, mcf) = (w, P, mf', mcf') ∧ SM kw kh sf' mf' ∧ f_M_thin_L9_z (nI kh) (nI (kw + 2)) fm (took, nI p, mf, mcf) := by
  have hkk : kw * kh ≤ 576 := Nat.mul_le_mul hw hh
  intro B
  induction B with
  | zero =>
    intro n p sf mf tf mcf took fc fm hS hB hn hfc hfm ht
    obtain ⟨fc, rfl⟩ : ∃ m, fc = m + 1 := ⟨fc - 1, by omega⟩
    obtain ⟨fm, rfl⟩ : ∃ m, fm = m + 1 + 1 := ⟨fm - 2, by omega⟩
    obtain ⟨g1, s1, e1, S1⟩ := chalf hS hw hh tf (a := 0) (b := 6) (by omega) (by omega)
    obtain ⟨g2, s2, e2, S2⟩ := chalf S1 hw hh g1 (a := 4) (b := 2) (by omega) (by omega)
    obtain ⟨h1, f1, z1⟩ := mhalf hS.mf hw hh mcf (a := 0) (b := 6) (by omega) (by omega)
    obtain ⟨h2, f2, z2⟩ := mhalf S1.mf hw hh h1 (a := 4) (b := 2) (by omega) (by omega)
    have b1 := hlf_blacks (kw := kw) (kh := kh) (a := 0) (b := 6) mf
    have b2 := hlf_blacks (kw := kw) (kh := kh) (a := 4) (b := 2) (hlf kw kh mf 0 6).2
    have hnt : ¬ took ≤ 0 := by rw [i_le, i_0]; omega
    have a1 : (hlf kw kh mf 0 6).1 = 0 := by omega
    have a2 : (hlf kw kh (hlf kw kh mf 0 6).2 4 2).1 = 0 := by omega
    rw [show nI 0 = 0 from rfl, show nI 6 = 6 from rfl] at e1 f1 z1
    rw [show nI 4 = 4 from rfl, show nI 2 = 2 from rfl] at e2 f2 z2
    refine ⟨nI p, nI n, 0, g2, s2, _, h2, ?_, ?_, S2, ?_⟩
    · rw [f_H_passesOver_L4, if_neg (nI_nlt (by omega) (by omega)), e1, f_H_passesOver_q1, e2, f_H_passesOver_q2, a1, a2, if_pos (by decide)]
    · rw [f_M_thin_L9, if_neg hnt, f1, f_M_thin_q1, f2, f_M_thin_q2, a1, a2, if_pos (by decide), f_M_thin_L9, if_pos (by decide)]
      rw [Int32.add_zero]
      rfl
    · rw [f_M_thin_L9_z, if_neg hnt, f1, f_M_thin_q1_z, f2, f_M_thin_q2_z, a1, a2, if_pos (by decide), f_M_thin_L9_z, if_pos (by decide)]
      exact ⟨z1, z2, trivial⟩
  | succ B ih =>
    intro n p sf mf tf mcf took fc fm hS hB hn hfc hfm ht
    obtain ⟨fc, rfl⟩ : ∃ m, fc = m + 1 := ⟨fc - 1, by omega⟩
    obtain ⟨fm, rfl⟩ : ∃ m, fm = m + 1 + 1 := ⟨fm - 2, by omega⟩
    obtain ⟨g1, s1, e1, S1⟩ := chalf hS hw hh tf (a := 0) (b := 6) (by omega) (by omega)
    obtain ⟨g2, s2, e2, S2⟩ := chalf S1 hw hh g1 (a := 4) (b := 2) (by omega) (by omega)
    obtain ⟨h1, f1, z1⟩ := mhalf hS.mf hw hh mcf (a := 0) (b := 6) (by omega) (by omega)
    obtain ⟨h2, f2, z2⟩ := mhalf S1.mf hw hh h1 (a := 4) (b := 2) (by omega) (by omega)
    have b1 := hlf_blacks (kw := kw) (kh := kh) (a := 0) (b := 6) mf
    have b2 := hlf_blacks (kw := kw) (kh := kh) (a := 4) (b := 2) (hlf kw kh mf 0 6).2
    have hnt : ¬ took ≤ 0 := by rw [i_le, i_0]; omega
    rw [show nI 0 = 0 from rfl, show nI 6 = 6 from rfl] at e1 f1 z1
    rw [show nI 4 = 4 from rfl, show nI 2 = 2 from rfl] at e2 f2 z2
    generalize (hlf kw kh mf 0 6).1 = k1 at *
    generalize (hlf kw kh mf 0 6).2 = m1 at *
    generalize (hlf kw kh m1 4 2).1 = k2 at *
    generalize (hlf kw kh m1 4 2).2 = m2 at *
    by_cases hk : k1 + k2 = 0
    · have a1 : k1 = 0 := by omega
      have a2 : k2 = 0 := by omega
      subst a1 a2
      refine ⟨nI p, nI n, 0, g2, s2, _, h2, ?_, ?_, S2, ?_⟩
      · rw [f_H_passesOver_L4, if_neg (nI_nlt (by omega) (by omega)), e1, f_H_passesOver_q1, e2, f_H_passesOver_q2, if_pos (by decide)]
      · rw [f_M_thin_L9, if_neg hnt, f1, f_M_thin_q1, f2, f_M_thin_q2, if_pos (by decide), f_M_thin_L9, if_pos (by decide)]
        rw [Int32.add_zero]
        rfl
      · rw [f_M_thin_L9_z, if_neg hnt, f1, f_M_thin_q1_z, f2, f_M_thin_q2_z, if_pos (by decide), f_M_thin_L9_z, if_pos (by decide)]
        exact ⟨z1, z2, trivial⟩
    · obtain ⟨P, v, w, tf', sf', mf', mcf', i1, i2, i3, i4⟩ := ih (n + 1) (p + 1) s2 m2 g2 h2 (nI k1 + nI k2) fc (fm + 1) S2 (by omega) (by omega) (by omega) (by omega) (by rw [nI_add, nI_toInt (by omega)]; omega)
      have hz : ¬ nI k1 + nI k2 = 0 := by rw [nI_add]; exact nI_ne0 (by omega) (by omega)
      have hz2 : ¬ nI k1 + nI k2 ≤ 0 := by rw [nI_add]; exact nI_nle (by omega) (by omega)
      refine ⟨P, v, w, tf', sf', mf', mcf', ?_, ?_, i3, ?_⟩
      · rw [f_H_passesOver_L4, if_neg (nI_nlt (by omega) (by omega)), e1, f_H_passesOver_q1, e2, f_H_passesOver_q2, if_neg hz, nI_1, nI_1]
        exact i1
      · rw [f_M_thin_L9, if_neg hnt, f1, f_M_thin_q1, f2, f_M_thin_q2, if_neg hz2, nI_1]
        exact i2
      · rw [f_M_thin_L9_z, if_neg hnt, f1, f_M_thin_q1_z, f2, f_M_thin_q2_z, if_neg hz2, nI_1]
        exact ⟨z1, z2, i4⟩
/-- thin, but for the tracing -/
theorem thin_eq {kw kh : Nat} {sf mf : Nat → Int32} (hS : SM kw kh sf mf) (hw : kw ≤ 24) (hh : kh ≤ 24) (tf mcf : Nat → Int32) : ∃ (P : Int32) (tf' sf' mf' mcf' : Nat → Int32), f_H_passesOver (kw * kh) tf (nI kw) (nI kh) sf = (P, tf', sf') ∧ f_M_thin (nI kh) (nI (kw + 2)) mf mcf = (P, 0, mf', mcf', 1, 0) ∧ SM kw kh sf' mf' ∧ z_M_thin (nI kh) (nI (kw + 2)) mf mcf := by
  have hkk : kw * kh ≤ 576 := Nat.mul_le_mul hw hh
  have hb := blacks_le hS hw
  obtain ⟨P, v, w, tf', sf', mf', mcf', i1, i2, i3, i4⟩ := thin_both hw hh (kw * kh) 0 0 sf mf tf mcf 1 FU FU hS hb (by omega) (by unfold FU; omega) (by unfold FU; omega) (by decide)
  rw [nI_0] at i1 i2 i4
  refine ⟨P, tf', sf', mf', mcf', ?_, ?_, i3, ?_⟩
  · rw [f_H_passesOver, i1]; rfl
  · rw [f_M_thin, i2]; rfl
  · rw [z_M_thin, i2]; exact ⟨i4, trivial⟩
