/-! own: painting, copying, put, at, clear -/
theorem nb_0 : nb 0 = 0 := rfl
theorem nb_1 : nb 1 = 1 := rfl
theorem nb_01 {v : Int32} (h : v = 0 ∨ v = 1) : nb v = v := by rcases h with rfl | rfl <;> rfl
theorem hs_in {kw kh x y : Nat} (hw : kw ≤ 24) (hh : kh ≤ 24) (hx : x < kw) (hy : y < kh) : f_S_has (nI kw) (nI kh) (nI x) (nI y) = 1 := by
  rw [has_eq (by omega) (by omega), nI_toInt (by omega), nI_toInt (by omega), if_pos (by omega)]
theorem has_ex {kw kh : Nat} (hw : kw ≤ 24) (hh : kh ≤ 24) {px py : Int32} (h : ¬ f_S_has (nI kw) (nI kh) px py = 0) : ∃ x y, x < kw ∧ y < kh ∧ px = nI x ∧ py = nI y := by
  rw [has_eq (by omega) (by omega)] at h
  by_cases c : 0 ≤ px.toInt ∧ px.toInt < kw ∧ 0 ≤ py.toInt ∧ py.toInt < kh
  · refine ⟨px.toInt.toNat, py.toInt.toNat, by omega, by omega, Int32.toInt_inj.mp ?_, Int32.toInt_inj.mp ?_⟩
    · rw [nI_toInt (by omega)]; omega
    · rw [nI_toInt (by omega)]; omega
  · rw [if_neg c] at h; exact absurd rfl h
theorem mplace_eq {kw kh : Nat} (hw : 1 ≤ kw ∧ kw ≤ 24) (hh : 1 ≤ kh ∧ kh ≤ 24) (px py : Int32) : f_M_isPlace (nI kw) (nI kh) px py = f_S_has (nI kw) (nI kh) px py := by
  have e1 : (nI kw - 1).toInt = (kw : Int) - 1 := by rw [i_sub (by rw [nI_toInt (by omega), i_1]; omega) (by rw [nI_toInt (by omega), i_1]; omega), nI_toInt (by omega), i_1]
  have e2 : (nI kh - 1).toInt = (kh : Int) - 1 := by rw [i_sub (by rw [nI_toInt (by omega), i_1]; omega) (by rw [nI_toInt (by omega), i_1]; omega), nI_toInt (by omega), i_1]
  rw [has_eq (by omega) (by omega)]
  unfold f_M_isPlace f_M_in
  simp only [i_lt, e1, e2, i_0]
  by_cases h1 : px.toInt < 0
  · rw [if_pos h1, if_pos rfl, if_neg (by omega)]
  rw [if_neg h1]
  by_cases h2 : (kw : Int) - 1 < px.toInt
  · rw [if_pos h2, if_pos rfl, if_neg (by omega)]
  rw [if_neg h2, if_neg (by decide)]
  by_cases h3 : py.toInt < 0
  · rw [if_pos h3, if_pos rfl, if_neg (by omega)]
  rw [if_neg h3]
  by_cases h4 : (kh : Int) - 1 < py.toInt
  · rw [if_pos h4, if_pos rfl, if_neg (by omega)]
  rw [if_neg h4, if_neg (by decide), if_pos (by omega)]
theorem mlin (kw x y : Nat) : f_M_placeOf (nI (kw + 2)) (nI x) (nI y) = nI (lin kw x y) := by
  rw [f_M_placeOf, nI_1, pk_mul, nI_add, nI_1]; rfl
theorem lin_676 {kw kh x y : Nat} (hw : kw ≤ 24) (hh : kh ≤ 24) (hx : x < kw) (hy : y < kh) : lin kw x y < 676 := inn_676 hw hh ⟨x, y, hx, hy, rfl⟩
theorem SM.row {kw kh : Nat} {sf sf' mf : Nat → Int32} (h : SM kw kh sf mf) (e : ∀ y, y < kh → sf' y = sf y) : SM kw kh sf' mf :=
  ⟨fun y hy x hx => by rw [e y hy]; exact h.1 y hy x hx, fun x y hx hy => by rw [e y hy]; exact h.2.1 x y hx hy, h.2.2⟩
theorem SM.arr {kw kh : Nat} {sf mf mf' : Nat → Int32} (h : SM kw kh sf mf) (e : ∀ q, mf' q = mf q) : SM kw kh sf mf' :=
  ⟨h.1, fun x y hx hy => by rw [e]; exact h.2.1 x y hx hy, fun q hq => by rw [e]; exact h.2.2 q hq⟩
theorem SM.paint {kw kh : Nat} {sf mf : Nat → Int32} (h : SM kw kh sf mf) (hw : kw ≤ 24) (hh : kh ≤ 24) {x y : Nat} (hx : x < kw) (hy : y < kh) {v : Int32} (hv : v = 0 ∨ v = 1) : SM kw kh (f_S_paint (nI kw) (nI kh) sf (nI x) (nI y) v) (upd mf (lin kw x y) v) := by
  have hs := sm31' (x := x) (by omega)
  rw [f_S_paint, hs_in hw hh hx hy, if_neg (by decide), nI_clamp (by omega)]
  have key : ∀ w : Int32, (∀ j, j < 32 → bt w j = if j = x then decide (v = 1) else bt (sf y) j) → SM kw kh (upd sf y w) (upd mf (lin kw x y) v) := by
    intro w hb
    refine ⟨?_, ?_, ?_⟩
    · intro y' hy' x' hx'
      by_cases e : y' = y
      · subst e
        rw [pk_us]
        by_cases h32 : x' < 32
        · rw [hb x' h32, if_neg (by omega)]; exact h.1 y' hy' x' hx'
        · exact bt_big _ (by omega)
      · rw [pk_un e]; exact h.1 y' hy' x' hx'
    · intro x' y' hx' hy'
      by_cases e : y' = y
      · subst e
        rw [pk_us, hb x' (by omega)]
        by_cases e2 : x' = x
        · subst e2
          rw [pk_us, if_pos rfl]
          rcases hv with rfl | rfl <;> rfl
        · rw [if_neg e2, pk_un (fun c => e2 (lin_inj hx' hx c).1)]
          exact h.2.1 x' y' hx' hy'
      · rw [pk_un e, pk_un (fun c => e (lin_inj hx' hx c).2)]
        exact h.2.1 x' y' hx' hy'
    · intro q hq
      rw [pk_un (fun c => hq (by rw [c]; exact ⟨x, y, hx, hy, rfl⟩))]
      exact h.2.2 q hq
  rcases hv with rfl | rfl
  · rw [if_pos rfl]
    refine key _ (fun j hj => ?_)
    rw [bt_and, bt_not hs (by omega) hj]
    by_cases e : j = x
    · simp [e]
    · simp [e]
  · rw [if_neg (by decide)]
    refine key _ (fun j hj => ?_)
    rw [bt_or, bt_one hs (by omega) hj]
    by_cases e : j = x
    · simp [e]
    · simp [e]
theorem paint_out {kw kh : Nat} {px py : Int32} (h : f_S_has (nI kw) (nI kh) px py = 0) (sf : Nat → Int32) (v : Int32) : f_S_paint (nI kw) (nI kh) sf px py v = sf := by rw [f_S_paint, if_pos h]
theorem copy_eq {kh : Nat} (hh : kh ≤ 24) (sf of : Nat → Int32) : ∀ y, y < kh → f_S_copyFrom kh sf kh of y = of y := by
  obtain ⟨s', e, hI⟩ := lu_0 (F := f_S_copyFrom_L2 kh kh of) (fun i s => ∀ y, y < i → s y = of y) kh (by omega)
    (fun s _ n => by rw [f_S_copyFrom_L2, if_pos (nI_le (Nat.le_refl _) (by omega))])
    (fun i s hi hs => by
      refine ⟨upd s i (of i), fun y hy => ?_, fun n => ?_⟩
      · by_cases e : y = i
        · rw [e, pk_us]
        · rw [pk_un e]; exact hs y (by omega)
      · rw [f_S_copyFrom_L2, if_neg (nI_ge hi (by omega)), if_neg (nI_ge hi (by omega)), nI_clamp (by omega), nI_1])
    (s := sf) (fun y hy => by omega)
  intro y hy
  rw [f_S_copyFrom, e]
  exact hI y hy
theorem white_eq {kh : Nat} (hh : kh ≤ 24) (sf : Nat → Int32) : ∀ y, y < kh → f_S_whiten kh sf y = 0 := by
  obtain ⟨s', e, hI⟩ := lu_0 (F := f_S_whiten_L2 kh) (fun i s => ∀ y, y < i → s y = 0) kh (by omega)
    (fun s _ n => by rw [f_S_whiten_L2, if_pos (nI_le (Nat.le_refl _) (by omega))])
    (fun i s hi hs => by
      refine ⟨upd s i 0, fun y hy => ?_, fun n => ?_⟩
      · by_cases e : y = i
        · rw [e, pk_us]
        · rw [pk_un e]; exact hs y (by omega)
      · rw [f_S_whiten_L2, if_neg (nI_ge hi (by omega)), nI_clamp (by omega), nI_1])
    (s := sf) (fun y hy => by omega)
  intro y hy
  rw [f_S_whiten, e]
  exact hI y hy
theorem SM.zero {kw kh : Nat} {sf mf : Nat → Int32} (h1 : ∀ y, y < kh → sf y = 0) (h2 : ∀ q, mf q = 0) : SM kw kh sf mf :=
  ⟨fun y hy x _ => by rw [h1 y hy]; exact bt_0 x, fun x y _ hy => by rw [h1 y hy, bt_0, h2]; rfl, fun q _ => h2 q⟩
theorem ar_eq (kw kh : Nat) : f_M_area (nI kh) (nI (kw + 2)) = nI ((kw + 2) * (kh + 2)) := by
  rw [f_M_area, show nI kh + 2 = nI (kh + 2) from nI_add kh 2, pk_mul]
theorem put_in {kw kh : Nat} (hw : 1 ≤ kw ∧ kw ≤ 24) (hh : 1 ≤ kh ∧ kh ≤ 24) {pf sf mpf mlf : Nat → Int32} (hP : SM kw kh pf mpf) (hS : SM kw kh sf mlf) (mth mkn : Int32) {x y : Nat} (hx : x < kw) (hy : y < kh) {v : Int32} (hv : v = 0 ∨ v = 1) :
    ∃ (b : Int32) (g2 g3 g8 g9 : Nat → Int32), f_X_put (nI kw) (nI kh) kh pf kh sf (nI x) (nI y) v = (b, g2, g3, 0) ∧ f_M_put (nI kw) (nI kh) (nI (kw + 2)) mpf mlf mth mkn (nI x) (nI y) v = (b, 0, g8, g9, 0, 0) ∧ (b = 0 ∨ b = 1) ∧ SM kw kh g2 g8 ∧ SM kw kh g3 g9 ∧ z_M_put (nI kw) (nI kh) (nI (kw + 2)) mpf mlf (nI x) (nI y) v := by
  have ha := ar_le hw.2 hh.2
  have hl := lin_676 hw.2 hh.2 hx hy
  have hp : f_M_isPlace (nI kw) (nI kh) (nI x) (nI y) = 1 := by rw [mplace_eq hw hh, hs_in hw.2 hh.2 hx hy]
  have hc : (f_M_placeOf (nI (kw + 2)) (nI x) (nI y)).toNatClampNeg = lin kw x y := by rw [mlin, nI_clamp (by omega)]
  have S1 := hP.paint hw.2 hh.2 hx hy hv
  have S2 := S1.row (fun y' hy' => copy_eq (kh := kh) hh.2 sf (f_S_paint (nI kw) (nI kh) pf (nI x) (nI y) v) y' hy')
  obtain ⟨s', e, hI, hz⟩ := lu_0z (F := f_M_put_L64 (nI kh) (nI (kw + 2)) mpf (nI x) (nI y) v) (Fz := f_M_put_L64_z (nI kh) (nI (kw + 2)) mpf (nI x) (nI y) v) (fun i s => (∀ q, q < i → s q = upd mpf (lin kw x y) v q) ∧ ∀ q, i ≤ q → s q = mlf q) ((kw + 2) * (kh + 2)) (by omega)
    (fun s _ n => by
      rw [f_M_put_L64, f_M_put_L64_z, ar_eq, if_pos (nI_le (Nat.le_refl _) (by omega)), if_pos (nI_le (Nat.le_refl _) (by omega))]
      exact ⟨rfl, trivial⟩)
    (fun i s hi hs => by
      refine ⟨upd s i (upd mpf (lin kw x y) v i), ⟨fun q hq => ?_, fun q hq => ?_⟩, fun n => ?_⟩
      · by_cases e : q = i
        · rw [e, pk_us]
        · rw [pk_un e]; exact hs.1 q (by omega)
      · rw [pk_un (by omega)]; exact hs.2 q (by omega)
      · have b01 := (S1.b01 i)
        rw [f_M_put_L64, f_M_put_L64_z, ar_eq, if_neg (nI_ge hi (by omega)), if_neg (nI_ge hi (by omega)), nI_clamp (by omega), nI_1, hc, nb_01 hv, nb_01 b01]
        exact ⟨rfl, fun hz => ⟨vp_in_nI (by omega) (by omega), vp_in_nI (by omega) (by omega), hz⟩⟩)
    (s := mlf) ⟨fun q hq => by omega, fun q _ => rfl⟩
  have S3 : SM kw kh (f_S_copyFrom kh sf kh (f_S_paint (nI kw) (nI kh) pf (nI x) (nI y) v)) s' := S2.arr (fun q => by
    by_cases hq : q < (kw + 2) * (kh + 2)
    · exact hI.1 q hq
    · rw [hI.2 q (by omega), hS.2.2 q (fun c => by have := inn_lt c; omega), S1.2.2 q (fun c => by have := inn_lt c; omega)])
  refine ⟨if mpf (lin kw x y) = v then 0 else 1, _, _, _, _, ?_, ?_, ?_, S1, S3, ?_⟩
  · rw [f_X_put, f_X_put_q1, f_X_put_q2, hP.blk hw.2 hh.2 hx hy]
    split <;> rfl
  · rw [f_M_put, hp, if_neg (by decide), f_M_put_t47, e, f_M_put_k64, f_M_put_q1, hc, nb_01 hv]
    rfl
  · split <;> simp
  · rw [z_M_put, hp, if_neg (by decide), f_M_put_t47_z, e, f_M_put_k64_z, f_M_put_q1_z, hc, mlin]
    refine ⟨vp_in_nI hl (by omega), vp_in_nI hl (by omega), hz, isb_of ?_, trivial⟩
    split <;> simp
theorem clear_eq {kw kh : Nat} (hh : kh ≤ 24) {pf sf mpf mlf : Nat → Int32} (hP : SM kw kh pf mpf) (hS : SM kw kh sf mlf) (hw : kw ≤ 24) : ∃ g1 g2 g5 g6 : Nat → Int32, f_X_clear kh pf kh sf = (g1, g2, 0) ∧ f_M_clear mpf mlf = (0, g5, g6, 0, 0) ∧ SM kw kh g1 g5 ∧ SM kw kh g2 g6 ∧ z_M_clear mpf mlf := by
  obtain ⟨s', e, hI, hz⟩ := lu_0z (F := f_M_clear_L7) (Fz := f_M_clear_L7_z) (fun i s => (∀ q, q < i → s.1 q = 0 ∧ s.2 q = 0) ∧ ∀ q, i ≤ q → s.1 q = mpf q ∧ s.2 q = mlf q) 676 (by omega)
    (fun s _ n => by
      obtain ⟨a, b⟩ := s
      rw [f_M_clear_L7, f_M_clear_L7_z, if_pos (show (676 : Int32) ≤ nI 676 by decide), if_pos (show (676 : Int32) ≤ nI 676 by decide)]
      exact ⟨rfl, trivial⟩)
    (fun i s hi hs => by
      obtain ⟨a, b⟩ := s
      refine ⟨(upd a i 0, upd b i 0), ⟨fun q hq => ?_, fun q hq => ?_⟩, fun n => ?_⟩
      · by_cases e : q = i
        · rw [e]; exact ⟨pk_us, pk_us⟩
        · exact ⟨(pk_un e).trans (hs.1 q (by omega)).1, (pk_un e).trans (hs.1 q (by omega)).2⟩
      · exact ⟨(pk_un (by omega)).trans (hs.2 q (by omega)).1, (pk_un (by omega)).trans (hs.2 q (by omega)).2⟩
      · have hn : ¬ (676 : Int32) ≤ nI i := nI_ge (b := 676) hi (by omega)
        rw [f_M_clear_L7, f_M_clear_L7_z, if_neg hn, if_neg hn, nI_clamp (by omega), nI_1, nb_0]
        exact ⟨rfl, fun hz => ⟨vp_in_nI (by omega) (by omega), vp_in_nI (by omega) (by omega), hz⟩⟩)
    (s := (mpf, mlf)) ⟨fun q hq => by omega, fun q _ => ⟨rfl, rfl⟩⟩
  obtain ⟨a, b⟩ := s'
  have z1 : ∀ q, a q = 0 := fun q => by
    by_cases h : q < 676
    · exact (hI.1 q h).1
    · rw [show a q = mpf q from (hI.2 q (by omega)).1]; exact hP.2.2 q (fun c => h (inn_676 hw hh c))
  have z2 : ∀ q, b q = 0 := fun q => by
    by_cases h : q < 676
    · exact (hI.1 q h).2
    · rw [show b q = mlf q from (hI.2 q (by omega)).2]; exact hS.2.2 q (fun c => h (inn_676 hw hh c))
  refine ⟨_, _, a, b, rfl, ?_, SM.zero (white_eq hh pf) z1, SM.zero (white_eq hh sf) z2, ?_⟩
  · rw [f_M_clear, e]; rfl
  · rw [z_M_clear, e]; exact ⟨hz, trivial⟩
