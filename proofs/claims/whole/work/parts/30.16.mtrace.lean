/-! own: the strokes of the reference -/
def MTK (A : Nat) (mof : Nat → Int32) (tk : Nat → Nat → Bool) : Prop := ∀ q d, q < A → d < 8 → mof (8 * q + d) = if tk q d then 1 else 0
def MME (A : Nat) (mef : Nat → Int32) (sq : List Nat) : Prop := ∀ q, q < A → mef q = if q ∈ sq then 1 else 0
def MSQ (mqf : Nat → Int32) (sq : List Nat) : Prop := ∀ n a, sq[n]? = some a → mqf n = nI a
theorem MTK.set {A : Nat} {f : Nat → Int32} {tk : Nat → Nat → Bool} (h : MTK A f tk) {q d : Nat} (hd : d < 8) : MTK A (upd f (8 * q + d) 1) (stk tk q d) := fun q' d' h1 h2 => by
  by_cases c : q' = q ∧ d' = d
  · rw [c.1, c.2, pk_us, stk_s]; rfl
  · rw [stk_n c, pk_un (fun e => c ⟨by omega, by omega⟩)]; exact h q' d' h1 h2
theorem MSQ.app {f : Nat → Int32} {sq : List Nat} (h : MSQ f sq) (a : Nat) : MSQ (upd f sq.length (nI a)) (sq ++ [a]) := fun n b hb => by
  rcases get_app hb with ⟨c1, c2⟩ | ⟨c1, c2⟩
  · rw [pk_un (by omega)]; exact h n b c2
  · rw [c1, pk_us, c2]
theorem MME.app {A : Nat} {f : Nat → Int32} {sq : List Nat} (h : MME A f sq) (a : Nat) : MME A (upd f a 1) (sq ++ [a]) := fun q hq => by
  by_cases c : q = a
  · rw [c, pk_us, if_pos (List.mem_append_right _ (List.mem_singleton.mpr rfl))]
  · rw [pk_un c, h q hq]
    refine if_congr ?_ rfl rfl
    rw [List.mem_append, List.mem_singleton]
    exact ⟨Or.inl, fun h => h.resolve_right c⟩
theorem fst8_one {p : Nat → Bool} {a : Nat} (ha : a < 8) (h : p a = true) (ho : ∀ e, e < 8 → p e = true → e = a) : fst8 p = a := by
  obtain ⟨h1, h2⟩ := fst8_lt ha h
  exact ho _ h1 h2
section
variable {kw kh : Nat} {mf : Nat → Int32}
theorem ix8 (q d : Nat) : (8 * nI q) + nI d = nI (8 * q + d) := by
  show nI 8 * nI q + nI d = _
  rw [pk_mul, nI_add]
theorem mway (hM : MF kw kh mf) (hw : kw ≤ 24) (hh : kh ≤ 24) {mof : Nat → Int32} {tk : Nat → Nat → Bool} (hT : MTK ((kw + 2) * (kh + 2)) mof tk) {q : Nat} (hq : q < (kw + 2) * (kh + 2)) : f_M_wayOn (nI (kw + 2)) mf mof (nI q) = nI (fst8 (fun e => lk (kw + 2) mf q e && !tk q e)) ∧ z_M_wayOn (nI (kw + 2)) mf mof (nI q) := by
  have ha := ar_le hw hh
  have key : ∀ k d F, d + k = 8 → k < F → f_M_wayOn_L2 (nI (kw + 2)) mf mof (nI q) F (nI d) = nI (fsd (fun e => lk (kw + 2) mf q e && !tk q e) k d) ∧ f_M_wayOn_L2_z (nI (kw + 2)) mf mof (nI q) F (nI d) := by
    intro k
    induction k with
    | zero =>
      intro d F hd hF
      obtain ⟨F, rfl⟩ : ∃ m, F = m + 1 := ⟨F - 1, by omega⟩
      have e : d = 8 := by omega
      subst e
      rw [f_M_wayOn_L2, f_M_wayOn_L2_z, if_pos (by decide), if_pos (by decide)]
      exact ⟨rfl, trivial⟩
    | succ k ih =>
      intro d F hd hF
      obtain ⟨F, rfl⟩ : ∃ m, F = m + 1 := ⟨F - 1, by omega⟩
      have h8 : ¬ (8 : Int32) ≤ nI d := nI_ge (b := 8) (by omega) (by omega)
      have el := mlk hM hw hh (q := q) (d := d) (by omega) (by omega)
      have zl := (mlinked hM hw hh (q := q) (d := d) (by omega) (by omega)).2
      obtain ⟨i1, i2⟩ := ih (d + 1) F (by omega) (by omega)
      have v : vp_in (nI (8 * q + d)) 5408 := vp_in_nI (by omega) (by omega)
      rw [f_M_wayOn_L2, f_M_wayOn_L2_z, if_neg h8, if_neg h8, el, ix8, nI_clamp (by omega), hT q d hq (by omega), fsd, nI_1]
      cases cl : lk (kw + 2) mf q d with
      | false =>
        simp only [Bool.false_eq_true, if_false, if_true, Bool.false_and]
        exact ⟨i1, zl, i2⟩
      | true =>
        cases ct : tk q d with
        | true =>
          simp only [if_true, if_neg (show ¬ (1 : Int32) = 0 by decide), Bool.true_and, Bool.not_true, Bool.false_eq_true, if_false]
          exact ⟨i1, zl, v, i2⟩
        | false =>
          simp only [if_true, if_neg (show ¬ (1 : Int32) = 0 by decide), Bool.true_and, Bool.not_false, Bool.false_eq_true, if_false]
          exact ⟨trivial, zl, v, trivial⟩
  obtain ⟨k1, k2⟩ := key 8 0 FU (by omega) (lt_FU (by omega))
  rw [nI_0] at k1 k2
  exact ⟨k1, k2, trivial⟩
theorem rem4 {d : Nat} (hd : d < 8) : (nI d + 4) - (nI d + 4) / 8 * 8 = nI ((d + 4) % 8) := by
  rw [show nI d + 4 = nI (d + 4) from nI_add d 4]
  exact rem8 (by omega)
theorem madd {f6 f8 : Nat → Int32} {sq : List Nat} (hl : sq.length < 9000) {a : Nat} (ha : a < 676) : f_M_add f6 (nI sq.length) f8 (nI a) = (upd f6 sq.length (nI a), upd f8 a 1, nI (sq ++ [a]).length) ∧ z_M_add (nI sq.length) (nI a) := by
  refine ⟨?_, vp_in_nI hl (by omega), vp_in_nI ha (by omega), trivial⟩
  rw [f_M_add, nI_clamp (by omega), nI_clamp (by omega), nI_1, List.length_append, nb_1]; rfl
/-- one walk of the reference -/
theorem mwalk (hM : MF kw kh mf) (hw : 1 ≤ kw ∧ kw ≤ 24) (hh : 1 ≤ kh ∧ kh ≤ 24) {st i : Nat} (hst : inn kw kh st) {rnd : Int32} (hr : rnd = if dg (kw + 2) mf st = 2 then 1 else 0) : ∀ (n cur d : Nat) (tk : Nat → Nat → Bool) (sq : List Nat) (f6 f8 f7 : Nat → Int32) (F : Nat), vv (kw + 2) ((kw + 2) * (kh + 2)) mf i tk ≤ n → n < F → WI (kw + 2) mf st cur d tk → sq.length + vv (kw + 2) ((kw + 2) * (kh + 2)) mf i tk ≤ 4 * (kw * kh) + 1 → MSQ f6 sq → MME ((kw + 2) * (kh + 2)) f8 sq → MTK ((kw + 2) * (kh + 2)) f7 tk →
    ∃ v3 f6' f8' f7', f_M_walk_L29 (nI (kw + 2)) mf (nI st) rnd F (nI d, nI cur, f6, f8, nI sq.length, f7) = (8, v3, f6', f8', nI (wlk (kw + 2) mf st n cur d tk sq).2.length, f7') ∧ MSQ f6' (wlk (kw + 2) mf st n cur d tk sq).2 ∧ MME ((kw + 2) * (kh + 2)) f8' (wlk (kw + 2) mf st n cur d tk sq).2 ∧ MTK ((kw + 2) * (kh + 2)) f7' (wlk (kw + 2) mf st n cur d tk sq).1 ∧ f_M_walk_L29_z (nI (kw + 2)) mf (nI st) rnd F (nI d, nI cur, f6, f8, nI sq.length, f7) := by
  have hkk : kw * kh ≤ 576 := Nat.mul_le_mul hw.2 hh.2
  have ha := ar_le hw.2 hh.2
  have stop : ∀ F, 0 < F → ∀ (x : Int32) (a b : Nat → Int32) (y : Int32) (c : Nat → Int32), f_M_walk_L29 (nI (kw + 2)) mf (nI st) rnd F (8, x, a, b, y, c) = (8, x, a, b, y, c) ∧ f_M_walk_L29_z (nI (kw + 2)) mf (nI st) rnd F (8, x, a, b, y, c) := by
    intro F hF x a b y c
    obtain ⟨F, rfl⟩ : ∃ m, F = m + 1 := ⟨F - 1, by omega⟩
    rw [f_M_walk_L29, f_M_walk_L29_z, if_pos (by decide), if_pos (by decide)]
    exact ⟨rfl, trivial⟩
  intro n
  induction n with
  | zero =>
    intro cur d tk sq f6 f8 f7 F hv hF hW
    have := (hW.step hM).2.2.2.2.2.1 i
    omega
  | succ n ih =>
    intro cur d tk sq f6 f8 f7 F hv hF hW hlen h6 h8 h7
    obtain ⟨F, rfl⟩ : ∃ m, F = m + 1 := ⟨F - 1, by omega⟩
    obtain ⟨s1, s2, s3, s4, s5, s6, s7, s8, s9, s10⟩ := hW.step hM
    have s6 := s6 i
    have hd : d < 8 := hW.1
    have ho : (d + 4) % 8 < 8 := Nat.mod_lt _ (by omega)
    have l1 := inn_lt s1
    have A1 := inn_A s1
    have A2 := inn_A s2
    have A3 := inn_A hst
    have en := near_eq (W := kw + 2) (q := cur) (by omega) (by omega) (by omega) d hd
    have t7 : MTK ((kw + 2) * (kh + 2)) (upd (upd f7 (8 * cur + d) 1) (8 * nbr (kw + 2) cur d + (d + 4) % 8) 1) (st2 (kw + 2) tk cur d) := (h7.set hd).set ho
    have hn8 : ¬ (8 : Int32) ≤ nI d := nI_ge (b := 8) hd (by omega)
    obtain ⟨e1, z1⟩ := madd (f6 := f6) (f8 := f8) (sq := sq) (by omega) (a := nbr (kw + 2) cur d) (by omega)
    obtain ⟨e2, z2⟩ := mdeg hM hw.2 hh.2 (q := nbr (kw + 2) cur d) (by omega)
    have v1 : vp_in (nI (8 * cur + d)) 5408 := vp_in_nI (by omega) (by omega)
    have v2 : vp_in (nI (8 * nbr (kw + 2) cur d + (d + 4) % 8)) 5408 := vp_in_nI (by omega) (by omega)
    have enst : nI (nbr (kw + 2) cur d) = nI st ↔ nbr (kw + 2) cur d = st := nI_eq (by omega) (by omega)
    rw [f_M_walk_L29, f_M_walk_L29_z, if_neg hn8, if_neg hn8, en, f_M_walk_t43, f_M_walk_t43_z, rem4 hd, ix8, ix8, nI_clamp (by omega), nI_clamp (by omega), nb_1, e1, wlk]
    generalize hg : upd (upd f7 (8 * cur + d) 1) (8 * nbr (kw + 2) cur d + (d + 4) % 8) 1 = g at t7 ⊢
    by_cases c1 : nbr (kw + 2) cur d = st ∧ dg (kw + 2) mf st = 2
    · have hrn : ¬ rnd = 0 := by rw [hr, if_pos c1.2]; decide
      rw [if_pos c1, if_pos (enst.mpr c1.1), if_pos (enst.mpr c1.1), if_neg hrn, if_neg hrn]
      obtain ⟨p1, p2⟩ := stop F (by omega) (nI (nbr (kw + 2) cur d)) f6 f8 (nI sq.length) g
      exact ⟨_, f6, f8, g, p1, h6, h8, t7, v1, v2, p2⟩
    · rw [if_neg c1]
      have rest : ∃ v3 f6' f8' f7', (if nI (dg (kw + 2) mf (nbr (kw + 2) cur d)) = 2 then f_M_walk_L29 (nI (kw + 2)) mf (nI st) rnd F (f_M_wayOn (nI (kw + 2)) mf g (nI (nbr (kw + 2) cur d)), nI (nbr (kw + 2) cur d), upd f6 sq.length (nI (nbr (kw + 2) cur d)), upd f8 (nbr (kw + 2) cur d) 1, nI (sq ++ [nbr (kw + 2) cur d]).length, g) else f_M_walk_L29 (nI (kw + 2)) mf (nI st) rnd F (8, nI (nbr (kw + 2) cur d), upd f6 sq.length (nI (nbr (kw + 2) cur d)), upd f8 (nbr (kw + 2) cur d) 1, nI (sq ++ [nbr (kw + 2) cur d]).length, g)) = (8, v3, f6', f8', nI (if dg (kw + 2) mf (nbr (kw + 2) cur d) = 2 then wlk (kw + 2) mf st n (nbr (kw + 2) cur d) (otw (kw + 2) mf (nbr (kw + 2) cur d) ((d + 4) % 8)) (st2 (kw + 2) tk cur d) (sq ++ [nbr (kw + 2) cur d]) else (st2 (kw + 2) tk cur d, sq ++ [nbr (kw + 2) cur d])).2.length, f7') ∧
          MSQ f6' (if dg (kw + 2) mf (nbr (kw + 2) cur d) = 2 then wlk (kw + 2) mf st n (nbr (kw + 2) cur d) (otw (kw + 2) mf (nbr (kw + 2) cur d) ((d + 4) % 8)) (st2 (kw + 2) tk cur d) (sq ++ [nbr (kw + 2) cur d]) else (st2 (kw + 2) tk cur d, sq ++ [nbr (kw + 2) cur d])).2 ∧ MME ((kw + 2) * (kh + 2)) f8' (if dg (kw + 2) mf (nbr (kw + 2) cur d) = 2 then wlk (kw + 2) mf st n (nbr (kw + 2) cur d) (otw (kw + 2) mf (nbr (kw + 2) cur d) ((d + 4) % 8)) (st2 (kw + 2) tk cur d) (sq ++ [nbr (kw + 2) cur d]) else (st2 (kw + 2) tk cur d, sq ++ [nbr (kw + 2) cur d])).2 ∧ MTK ((kw + 2) * (kh + 2)) f7' (if dg (kw + 2) mf (nbr (kw + 2) cur d) = 2 then wlk (kw + 2) mf st n (nbr (kw + 2) cur d) (otw (kw + 2) mf (nbr (kw + 2) cur d) ((d + 4) % 8)) (st2 (kw + 2) tk cur d) (sq ++ [nbr (kw + 2) cur d]) else (st2 (kw + 2) tk cur d, sq ++ [nbr (kw + 2) cur d])).1 ∧
          (z_M_degree (nI (kw + 2)) mf (nI (nbr (kw + 2) cur d)) ∧ (if nI (dg (kw + 2) mf (nbr (kw + 2) cur d)) = 2 then (z_M_wayOn (nI (kw + 2)) mf g (nI (nbr (kw + 2) cur d)) ∧ f_M_walk_L29_z (nI (kw + 2)) mf (nI st) rnd F (f_M_wayOn (nI (kw + 2)) mf g (nI (nbr (kw + 2) cur d)), nI (nbr (kw + 2) cur d), upd f6 sq.length (nI (nbr (kw + 2) cur d)), upd f8 (nbr (kw + 2) cur d) 1, nI (sq ++ [nbr (kw + 2) cur d]).length, g)) else f_M_walk_L29_z (nI (kw + 2)) mf (nI st) rnd F (8, nI (nbr (kw + 2) cur d), upd f6 sq.length (nI (nbr (kw + 2) cur d)), upd f8 (nbr (kw + 2) cur d) 1, nI (sq ++ [nbr (kw + 2) cur d]).length, g))) := by
        by_cases c2 : dg (kw + 2) mf (nbr (kw + 2) cur d) = 2
        · have hW' := s10 c1 c2
          obtain ⟨w1, w2⟩ := mway hM hw.2 hh.2 t7 A2
          have w3 : fst8 (fun e => lk (kw + 2) mf (nbr (kw + 2) cur d) e && !st2 (kw + 2) tk cur d (nbr (kw + 2) cur d) e) = otw (kw + 2) mf (nbr (kw + 2) cur d) ((d + 4) % 8) := by
            have ns : nbr (kw + 2) cur d ≠ st := fun c => c1 ⟨c, by rw [← c]; exact c2⟩
            refine fst8_one hW'.1 ?_ (fun e he hp => ?_)
            · (try dsimp only); rw [hW'.2.1, hW'.2.2.1]; rfl
            · simp only [Bool.and_eq_true, Bool.not_eq_true'] at hp
              refine Classical.byContradiction fun c => ?_
              have := (hW'.2.2.2.2.2.1 ns).2 e he hp.1 c
              rw [hp.2] at this; cases this
          rw [w3] at w1
          simp only [if_pos c2, if_pos (nI_dg.mpr c2)]
          rw [w1]
          obtain ⟨v3, f6', f8', f7', j1, j2, j3, j4, j5⟩ := ih (nbr (kw + 2) cur d) _ _ (sq ++ [nbr (kw + 2) cur d]) _ _ g F (by omega) (by omega) hW' (by rw [List.length_append]; simp only [List.length_cons, List.length_nil]; omega) (h6.app _) (h8.app _) t7
          exact ⟨v3, f6', f8', f7', j1, j2, j3, j4, z2, w2, j5⟩
        · simp only [if_neg c2, if_neg (fun c => c2 (nI_dg.mp c))]
          obtain ⟨p1, p2⟩ := stop F (by omega) (nI (nbr (kw + 2) cur d)) (upd f6 sq.length (nI (nbr (kw + 2) cur d))) (upd f8 (nbr (kw + 2) cur d) 1) (nI (sq ++ [nbr (kw + 2) cur d]).length) g
          exact ⟨_, _, _, _, p1, h6.app _, h8.app _, t7, z2, p2⟩
      obtain ⟨v3, f6', f8', f7', j1, j2, j3, j4, j5⟩ := rest
      by_cases c3 : nbr (kw + 2) cur d = st
      · have hrn : rnd = 0 := by rw [hr, if_neg (fun c => c1 ⟨c3, c⟩)]
        rw [if_pos (enst.mpr c3), if_pos (enst.mpr c3), if_pos hrn, if_pos hrn, f_M_walk_q3, f_M_walk_q3_z, rem4 hd, ix8, ix8, nI_clamp (by omega), nI_clamp (by omega), nb_1, hg, e2]
        exact ⟨v3, f6', f8', f7', j1, j2, j3, j4, v1, v2, z1, j5⟩
      · rw [if_neg (fun c => c3 (enst.mp c)), if_neg (fun c => c3 (enst.mp c)), f_M_walk_q2, f_M_walk_q2_z, rem4 hd, ix8, ix8, nI_clamp (by omega), nI_clamp (by omega), nb_1, hg, e2]
        exact ⟨v3, f6', f8', f7', j1, j2, j3, j4, v1, v2, z1, j5⟩
/-- the reference's strokes beside the lists -/
def MR (A : Nat) (mgf : Nat → Int32) (mst : Int32) (mqf mef : Nat → Int32) (mus : Int32) (mof : Nat → Int32) (s : SS) : Prop := mst = nI (s.2.2.length - 1) ∧ mus = nI s.2.1.length ∧ MSQ mqf s.2.1 ∧ (∀ n b, n + 1 < s.2.2.length → s.2.2[n]? = some b → mgf n = nI b) ∧ MTK A mof s.1 ∧ MME A mef s.2.1
theorem mg_app {W : Nat} {mgf : Nat → Int32} {sq bg : List Nat} (hB : BG W mf sq bg) (h : ∀ n b, n + 1 < bg.length → bg[n]? = some b → mgf n = nI b) (x : Nat) : ∀ n b, n + 1 < (bg ++ [x]).length → (bg ++ [x])[n]? = some b → upd mgf (bg.length - 1) (nI sq.length) n = nI b := fun n b hn hb => by
  have h1 := hB.2.1
  rw [List.length_append] at hn
  simp only [List.length_cons, List.length_nil] at hn
  rw [List.getElem?_append_left (by omega)] at hb
  by_cases c : n = bg.length - 1
  · rw [c, hB.2.2.1] at hb
    rw [c, pk_us, Option.some.inj hb]
  · rw [pk_un c]; exact h n b (by omega) hb
theorem mbegin (hw : kw ≤ 24) (hh : kh ≤ 24) {i : Nat} {s : SS} (hI : SI kw kh mf i s) {mgf mqf mef mof : Nat → Int32} {mst mus : Int32} (hR : MR ((kw + 2) * (kh + 2)) mgf mst mqf mef mus mof s) {q : Nat} (hq : q < (kw + 2) * (kh + 2)) (hv : 2 ≤ vv (kw + 2) ((kw + 2) * (kh + 2)) mf i s.1) : f_M_begin mst mgf mqf mus mef (nI q) = (upd mgf (s.2.2.length - 1) (nI s.2.1.length), nI s.2.2.length, upd mqf s.2.1.length (nI q), upd mef q 1, nI (s.2.1 ++ [q]).length) ∧ z_M_begin mst mqf mus mef (nI q) := by
  have hkk : kw * kh ≤ 576 := Nat.mul_le_mul hw hh
  have ha := ar_le hw hh
  obtain ⟨r1, r2, r3, r4, r5, r6⟩ := hR
  obtain ⟨b1, b2, b3, b4, b5, -⟩ := hI
  have h1 := b5.2.1
  obtain ⟨e1, z1⟩ := madd (f6 := mqf) (f8 := mef) (sq := s.2.1) (by omega) (a := q) (by omega)
  refine ⟨?_, ?_, ?_, trivial⟩
  · rw [f_M_begin, r2, e1, f_M_begin_q1, r1, nI_clamp (by omega), nI_1, show s.2.2.length - 1 + 1 = s.2.2.length by omega]
  · rw [r1]; exact vp_in_nI (by omega) (by omega)
  · rw [r2]; exact z1
theorem mstroke (hM : MF kw kh mf) (hw : 1 ≤ kw ∧ kw ≤ 24) (hh : 1 ≤ kh ∧ kh ≤ 24) {i : Nat} {s : SS} (hI : SI kw kh mf i s) {q d : Nat} (hd : d < 8) (hl : lk (kw + 2) mf q d = true) (ht : s.1 q d = false) (hN : dg (kw + 2) mf q = 2 → TKN (kw + 2) mf s.1) (hf : fst8 (fun e => lk (kw + 2) mf q e && !s.1 q e) = d) {mgf mqf mef mof : Nat → Int32} {mst mus : Int32} (hR : MR ((kw + 2) * (kh + 2)) mgf mst mqf mef mus mof s) :
    ∃ g1 z2 g3 g4 z5 g6, f_M_walk (nI (kw + 2)) mf mst mgf mqf mus mof mef (nI q) = (g1, z2, g3, g4, z5, g6) ∧ MR ((kw + 2) * (kh + 2)) g1 z2 g3 g4 z5 g6 (flw kw kh mf q d s) ∧ z_M_walk (nI (kw + 2)) mf mst mgf mqf mus mof mef (nI q) := by
  have hkk : kw * kh ≤ 576 := Nat.mul_le_mul hw.2 hh.2
  have ha := ar_le hw.2 hh.2
  have hq := lk_inn hM hl
  have hA := inn_A hq
  have hW := SI_wi hI hd hl ht hN
  have hv := (hW.step hM).2.2.2.2.2.1 i
  obtain ⟨e1, z1⟩ := mbegin hw.2 hh.2 hI hR hA (by omega)
  obtain ⟨e2, z2⟩ := mdeg hM hw.2 hh.2 (q := q) (by omega)
  obtain ⟨r1, r2, r3, r4, r5, r6⟩ := hR
  obtain ⟨e3, z3⟩ := mway hM hw.2 hh.2 r5 hA
  rw [hf] at e3
  obtain ⟨b1, b2, b3, b4, b5, -⟩ := hI
  have h1 := b5.2.1
  obtain ⟨v3, f6', f8', f7', j1, j2, j3, j4, j5⟩ := mwalk hM hw hh (i := i) hq (rnd := if nI (dg (kw + 2) mf q) = 2 then (1 : Int32) else 0) (if_congr nI_dg rfl rfl) (4 * (kw * kh)) q d s.1 (s.2.1 ++ [q]) (upd mqf s.2.1.length (nI q)) (upd mef q 1) mof FU (by omega) (lt_FU (by omega)) hW (by rw [List.length_append]; simp only [List.length_cons, List.length_nil]; omega) (r3.app q) (r6.app q) r5
  refine ⟨upd mgf (s.2.2.length - 1) (nI s.2.1.length), nI s.2.2.length, f6', f8', nI (wlk (kw + 2) mf q (4 * (kw * kh)) q d s.1 (s.2.1 ++ [q])).2.length, f7', ?_, ⟨?_, rfl, j2, ?_, j4, j3⟩, ?_⟩
  · rw [f_M_walk, e1, f_M_walk_q1, e2, f_M_walk_t19, e3, j1, f_M_walk_k29]
  · show nI s.2.2.length = nI ((s.2.2 ++ [_]).length - 1)
    rw [List.length_append]; rfl
  · exact mg_app b5 r4 _
  · rw [z_M_walk, e1, f_M_walk_q1_z, e2, f_M_walk_t19_z, e3, j1]
    exact ⟨z1, z2, z3, j5, trivial⟩
/-- the reference at a node -/
theorem mnode (hM : MF kw kh mf) (hw : 1 ≤ kw ∧ kw ≤ 24) (hh : 1 ≤ kh ∧ kh ≤ 24) {i : Nat} {s : SS} (hI : SI kw kh mf i s) {q : Nat} (hq : inn kw kh q) (h0 : ¬ mf q = 0) (h2 : dg (kw + 2) mf q ≠ 2) : ∀ k d F, d + k = 8 → k < F → ∀ (mgf mqf mef mof : Nat → Int32) (mst mus : Int32), MR ((kw + 2) * (kh + 2)) mgf mst mqf mef mus mof (nod kw kh mf q s d) →
    ∃ g1 z2 g3 g4 z5 g6, f_M_learn_L106 (nI (kw + 2)) mf (nI q) F (mgf, mst, mqf, mef, mus, mof) = (g1, z2, g3, g4, z5, g6) ∧ MR ((kw + 2) * (kh + 2)) g1 z2 g3 g4 z5 g6 (nod kw kh mf q s 8) ∧ f_M_learn_L106_z (nI (kw + 2)) mf (nI q) F (mgf, mst, mqf, mef, mus, mof) := by
  have ha := ar_le hw.2 hh.2
  have hA := inn_A hq
  obtain ⟨e2, z2⟩ := mdeg hM hw.2 hh.2 (q := q) (by omega)
  have vq : vp_in (nI q) 676 := vp_in_nI (by omega) (by omega)
  have hn2 : ¬ nI (dg (kw + 2) mf q) = 2 := fun c => h2 (nI_dg.mp c)
  intro k
  induction k with
  | zero =>
    intro d F hd hF mgf mqf mef mof mst mus hR
    obtain ⟨F, rfl⟩ : ∃ m, F = m + 1 := ⟨F - 1, by omega⟩
    have e : d = 8 := by omega
    subst e
    obtain ⟨-, -, i3, -⟩ := SI_nod hM hI h2 8 (Nat.le_refl _)
    obtain ⟨w1, w2⟩ := mway hM hw.2 hh.2 hR.2.2.2.2.1 hA
    have w3 : fst8 (fun e => lk (kw + 2) mf q e && !(nod kw kh mf q s 8).1 q e) = 8 := fst8_8 (fun e he => by
      cases cl : lk (kw + 2) mf q e with
      | false => rfl
      | true => rw [i3 e he cl]; rfl)
    rw [w3] at w1
    refine ⟨mgf, mst, mqf, mef, mus, mof, ?_, hR, ?_⟩
    · rw [f_M_learn_L106, nI_clamp (by omega), if_neg h0, e2, if_neg hn2, w1, if_pos (by decide)]
    · rw [f_M_learn_L106_z, nI_clamp (by omega), if_neg h0, e2, if_neg hn2, w1, if_pos (by decide)]
      exact ⟨vq, w2, trivial⟩
  | succ k ih =>
    intro d F hd hF mgf mqf mef mof mst mus hR
    by_cases c : (lk (kw + 2) mf q d && !(nod kw kh mf q s d).1 q d) = true
    · have c' := c
      simp only [Bool.and_eq_true, Bool.not_eq_true'] at c'
      obtain ⟨F, rfl⟩ : ∃ m, F = m + 1 := ⟨F - 1, by omega⟩
      obtain ⟨i1, -, i3, -⟩ := SI_nod hM hI h2 d (by omega)
      obtain ⟨w1, w2⟩ := mway hM hw.2 hh.2 hR.2.2.2.2.1 hA
      have w3 : fst8 (fun e => lk (kw + 2) mf q e && !(nod kw kh mf q s d).1 q e) = d := by
        obtain ⟨x1, x2⟩ := fst8_lt (p := fun e => lk (kw + 2) mf q e && !(nod kw kh mf q s d).1 q e) (d := d) (by omega) c
        have x3 : ¬ d < fst8 (fun e => lk (kw + 2) mf q e && !(nod kw kh mf q s d).1 q e) := fun y => by
          have := fsd_min (fun e => lk (kw + 2) mf q e && !(nod kw kh mf q s d).1 q e) 8 0 d (by omega) y
          try dsimp only at this
          rw [c] at this; cases this
        have x4 : ¬ fst8 (fun e => lk (kw + 2) mf q e && !(nod kw kh mf q s d).1 q e) < d := fun y => by
          simp only [Bool.and_eq_true, Bool.not_eq_true'] at x2
          have := i3 _ y x2.1
          rw [x2.2] at this; cases this
        omega
      obtain ⟨g1, z2', g3, g4, z5, g6, e, hr, hz⟩ := mstroke hM hw hh i1 (by omega) c'.1 c'.2 (fun h => absurd h h2) w3 hR
      rw [w3] at w1
      have hn8 : ¬ (8 : Int32) ≤ nI d := nI_ge (b := 8) (by omega) (by omega)
      obtain ⟨k1, k2, k3, k4, k5, k6, j1, j2, j3⟩ := ih (d + 1) F (by omega) (by omega) g1 g3 g4 g6 z2' z5 (by rw [nod, if_pos c]; exact hr)
      refine ⟨k1, k2, k3, k4, k5, k6, ?_, j2, ?_⟩
      · rw [f_M_learn_L106, nI_clamp (by omega), if_neg h0, e2, if_neg hn2, w1, if_neg hn8, e, f_M_learn_q2]
        exact j1
      · rw [f_M_learn_L106_z, nI_clamp (by omega), if_neg h0, e2, if_neg hn2, w1, if_neg hn8, e, f_M_learn_q2_z]
        exact ⟨vq, w2, hz, j3⟩
    · exact ih (d + 1) F (by omega) (by omega) mgf mqf mef mof mst mus (by rw [nod, if_neg c]; exact hR)
/-- all that the reference knows of the strokes -/
def MD (kw kh : Nat) (mf : Nat → Int32) (mst : Int32) (mgf mqf : Nat → Int32) : Prop :=
  mst = nI ((tr2 kw kh mf ((kw + 2) * (kh + 2))).2.2.length - 1) ∧ MSQ mqf (tr2 kw kh mf ((kw + 2) * (kh + 2))).2.1 ∧ ∀ n b, (tr2 kw kh mf ((kw + 2) * (kh + 2))).2.2[n]? = some b → mgf n = nI b
theorem mclear (hw : kw ≤ 24) (hh : kh ≤ 24) (mef mof : Nat → Int32) : ∃ g1 g2, f_M_learn_L25 (nI kh) (nI (kw + 2)) FU (0, mef, mof) = (nI ((kw + 2) * (kh + 2)), g1, g2) ∧ MTK ((kw + 2) * (kh + 2)) g2 (fun _ _ => false) ∧ MME ((kw + 2) * (kh + 2)) g1 [] ∧ f_M_learn_L25_z (nI kh) (nI (kw + 2)) FU (0, mef, mof) := by
  have ha := ar_le hw hh
  obtain ⟨s', e, hI, hz⟩ := lu_0z (F := f_M_learn_L25 (nI kh) (nI (kw + 2))) (Fz := f_M_learn_L25_z (nI kh) (nI (kw + 2))) (fun i t => ∀ q, q < i → t.1 q = 0 ∧ ∀ d, d < 8 → t.2 (8 * q + d) = 0) ((kw + 2) * (kh + 2)) (by omega)
    (fun t _ n => by
      obtain ⟨t1, t2⟩ := t
      rw [f_M_learn_L25, f_M_learn_L25_z, ar_eq, if_pos (nI_le (Nat.le_refl _) (by omega)), if_pos (nI_le (Nat.le_refl _) (by omega))]
      exact ⟨rfl, trivial⟩)
    (fun i t hi ht => by
      obtain ⟨t1, t2⟩ := t
      try dsimp only at ht
      obtain ⟨u, eu, hU, zu⟩ := lu_0z (F := f_M_learn_L42 (nI i)) (Fz := f_M_learn_L42_z (nI i)) (fun d u => (∀ e, e < d → u (8 * i + e) = 0) ∧ ∀ q, q < i → ∀ e, e < 8 → u (8 * q + e) = 0) 8 (by omega)
        (fun u _ n => by
          rw [f_M_learn_L42, f_M_learn_L42_z, if_pos (by decide), if_pos (by decide)]
          exact ⟨rfl, trivial⟩)
        (fun d u hd hu => by
          have hn8 : ¬ (8 : Int32) ≤ nI d := nI_ge (b := 8) hd (by omega)
          refine ⟨upd u (8 * i + d) 0, ⟨fun e he => ?_, fun q hq e he => ?_⟩, fun n => ?_⟩
          · by_cases c : e = d
            · rw [c, pk_us]
            · rw [pk_un (by omega)]; exact hu.1 e (by omega)
          · rw [pk_un (by omega)]; exact hu.2 q hq e he
          · rw [f_M_learn_L42, f_M_learn_L42_z, if_neg hn8, if_neg hn8, ix8, nI_clamp (by omega), nI_1, nb_0]
            exact ⟨rfl, fun hz => ⟨vp_in_nI (by omega) (by omega), hz⟩⟩)
        (s := t2) ⟨fun e he => by omega, fun q hq => (ht q hq).2⟩
      refine ⟨(upd t1 i 0, u), fun q hq => ?_, fun n => ?_⟩
      · try dsimp only
        by_cases c : q = i
        · rw [c]; exact ⟨pk_us, fun d hd => hU.1 d hd⟩
        · exact ⟨(pk_un c).trans (ht q (by omega)).1, hU.2 q (by omega)⟩
      · rw [f_M_learn_L25, f_M_learn_L25_z, ar_eq, if_neg (nI_ge hi (by omega)), if_neg (nI_ge hi (by omega)), eu, f_M_learn_k42, f_M_learn_k42_z, nI_clamp (by omega), nI_1, nb_0]
        exact ⟨rfl, fun hz => ⟨vp_in_nI (by omega) (by omega), zu, hz⟩⟩)
    (s := (mef, mof)) (fun q hq => by omega)
  obtain ⟨g1, g2⟩ := s'
  refine ⟨g1, g2, e, fun q d hq hd => ?_, fun q hq => ?_, hz⟩
  · exact (hI q hq).2 d hd
  · exact (hI q hq).1
theorem mlearn {sf : Nat → Int32} (hS : SM kw kh sf mf) (hw : 1 ≤ kw ∧ kw ≤ 24) (hh : 1 ≤ kh ∧ kh ≤ 24) {mkn : Int32} (hk : mkn = 0) (mst mus : Int32) (mgf mqf mef mof : Nat → Int32) :
    ∃ g1 z2 g3 g4 z5 g6, f_M_learn (nI kh) (nI (kw + 2)) mf mkn mst mgf mqf mus mof mef = (g1, z2, g3, g4, z5, g6, 1) ∧ MD kw kh mf z2 g1 g3 ∧ z_M_learn (nI kh) (nI (kw + 2)) mf mkn mgf mqf mof mef := by
  have hM := hS.mf
  have ha := ar_le hw.2 hh.2
  have hkk : kw * kh ≤ 576 := Nat.mul_le_mul hw.2 hh.2
  obtain ⟨c1, c2, ec, hc1, hc2, zc⟩ := mclear hw.2 hh.2 mef mof
  -- the nodes
  obtain ⟨t, e1, h1, z1⟩ := lu_0z (F := f_M_learn_L74 (nI kh) (nI (kw + 2)) mf) (Fz := f_M_learn_L74_z (nI kh) (nI (kw + 2)) mf) (fun q t => MR ((kw + 2) * (kh + 2)) t.1 t.2.1 t.2.2.1 t.2.2.2.1 t.2.2.2.2.1 t.2.2.2.2.2 (tr1 kw kh mf q)) ((kw + 2) * (kh + 2)) (by omega)
    (fun t _ n => by
      obtain ⟨t1, t2, t3, t4, t5, t6⟩ := t
      rw [f_M_learn_L74, f_M_learn_L74_z, ar_eq, if_pos (nI_le (Nat.le_refl _) (by omega)), if_pos (nI_le (Nat.le_refl _) (by omega))]
      exact ⟨rfl, trivial⟩)
    (fun q t hq ht => by
      obtain ⟨t1, t2, t3, t4, t5, t6⟩ := t
      try dsimp only at ht
      obtain ⟨i1, -, -⟩ := tr1_ok hM hS hw.2 q (Nat.le_of_lt hq)
      obtain ⟨e2, z2⟩ := mdeg hM hw.2 hh.2 (q := q) (by omega)
      have vq : vp_in (nI q) 676 := vp_in_nI (by omega) (by omega)
      have hA : ∀ n, (f_M_learn_L74 (nI kh) (nI (kw + 2)) mf (n + 1) (nI q, t1, t2, t3, t4, t5, t6) = (if mf q = 0 then (f_M_learn_j106 (nI (kw + 2)) mf (nI q) t6 (f_M_learn_L74 (nI kh) (nI (kw + 2)) mf n) (t1, t2, t3, t4, t5)) else (if nI (dg (kw + 2) mf q) = 0 then (f_M_learn_q3 (nI (kw + 2)) mf (nI q) t6 (f_M_learn_L74 (nI kh) (nI (kw + 2)) mf n) (f_M_begin t2 t1 t3 t5 t4 (nI q))) else (f_M_learn_j106 (nI (kw + 2)) mf (nI q) t6 (f_M_learn_L74 (nI kh) (nI (kw + 2)) mf n) (t1, t2, t3, t4, t5))))) ∧ ((if mf q = 0 then (f_M_learn_j106_z (nI (kw + 2)) mf (nI q) t6 (f_M_learn_L74_z (nI kh) (nI (kw + 2)) mf n) (t1, t2, t3, t4, t5)) else (if nI (dg (kw + 2) mf q) = 0 then ((z_M_begin t2 t3 t5 t4 (nI q)) ∧ (f_M_learn_q3_z (nI (kw + 2)) mf (nI q) t6 (f_M_learn_L74_z (nI kh) (nI (kw + 2)) mf n) (f_M_begin t2 t1 t3 t5 t4 (nI q)))) else (f_M_learn_j106_z (nI (kw + 2)) mf (nI q) t6 (f_M_learn_L74_z (nI kh) (nI (kw + 2)) mf n) (t1, t2, t3, t4, t5)))) → f_M_learn_L74_z (nI kh) (nI (kw + 2)) mf (n + 1) (nI q, t1, t2, t3, t4, t5, t6)) := by
        intro n
        rw [f_M_learn_L74, f_M_learn_L74_z, ar_eq, if_neg (nI_ge hq (by omega)), if_neg (nI_ge hq (by omega)), nI_clamp (by omega), e2]
        exact ⟨rfl, fun hz => ⟨z2, vq, hz⟩⟩
      obtain ⟨F, hF⟩ : ∃ m, FU = m + 1 := ⟨FU - 1, by have := lt_FU (k := 1) (by omega); omega⟩
      by_cases c0 : mf q = 0
      · refine ⟨(t1, t2, t3, t4, t5, t6), ?_, fun n => ?_⟩
        · rw [tr1, if_neg (fun c => c.1 c0)]; exact ht
        · obtain ⟨a1, a2⟩ := hA n
          simp only [if_pos c0] at a1 a2
          rw [f_M_learn_j106, hF, f_M_learn_L106, nI_clamp (by omega), if_pos c0, f_M_learn_k106, nI_1] at a1
          rw [f_M_learn_j106_z, hF, f_M_learn_L106, f_M_learn_L106_z, nI_clamp (by omega), if_pos c0, if_pos c0, f_M_learn_k106_z, nI_1] at a2
          exact ⟨a1, fun hz => a2 ⟨⟨vq, trivial⟩, hz⟩⟩
      · have hin := hM.inn c0
        by_cases c2 : dg (kw + 2) mf q = 2
        · have cz : ¬ nI (dg (kw + 2) mf q) = 0 := fun c => by have := nI_dg0.mp c; omega
          refine ⟨(t1, t2, t3, t4, t5, t6), ?_, fun n => ?_⟩
          · rw [tr1, if_neg (fun c => c.2 c2)]; exact ht
          · obtain ⟨a1, a2⟩ := hA n
            simp only [if_neg c0, if_neg cz] at a1 a2
            rw [f_M_learn_j106, hF, f_M_learn_L106, nI_clamp (by omega), if_neg c0, e2, if_pos (nI_dg.mpr c2), f_M_learn_k106, nI_1] at a1
            rw [f_M_learn_j106_z, hF, f_M_learn_L106, f_M_learn_L106_z, nI_clamp (by omega), if_neg c0, if_neg c0, e2, if_pos (nI_dg.mpr c2), if_pos (nI_dg.mpr c2), f_M_learn_k106_z, nI_1] at a2
            exact ⟨a1, fun hz => a2 ⟨⟨vq, trivial⟩, hz⟩⟩
        · by_cases cz : dg (kw + 2) mf q = 0
          · have hv := vv_iso (tr1 kw kh mf q).1 hq ⟨c0, cz⟩
            obtain ⟨eb, zb⟩ := mbegin hw.2 hh.2 i1 ht hq (by omega)
            obtain ⟨r1, r2, r3, r4, r5, r6⟩ := ht
            have b5 := i1.2.2.2.2.1
            have hR' : MR ((kw + 2) * (kh + 2)) (upd t1 ((tr1 kw kh mf q).2.2.length - 1) (nI (tr1 kw kh mf q).2.1.length)) (nI (tr1 kw kh mf q).2.2.length) (upd t3 (tr1 kw kh mf q).2.1.length (nI q)) (upd t4 q 1) (nI ((tr1 kw kh mf q).2.1 ++ [q]).length) t6 (nod kw kh mf q (aln q (tr1 kw kh mf q)) 0) := by
              refine ⟨?_, rfl, r3.app q, mg_app b5 r4 _, r5, r6.app q⟩
              show nI (tr1 kw kh mf q).2.2.length = nI (((tr1 kw kh mf q).2.2 ++ [_]).length - 1)
              rw [List.length_append]; rfl
            obtain ⟨g1, z2', g3, g4, z5, g6, en, hr, hz'⟩ := mnode hM hw hh (SI_aln i1 hq ⟨c0, cz⟩) hin c0 c2 8 0 FU (by omega) (lt_FU (by omega)) _ _ _ _ _ _ hR'
            refine ⟨(g1, z2', g3, g4, z5, g6), ?_, fun n => ?_⟩
            · rw [tr1, if_pos ⟨c0, c2⟩, if_pos cz]; exact hr
            · obtain ⟨a1, a2⟩ := hA n
              simp only [if_neg c0, if_pos (nI_dg0.mpr cz)] at a1 a2
              rw [eb, f_M_learn_q3, f_M_learn_j106, en, f_M_learn_k106, nI_1] at a1
              rw [eb, f_M_learn_q3_z, f_M_learn_j106_z, en, f_M_learn_k106_z, nI_1] at a2
              exact ⟨a1, fun hz => a2 ⟨zb, hz', hz⟩⟩
          · obtain ⟨g1, z2', g3, g4, z5, g6, en, hr, hz'⟩ := mnode hM hw hh i1 hin c0 c2 8 0 FU (by omega) (lt_FU (by omega)) _ _ _ _ _ _ ht
            refine ⟨(g1, z2', g3, g4, z5, g6), ?_, fun n => ?_⟩
            · rw [tr1, if_pos ⟨c0, c2⟩, if_neg cz]; exact hr
            · obtain ⟨a1, a2⟩ := hA n
              simp only [if_neg c0, if_neg (fun c => cz (nI_dg0.mp c))] at a1 a2
              rw [f_M_learn_j106, en, f_M_learn_k106, nI_1] at a1
              rw [f_M_learn_j106_z, en, f_M_learn_k106_z, nI_1] at a2
              exact ⟨a1, fun hz => a2 ⟨hz', hz⟩⟩)
    (s := (mgf, 0, mqf, c1, 0, c2)) ⟨rfl, rfl, fun n a h => by simp [tr1] at h, fun n b hn => by simp [tr1] at hn, hc1, hc2⟩
  obtain ⟨t1, t2, t3, t4, t5, t6⟩ := t
  try dsimp only at h1
  -- the rings
  obtain ⟨u, e3, h3, z3⟩ := lu_0z (F := f_M_learn_L146 (nI kh) (nI (kw + 2)) mf) (Fz := f_M_learn_L146_z (nI kh) (nI (kw + 2)) mf) (fun q t => MR ((kw + 2) * (kh + 2)) t.1 t.2.1 t.2.2.1 t.2.2.2.1 t.2.2.2.2.1 t.2.2.2.2.2 (tr2 kw kh mf q)) ((kw + 2) * (kh + 2)) (by omega)
    (fun t _ n => by
      obtain ⟨t1, t2, t3, t4, t5, t6⟩ := t
      rw [f_M_learn_L146, f_M_learn_L146_z, ar_eq, if_pos (nI_le (Nat.le_refl _) (by omega)), if_pos (nI_le (Nat.le_refl _) (by omega))]
      exact ⟨rfl, trivial⟩)
    (fun q t hq ht => by
      obtain ⟨t1, t2, t3, t4, t5, t6⟩ := t
      try dsimp only at ht
      obtain ⟨i1, i2, i3⟩ := tr2_ok hM hS hw.2 q
      have vq : vp_in (nI q) 676 := vp_in_nI (by omega) (by omega)
      by_cases c0 : mf q = 0
      · refine ⟨(t1, t2, t3, t4, t5, t6), ?_, fun n => ?_⟩
        · rw [tr2, if_neg (fun c => by have := dg0 (W := kw + 2) c0; omega)]; exact ht
        · rw [f_M_learn_L146, f_M_learn_L146_z, ar_eq, if_neg (nI_ge hq (by omega)), if_neg (nI_ge hq (by omega)), nI_clamp (by omega), if_pos c0, if_pos c0, nI_1]
          exact ⟨rfl, fun hz => ⟨vq, hz⟩⟩
      · have em := ht.2.2.2.2.2 q hq
        by_cases cm : q ∈ (tr2 kw kh mf q).2.1
        · rw [if_pos cm] at em
          have em' : ¬ t4 q = 0 := by rw [em]; decide
          refine ⟨(t1, t2, t3, t4, t5, t6), ?_, fun n => ?_⟩
          · rw [tr2, if_neg]
            · exact ht
            · rintro ⟨x1, x2⟩
              obtain ⟨d, d1, d2⟩ := i1.2.2.2.2.2.2 q cm (by rw [x1]; decide)
              have x2 : fsd ((tr2 kw kh mf q).1 q) 8 0 = 8 := x2
              rw [fsd_min ((tr2 kw kh mf q).1 q) 8 0 d (by omega) (by rw [x2]; exact d1)] at d2; cases d2
          · rw [f_M_learn_L146, f_M_learn_L146_z, ar_eq, if_neg (nI_ge hq (by omega)), if_neg (nI_ge hq (by omega)), nI_clamp (by omega), if_neg c0, if_neg c0, if_neg em', if_neg em', nI_1]
            exact ⟨rfl, fun hz => ⟨vq, vq, hz⟩⟩
        · rw [if_neg cm] at em
          have x8 : ∀ d, d < 8 → (tr2 kw kh mf q).1 q d = false := fun d _ => by
            rw [Bool.eq_false_iff]; intro c
            exact cm (i1.2.2.2.2.2.1 q d c)
          have x1 : dg (kw + 2) mf q = 2 := Classical.byContradiction fun c => by
            by_cases cz : dg (kw + 2) mf q = 0
            · exact cm (i3 q c0 cz)
            · have hex : fsd (lk (kw + 2) mf q) 8 0 < 8 := Nat.lt_of_not_le fun c => by
                have h := dg_cnt (kw + 2) mf q
                rw [cntb_none (fun j hj => fsd_min (lk (kw + 2) mf q) 8 0 j (by omega) (by omega))] at h
                omega
              have hl := fsd_p (lk (kw + 2) mf q) 8 0 (by omega)
              have := i2 q _ hex hl c
              rw [x8 _ hex] at this; cases this
          have x2 : fst8 ((tr2 kw kh mf q).1 q) = 8 := fst8_8 x8
          obtain ⟨l1, l2, l3⟩ := ring_dir x1 x2
          have hf : fst8 (fun e => lk (kw + 2) mf q e && !(tr2 kw kh mf q).1 q e) = fst8 (lk (kw + 2) mf q) := fsd_congr 8 0 (fun e _ he => by rw [x8 e (by omega)]; simp)
          obtain ⟨g1, z2', g3, g4, z5, g6, en, hr, hz'⟩ := mstroke hM hw hh i1 l1 l2 l3 (fun _ => i2) hf ht
          refine ⟨(g1, z2', g3, g4, z5, g6), ?_, fun n => ?_⟩
          · rw [tr2, if_pos ⟨x1, x2⟩]; exact hr
          · rw [f_M_learn_L146, f_M_learn_L146_z, ar_eq, if_neg (nI_ge hq (by omega)), if_neg (nI_ge hq (by omega)), nI_clamp (by omega), if_neg c0, if_neg c0, if_pos em, if_pos em, en, f_M_learn_q1, f_M_learn_q1_z, nI_1]
            exact ⟨rfl, fun hz => ⟨vq, vq, hz', hz⟩⟩)
    (s := (t1, t2, t3, t4, t5, t6)) h1
  obtain ⟨u1, u2, u3, u4, u5, u6⟩ := u
  obtain ⟨r1, r2, r3, r4, r5, r6⟩ := h3
  try dsimp only at r1 r2 r3 r4
  obtain ⟨i1, -, -⟩ := tr2_ok hM hS hw.2 ((kw + 2) * (kh + 2))
  have b4 := i1.2.2.2.1
  have b5 := i1.2.2.2.2.1
  refine ⟨upd u1 u2.toNatClampNeg u5, u2, u3, u4, u5, u6, ?_, ⟨r1, r3, fun n b hb => ?_⟩, ?_⟩
  · rw [f_M_learn, if_pos hk, ec, f_M_learn_k25, e1, f_M_learn_k74, e3, f_M_learn_k146]
  · have hn := lt_of_get hb
    rw [r1, nI_clamp (by omega), r2]
    by_cases c : n = (tr2 kw kh mf ((kw + 2) * (kh + 2))).2.2.length - 1
    · rw [c, b5.2.2.1] at hb
      rw [c, pk_us, Option.some.inj hb]
    · rw [pk_un c]; exact r4 n b (by omega) hb
  · rw [z_M_learn, if_pos hk, ec, f_M_learn_k25_z, e1, f_M_learn_k74_z, e3, f_M_learn_k146_z]
    refine ⟨zc, z1, z3, ?_, trivial⟩
    rw [r1]; exact vp_in_nI (by omega) (by omega)
end
