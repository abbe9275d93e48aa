/-! own: thinning, on both sides -/
-- places of the class
theorem nI_or (a b : Nat) : nI a ||| nI b = nI (a ||| b) := by
  apply Int32.toBitVec_inj.mp
  rw [Int32.toBitVec_or]
  show BitVec.ofNat 32 a ||| BitVec.ofNat 32 b = BitVec.ofNat 32 (a ||| b)
  rw [BitVec.ofNat_or]
theorem pl_eq {x y : Nat} (hx : x < 32) (hy : y < 1000) : f_placeOf (nI x) (nI y) = nI (y * 32 + x) := by
  rw [f_placeOf, pk_shlN _ 5 (by decide +kernel) (by omega), nI_or]
  congr 1
  rw [Nat.mul_comm]
  exact (Nat.two_pow_add_eq_or_of_lt (i := 5) (by omega) y).symm
theorem col_eq {x y : Nat} (hx : x < 32) (hy : y < 1000) : f_columnOf (nI (y * 32 + x)) = nI x := by
  rw [f_columnOf, pk_andN (by omega) 5 (by decide +kernel)]
  congr 1
  omega
theorem row_eq {x y : Nat} (hx : x < 32) (hy : y < 1000) : f_rowOf (nI (y * 32 + x)) = nI y := by
  rw [f_rowOf, pk_shrN (by omega) _ 5 (by decide +kernel)]
  congr 1
  omega
/-- the class's place of the reference's place -/
def pl (kw q : Nat) : Nat := (q / (kw + 2) - 1) * 32 + (q % (kw + 2) - 1)
theorem pl_lin {kw x y : Nat} (hx : x < kw) : pl kw (lin kw x y) = y * 32 + x := by
  unfold pl
  rw [lin_div hx, lin_mod hx]; simp
/-- over rows and columns, as over places one after the other -/
theorem nest_inv {S : Type} (J : Nat → S → Prop) {kw kh : Nat} (hw : kw ≤ 24) (hh : kh ≤ 24) {inner : Int32 → Nat → Int32 × S → Int32 × S} {outer : Nat → Int32 × S → Int32 × S}
    (hie : ∀ y s n, y < kh → inner (nI y) (n + 1) (nI kw, s) = (nI kw, s))
    (his : ∀ x y s, x < kw → y < kh → J (lin kw x y) s → ∃ s', J (lin kw x y + 1) s' ∧ ∀ n, inner (nI y) (n + 1) (nI x, s) = inner (nI y) n (nI (x + 1), s'))
    (hoe : ∀ s n, outer (n + 1) (nI kh, s) = (nI kh, s))
    (hos : ∀ y s s' n, y < kh → inner (nI y) FU (0, s) = (nI kw, s') → outer (n + 1) (nI y, s) = outer n (nI (y + 1), s'))
    (hb : ∀ q s, ¬ inn kw kh q → J q s → J (q + 1) s) {s : S} (h0 : J 0 s) : ∃ s', outer FU (0, s) = (nI kh, s') ∧ J ((kw + 2) * (kh + 2)) s' := by
  have skip : ∀ s k a, (∀ q, a ≤ q → q < a + k → ¬ inn kw kh q) → J a s → J (a + k) s := by
    intro s k
    induction k with
    | zero => intro a _ h; exact h
    | succ k ih =>
      intro a hq h
      rw [← Nat.add_assoc]
      exact hb _ s (hq _ (by omega) (by omega)) (ih a (fun q h1 h2 => hq q h1 (by omega)) h)
  have nin : ∀ Y X, X < kw + 2 → ¬ (1 ≤ Y ∧ Y ≤ kh ∧ 1 ≤ X ∧ X ≤ kw) → ¬ inn kw kh (Y * (kw + 2) + X) := by
    rintro Y X hX hn ⟨x, y, hx, hy, e⟩
    have h1 := lin_div (y := y) hx
    have h2 := lin_mod (y := y) hx
    rw [← e, Nat.mul_comm, Nat.mul_add_div (by omega), Nat.div_eq_of_lt hX] at h1
    rw [← e, Nat.mul_comm, Nat.mul_add_mod, Nat.mod_eq_of_lt hX] at h2
    omega
  obtain ⟨s', e, hI⟩ := lu_0 (F := outer) (fun y s => J ((y + 1) * (kw + 2) + 1) s) kh (by omega) (fun s _ n => hoe s n)
    (fun y s hy hs => by
      obtain ⟨s', e, hI⟩ := lu_0 (F := inner (nI y)) (fun x s => J ((y + 1) * (kw + 2) + (x + 1)) s) kw (by omega) (fun s _ n => hie y s n hy)
        (fun x s hx hJ => his x y s hx hy hJ) (s := s) hs
      refine ⟨s', ?_, fun n => hos y s s' n hy e⟩
      have e2 : (y + 1 + 1) * (kw + 2) + 1 = (y + 1) * (kw + 2) + (kw + 1) + 2 := by
        rw [Nat.add_mul (y + 1) 1]; omega
      rw [e2]
      refine skip s' 2 _ (fun q h1 h2 => ?_) hI
      rcases (show q = (y + 1) * (kw + 2) + (kw + 1) ∨ q = (y + 1) * (kw + 2) + (kw + 2) by omega) with rfl | rfl
      · exact nin _ _ (by omega) (by omega)
      · rw [show (y + 1) * (kw + 2) + (kw + 2) = (y + 1 + 1) * (kw + 2) + 0 by rw [Nat.add_mul (y + 1) 1]; omega]
        exact nin _ _ (by omega) (by omega))
    (s := s) (by
      rw [show (0 + 1) * (kw + 2) + 1 = 0 + (kw + 3) by omega]
      refine skip s (kw + 3) 0 (fun q h1 h2 => ?_) h0
      by_cases hq : q < kw + 2
      · rw [show q = 0 * (kw + 2) + q by omega]
        exact nin _ _ hq (by omega)
      · rw [show q = 1 * (kw + 2) + 0 by omega]
        exact nin _ _ (by omega) (by omega))
  refine ⟨s', e, ?_⟩
  rw [show (kw + 2) * (kh + 2) = (kh + 1) * (kw + 2) + 1 + (kw + 1) by rw [Nat.mul_comm, Nat.add_mul, Nat.add_mul]; omega]
  refine skip s' (kw + 1) _ (fun q h1 h2 => ?_) hI
  rw [show q = (kh + 1) * (kw + 2) + (q - (kh + 1) * (kw + 2)) by omega]
  exact nin _ _ (by omega) (by omega)
-- lists of places
def cl (p : Nat → Bool) (n : Nat) : List Nat := (List.range n).filter p
theorem cl_0 (p : Nat → Bool) : cl p 0 = [] := rfl
theorem cl_s (p : Nat → Bool) (n : Nat) : cl p (n + 1) = cl p n ++ if p n then [n] else [] := by
  unfold cl
  rw [List.range_succ, List.filter_append]
  congr 1
  cases h : p n <;> simp [h]
theorem cl_len (p : Nat → Bool) : ∀ n, (cl p n).length = cntb p n
  | 0 => rfl
  | n + 1 => by rw [cl_s, List.length_append, cl_len p n, cntb]; split <;> simp
theorem cl_mem {p : Nat → Bool} {n q : Nat} : q ∈ cl p n ↔ q < n ∧ p q = true := by unfold cl; simp
theorem cntb_mono (p : Nat → Bool) (m : Nat) : ∀ n, cntb p m ≤ cntb p (m + n)
  | 0 => Nat.le_refl _
  | n + 1 => by have := cntb_mono p m n; rw [← Nat.add_assoc, cntb]; omega
theorem cntb_imp {p q : Nat → Bool} (h : ∀ j, p j = true → q j = true) : ∀ n, cntb p n ≤ cntb q n
  | 0 => Nat.le_refl _
  | n + 1 => by
    have := cntb_imp h n
    rw [cntb, cntb]
    cases e : p n with
    | false => simp; omega
    | true => rw [h n e]; simp; omega
theorem cntb_one {p p' : Nat → Bool} {k : Nat} (hp : p k = true) (hp' : p' k = false) (ho : ∀ j, j ≠ k → p' j = p j) : ∀ n, k < n → cntb p' n + 1 = cntb p n
  | 0, h => by omega
  | n + 1, h => by
    rw [cntb, cntb]
    by_cases e : k = n
    · subst e
      rw [hp, hp', cntb_congr (p := p') (q := p) (fun j hj => ho j (by omega))]; simp
    · have := cntb_one hp hp' ho n (by omega)
      rw [ho n (by omega)]; omega
-- the spec
def cand (W : Nat) (mf : Nat → Int32) (a b q : Nat) : Bool := decide (mf q ≠ 0) && (decide (mf (nbr W q a) = 0) || decide (mf (nbr W q b) = 0)) && decide (f_H_mayGo (nI (rd W mf q)) ≠ 0)
def pstep (W : Nat) (s : Nat × (Nat → Int32)) (q : Nat) : Nat × (Nat → Int32) := if s.2 q ≠ 0 ∧ f_H_mayGo (nI (rd W s.2 q)) ≠ 0 then (s.1 + 1, upd s.2 q 0) else s
def hlf (kw kh : Nat) (mf : Nat → Int32) (a b : Nat) : Nat × (Nat → Int32) := (cl (cand (kw + 2) mf a b) ((kw + 2) * (kh + 2))).foldl (pstep (kw + 2)) (0, mf)
theorem MF.upd0 {kw kh : Nat} {mf : Nat → Int32} (h : MF kw kh mf) (q : Nat) : MF kw kh (upd mf q 0) :=
  ⟨fun j => by by_cases e : j = q; (rw [e, pk_us]; exact Or.inl rfl); (rw [pk_un e]; exact h.1 j), fun j hj => by by_cases e : j = q; (rw [e, pk_us]); (rw [pk_un e]; exact h.2 j hj)⟩
theorem MF.ps {kw kh W : Nat} {s : Nat × (Nat → Int32)} (h : MF kw kh s.2) (q : Nat) : MF kw kh (pstep W s q).2 := by
  unfold pstep
  split
  · exact h.upd0 q
  · exact h
theorem blacks_upd {kw kh : Nat} {mf : Nat → Int32} {q : Nat} (hq : q < (kw + 2) * (kh + 2)) (h : mf q ≠ 0) : blacks kw kh (upd mf q 0) + 1 = blacks kw kh mf := by
  unfold blacks
  refine cntb_one (k := q) (by simp [h]) (by simp [pk_us]) (fun j hj => by rw [pk_un hj]) _ hq
theorem fold_blacks {kw kh W : Nat} : ∀ (L : List Nat) (s : Nat × (Nat → Int32)), (∀ q ∈ L, q < (kw + 2) * (kh + 2)) → blacks kw kh (L.foldl (pstep W) s).2 + (L.foldl (pstep W) s).1 = blacks kw kh s.2 + s.1
  | [], s, _ => rfl
  | q :: L, s, h => by
    rw [List.foldl_cons, fold_blacks L _ (fun j hj => h j (List.mem_cons_of_mem _ hj))]
    unfold pstep
    split
    · rename_i c
      have := blacks_upd (kw := kw) (kh := kh) (h q List.mem_cons_self) c.1
      simp only; omega
    · rfl
theorem hlf_blacks {kw kh a b : Nat} (mf : Nat → Int32) : blacks kw kh (hlf kw kh mf a b).2 + (hlf kw kh mf a b).1 = blacks kw kh mf := by
  have := fold_blacks (kw := kw) (kh := kh) (W := kw + 2) (cl (cand (kw + 2) mf a b) ((kw + 2) * (kh + 2))) (0, mf) (fun q hq => (cl_mem.mp hq).1)
  exact this
theorem fold_MF {kw kh W : Nat} : ∀ (L : List Nat) (s : Nat × (Nat → Int32)), MF kw kh s.2 → MF kw kh (L.foldl (pstep W) s).2
  | [], s, h => h
  | q :: L, s, h => by rw [List.foldl_cons]; exact fold_MF L _ (h.ps q)
theorem blacks_le {kw kh : Nat} {sf mf : Nat → Int32} (h : SM kw kh sf mf) (hw : kw ≤ 24) : blacks kw kh mf ≤ kw * kh := by
  rw [h.count hw, Nat.mul_comm]
  refine sumn_le (fun y hy => ?_)
  rw [show (24 : Nat) = kw + (24 - kw) by omega, cntb_add, cntb_none (p := fun j => bt (sf y) (kw + j)) (fun j hj => h.1 y hy _ (by omega))]
  exact cntb_le _ _
-- the reference
theorem mhalf {kw kh : Nat} {mf : Nat → Int32} (hM : MF kw kh mf) (hw : kw ≤ 24) (hh : kh ≤ 24) (mcf : Nat → Int32) {a b : Nat} (ha : a < 8) (hb : b < 8) : ∃ g : Nat → Int32, f_M_half (nI kh) (nI (kw + 2)) mf mcf (nI a) (nI b) = (nI (hlf kw kh mf a b).1, g, (hlf kw kh mf a b).2) ∧ z_M_half (nI kh) (nI (kw + 2)) mf mcf (nI a) (nI b) := by
  have har := ar_le hw hh
  obtain ⟨g, e, hI, hz⟩ := lu_0z (F := f_M_half_L2 (nI kh) (nI (kw + 2)) mf (nI a) (nI b)) (Fz := f_M_half_L2_z (nI kh) (nI (kw + 2)) mf (nI a) (nI b)) (fun i s => ∀ q, q < i → s q = if cand (kw + 2) mf a b q then 1 else 0) ((kw + 2) * (kh + 2)) (by omega)
    (fun s _ n => by
      rw [f_M_half_L2, f_M_half_L2_z, ar_eq, if_pos (nI_le (Nat.le_refl _) (by omega)), if_pos (nI_le (Nat.le_refl _) (by omega))]
      exact ⟨rfl, trivial⟩)
    (fun i s hi hs => by
      refine ⟨upd s i (if cand (kw + 2) mf a b i then 1 else 0), fun q hq => ?_, fun n => ?_⟩
      · by_cases e : q = i
        · rw [e, pk_us]
        · rw [pk_un e]; exact hs q (by omega)
      · have v : vp_in (nI i) 676 := vp_in_nI (by omega) (by omega)
        obtain ⟨m1, m2⟩ := mmay hM hw hh (q := i) (by omega)
        rw [f_M_half_L2, f_M_half_L2_z, ar_eq, if_neg (nI_ge hi (by omega)), if_neg (nI_ge hi (by omega)), nI_clamp (by omega), nI_1, m1, nb_0, nb_1]
        by_cases h0 : mf i = 0
        · have ec : cand (kw + 2) mf a b i = false := by simp [cand, h0]
          simp only [if_pos h0, ec]
          exact ⟨rfl, fun hz => ⟨v, v, hz⟩⟩
        · have hi' := hM.inn h0
          have ba : f_M_black (nI (kw + 2)) mf (nI i) (nI a) = mf (nbr (kw + 2) i a) := by rw [mblk hw hh mf hi' (by omega), Nat.mod_eq_of_lt ha]
          have bb : f_M_black (nI (kw + 2)) mf (nI i) (nI b) = mf (nbr (kw + 2) i b) := by rw [mblk hw hh mf hi' (by omega), Nat.mod_eq_of_lt hb]
          have za : z_M_black (nI (kw + 2)) mf (nI i) (nI a) := zblk hw hh hM.1 hi' (by omega)
          have zb : z_M_black (nI (kw + 2)) mf (nI i) (nI b) := zblk hw hh hM.1 hi' (by omega)
          simp only [if_neg h0, ba, bb]
          by_cases ca : mf (nbr (kw + 2) i a) = 0
          · simp only [if_pos ca]
            by_cases cm : f_H_mayGo (nI (rd (kw + 2) mf i)) = 0
            · have ec : cand (kw + 2) mf a b i = false := by simp [cand, cm]
              simp only [if_pos cm, ec]
              exact ⟨rfl, fun hz => ⟨v, za, m2, v, hz⟩⟩
            · have ec : cand (kw + 2) mf a b i = true := by simp [cand, h0, ca, cm]
              simp only [if_neg cm, ec]
              exact ⟨rfl, fun hz => ⟨v, za, m2, v, hz⟩⟩
          · simp only [if_neg ca]
            by_cases cb : mf (nbr (kw + 2) i b) = 0
            · simp only [if_pos cb]
              by_cases cm : f_H_mayGo (nI (rd (kw + 2) mf i)) = 0
              · have ec : cand (kw + 2) mf a b i = false := by simp [cand, cm]
                simp only [if_pos cm, ec]
                exact ⟨rfl, fun hz => ⟨v, za, zb, m2, v, hz⟩⟩
              · have ec : cand (kw + 2) mf a b i = true := by simp [cand, h0, cb, cm]
                simp only [if_neg cm, ec]
                exact ⟨rfl, fun hz => ⟨v, za, zb, m2, v, hz⟩⟩
            · have ec : cand (kw + 2) mf a b i = false := by simp [cand, ca, cb]
              simp only [if_neg cb, ec]
              exact ⟨rfl, fun hz => ⟨v, za, zb, v, hz⟩⟩)
    (s := mcf) (fun q hq => by omega)
  obtain ⟨s', e2, hI2, hz2⟩ := lu_0z (F := f_M_half_L67 (nI kh) (nI (kw + 2)) g) (Fz := f_M_half_L67_z (nI kh) (nI (kw + 2)) g) (fun i s => s = (nI ((cl (cand (kw + 2) mf a b) i).foldl (pstep (kw + 2)) (0, mf)).1, ((cl (cand (kw + 2) mf a b) i).foldl (pstep (kw + 2)) (0, mf)).2)) ((kw + 2) * (kh + 2)) (by omega)
    (fun s _ n => by
      obtain ⟨s1, s2⟩ := s
      rw [f_M_half_L67, f_M_half_L67_z, ar_eq, if_pos (nI_le (Nat.le_refl _) (by omega)), if_pos (nI_le (Nat.le_refl _) (by omega))]
      exact ⟨rfl, trivial⟩)
    (fun i s hi hs => by
      refine ⟨_, rfl, fun n => ?_⟩
      subst hs
      rw [cl_s, List.foldl_append]
      have hM2 := fold_MF (kw := kw) (kh := kh) (W := kw + 2) (cl (cand (kw + 2) mf a b) i) (0, mf) hM
      generalize (cl (cand (kw + 2) mf a b) i).foldl (pstep (kw + 2)) (0, mf) = p at hM2 ⊢
      obtain ⟨k, f⟩ := p
      have v : vp_in (nI i) 676 := vp_in_nI (by omega) (by omega)
      obtain ⟨m1, m2⟩ := mmay hM2 hw hh (q := i) (by omega)
      rw [f_M_half_L67, f_M_half_L67_z, ar_eq, if_neg (nI_ge hi (by omega)), if_neg (nI_ge hi (by omega)), nI_clamp (by omega), nI_1, hI i hi, m1, nb_0]
      cases ec : cand (kw + 2) mf a b i with
      | false =>
        simp only [Bool.false_eq_true, if_false, if_true, List.foldl_nil]
        exact ⟨trivial, fun hz => ⟨v, hz⟩⟩
      | true =>
        simp only [if_true, List.foldl_cons, List.foldl_nil, pstep]
        rw [if_neg (show ¬ (1 : Int32) = 0 by decide), if_neg (show ¬ (1 : Int32) = 0 by decide)]
        by_cases h0 : f i = 0
        · have hn : ¬ (f i ≠ 0 ∧ f_H_mayGo (nI (rd (kw + 2) f i)) ≠ 0) := fun c => c.1 h0
          simp only [if_pos h0, if_neg hn, if_true]
          exact ⟨trivial, fun hz => ⟨v, m2, hz⟩⟩
        · by_cases cm : f_H_mayGo (nI (rd (kw + 2) f i)) = 0
          · have hn : ¬ (f i ≠ 0 ∧ f_H_mayGo (nI (rd (kw + 2) f i)) ≠ 0) := fun c => c.2 cm
            simp only [if_neg h0, if_pos cm, if_neg hn]
            exact ⟨trivial, fun hz => ⟨v, m2, hz⟩⟩
          · have hn : f i ≠ 0 ∧ f_H_mayGo (nI (rd (kw + 2) f i)) ≠ 0 := ⟨h0, cm⟩
            simp only [if_neg h0, if_neg cm, if_pos hn]
            rw [nI_1]
            exact ⟨rfl, fun hz => ⟨v, m2, v, hz⟩⟩)
    (s := (0, mf)) rfl
  refine ⟨g, ?_, ?_⟩
  · rw [f_M_half, e, f_M_half_k2, e2, hI2]; rfl
  · rw [z_M_half, e, f_M_half_k2_z, e2]; exact ⟨hz, hz2, trivial⟩
