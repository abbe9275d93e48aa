/-! own: prune, on both sides -/
/-- the crossing of a stroke with a loose end -/
def lo (W : Nat) (mf : Nat → Int32) (B S : Nat → Nat) (t : Nat) : Option Nat := if dg W mf (S (B t)) = 1 ∧ 3 ≤ dg W mf (lst B S t) then some (lst B S t) else if 3 ≤ dg W mf (S (B t)) ∧ dg W mf (lst B S t) = 1 then some (S (B t)) else none
def cuts (W : Nat) (mf : Nat → Int32) (B S : Nat → Nat) (P : Nat) : Nat → List (Nat × Nat)
  | 0 => []
  | t + 1 => cuts W mf B S P t ++ match lo W mf B S t with | some c => if B (t + 1) - B t ≤ P then [(t, c)] else [] | none => []
/-- the first j samples of a stroke taken out, but for c -/
def cf (S : Nat → Nat) (b c : Nat) (f : Nat → Int32) : Nat → Nat → Int32
  | 0 => f
  | j + 1 => if S (b + j) = c then cf S b c f j else upd (cf S b c f j) (S (b + j)) 0
def pst (W : Nat) (B S : Nat → Nat) (s : Nat × (Nat → Int32)) (p : Nat × Nat) : Nat × (Nat → Int32) := if 3 ≤ dg W s.2 p.2 then (s.1 + (B (p.1 + 1) - B p.1 - 1), cf S (B p.1) p.2 s.2 (B (p.1 + 1) - B p.1)) else s
theorem cf_c (S : Nat → Nat) (b c : Nat) (f : Nat → Int32) : ∀ j, cf S b c f j c = f c
  | 0 => rfl
  | j + 1 => by
    rw [cf]
    split
    · exact cf_c S b c f j
    · rename_i h
      rw [pk_un (fun e => h e.symm)]; exact cf_c S b c f j
theorem lo_c {W : Nat} {mf : Nat → Int32} {B S : Nat → Nat} {t c : Nat} (h : lo W mf B S t = some c) : (c = lst B S t ∧ dg W mf (S (B t)) = 1 ∧ 3 ≤ dg W mf c) ∨ (c = S (B t) ∧ dg W mf (lst B S t) = 1 ∧ 3 ≤ dg W mf c) := by
  unfold lo at h
  split at h
  · rename_i hc
    have e := Option.some.inj h
    rw [← e]; exact Or.inl ⟨rfl, hc.1, hc.2⟩
  · split at h
    · rename_i hc
      have e := Option.some.inj h
      rw [← e]; exact Or.inr ⟨rfl, hc.2, hc.1⟩
    · cases h
theorem cuts_mem {W : Nat} {mf : Nat → Int32} {B S : Nat → Nat} {P : Nat} : ∀ {t : Nat} {p : Nat × Nat}, p ∈ cuts W mf B S P t → p.1 < t ∧ lo W mf B S p.1 = some p.2
  | 0, p, h => by cases h
  | t + 1, p, h => by
    rw [cuts, List.mem_append] at h
    rcases h with h | h
    · obtain ⟨h1, h2⟩ := cuts_mem h
      exact ⟨by omega, h2⟩
    · cases e : lo W mf B S t with
      | none => rw [e] at h; cases h
      | some c =>
        rw [e] at h
        try dsimp only at h
        split at h
        · rw [List.mem_singleton] at h
          rw [h]; exact ⟨by omega, e⟩
        · cases h
theorem cuts_len {W : Nat} {mf : Nat → Int32} {B S : Nat → Nat} {P : Nat} : ∀ t, (cuts W mf B S P t).length ≤ t
  | 0 => Nat.le_refl _
  | t + 1 => by
    have := cuts_len (W := W) (mf := mf) (B := B) (S := S) (P := P) t
    rw [cuts, List.length_append]
    split
    · split <;> simp only [List.length_cons, List.length_nil] <;> omega
    · simp only [List.length_nil]; omega
section
variable {kw kh : Nat} {mf : Nat → Int32} {n N : Nat} {B S : Nat → Nat}
theorem MF_cf {f : Nat → Int32} (h : MF kw kh f) (b c : Nat) : ∀ j, MF kw kh (cf S b c f j)
  | 0 => h
  | j + 1 => by
    have ih := MF_cf h b c j
    show MF kw kh (if S (b + j) = c then _ else _)
    split
    · exact ih
    · exact ih.upd0 _
theorem MF_pst {s : Nat × (Nat → Int32)} (h : MF kw kh s.2) {W : Nat} (p : Nat × Nat) : MF kw kh (pst W B S s p).2 := by
  unfold pst
  split
  · exact MF_cf h _ _ _
  · exact h
theorem MF_psts {W : Nat} : ∀ (L : List (Nat × Nat)) (s : Nat × (Nat → Int32)), MF kw kh s.2 → MF kw kh (L.foldl (pst W B S) s).2
  | [], _, h => h
  | p :: L, s, h => by rw [List.foldl_cons]; exact MF_psts L _ (MF_pst h p)
/-- the crossing is in the stroke just once -/
theorem cut_cnt (hK : KN kw kh mf n N B S) {t c : Nat} (ht : t < n) (h : lo (kw + 2) mf B S t = some c) : cntb (fun k => decide (S (B t + k) ≠ c)) (B (t + 1) - B t) = B (t + 1) - B t - 1 := by
  have h3 := hK.2.2.1 t ht
  have hin : ∀ k, 0 < k → k + 1 < B (t + 1) - B t → dg (kw + 2) mf (S (B t + k)) = 2 := fun k k1 k2 => hK.2.2.2.2 t (B t + k) ht (by omega) (by omega)
  have el : S (B t + (B (t + 1) - B t - 1)) = lst B S t := by unfold lst; rw [show B t + (B (t + 1) - B t - 1) = B (t + 1) - 1 by omega]
  generalize hL : B (t + 1) - B t = L at *
  have hL1 : 1 ≤ L := by omega
  have all : ∀ m, cntb (fun _ => true) m = m := by
    intro m
    induction m with
    | zero => rfl
    | succ m ih => rw [cntb, ih]; rfl
  rcases lo_c h with ⟨e, d1, d2⟩ | ⟨e, d1, d2⟩
  · -- the last one
    obtain ⟨m, rfl⟩ : ∃ m, L = m + 1 := ⟨L - 1, by omega⟩
    rw [cntb, show m + 1 - 1 = m by omega] at *
    have x : decide (S (B t + m) ≠ c) = false := by
      rw [el, e]; simp
    rw [x, cntb_congr (q := fun _ => true) (fun k hk => ?_), all]
    · rfl
    · have : S (B t + k) ≠ c := fun hc => by
        rw [← hc] at d2
        by_cases k0 : k = 0
        · subst k0
          have d1' : dg (kw + 2) mf (S (B t + 0)) = 1 := d1
          omega
        · have := hin k (by omega) (by omega); omega
      simp [this]
  · -- the first one
    obtain ⟨m, rfl⟩ : ∃ m, L = 1 + m := ⟨L - 1, by omega⟩
    rw [cntb_add, show 1 + m - 1 = m by omega] at *
    have x : cntb (fun k => decide (S (B t + k) ≠ c)) 1 = 0 := by
      rw [cntb, cntb, Nat.add_zero, e]; simp
    rw [x, cntb_congr (q := fun _ => true) (fun k hk => ?_), all]
    · omega
    · have : S (B t + (1 + k)) ≠ c := fun hc => by
        rw [← hc] at d2
        by_cases k0 : 1 + k + 1 = 1 + m
        · rw [show 1 + k = m by omega, el] at d2; omega
        · have := hin (1 + k) (by omega) (by omega); omega
      simp [this]
theorem dg1 {W q : Nat} : (nI (dg W mf q) = 1) ↔ dg W mf q = 1 := by
  have := dg_le W mf q
  show nI _ = nI 1 ↔ _
  exact nI_eq (by omega) (by omega)
theorem dg3 {W q : Nat} : (nI (dg W mf q) < 3) ↔ dg W mf q < 3 := by
  have := dg_le W mf q
  show nI _ < nI 3 ↔ _
  exact nI_ltI (by omega) (by omega)
theorem dg3' {W q : Nat} : ((3 : Int32) ≤ nI (dg W mf q)) ↔ 3 ≤ dg W mf q := by
  have := dg_le W mf q
  show nI 3 ≤ nI _ ↔ _
  exact nI_leI (by omega) (by omega)
/-- the class: the crossing of a loose stroke -/
theorem cloose {clf csf cbf : Nat → Int32} {csc : Int32} (hM : MF kw kh mf) (hw : kw ≤ 24) (hh : kh ≤ 24) (hT : CT kw kh mf clf) (hK : KN kw kh mf n N B S) (hC : CF kw csf cbf csc n N B S) {t : Nat} (ht : t < n) : f_C_crossingOfLooseStroke (kh * 32) clf (4 * (kw * kh)) csf (2 * (kw * kh) + 1) cbf csc (nI t) = match lo (kw + 2) mf B S t with | some c => nI (pl kw c) | none => -1 := by
  have h3 := hK.2.2.1 t ht
  have hf : inn kw kh (S (B t)) := kn_inn hM hK (by omega)
  have hl := lst_inn hM hK ht
  rw [f_C_crossingOfLooseStroke, cfirst hw hh hK hC ht, f_C_crossingOfLooseStroke_t5, clast hw hh hK hC ht, f_C_crossingOfLooseStroke_t11, cdeg hT hw hh hf, cdeg hT hw hh hl]
  simp only [dg1, dg3]
  by_cases cA : dg (kw + 2) mf (S (B t)) = 1 ∧ 3 ≤ dg (kw + 2) mf (lst B S t)
  · have e : lo (kw + 2) mf B S t = some (lst B S t) := by unfold lo; rw [if_pos cA]
    rw [e]
    dsimp only
    rw [if_pos cA.1, if_neg (show ¬ dg (kw + 2) mf (lst B S t) < 3 by omega)]
  · by_cases cB : 3 ≤ dg (kw + 2) mf (S (B t)) ∧ dg (kw + 2) mf (lst B S t) = 1
    · have e : lo (kw + 2) mf B S t = some (S (B t)) := by unfold lo; rw [if_neg cA, if_pos cB]
      rw [e]
      dsimp only
      rw [if_neg (show ¬ dg (kw + 2) mf (S (B t)) = 1 by omega), if_pos cB.2, if_neg (show ¬ dg (kw + 2) mf (S (B t)) < 3 by omega)]
    · have e : lo (kw + 2) mf B S t = none := by unfold lo; rw [if_neg cA, if_neg cB]
      rw [e]
      dsimp only
      by_cases x1 : dg (kw + 2) mf (S (B t)) = 1
      · rw [if_pos x1, if_pos (show dg (kw + 2) mf (lst B S t) < 3 by omega)]
        by_cases x2 : dg (kw + 2) mf (lst B S t) = 1
        · rw [if_pos x2, if_pos (show dg (kw + 2) mf (S (B t)) < 3 by omega)]
        · rw [if_neg x2]
      · rw [if_neg x1]
        by_cases x2 : dg (kw + 2) mf (lst B S t) = 1
        · rw [if_pos x2, if_pos (show dg (kw + 2) mf (S (B t)) < 3 by omega)]
        · rw [if_neg x2]
/-- the class: one stroke cut -/
theorem ccut {csf cbf : Nat → Int32} {csc : Int32} (hM : MF kw kh mf) (hw : kw ≤ 24) (hh : kh ≤ 24) (hK : KN kw kh mf n N B S) (hC : CF kw csf cbf csc n N B S) {t c : Nat} (ht : t < n) (hc : inn kw kh c) (hlo : lo (kw + 2) mf B S t = some c) {f7 f : Nat → Int32} (hS : SM kw kh f7 f) : ∃ g, f_C_cut (4 * (kw * kh)) csf (2 * (kw * kh) + 1) cbf csc (nI kw) (nI kh) f7 (nI t) (nI (pl kw c)) = (nI (B (t + 1) - B t - 1), g) ∧ SM kw kh g (cf S (B t) c f (B (t + 1) - B t)) := by
  have hkk : kw * kh ≤ 576 := Nat.mul_le_mul hw hh
  have h3 := hK.2.2.1 t ht
  have h2 := hK.2.1
  obtain ⟨s', e, hI⟩ := lu_0 (F := f_C_cut_L6 (4 * (kw * kh)) csf (2 * (kw * kh) + 1) cbf csc (nI kw) (nI kh) (nI t) (nI (pl kw c))) (fun j u => u.1 = nI (cntb (fun k => decide (S (B t + k) ≠ c)) j) ∧ SM kw kh u.2 (cf S (B t) c f j)) (B (t + 1) - B t) (by omega)
    (fun u _ m => by
      obtain ⟨u1, u2⟩ := u
      rw [f_C_cut_L6, clen hw hh hK hC ht, if_pos (nI_le (Nat.le_refl _) (by omega))])
    (fun j u hj hu => by
      obtain ⟨u1, u2⟩ := u
      obtain ⟨a1, a2⟩ := hu
      try dsimp only at a1 a2
      have hi : inn kw kh (S (B t + j)) := kn_inn hM hK (by omega)
      have es := csmp hw hh hK hC ht hj
      by_cases cc : S (B t + j) = c
      · refine ⟨(u1, u2), ⟨?_, ?_⟩, fun m => ?_⟩
        · rw [cntb, show decide (S (B t + j) ≠ c) = false by simp [cc]]; exact a1
        · rw [cf, if_pos cc]; exact a2
        · rw [f_C_cut_L6, clen hw hh hK hC ht, if_neg (nI_ge hj (by omega)), es, f_C_cut_t23, if_pos ((nI_pl hw hh hi hc).mpr cc), nI_1]
      · have hne : ¬ nI (pl kw (S (B t + j))) = nI (pl kw c) := fun x => cc ((nI_pl hw hh hi hc).mp x)
        refine ⟨(u1 + 1, f_S_paint (nI kw) (nI kh) u2 (f_columnOf (nI (pl kw (S (B t + j))))) (f_rowOf (nI (pl kw (S (B t + j))))) 0), ⟨?_, ?_⟩, fun m => ?_⟩
        · rw [cntb, show decide (S (B t + j) ≠ c) = true by simp [cc], a1]; exact nI_1 _
        · rw [cf, if_neg cc]
          obtain ⟨x, y, hx, hy, exy⟩ := hi
          rw [exy, (ccol hw hh hx hy).1, (ccol hw hh hx hy).2]
          exact a2.paint hw hh hx hy (Or.inl rfl)
        · rw [f_C_cut_L6, clen hw hh hK hC ht, if_neg (nI_ge hj (by omega)), es, f_C_cut_t23, if_neg hne, f_C_cut_q1, nI_1])
    (s := (0, f7)) ⟨rfl, hS⟩
  obtain ⟨u1, u2⟩ := s'
  refine ⟨u2, ?_, hI.2⟩
  rw [f_C_cut, e, f_C_cut_k6, show u1 = _ from hI.1, cut_cnt hK ht hlo]
theorem lo_inn (hM : MF kw kh mf) {t c : Nat} (h : lo (kw + 2) mf B S t = some c) : inn kw kh c := by
  refine hM.inn fun x => ?_
  have := dg0 (W := kw + 2) x
  rcases lo_c h with ⟨-, -, h3⟩ | ⟨-, -, h3⟩ <;> omega
/-- the class: all that is short -/
theorem ccuts {clf csf cbf : Nat → Int32} {csc : Int32} {sf : Nat → Int32} (hS : SM kw kh sf mf) (hw : kw ≤ 24) (hh : kh ≤ 24) (hT : CT kw kh mf clf) (hK : KN kw kh mf n N B S) (hC : CF kw csf cbf csc n N B S) {P : Nat} (hP : P ≤ 600) : ∃ g, f_C_cutShort (kh * 32) clf (4 * (kw * kh)) csf (2 * (kw * kh) + 1) cbf csc (nI kw) (nI kh) sf (nI P) = (nI ((cuts (kw + 2) mf B S P n).foldl (pst (kw + 2) B S) (0, mf)).1, g) ∧ SM kw kh g ((cuts (kw + 2) mf B S P n).foldl (pst (kw + 2) B S) (0, mf)).2 := by
  have hM := hS.mf
  have hkk : kw * kh ≤ 576 := Nat.mul_le_mul hw hh
  have h2 := hK.2.1
  have h1 := hK.1
  obtain ⟨s', e, hI⟩ := lu_0 (F := f_C_cutShort_L5 (kh * 32) clf (4 * (kw * kh)) csf (2 * (kw * kh) + 1) cbf csc (nI kw) (nI kh) (nI P)) (fun t u => u.1 = nI ((cuts (kw + 2) mf B S P t).foldl (pst (kw + 2) B S) (0, mf)).1 ∧ SM kw kh u.2 ((cuts (kw + 2) mf B S P t).foldl (pst (kw + 2) B S) (0, mf)).2) n (by omega)
    (fun u _ m => by
      obtain ⟨u1, u2⟩ := u
      rw [f_C_cutShort_L5, hC.1, if_pos (nI_le (Nat.le_refl _) (by omega))])
    (fun t u ht hu => by
      obtain ⟨u1, u2⟩ := u
      obtain ⟨a1, a2⟩ := hu
      try dsimp only at a1 a2
      have hnle : ¬ csc ≤ nI t := by rw [hC.1]; exact nI_ge ht (by omega)
      have h3 := hK.2.2.1 t ht
      have el := cloose hM hw hh hT hK hC ht
      rw [cuts, List.foldl_append]
      generalize (cuts (kw + 2) mf B S P t).foldl (pst (kw + 2) B S) (0, mf) = p at a1 a2 ⊢
      obtain ⟨g, f⟩ := p
      try dsimp only at a1 a2
      cases eo : lo (kw + 2) mf B S t with
      | none =>
        rw [eo] at el
        try dsimp only at el ⊢
        refine ⟨(u1, u2), ⟨a1, a2⟩, fun m => ?_⟩
        rw [f_C_cutShort_L5, if_neg hnle, el, f_C_cutShort_t20, if_pos rfl, nI_1]
      | some c =>
        rw [eo] at el
        try dsimp only at el ⊢
        have hci := lo_inn hM eo
        have hp := pl_lt hw hci
        have hm1 : ¬ nI (pl kw c) = -1 := fun x => by
          have : (nI (pl kw c)).toInt = -1 := by rw [x, i_m1]
          rw [nI_toInt (by omega)] at this; omega
        have elen : nI (B (t + 1) - B t) - 1 = nI (B (t + 1) - B t - 1) := pk_sub (b := 1) (by omega)
        by_cases cP : B (t + 1) - B t ≤ P
        · rw [if_pos cP]
          simp only [List.foldl_cons, List.foldl_nil, pst]
          have hlt : ¬ nI P ≤ nI (B (t + 1) - B t - 1) := nI_ge (by omega) (by omega)
          have ecr : f_C_isCrossingIn (nI kw) (nI kh) u2 (nI (pl kw c)) = if dg (kw + 2) f c < 3 then 0 else 1 := by
            obtain ⟨x, y, hx, hy, exy⟩ := hci
            rw [f_C_isCrossingIn, exy, (ccol hw hh hx hy).1, (ccol hw hh hx hy).2, clinks a2 hw hh hx hy, f_C_isCrossingIn_t12]
            have : f_bitCount (if f (lin kw x y) = 0 then 0 else nI (lby (rd (kw + 2) f (lin kw x y)))) = nI (dg (kw + 2) f (lin kw x y)) := by
              unfold dg
              by_cases h : f (lin kw x y) = 0
              · rw [if_pos h, if_pos h]; decide +kernel
              · rw [if_neg h, if_neg h]; exact t_bits ⟨_, rd_lt _ _ _⟩
            rw [this]
            exact if_congr dg3 rfl rfl
          by_cases c3 : 3 ≤ dg (kw + 2) f c
          · obtain ⟨g', eg, hg⟩ := ccut hM hw hh hK hC ht hci eo a2
            rw [if_pos c3]
            refine ⟨(u1 + nI (B (t + 1) - B t - 1), g'), ⟨?_, hg⟩, fun m => ?_⟩
            · (try dsimp only); rw [a1, nI_add]
            · rw [f_C_cutShort_L5, if_neg hnle, el, f_C_cutShort_t20, if_neg hm1, clen hw hh hK hC ht, elen, if_neg hlt, ecr, if_neg (show ¬ dg (kw + 2) f c < 3 by omega), if_neg (show ¬ (1 : Int32) = 0 by decide), eg, f_C_cutShort_q1, nI_1]
          · rw [if_neg c3]
            refine ⟨(u1, u2), ⟨a1, a2⟩, fun m => ?_⟩
            rw [f_C_cutShort_L5, if_neg hnle, el, f_C_cutShort_t20, if_neg hm1, clen hw hh hK hC ht, elen, if_neg hlt, ecr, if_pos (show dg (kw + 2) f c < 3 by omega), if_pos rfl, nI_1]
        · rw [if_neg cP]
          refine ⟨(u1, u2), ⟨a1, a2⟩, fun m => ?_⟩
          rw [f_C_cutShort_L5, if_neg hnle, el, f_C_cutShort_t20, if_neg hm1, clen hw hh hK hC ht, elen, if_pos (nI_le (by omega) (by omega)), nI_1])
    (s := (0, sf)) ⟨rfl, hS⟩
  obtain ⟨u1, u2⟩ := s'
  refine ⟨u2, ?_, hI.2⟩
  rw [f_C_cutShort, e, f_C_cutShort_k5, show u1 = _ from hI.1]
/-- the reference: which strokes go -/
theorem mcuts {mgf mqf : Nat → Int32} {mst : Int32} (hM : MF kw kh mf) (hw : kw ≤ 24) (hh : kh ≤ 24) (hK : KN kw kh mf n N B S) (hG : GF mst mgf mqf n N B S) {P : Nat} (hP : P ≤ 600) (mvf myf : Nat → Int32) : ∃ g9 g10, f_M_prune_L51 (nI (kw + 2)) mf (nI P) mgf mst mqf FU (0, mvf, myf, 0) = (nI n, g9, g10, nI (cuts (kw + 2) mf B S P n).length) ∧ (∀ (k : Nat) (p : Nat × Nat), (cuts (kw + 2) mf B S P n)[k]? = some p → g9 k = nI p.1 ∧ g10 k = nI p.2) ∧ f_M_prune_L51_z (nI (kw + 2)) mf (nI P) mgf mst mqf FU (0, mvf, myf, 0) := by
  have hkk : kw * kh ≤ 576 := Nat.mul_le_mul hw hh
  have ha := ar_le hw hh
  have h2 := hK.2.1
  have h1 := hK.1
  have gapp : ∀ (L : List (Nat × Nat)) (x : Nat × Nat) (k : Nat) (p : Nat × Nat), (L ++ [x])[k]? = some p → (k < L.length ∧ L[k]? = some p) ∨ (k = L.length ∧ p = x) := by
    intro L x k p h
    by_cases c : k < L.length
    · rw [List.getElem?_append_left c] at h
      exact Or.inl ⟨c, h⟩
    · have hlt : k < (L ++ [x]).length := by rw [List.getElem?_eq_some_iff] at h; exact h.1
      rw [List.length_append] at hlt
      simp only [List.length_cons, List.length_nil] at hlt
      have e : k = L.length := by omega
      subst e
      rw [List.getElem?_append_right (Nat.le_refl _)] at h
      simp only [Nat.sub_self, List.getElem?_cons_zero, Option.some.injEq] at h
      exact Or.inr ⟨rfl, h.symm⟩
  obtain ⟨s', e, hI, hz⟩ := lu_0z (F := f_M_prune_L51 (nI (kw + 2)) mf (nI P) mgf mst mqf) (Fz := f_M_prune_L51_z (nI (kw + 2)) mf (nI P) mgf mst mqf) (fun t u => u.2.2 = nI (cuts (kw + 2) mf B S P t).length ∧ ∀ (k : Nat) (p : Nat × Nat), (cuts (kw + 2) mf B S P t)[k]? = some p → u.1 k = nI p.1 ∧ u.2.1 k = nI p.2) n (by omega)
    (fun u _ m => by
      obtain ⟨u1, u2, u3⟩ := u
      rw [f_M_prune_L51, f_M_prune_L51_z, hG.1, if_pos (nI_le (Nat.le_refl _) (by omega)), if_pos (nI_le (Nat.le_refl _) (by omega))]
      exact ⟨rfl, trivial⟩)
    (fun t u ht hu => by
      obtain ⟨u1, u2, u3⟩ := u
      obtain ⟨a1, a2⟩ := hu
      try dsimp only at a1 a2
      have hnle : ¬ mst ≤ nI t := by rw [hG.1]; exact nI_ge ht (by omega)
      have h3 := hK.2.2.1 t ht
      have hfi := inn_A (kn_inn hM hK (k := B t) (by omega))
      have hli := inn_A (lst_inn hM hK ht)
      obtain ⟨ef, zf⟩ := mfirst hw hh hK hG ht
      obtain ⟨el, zl⟩ := mlast hw hh hK hG ht
      obtain ⟨es, zs⟩ := msize hw hh hK hG ht
      obtain ⟨edf, zdf⟩ := mdeg hM hw hh (q := S (B t)) (by omega)
      obtain ⟨edl, zdl⟩ := mdeg hM hw hh (q := lst B S t) (by omega)
      have hcl := cuts_len (W := kw + 2) (mf := mf) (B := B) (S := S) (P := P) t
      have vy : vp_in u3 3000 := by rw [a1]; exact vp_in_nI (by omega) (by omega)
      have hPs : (nI P < nI (B (t + 1) - B t)) ↔ P < B (t + 1) - B t := nI_ltI (by omega) (by omega)
      have add : ∀ c, lo (kw + 2) mf B S t = some c → B (t + 1) - B t ≤ P → ((nI ((cuts (kw + 2) mf B S P t).length + 1) = nI (cuts (kw + 2) mf B S P (t + 1)).length) ∧ ∀ (k : Nat) (p : Nat × Nat), (cuts (kw + 2) mf B S P (t + 1))[k]? = some p → upd u1 (cuts (kw + 2) mf B S P t).length (nI t) k = nI p.1 ∧ upd u2 (cuts (kw + 2) mf B S P t).length (nI c) k = nI p.2) := by
        intro c ec cP
        have ecuts : cuts (kw + 2) mf B S P (t + 1) = cuts (kw + 2) mf B S P t ++ [(t, c)] := by rw [cuts, ec]; (try dsimp only); rw [if_pos cP]
        rw [ecuts]
        refine ⟨by rw [List.length_append]; rfl, fun k p hp => ?_⟩
        rcases gapp _ _ _ _ hp with ⟨x1, x2⟩ | ⟨x1, x2⟩
        · rw [pk_un (by omega), pk_un (by omega)]; exact a2 k p x2
        · rw [x1, pk_us, pk_us, x2]; exact ⟨rfl, rfl⟩
      have skip : (lo (kw + 2) mf B S t = none ∨ ¬ B (t + 1) - B t ≤ P) → cuts (kw + 2) mf B S P (t + 1) = cuts (kw + 2) mf B S P t := by
        intro h
        rw [cuts]
        rcases h with h | h
        · rw [h]; simp
        · cases lo (kw + 2) mf B S t with
          | none => simp
          | some c => (try dsimp only); rw [if_neg h]; simp
      have hst : ∀ m, f_M_prune_L51 (nI (kw + 2)) mf (nI P) mgf mst mqf (m + 1) (nI t, u1, u2, u3) = _ := fun m => by rw [f_M_prune_L51, if_neg hnle]
      have hsz : ∀ m, f_M_prune_L51_z (nI (kw + 2)) mf (nI P) mgf mst mqf (m + 1) (nI t, u1, u2, u3) = _ := fun m => by rw [f_M_prune_L51_z, if_neg hnle]
      simp only [ef, el, es, edf, edl, dg1, dg3, dg3', hPs, nI_1] at hst hsz
      by_cases cP : P < B (t + 1) - B t
      · refine ⟨(u1, u2, u3), ?_, fun m => ?_⟩
        · rw [skip (Or.inr (by omega))]; exact ⟨a1, a2⟩
        · rw [hst m, hsz m]
          simp only [if_pos cP]
          exact ⟨trivial, fun hz => ⟨zf, zdf, zl, zdl, zs, hz⟩⟩
      · by_cases cA : dg (kw + 2) mf (S (B t)) = 1 ∧ 3 ≤ dg (kw + 2) mf (lst B S t)
        · have ec : lo (kw + 2) mf B S t = some (lst B S t) := by unfold lo; rw [if_pos cA]
          have hlt : dg (kw + 2) mf (S (B t)) < 3 := by omega
          refine ⟨(upd u1 (cuts (kw + 2) mf B S P t).length (nI t), upd u2 (cuts (kw + 2) mf B S P t).length (nI (lst B S t)), nI ((cuts (kw + 2) mf B S P t).length + 1)), add _ ec (by omega), fun m => ?_⟩
          rw [hst m, hsz m]
          simp only [if_neg cP, if_pos cA.1, if_pos cA.2, if_pos hlt]
          rw [a1, nI_clamp (by omega), nI_1]
          rw [a1] at vy
          exact ⟨rfl, fun hz => ⟨zf, zdf, zl, zdl, zs, vy, zl, vy, hz⟩⟩
        · by_cases cB : 3 ≤ dg (kw + 2) mf (S (B t)) ∧ dg (kw + 2) mf (lst B S t) = 1
          · have ec : lo (kw + 2) mf B S t = some (S (B t)) := by unfold lo; rw [if_neg cA, if_pos cB]
            have hn1 : ¬ dg (kw + 2) mf (S (B t)) = 1 := by omega
            have hnlt : ¬ dg (kw + 2) mf (S (B t)) < 3 := by omega
            refine ⟨(upd u1 (cuts (kw + 2) mf B S P t).length (nI t), upd u2 (cuts (kw + 2) mf B S P t).length (nI (S (B t))), nI ((cuts (kw + 2) mf B S P t).length + 1)), add _ ec (by omega), fun m => ?_⟩
            rw [hst m, hsz m]
            simp only [if_neg cP, if_neg hn1, if_neg hnlt, if_pos cB.2]
            rw [a1, nI_clamp (by omega), nI_1]
            rw [a1] at vy
            exact ⟨rfl, fun hz => ⟨zf, zdf, zl, zdl, zs, vy, zf, vy, hz⟩⟩
          · have ec : lo (kw + 2) mf B S t = none := by unfold lo; rw [if_neg cA, if_neg cB]
            refine ⟨(u1, u2, u3), ?_, fun m => ?_⟩
            · rw [skip (Or.inl ec)]; exact ⟨a1, a2⟩
            · rw [hst m, hsz m]
              by_cases x1 : dg (kw + 2) mf (S (B t)) = 1
              · have x2 : ¬ 3 ≤ dg (kw + 2) mf (lst B S t) := fun x => cA ⟨x1, x⟩
                have x3 : dg (kw + 2) mf (S (B t)) < 3 := by omega
                simp only [if_neg cP, if_pos x1, if_neg x2, if_pos x3]
                exact ⟨trivial, fun hz => ⟨zf, zdf, zl, zdl, zs, hz⟩⟩
              · by_cases x3 : dg (kw + 2) mf (S (B t)) < 3
                · simp only [if_neg cP, if_neg x1, if_pos x3]
                  exact ⟨trivial, fun hz => ⟨zf, zdf, zl, zdl, zs, hz⟩⟩
                · have x4 : ¬ dg (kw + 2) mf (lst B S t) = 1 := fun x => cB ⟨by omega, x⟩
                  simp only [if_neg cP, if_neg x1, if_neg x3, if_neg x4]
                  exact ⟨trivial, fun hz => ⟨zf, zdf, zl, zdl, zs, hz⟩⟩)
    (s := (mvf, myf, 0)) ⟨rfl, fun k p h => by simp [cuts] at h⟩
  obtain ⟨u1, u2, u3⟩ := s'
  refine ⟨u1, u2, ?_, hI.2, hz⟩
  rw [e, show u3 = _ from hI.1]
/-- the reference: one stroke cut -/
theorem mcut {mgf mqf : Nat → Int32} {mst : Int32} (hM : MF kw kh mf) (hw : kw ≤ 24) (hh : kh ≤ 24) (hK : KN kw kh mf n N B S) (hG : GF mst mgf mqf n N B S) {t c : Nat} (ht : t < n) (hc : c < 676) {f : Nat → Int32} (hf : MF kw kh f) (hfc : f c = 1) {g9 g10 : Nat → Int32} {v3 : Nat} (hv : v3 < 3000) (e9 : g9 v3 = nI t) (e10 : g10 v3 = nI c) : f_M_prune_L203 mgf mqf g9 g10 (nI v3) FU (nI (B t), f) = (nI (B (t + 1)), cf S (B t) c f (B (t + 1) - B t)) ∧ f_M_prune_L203_z mgf mqf g9 g10 (nI v3) FU (nI (B t), f) := by
  have hkk : kw * kh ≤ 576 := Nat.mul_le_mul hw hh
  have ha := ar_le hw hh
  have h3 := hK.2.2.1 t ht
  have h2 := hK.2.1
  have h1 := hK.1
  have vv3 : vp_in (nI v3) 3000 := vp_in_nI hv (by omega)
  have vt : vp_in (nI t + 1) 3000 := by rw [nI_1]; exact vp_in_nI (by omega) (by omega)
  have eg : mgf (t + 1) = nI (B (t + 1)) := hG.2.1 (t + 1) (by omega)
  obtain ⟨s', e, hI, hz⟩ := lu_z (F := f_M_prune_L203 mgf mqf g9 g10 (nI v3)) (Fz := f_M_prune_L203_z mgf mqf g9 g10 (nI v3)) (fun k u => u = cf S (B t) c f (k - B t)) (B (t + 1))
    (fun u _ m => by
      rw [f_M_prune_L203, f_M_prune_L203_z, nI_clamp (by omega), e9, nI_1, nI_clamp (by omega), eg, if_pos (nI_le (Nat.le_refl _) (by omega)), if_pos (nI_le (Nat.le_refl _) (by omega))]
      rw [nI_1] at vt
      exact ⟨rfl, vv3, vt, trivial⟩) (a := B t)
    (fun k u hk1 hk2 hu => by
      subst hu
      have eq : mqf k = nI (S k) := hG.2.2 k (by omega)
      have hi := inn_A (kn_inn hM hK (k := k) (by omega))
      have hcc : nI (S k) = nI c ↔ S k = c := nI_eq (by omega) (by omega)
      have vk : vp_in (nI k) 9000 := vp_in_nI (by omega) (by omega)
      have vs : vp_in (nI (S k)) 676 := vp_in_nI (by omega) (by omega)
      refine ⟨_, rfl, fun m => ?_⟩
      rw [show k + 1 - B t = (k - B t) + 1 by omega, cf, show B t + (k - B t) = k by omega]
      rw [f_M_prune_L203, f_M_prune_L203_z, nI_clamp (by omega), e9, e10, nI_1, nI_clamp (by omega), eg, if_neg (nI_ge hk2 (by omega)), if_neg (nI_ge hk2 (by omega)), nI_clamp (by omega), eq, nI_clamp (by omega), nI_1, nb_0, nb_1]
      rw [nI_1] at vt
      by_cases cc : S k = c
      · rw [if_pos (hcc.mpr cc), if_pos (hcc.mpr cc), if_pos cc]
        have eu : upd (cf S (B t) c f (k - B t)) (S k) 1 = cf S (B t) c f (k - B t) := by
          funext q
          by_cases x : q = S k
          · rw [x, pk_us, cc, cf_c, hfc]
          · rw [pk_un x]
        rw [eu]
        exact ⟨rfl, fun hz => ⟨vv3, vt, vk, vk, vv3, vs, hz⟩⟩
      · rw [if_neg (fun x => cc (hcc.mp x)), if_neg (fun x => cc (hcc.mp x)), if_neg cc]
        exact ⟨rfl, fun hz => ⟨vv3, vt, vk, vk, vv3, vs, hz⟩⟩)
    (by omega) (n := FU) (lt_FU (by omega)) (s := f) (by rw [Nat.sub_self]; rfl)
  rw [hI] at e
  exact ⟨e, hz⟩
/-- the reference: all that is short -/
theorem mcutall {mgf mqf : Nat → Int32} {mst : Int32} (hM : MF kw kh mf) (hw : kw ≤ 24) (hh : kh ≤ 24) (hK : KN kw kh mf n N B S) (hG : GF mst mgf mqf n N B S) {P : Nat} (hP : P ≤ 600) {g9 g10 : Nat → Int32} (hc : ∀ (k : Nat) (p : Nat × Nat), (cuts (kw + 2) mf B S P n)[k]? = some p → g9 k = nI p.1 ∧ g10 k = nI p.2) : ∃ v, f_M_prune_L168 (nI (kw + 2)) mgf mqf g9 g10 (nI (cuts (kw + 2) mf B S P n).length) FU (0, 0, mf) = (v, nI ((cuts (kw + 2) mf B S P n).foldl (pst (kw + 2) B S) (0, mf)).1, ((cuts (kw + 2) mf B S P n).foldl (pst (kw + 2) B S) (0, mf)).2) ∧ f_M_prune_L168_z (nI (kw + 2)) mgf mqf g9 g10 (nI (cuts (kw + 2) mf B S P n).length) FU (0, 0, mf) := by
  have hkk : kw * kh ≤ 576 := Nat.mul_le_mul hw hh
  have ha := ar_le hw hh
  have h2 := hK.2.1
  have h1 := hK.1
  have hcl := cuts_len (W := kw + 2) (mf := mf) (B := B) (S := S) (P := P) n
  have hmem : ∀ (k : Nat) (p : Nat × Nat), (cuts (kw + 2) mf B S P n)[k]? = some p → p.1 < n ∧ lo (kw + 2) mf B S p.1 = some p.2 := fun k p h => cuts_mem (List.mem_of_getElem? h)
  generalize cuts (kw + 2) mf B S P n = L at *
  obtain ⟨s', e, hI, hz⟩ := lu_0z (F := f_M_prune_L168 (nI (kw + 2)) mgf mqf g9 g10 (nI L.length)) (Fz := f_M_prune_L168_z (nI (kw + 2)) mgf mqf g9 g10 (nI L.length)) (fun j u => u = (nI ((L.take j).foldl (pst (kw + 2) B S) (0, mf)).1, ((L.take j).foldl (pst (kw + 2) B S) (0, mf)).2)) L.length (by omega)
    (fun u _ m => by
      obtain ⟨u1, u2⟩ := u
      rw [f_M_prune_L168, f_M_prune_L168_z, if_pos (nI_le (Nat.le_refl _) (by omega)), if_pos (nI_le (Nat.le_refl _) (by omega))]
      exact ⟨rfl, trivial⟩)
    (fun j u hj hu => by
      subst hu
      have ei : L.take (j + 1) = L.take j ++ [L[j]] := by rw [List.take_append_getElem]
      have hMF : MF kw kh ((L.take j).foldl (pst (kw + 2) B S) (0, mf)).2 := MF_psts _ _ hM
      have hget : L[j]? = some L[j] := List.getElem?_eq_getElem hj
      obtain ⟨e9, e10⟩ := hc j _ hget
      obtain ⟨m1, m2⟩ := hmem j _ hget
      refine ⟨_, rfl, fun m => ?_⟩
      rw [ei, List.foldl_append]
      simp only [List.foldl_cons, List.foldl_nil]
      generalize (L.take j).foldl (pst (kw + 2) B S) (0, mf) = p at hMF ⊢
      obtain ⟨g, f⟩ := p
      generalize L[j] = tc at *
      obtain ⟨t, c⟩ := tc
      try dsimp only at e9 e10 m1 m2 hMF ⊢
      have hci := inn_A (lo_inn hM m2)
      obtain ⟨ed, zd⟩ := mdeg hMF hw hh (q := c) (by omega)
      have vj : vp_in (nI j) 3000 := vp_in_nI (by omega) (by omega)
      have vt : vp_in (nI t) 3000 := vp_in_nI (by omega) (by omega)
      have h3 := hK.2.2.1 t m1
      have egt : mgf t = nI (B t) := hG.2.1 t (by omega)
      obtain ⟨es, zs⟩ := msize hw hh hK hG m1
      rw [f_M_prune_L168, f_M_prune_L168_z, if_neg (nI_ge hj (by omega)), if_neg (nI_ge hj (by omega)), nI_clamp (by omega), e9, e10, ed, nI_clamp (by omega), egt, pst]
      by_cases c3 : 3 ≤ dg (kw + 2) f c
      · have hf0 : f c ≠ 0 := fun x => by rw [dg0 x] at c3; omega
        obtain ⟨e2, z2⟩ := mcut hM hw hh hK hG m1 (by omega) hMF ((hMF.1 c).resolve_left hf0) (v3 := j) (by omega) e9 e10
        have hn3 : ¬ nI (dg (kw + 2) f c) < 3 := fun x => by have := dg3.mp x; omega
        rw [if_neg hn3, if_neg hn3, e2, f_M_prune_k203, f_M_prune_k203_z, nI_clamp (by omega), e9, es, if_pos c3, show nI (B (t + 1) - B t) - 1 = nI (B (t + 1) - B t - 1) from pk_sub (b := 1) (by omega), nI_add, nI_1]
        exact ⟨rfl, fun hz => ⟨vj, zd, vj, vt, z2, vj, zs, hz⟩⟩
      · have hn3 : nI (dg (kw + 2) f c) < 3 := dg3.mpr (by omega)
        rw [if_pos hn3, if_pos hn3, if_neg c3, nI_1]
        exact ⟨rfl, fun hz => ⟨vj, zd, hz⟩⟩)
    (s := (0, mf)) rfl
  rw [List.take_length] at hI
  subst hI
  exact ⟨_, e, hz⟩
end
