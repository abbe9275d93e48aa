/-! own: the strokes: links, and a walk along them -/
def fsd (p : Nat → Bool) : Nat → Nat → Nat
  | 0, d => d
  | k + 1, d => if p d then d else fsd p k (d + 1)
theorem fsd_le (p : Nat → Bool) : ∀ k d, d ≤ fsd p k d ∧ fsd p k d ≤ d + k
  | 0, d => ⟨Nat.le_refl _, Nat.le_refl _⟩
  | k + 1, d => by
    have := fsd_le p k (d + 1)
    rw [fsd]
    split <;> omega
theorem fsd_p (p : Nat → Bool) : ∀ k d, fsd p k d < d + k → p (fsd p k d) = true
  | 0, d => fun h => by rw [fsd] at h; omega
  | k + 1, d => by
    rw [fsd]
    split
    · intro _; assumption
    · intro h; exact fsd_p p k (d + 1) (by omega)
theorem fsd_min (p : Nat → Bool) : ∀ k d e, d ≤ e → e < fsd p k d → p e = false
  | 0, d, e => fun h1 h2 => by rw [fsd] at h2; omega
  | k + 1, d, e => by
    rw [fsd]
    split
    · intro h1 h2; omega
    · rename_i hp
      intro h1 h2
      by_cases e' : e = d
      · rw [e', Bool.eq_false_iff]; exact hp
      · exact fsd_min p k (d + 1) e (by omega) h2
theorem fsd_congr {p q : Nat → Bool} : ∀ k d, (∀ e, d ≤ e → e < d + k → p e = q e) → fsd p k d = fsd q k d
  | 0, d => fun _ => rfl
  | k + 1, d => fun h => by
    rw [fsd, fsd, h d (Nat.le_refl _) (by omega), fsd_congr k (d + 1) (fun e h1 h2 => h e (by omega) (by omega))]
abbrev fst8 (p : Nat → Bool) : Nat := fsd p 8 0
theorem fst8_lt {p : Nat → Bool} {d : Nat} (hd : d < 8) (h : p d = true) : fst8 p < 8 ∧ p (fst8 p) = true := by
  have h1 := fsd_le p 8 0
  have h2 : fsd p 8 0 ≤ d := Nat.le_of_not_lt fun c => by rw [fsd_min p 8 0 d (by omega) c] at h; cases h
  have h3 : fsd p 8 0 < 8 := by omega
  exact ⟨h3, fsd_p p 8 0 (by omega)⟩
theorem fst8_8 {p : Nat → Bool} (h : ∀ d, d < 8 → p d = false) : fst8 p = 8 := by
  have h1 := fsd_le p 8 0
  show fsd p 8 0 = 8
  refine Nat.le_antisymm (by omega) (Nat.le_of_not_lt fun c => ?_)
  have := fsd_p p 8 0 (by omega)
  rw [h _ c] at this; cases this
section
variable {kw kh : Nat} {mf : Nat → Int32}
theorem lk_iff (hM : MF kw kh mf) {W q d : Nat} (hd : d < 8) : lk W mf q d = true ↔ (mf q ≠ 0 ∧ mf (nbr W q d) ≠ 0 ∧ (d % 2 = 1 → mf (nbr W q ((d + 7) % 8)) = 0 ∧ mf (nbr W q ((d + 1) % 8)) = 0)) := by
  have tb : ∀ e, e < 8 → ((rd W mf q).testBit e = false ↔ mf (nbr W q e) = 0) := fun e he => by rw [rd_gr hM.1 W q e he, gr0]
  have h7 := tb ((d + 7) % 8) (Nat.mod_lt _ (by omega))
  have h1 := tb ((d + 1) % 8) (Nat.mod_lt _ (by omega))
  have h0 := tb d hd
  unfold lk
  by_cases hq : mf q = 0
  · rw [if_pos hq]
    exact ⟨fun h => (by cases h), fun h => absurd hq h.1⟩
  · rw [if_neg hq]
    unfold lnk
    rw [← h7, ← h1, ne_eq (mf (nbr W q d)) 0, ← h0]
    rcases Nat.mod_two_eq_zero_or_one d with e | e
    · rw [e]
      cases (rd W mf q).testBit d <;> simp [hq]
    · rw [e]
      cases (rd W mf q).testBit d <;> cases (rd W mf q).testBit ((d + 7) % 8) <;> cases (rd W mf q).testBit ((d + 1) % 8) <;> simp [hq]
theorem lk_inn (hM : MF kw kh mf) {W q d : Nat} (h : lk W mf q d = true) : inn kw kh q := hM.inn fun c => by
  unfold lk at h
  rw [if_pos c] at h; cases h
theorem nbr_back {q : Nat} (hi : inn kw kh q) : ∀ d, d < 8 → nbr (kw + 2) (nbr (kw + 2) q d) ((d + 4) % 8) = q := by
  have h := inn_lt hi
  refine c8 ?_ ?_ ?_ ?_ ?_ ?_ ?_ ?_ <;> simp only [nbr] <;> omega
theorem nbr_ne {q : Nat} (hi : inn kw kh q) : ∀ d, d < 8 → nbr (kw + 2) q d ≠ q := by
  have h := inn_lt hi
  refine c8 ?_ ?_ ?_ ?_ ?_ ?_ ?_ ?_ <;> simp only [nbr] <;> omega
theorem nbr_side {q : Nat} (hi : inn kw kh q) : ∀ d, d < 8 → d % 2 = 1 → nbr (kw + 2) (nbr (kw + 2) q d) (((d + 4) % 8 + 7) % 8) = nbr (kw + 2) q ((d + 1) % 8) ∧ nbr (kw + 2) (nbr (kw + 2) q d) (((d + 4) % 8 + 1) % 8) = nbr (kw + 2) q ((d + 7) % 8) := by
  have h := inn_lt hi
  refine c8 ?_ ?_ ?_ ?_ ?_ ?_ ?_ ?_ <;> intro c <;> first | (exact absurd c (by decide)) | (constructor <;> simp only [nbr] <;> omega)
theorem lk_sym (hM : MF kw kh mf) {q d : Nat} (hd : d < 8) (h : lk (kw + 2) mf q d = true) : lk (kw + 2) mf (nbr (kw + 2) q d) ((d + 4) % 8) = true := by
  have hi := lk_inn hM h
  have h' := (lk_iff hM hd).mp h
  refine (lk_iff hM (Nat.mod_lt _ (by omega))).mpr ⟨h'.2.1, ?_, fun c => ?_⟩
  · rw [nbr_back hi d hd]; exact h'.1
  · have s := nbr_side hi d hd (by omega)
    have t := h'.2.2 (by omega)
    rw [s.1, s.2]
    exact ⟨t.2, t.1⟩
end
theorem t_two : ∀ r : Fin 256, ∀ a : Fin 8, dgr r.val = 2 → lnk r.val a.val = true → fst8 (fun e => lnk r.val e && !decide (e = a.val)) < 8 ∧ ∀ e : Fin 8, lnk r.val e.val = true → e.val = a.val ∨ e.val = fst8 (fun e => lnk r.val e && !decide (e = a.val)) := by decide +kernel
theorem t_cntb : ∀ r : Fin 256, cntb (lnk r.val) 8 = dgr r.val := by decide +kernel
theorem dg_cnt (W : Nat) (mf : Nat → Int32) (q : Nat) : cntb (lk W mf q) 8 = dg W mf q := by
  unfold dg lk
  by_cases h : mf q = 0
  · simp only [if_pos h]; rfl
  · simp only [if_neg h]; exact t_cntb ⟨_, rd_lt _ _ _⟩
theorem dg_le (W : Nat) (mf : Nat → Int32) (q : Nat) : dg W mf q ≤ 4 := by
  unfold dg
  split
  · omega
  · exact t_dgr ⟨_, rd_lt _ _ _⟩
/-- the other way on of a sample with two links -/
def otw (W : Nat) (mf : Nat → Int32) (q a : Nat) : Nat := fst8 (fun e => lk W mf q e && !decide (e = a))
theorem otw_ok {W : Nat} {mf : Nat → Int32} {q a : Nat} (h2 : dg W mf q = 2) (ha : a < 8) (hl : lk W mf q a = true) : otw W mf q a < 8 ∧ lk W mf q (otw W mf q a) = true ∧ otw W mf q a ≠ a ∧ ∀ e, e < 8 → lk W mf q e = true → e = a ∨ e = otw W mf q a := by
  unfold otw
  by_cases h : mf q = 0
  · unfold lk at hl
    rw [if_pos h] at hl; cases hl
  · have el : lk W mf q = lnk (rd W mf q) := by funext e; unfold lk; rw [if_neg h]
    have ed : dg W mf q = dgr (rd W mf q) := by unfold dg; rw [if_neg h]
    rw [el] at hl ⊢
    rw [ed] at h2
    obtain ⟨t1, t2⟩ := t_two ⟨_, rd_lt W mf q⟩ ⟨a, ha⟩ h2 hl
    have t3 := fsd_p (fun e => lnk (rd W mf q) e && !decide (e = a)) 8 0 t1
    simp only [Bool.and_eq_true, Bool.not_eq_true', decide_eq_false_iff_not] at t3
    exact ⟨t1, t3.1, t3.2, fun e he h => t2 ⟨e, he⟩ h⟩
/-- one more taken -/
def stk (tk : Nat → Nat → Bool) (q d : Nat) : Nat → Nat → Bool := fun a b => (decide (a = q) && decide (b = d)) || tk a b
theorem stk_s (tk : Nat → Nat → Bool) (q d : Nat) : stk tk q d q d = true := by unfold stk; simp
theorem stk_n {tk : Nat → Nat → Bool} {q d a b : Nat} (h : ¬ (a = q ∧ b = d)) : stk tk q d a b = tk a b := by
  unfold stk
  have : (decide (a = q) && decide (b = d)) = false := by
    rw [Bool.eq_false_iff]; intro c
    simp only [Bool.and_eq_true, decide_eq_true_eq] at c
    exact h c
  rw [this]; rfl
theorem stk_mono {tk : Nat → Nat → Bool} {q d a b : Nat} (h : tk a b = true) : stk tk q d a b = true := by unfold stk; rw [h]; simp
/-- both ends of a link taken -/
def st2 (W : Nat) (tk : Nat → Nat → Bool) (q d : Nat) : Nat → Nat → Bool := stk (stk tk q d) (nbr W q d) ((d + 4) % 8)
/-- how many links of a sample are not taken -/
def ut (W : Nat) (mf : Nat → Int32) (tk : Nat → Nat → Bool) (q : Nat) : Nat := cntb (fun d => lk W mf q d && !tk q d) 8
/-- what is left to do; i: where the search for nodes is -/
def vv (W A : Nat) (mf : Nat → Int32) (i : Nat) (tk : Nat → Nat → Bool) : Nat := sumn (fun q => ut W mf tk q + if i ≤ q ∧ mf q ≠ 0 ∧ dg W mf q = 0 then 4 else 0) A
theorem sumn_one {f g : Nat → Nat} {k : Nat} (hk : g k + 1 = f k) (ho : ∀ j, j ≠ k → g j = f j) : ∀ n, k < n → sumn g n + 1 = sumn f n
  | 0, h => by omega
  | n + 1, h => by
    rw [sumn, sumn]
    by_cases e : k = n
    · subst e
      rw [sumn_congr (f := g) (g := f) (fun j hj => ho j (by omega))]; omega
    · have := sumn_one hk ho n (by omega)
      rw [ho n (by omega)]; omega
theorem vv_stk {W A : Nat} {mf : Nat → Int32} {i : Nat} {tk : Nat → Nat → Bool} {q d : Nat} (hq : q < A) (hd : d < 8) (hl : lk W mf q d = true) (ht : tk q d = false) : vv W A mf i (stk tk q d) + 1 = vv W A mf i tk := by
  unfold vv
  refine sumn_one (k := q) ?_ (fun j hj => ?_) A hq
  · have : ut W mf (stk tk q d) q + 1 = ut W mf tk q := by
      unfold ut
      refine cntb_one (k := d) ?_ ?_ (fun j hj => ?_) 8 hd
      · (try dsimp only); rw [hl, ht]; rfl
      · (try dsimp only); rw [stk_s]; simp
      · (try dsimp only); rw [stk_n (fun c => hj c.2)]
    omega
  · have : ut W mf (stk tk q d) j = ut W mf tk j := by
      unfold ut
      exact cntb_congr (fun e he => by rw [stk_n (fun c => hj c.1)])
    omega
/-- what is taken is taken from both ends -/
def TKI (W : Nat) (mf : Nat → Int32) (tk : Nat → Nat → Bool) : Prop := ∀ q d, tk q d = true → d < 8 ∧ lk W mf q d = true ∧ tk (nbr W q d) ((d + 4) % 8) = true
/-- samples with two links have both taken or none -/
def TK2 (W : Nat) (mf : Nat → Int32) (tk : Nat → Nat → Bool) (ex : Nat → Prop) : Prop := ∀ q, ¬ ex q → dg W mf q = 2 → ∀ a b, a < 8 → b < 8 → lk W mf q a = true → lk W mf q b = true → tk q a = tk q b
/-- all links of nodes are taken -/
def TKN (W : Nat) (mf : Nat → Int32) (tk : Nat → Nat → Bool) : Prop := ∀ q d, d < 8 → lk W mf q d = true → dg W mf q ≠ 2 → tk q d = true
/-- on the walk from st, at cur, about to go in direction d -/
def WI (W : Nat) (mf : Nat → Int32) (st cur d : Nat) (tk : Nat → Nat → Bool) : Prop :=
  d < 8 ∧ lk W mf cur d = true ∧ tk cur d = false ∧ TKI W mf tk ∧ TK2 W mf tk (fun q => q = cur ∨ q = st) ∧
  (cur ≠ st → dg W mf cur = 2 ∧ ∀ e, e < 8 → lk W mf cur e = true → e ≠ d → tk cur e = true) ∧
  (cur ≠ st → dg W mf st = 2 → ∃ a, a < 8 ∧ lk W mf st a = true ∧ tk st a = true ∧ ∀ e, e < 8 → lk W mf st e = true → e ≠ a → tk st e = false) ∧
  (cur = st → dg W mf st = 2 → ∀ e, e < 8 → lk W mf st e = true → tk st e = false) ∧ (dg W mf st = 2 → TKN W mf tk)
section
variable {kw kh : Nat} {mf : Nat → Int32} {st cur d : Nat} {tk : Nat → Nat → Bool}
theorem TKI_st2 (hM : MF kw kh mf) (h : TKI (kw + 2) mf tk) (hd : d < 8) (hl : lk (kw + 2) mf cur d = true) : TKI (kw + 2) mf (st2 (kw + 2) tk cur d) := by
  have hi := lk_inn hM hl
  have hs := lk_sym hM hd hl
  have hb := nbr_back hi d hd
  have hbb : ((d + 4) % 8 + 4) % 8 = d := by omega
  intro q e hq
  unfold st2 at hq ⊢
  by_cases c1 : q = nbr (kw + 2) cur d ∧ e = (d + 4) % 8
  · obtain ⟨rfl, rfl⟩ := c1
    refine ⟨Nat.mod_lt _ (by omega), hs, ?_⟩
    rw [hb, hbb]
    exact stk_mono (stk_s _ _ _)
  · rw [stk_n c1] at hq
    by_cases c2 : q = cur ∧ e = d
    · obtain ⟨rfl, rfl⟩ := c2
      exact ⟨hd, hl, stk_s _ _ _⟩
    · rw [stk_n c2] at hq
      obtain ⟨a, b, c⟩ := h q e hq
      exact ⟨a, b, stk_mono (stk_mono c)⟩
theorem st2_mono {W q e : Nat} (h : tk q e = true) : st2 W tk cur d q e = true := stk_mono (stk_mono h)
theorem TKN_st2 {W : Nat} (h : TKN W mf tk) : TKN W mf (st2 W tk cur d) := fun q e h1 h2 h3 => st2_mono (h q e h1 h2 h3)
/-- what one step does -/
theorem WI.step (hM : MF kw kh mf) (h : WI (kw + 2) mf st cur d tk) :
    inn kw kh cur ∧ inn kw kh (nbr (kw + 2) cur d) ∧ nbr (kw + 2) cur d ≠ cur ∧ tk (nbr (kw + 2) cur d) ((d + 4) % 8) = false ∧ lk (kw + 2) mf (nbr (kw + 2) cur d) ((d + 4) % 8) = true ∧
    (∀ i, vv (kw + 2) ((kw + 2) * (kh + 2)) mf i (st2 (kw + 2) tk cur d) + 2 = vv (kw + 2) ((kw + 2) * (kh + 2)) mf i tk) ∧ TKI (kw + 2) mf (st2 (kw + 2) tk cur d) ∧
    ((nbr (kw + 2) cur d = st ∧ dg (kw + 2) mf st = 2) → TK2 (kw + 2) mf (st2 (kw + 2) tk cur d) (fun _ => False)) ∧
    (¬ (nbr (kw + 2) cur d = st ∧ dg (kw + 2) mf st = 2) → dg (kw + 2) mf (nbr (kw + 2) cur d) ≠ 2 → TK2 (kw + 2) mf (st2 (kw + 2) tk cur d) (fun _ => False)) ∧
    (¬ (nbr (kw + 2) cur d = st ∧ dg (kw + 2) mf st = 2) → dg (kw + 2) mf (nbr (kw + 2) cur d) = 2 → WI (kw + 2) mf st (nbr (kw + 2) cur d) (otw (kw + 2) mf (nbr (kw + 2) cur d) ((d + 4) % 8)) (st2 (kw + 2) tk cur d)) := by
  obtain ⟨hd, hl, ht, hT, h2, hc, hs, hs0, hN⟩ := h
  have hi := lk_inn hM hl
  have hlo := lk_sym hM hd hl
  have hin := lk_inn hM hlo
  have hb := nbr_back hi d hd
  have hne := nbr_ne hi d hd
  have ho : (d + 4) % 8 < 8 := Nat.mod_lt _ (by omega)
  have hbb : ((d + 4) % 8 + 4) % 8 = d := by omega
  have hto : tk (nbr (kw + 2) cur d) ((d + 4) % 8) = false := by
    rw [Bool.eq_false_iff]; intro c
    have := (hT _ _ c).2.2
    rw [hb, hbb, ht] at this; cases this
  have hTI := TKI_st2 hM hT hd hl
  -- the new ones
  have e1 : st2 (kw + 2) tk cur d cur d = true := stk_mono (stk_s _ _ _)
  have e2 : st2 (kw + 2) tk cur d (nbr (kw + 2) cur d) ((d + 4) % 8) = true := stk_s _ _ _
  have e3 : ∀ q e, ¬ (q = cur ∧ e = d) → ¬ (q = nbr (kw + 2) cur d ∧ e = (d + 4) % 8) → st2 (kw + 2) tk cur d q e = tk q e := fun q e c1 c2 => by
    unfold st2
    rw [stk_n c2, stk_n c1]
  -- cur, if it is not the start, has all taken
  have hcur : cur ≠ st → ∀ e, e < 8 → lk (kw + 2) mf cur e = true → st2 (kw + 2) tk cur d cur e = true := fun c e he hle => by
    by_cases ce : e = d
    · rw [ce]; exact e1
    · exact st2_mono ((hc c).2 e he hle ce)
  -- the others
  have hoth : ∀ q, q ≠ cur → q ≠ st → q ≠ nbr (kw + 2) cur d → dg (kw + 2) mf q = 2 → ∀ a b, a < 8 → b < 8 → lk (kw + 2) mf q a = true → lk (kw + 2) mf q b = true → st2 (kw + 2) tk cur d q a = st2 (kw + 2) tk cur d q b := fun q c1 c2 c3 hq a b ha hb' hla hlb => by
    rw [e3 q a (fun c => c1 c.1) (fun c => c3 c.1), e3 q b (fun c => c1 c.1) (fun c => c3 c.1)]
    exact h2 q (fun c => c.elim c1 c2) hq a b ha hb' hla hlb
  refine ⟨hi, hin, hne, hto, hlo, fun i => ?_, hTI, ?_, ?_, ?_⟩
  · have v1 := vv_stk (W := kw + 2) (A := (kw + 2) * (kh + 2)) (mf := mf) (i := i) (inn_A hi) hd hl ht
    have v2 := vv_stk (W := kw + 2) (A := (kw + 2) * (kh + 2)) (mf := mf) (i := i) (tk := stk tk cur d) (inn_A hin) ho hlo (by rw [stk_n (fun c => hne c.1)]; exact hto)
    unfold st2
    omega
  · rintro ⟨c1, c2⟩ q - hq a b ha hb' hla hlb
    have ccs : cur ≠ st := fun c => hne (c1.trans c.symm)
    by_cases q1 : q = cur
    · subst q1; rw [hcur ccs a ha hla, hcur ccs b hb' hlb]
    · by_cases q2 : q = st
      · subst q2
        obtain ⟨a0, a1, a2, a3, a4⟩ := hs ccs c2
        rw [c1] at hto hlo e2
        have dif : (d + 4) % 8 ≠ a0 := fun c => by rw [c, a3] at hto; cases hto
        have all : ∀ e, e < 8 → lk (kw + 2) mf q e = true → st2 (kw + 2) tk cur d q e = true := by
          intro e he hle
          obtain ⟨-, -, -, o4⟩ := otw_ok c2 a1 a2
          have x1 := o4 ((d + 4) % 8) ho hlo
          have x2 := o4 e he hle
          rcases x2 with x2 | x2
          · rw [x2]; exact st2_mono a3
          · rcases x1 with x1 | x1
            · exact absurd x1 dif
            · rw [x2, ← x1]; exact e2
        rw [all a ha hla, all b hb' hlb]
      · exact hoth q q1 q2 (fun c => q2 (c.trans c1)) hq a b ha hb' hla hlb
  · intro c1 c2 q _ hq a b ha hb' hla hlb
    have qn : q ≠ nbr (kw + 2) cur d := fun c => c2 (by rw [← c]; exact hq)
    by_cases q1 : q = cur
    · subst q1
      by_cases q2 : q = st
      · subst q2
        have := hN hq _ _ ho hlo c2
        rw [hto] at this; cases this
      · rw [hcur q2 a ha hla, hcur q2 b hb' hlb]
    · by_cases q2 : q = st
      · subst q2
        have := hN hq _ _ ho hlo c2
        rw [hto] at this; cases this
      · exact hoth q q1 q2 qn hq a b ha hb' hla hlb
  · intro c1 c2
    have ns : nbr (kw + 2) cur d ≠ st := fun c => c1 ⟨c, by rw [← c]; exact c2⟩
    obtain ⟨o1, o2, o3, o4⟩ := otw_ok c2 ho hlo
    -- none was taken there
    have hnone : ∀ e, e < 8 → lk (kw + 2) mf (nbr (kw + 2) cur d) e = true → tk (nbr (kw + 2) cur d) e = false := fun e he hle => by
      rw [h2 _ (fun c => c.elim hne ns) c2 e _ he ho hle hlo]; exact hto
    refine ⟨o1, o2, ?_, hTI, ?_, fun _ => ⟨c2, fun e he hle hne' => ?_⟩, fun _ hst => ?_, fun c => absurd c ns, fun hst => TKN_st2 (hN hst)⟩
    · rw [e3 _ _ (fun c => hne c.1) (fun c => o3 c.2)]
      exact hnone _ o1 o2
    · intro q hq hq2 a b ha hb' hla hlb
      have qn : q ≠ nbr (kw + 2) cur d := fun c => hq (Or.inl c)
      have qs : q ≠ st := fun c => hq (Or.inr c)
      by_cases q1 : q = cur
      · subst q1
        rw [hcur qs a ha hla, hcur qs b hb' hlb]
      · exact hoth q q1 qs qn hq2 a b ha hb' hla hlb
    · rcases o4 e he hle with x | x
      · rw [x]; exact e2
      · exact absurd x hne'
    · by_cases cs : cur = st
      · refine ⟨d, hd, by rw [← cs]; exact hl, by rw [← cs]; exact e1, fun e he hle hne' => ?_⟩
        rw [e3 st e (fun c => hne' c.2) (fun c => ns c.1.symm)]
        exact hs0 cs hst e he hle
      · obtain ⟨a0, a1, a2, a3, a4⟩ := hs cs hst
        refine ⟨a0, a1, a2, st2_mono a3, fun e he hle hne' => ?_⟩
        rw [e3 st e (fun c => cs c.1.symm) (fun c => ns c.1.symm)]
        exact a4 e he hle hne'
end
