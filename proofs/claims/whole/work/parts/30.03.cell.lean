/-! own: what class and reference say of one sample -/
def rd (W : Nat) (mf : Nat → Int32) (q : Nat) : Nat := b8 (decide (mf (nbr W q 0) = 1)) (decide (mf (nbr W q 1) = 1)) (decide (mf (nbr W q 2) = 1)) (decide (mf (nbr W q 3) = 1)) (decide (mf (nbr W q 4) = 1)) (decide (mf (nbr W q 5) = 1)) (decide (mf (nbr W q 6) = 1)) (decide (mf (nbr W q 7) = 1))
theorem rd_lt (W : Nat) (mf : Nat → Int32) (q : Nat) : rd W mf q < 256 := (rnd_tab _ _ _ _ _ _ _ _).1
theorem rd_gr {mf : Nat → Int32} (h : ∀ q, mf q = 0 ∨ mf q = 1) (W q : Nat) : ∀ d, d < 8 → mf (nbr W q d) = gr (rd W mf q) d := by
  obtain ⟨-, t0, t1, t2, t3, t4, t5, t6, t7⟩ := rnd_tab (decide (mf (nbr W q 0) = 1)) (decide (mf (nbr W q 1) = 1)) (decide (mf (nbr W q 2) = 1)) (decide (mf (nbr W q 3) = 1)) (decide (mf (nbr W q 4) = 1)) (decide (mf (nbr W q 5) = 1)) (decide (mf (nbr W q 6) = 1)) (decide (mf (nbr W q 7) = 1))
  have key : ∀ d, (rd W mf q).testBit d = decide (mf (nbr W q d) = 1) → mf (nbr W q d) = gr (rd W mf q) d := fun d t => by
    unfold gr
    rw [t]
    rcases h (nbr W q d) with e | e <;> rw [e] <;> decide
  exact c8 (key 0 t0) (key 1 t1) (key 2 t2) (key 3 t3) (key 4 t4) (key 5 t5) (key 6 t6) (key 7 t7)
/-- the reference's array of samples: noughts and ones, none beyond the picture -/
def MF (kw kh : Nat) (mf : Nat → Int32) : Prop := (∀ q, mf q = 0 ∨ mf q = 1) ∧ ∀ q, ¬ inn kw kh q → mf q = 0
theorem SM.mf {kw kh : Nat} {sf mf : Nat → Int32} (h : SM kw kh sf mf) : MF kw kh mf := ⟨h.b01, h.2.2⟩
theorem MF.inn {kw kh : Nat} {mf : Nat → Int32} (h : MF kw kh mf) {q : Nat} (hq : ¬ mf q = 0) : inn kw kh q := Classical.byContradiction fun c => hq (h.2 q c)
theorem k8 {k : Nat} (h : k ≤ 8) : (8 : Int32) ≤ nI k ↔ k = 8 := by
  show nI 8 ≤ nI k ↔ _
  rw [nI_leI (by omega) (by omega)]; omega
-- the class
theorem cround {kw kh : Nat} {sf mf : Nat → Int32} (h : SM kw kh sf mf) (hw : kw ≤ 24) (hh : kh ≤ 24) {x y : Nat} (hx : x < kw) (hy : y < kh) : f_S_blackRound (nI kw) (nI kh) sf (nI x) (nI y) = nI (rd (kw + 2) mf (lin kw x y)) := by
  have key : ∀ n k v, k ≤ 8 → f_S_blackRound_L5 (nI kw) (nI kh) sf (nI x) (nI y) n (nI k, v) = al_round (gr (rd (kw + 2) mf (lin kw x y))) n (nI k, v) := by
    intro n
    induction n with
    | zero => intro k v hk; rfl
    | succ n ih =>
      intro k v hk
      rw [f_S_blackRound_L5, al_round]
      by_cases h8 : (8 : Int32) ≤ nI k
      · rw [if_pos h8, if_pos h8]
      · have hk8 : k < 8 := by rw [k8 hk] at h8; omega
        rw [if_neg h8, if_neg h8, nI_clamp (by omega), h.nb hw hh hx hy hk8, rd_gr h.b01 _ _ k hk8, nI_1, ih _ _ (by omega), ih _ _ (by omega)]
  have e := key FU 0 0 (by omega)
  rw [nI_0] at e
  rw [f_S_blackRound, e, t_round ⟨_, rd_lt _ _ _⟩]
  rfl
theorem clinks {kw kh : Nat} {sf mf : Nat → Int32} (h : SM kw kh sf mf) (hw : kw ≤ 24) (hh : kh ≤ 24) {x y : Nat} (hx : x < kw) (hy : y < kh) : f_S_linksAt (nI kw) (nI kh) sf (nI x) (nI y) = if mf (lin kw x y) = 0 then 0 else nI (lby (rd (kw + 2) mf (lin kw x y))) := by
  rw [f_S_linksAt, h.blk hw hh hx hy, cround h hw hh hx hy, t_links ⟨_, rd_lt _ _ _⟩]
-- the reference
section
variable {kw kh : Nat} {mf : Nat → Int32}
theorem inn_676 {q : Nat} (hw : kw ≤ 24) (hh : kh ≤ 24) (hi : inn kw kh q) : q < 676 := by
  have h1 := inn_lt hi
  have h2 := ar_le hw hh
  omega
theorem mround (hM : MF kw kh mf) (hw : kw ≤ 24) (hh : kh ≤ 24) {q : Nat} (hi : inn kw kh q) : f_M_blackRound (nI (kw + 2)) mf (nI q) = f_bitCount (nI (rd (kw + 2) mf q)) ∧ z_M_blackRound (nI (kw + 2)) mf (nI q) := by
  have key : ∀ n k v, k ≤ 8 → f_M_blackRound_L4 (nI (kw + 2)) mf (nI q) n (nI k, v) = al_cnt (gr (rd (kw + 2) mf q)) n (nI k, v) ∧ (8 - k < n → f_M_blackRound_L4_z (nI (kw + 2)) mf (nI q) n (nI k, v)) := by
    intro n
    induction n with
    | zero => intro k v hk; exact ⟨rfl, fun h => by omega⟩
    | succ n ih =>
      intro k v hk
      rw [f_M_blackRound_L4, al_cnt, f_M_blackRound_L4_z]
      by_cases h8 : (8 : Int32) ≤ nI k
      · rw [if_pos h8, if_pos h8, if_pos h8]; exact ⟨rfl, fun _ => trivial⟩
      · have hk8 : k < 8 := by rw [k8 hk] at h8; omega
        rw [if_neg h8, if_neg h8, if_neg h8, nI_clamp (by omega), mblk hw hh mf hi (by omega), Nat.mod_eq_of_lt hk8, rd_gr hM.1 _ _ k hk8, nI_1, (ih _ _ (by omega)).1, (ih _ _ (by omega)).1]
        refine ⟨rfl, fun hn => ⟨zblk hw hh hM.1 hi (by omega), ?_⟩⟩
        split
        · exact (ih _ _ (by omega)).2 (by omega)
        · exact (ih _ _ (by omega)).2 (by omega)
  have e := key FU 0 0 (by omega)
  rw [nI_0] at e
  have e2 := e.2 (by unfold FU; omega)
  refine ⟨?_, e2, ?_⟩
  · rw [f_M_blackRound, e.1, t_cnt ⟨_, rd_lt _ _ _⟩]
    rfl
  · rw [e.1, t_cnt ⟨_, rd_lt _ _ _⟩]; trivial
theorem msimple (hM : MF kw kh mf) (hw : kw ≤ 24) (hh : kh ≤ 24) {q : Nat} (hi : inn kw kh q) : f_M_isSimple (nI (kw + 2)) mf (nI q) = f_H_isSimple (nI (rd (kw + 2) mf q)) ∧ z_M_isSimple (nI (kw + 2)) mf (nI q) := by
  have key : ∀ n k v, k ≤ 4 → f_M_isSimple_L4 (nI (kw + 2)) mf (nI q) n (nI (2 * k), v) = al_simple (gr (rd (kw + 2) mf q)) n (nI (2 * k), v) ∧ (4 - k < n → f_M_isSimple_L4_z (nI (kw + 2)) mf (nI q) n (nI (2 * k), v)) := by
    intro n
    induction n with
    | zero => intro k v hk; exact ⟨rfl, fun h => by omega⟩
    | succ n ih =>
      intro k v hk
      rw [f_M_isSimple_L4, al_simple, f_M_isSimple_L4_z]
      by_cases h8 : (8 : Int32) ≤ nI (2 * k)
      · rw [if_pos h8, if_pos h8, if_pos h8]; exact ⟨rfl, fun _ => trivial⟩
      · have hk8 : 2 * k < 8 := by rw [k8 (by omega)] at h8; omega
        have e1 : nI (2 * k) + 1 = nI (2 * k + 1) := nI_1 _
        have e2 : nI (2 * k) + 2 = nI (2 * (k + 1)) := nI_add (2 * k) 2
        have b0 : f_M_black (nI (kw + 2)) mf (nI q) (nI (2 * k)) = gr (rd (kw + 2) mf q) (2 * k) := by rw [mblk hw hh mf hi (by omega), Nat.mod_eq_of_lt hk8, rd_gr hM.1 _ _ _ hk8]
        have b1 : f_M_black (nI (kw + 2)) mf (nI q) (nI (2 * k + 1)) = gr (rd (kw + 2) mf q) ((2 * k + 1) % 8) := by rw [mblk hw hh mf hi (by omega), rd_gr hM.1 _ _ _ (Nat.mod_lt _ (by omega))]
        have b2 : f_M_black (nI (kw + 2)) mf (nI q) (nI (2 * (k + 1))) = gr (rd (kw + 2) mf q) ((2 * k + 2) % 8) := by rw [mblk hw hh mf hi (by omega), rd_gr hM.1 _ _ _ (Nat.mod_lt _ (by omega))]; rfl
        rw [if_neg h8, if_neg h8, if_neg h8, nI_clamp (by omega), e1, e2, b0, b1, b2, (ih _ _ (by omega)).1, (ih _ _ (by omega)).1]
        have i0 := fun v hn => (ih (k + 1) v (by omega)).2 hn
        refine ⟨rfl, fun hn => ⟨zblk hw hh hM.1 hi (by omega), ?_⟩⟩
        split
        · refine ⟨zblk hw hh hM.1 hi (by omega), ?_⟩
          split
          · refine ⟨zblk hw hh hM.1 hi (by omega), ?_⟩
            split
            · exact i0 _ (by omega)
            · exact i0 _ (by omega)
          · exact i0 _ (by omega)
        · exact i0 _ (by omega)
  have e := key FU 0 0 (by omega)
  rw [show nI (2 * 0) = 0 from nI_0] at e
  refine ⟨?_, e.2 (by unfold FU; omega), ?_⟩
  · rw [f_M_isSimple, e.1, t_simple ⟨_, rd_lt _ _ _⟩]
  · rw [e.1]
    generalize al_simple _ _ _ = z
    obtain ⟨a, b⟩ := z
    show if b = 1 then True else True
    split <;> trivial
theorem mmay (hM : MF kw kh mf) (hw : kw ≤ 24) (hh : kh ≤ 24) {q : Nat} (hq : q < 676) : f_M_mayGo (nI (kw + 2)) mf (nI q) = (if mf q = 0 then 0 else f_H_mayGo (nI (rd (kw + 2) mf q))) ∧ z_M_mayGo (nI (kw + 2)) mf (nI q) := by
  rw [f_M_mayGo, z_M_mayGo, nI_clamp (by omega)]
  by_cases h0 : mf q = 0
  · rw [if_pos h0, if_pos h0, if_pos h0]
    exact ⟨rfl, vp_in_nI hq (by omega), trivial⟩
  · have hi := hM.inn h0
    obtain ⟨a1, a2⟩ := mround hM hw hh hi
    obtain ⟨b1, b2⟩ := msimple hM hw hh hi
    rw [if_neg h0, if_neg h0, if_neg h0, a1, b1, f_H_mayGo]
    refine ⟨rfl, vp_in_nI hq (by omega), a2, ?_⟩
    split
    · trivial
    · refine ⟨b2, ?_⟩
      split <;> trivial
theorem rem2 {e : Nat} (h : e < 1000) : nI e - nI e / 2 * 2 = nI (e % 2) := pk_rem (a := e) (d := 2) (by omega) (by omega) (by omega)
theorem gr0 (r d : Nat) : gr r d = 0 ↔ r.testBit d = false := by
  unfold gr
  cases r.testBit d <;> simp
theorem mlinked (hM : MF kw kh mf) (hw : kw ≤ 24) (hh : kh ≤ 24) {q d : Nat} (hq : q < 676) (hd : d < 8) : f_M_isLinked (nI (kw + 2)) mf (nI q) (nI d) = (if mf q = 0 then 0 else lnkI (rd (kw + 2) mf q) d) ∧ z_M_isLinked (nI (kw + 2)) mf (nI q) (nI d) := by
  have e2 : (nI d - nI d / 2 * 2 = 1) ↔ d % 2 = 1 := by
    rw [rem2 (by omega)]
    show nI (d % 2) = nI 1 ↔ _
    rw [nI_eq (by omega) (by omega)]
  rw [f_M_isLinked, z_M_isLinked, nI_clamp (by omega)]
  by_cases h0 : mf q = 0
  · simp only [if_pos h0]
    have v : vp_in (nI q) 676 := vp_in_nI hq (by omega)
    split
    · exact ⟨rfl, v, trivial⟩
    · exact ⟨rfl, v, trivial⟩
  · have hi := hM.inn h0
    have v : vp_in (nI q) 676 := vp_in_nI hq (by omega)
    have b0 : f_M_black (nI (kw + 2)) mf (nI q) (nI d) = gr (rd (kw + 2) mf q) d := by rw [mblk hw hh mf hi (by omega), Nat.mod_eq_of_lt hd, rd_gr hM.1 _ _ _ hd]
    have b7 : f_M_black (nI (kw + 2)) mf (nI q) (nI d + 7) = gr (rd (kw + 2) mf q) ((d + 7) % 8) := by
      rw [show nI d + 7 = nI (d + 7) from nI_add d 7, mblk hw hh mf hi (by omega), rd_gr hM.1 _ _ _ (Nat.mod_lt _ (by omega))]
    have b1 : f_M_black (nI (kw + 2)) mf (nI q) (nI d + 1) = gr (rd (kw + 2) mf q) ((d + 1) % 8) := by
      rw [nI_1, mblk hw hh mf hi (by omega), rd_gr hM.1 _ _ _ (Nat.mod_lt _ (by omega))]
    have z0 : z_M_black (nI (kw + 2)) mf (nI q) (nI d) := zblk hw hh hM.1 hi (by omega)
    have z7 : z_M_black (nI (kw + 2)) mf (nI q) (nI d + 7) := by rw [show nI d + 7 = nI (d + 7) from nI_add d 7]; exact zblk hw hh hM.1 hi (by omega)
    have z1 : z_M_black (nI (kw + 2)) mf (nI q) (nI d + 1) := by rw [nI_1]; exact zblk hw hh hM.1 hi (by omega)
    simp only [if_neg h0, b0, b7, b1, gr0, e2]
    refine ⟨?_, ?_⟩
    · unfold lnkI lnk
      rcases Nat.mod_two_eq_zero_or_one d with e | e
      · rw [e]
        cases (rd (kw + 2) mf q).testBit d <;> simp
      · rw [e]
        cases (rd (kw + 2) mf q).testBit d <;> cases (rd (kw + 2) mf q).testBit ((d + 7) % 8) <;> cases (rd (kw + 2) mf q).testBit ((d + 1) % 8) <;> simp
    · split
      · refine ⟨v, z0, ?_⟩
        split
        · trivial
        · refine ⟨z7, ?_⟩
          split
          · refine ⟨z1, ?_⟩
            split <;> trivial
          · trivial
      · refine ⟨v, z0, ?_⟩
        split <;> trivial
/-- how many links a sample has -/
def dg (W : Nat) (mf : Nat → Int32) (q : Nat) : Nat := if mf q = 0 then 0 else dgr (rd W mf q)
/-- linked in direction d -/
def lk (W : Nat) (mf : Nat → Int32) (q d : Nat) : Bool := if mf q = 0 then false else lnk (rd W mf q) d
theorem mlk (hM : MF kw kh mf) (hw : kw ≤ 24) (hh : kh ≤ 24) {q d : Nat} (hq : q < 676) (hd : d < 8) : f_M_isLinked (nI (kw + 2)) mf (nI q) (nI d) = if lk (kw + 2) mf q d then 1 else 0 := by
  rw [(mlinked hM hw hh hq hd).1, lk, lnkI]
  by_cases h : mf q = 0
  · rw [if_pos h, if_pos h]; rfl
  · rw [if_neg h, if_neg h]
theorem mdeg (hM : MF kw kh mf) (hw : kw ≤ 24) (hh : kh ≤ 24) {q : Nat} (hq : q < 676) : f_M_degree (nI (kw + 2)) mf (nI q) = nI (dg (kw + 2) mf q) ∧ z_M_degree (nI (kw + 2)) mf (nI q) := by
  have key : ∀ n k v, k ≤ 8 → f_M_degree_L4 (nI (kw + 2)) mf (nI q) n (nI k, v) = al_cnt (fun d => if mf q = 0 then 0 else lnkI (rd (kw + 2) mf q) d) n (nI k, v) ∧ (8 - k < n → f_M_degree_L4_z (nI (kw + 2)) mf (nI q) n (nI k, v)) := by
    intro n
    induction n with
    | zero => intro k v hk; exact ⟨rfl, fun h => by omega⟩
    | succ n ih =>
      intro k v hk
      rw [f_M_degree_L4, al_cnt, f_M_degree_L4_z]
      by_cases h8 : (8 : Int32) ≤ nI k
      · rw [if_pos h8, if_pos h8, if_pos h8]; exact ⟨rfl, fun _ => trivial⟩
      · have hk8 : k < 8 := by rw [k8 hk] at h8; omega
        obtain ⟨a1, a2⟩ := mlinked hM hw hh hq hk8
        rw [if_neg h8, if_neg h8, if_neg h8, nI_clamp (by omega), a1, nI_1, (ih _ _ (by omega)).1, (ih _ _ (by omega)).1]
        refine ⟨rfl, fun hn => ⟨a2, ?_⟩⟩
        generalize (if mf q = 0 then (0 : Int32) else lnkI (rd (kw + 2) mf q) k) = z
        split
        · exact (ih _ _ (by omega)).2 (by omega)
        · exact (ih _ _ (by omega)).2 (by omega)
  have e := key FU 0 0 (by omega)
  rw [nI_0] at e
  refine ⟨?_, e.2 (by unfold FU; omega), ?_⟩
  · rw [f_M_degree, e.1, dg]
    by_cases h0 : mf q = 0
    · simp only [if_pos h0]
      decide +kernel
    · simp only [if_neg h0]
      rw [show (fun d => lnkI (rd (kw + 2) mf q) d) = lnkI (rd (kw + 2) mf q) from rfl, t_deg ⟨_, rd_lt _ _ _⟩]
      rfl
  · generalize f_M_degree_L4 _ _ _ _ _ = z
    obtain ⟨a, b⟩ := z
    trivial
end
