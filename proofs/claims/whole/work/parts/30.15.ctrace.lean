/-! own: the tracing of the class -/
theorem pl_lt {kw kh q : Nat} (hw : kw ≤ 24) (h : inn kw kh q) : pl kw q < kh * 32 := by
  obtain ⟨x, y, hx, hy, rfl⟩ := h
  rw [pl_lin hx]; omega
theorem pl_inj {kw kh q r : Nat} (hw : kw ≤ 24) (h : inn kw kh q) (h' : inn kw kh r) (e : pl kw q = pl kw r) : q = r := by
  obtain ⟨x, y, hx, hy, rfl⟩ := h
  obtain ⟨x', y', hx', hy', rfl⟩ := h'
  rw [pl_lin hx, pl_lin hx'] at e
  rw [show x = x' by omega, show y = y' by omega]
/-- the class's links -/
def CT (kw kh : Nat) (mf clf : Nat → Int32) : Prop := ∀ q, inn kw kh q → clf (pl kw q) = nI (if mf q = 0 then 0 else lby (rd (kw + 2) mf q))
/-- what the class has taken -/
def CTK (kw kh : Nat) (ctf : Nat → Int32) (tk : Nat → Nat → Bool) : Prop := ∀ q, inn kw kh q → ∃ m, m < 256 ∧ ctf (pl kw q) = nI m ∧ ∀ d, d < 8 → m.testBit d = tk q d
def CSQ (kw : Nat) (csf : Nat → Int32) (sq : List Nat) : Prop := ∀ n a, sq[n]? = some a → csf n = nI (pl kw a)
theorem t_setb : ∀ m : Fin 256, ∀ d : Fin 8, nI m.val ||| (1 <<< (nI d.val &&& 31)) = nI (m.val ||| 2 ^ d.val) ∧ m.val ||| 2 ^ d.val < 256 ∧ ∀ e : Fin 8, (m.val ||| 2 ^ d.val).testBit e.val = (decide (e.val = d.val) || m.val.testBit e.val) := by decide +kernel
theorem t_opp : ∀ d : Fin 8, f_opposite (nI d.val) = nI ((d.val + 4) % 8) := by decide +kernel
theorem t_and7 : ∀ d : Fin 8, (nI d.val &&& 7).toNatClampNeg = d.val := by decide +kernel
theorem t_fd : ∀ r : Fin 256, ∀ a : Fin 8, dgr r.val = 2 → lnk r.val a.val = true → f_C_firstDirection (nI (lby r.val) &&& ((1 <<< (nI a.val &&& 31)) ^^^ (-1))) = nI (fst8 (fun e => lnk r.val e && !decide (e = a.val))) := by decide +kernel
theorem t_fd2 : ∀ r : Fin 256, dgr r.val = 2 → f_C_firstDirection (nI (lby r.val)) = nI (fst8 (lnk r.val)) := by decide +kernel
section
variable {kw kh : Nat} {mf clf : Nat → Int32}
theorem clnk (hC : CT kw kh mf clf) (hw : kw ≤ 24) (hh : kh ≤ 24) {q : Nat} (hq : inn kw kh q) : f_C_linksOf (kh * 32) clf (nI (pl kw q)) = nI (if mf q = 0 then 0 else lby (rd (kw + 2) mf q)) := by
  have h := pl_lt hw hq
  rw [f_C_linksOf, if_neg (nI_pos (by omega)), if_neg (nI_ge h (by omega)), nI_clamp (by omega), hC q hq]
theorem cdeg (hC : CT kw kh mf clf) (hw : kw ≤ 24) (hh : kh ≤ 24) {q : Nat} (hq : inn kw kh q) : f_C_degreeOf (kh * 32) clf (nI (pl kw q)) = nI (dg (kw + 2) mf q) := by
  rw [f_C_degreeOf, clnk hC hw hh hq, dg]
  by_cases h : mf q = 0
  · rw [if_pos h, if_pos h]; decide +kernel
  · rw [if_neg h, if_neg h]; exact t_bits ⟨_, rd_lt _ _ _⟩
theorem ctkn {ctf : Nat → Int32} {tk : Nat → Nat → Bool} (hT : CTK kw kh ctf tk) (hw : kw ≤ 24) (hh : kh ≤ 24) {q : Nat} (hq : inn kw kh q) : ∃ m, m < 256 ∧ f_C_takenOf (kh * 32) ctf (nI (pl kw q)) = nI m ∧ ∀ d, d < 8 → m.testBit d = tk q d := by
  have h := pl_lt hw hq
  obtain ⟨m, m1, m2, m3⟩ := hT q hq
  refine ⟨m, m1, ?_, m3⟩
  rw [f_C_takenOf, if_neg (nI_pos (by omega)), if_neg (nI_ge h (by omega)), nI_clamp (by omega), m2]
theorem ctake {ctf : Nat → Int32} {tk : Nat → Nat → Bool} (hT : CTK kw kh ctf tk) (hw : kw ≤ 24) (hh : kh ≤ 24) {q d : Nat} (hq : inn kw kh q) (hd : d < 8) : CTK kw kh (f_C_take (kh * 32) ctf (nI (pl kw q)) (nI d)) (stk tk q d) := by
  have h := pl_lt hw hq
  obtain ⟨m, m1, m2, m3⟩ := hT q hq
  obtain ⟨t1, t2, t3⟩ := t_setb ⟨m, m1⟩ ⟨d, hd⟩
  try dsimp only at t1 t2 t3
  rw [f_C_take, if_neg (nI_pos (by omega)), if_neg (nI_ge h (by omega)), nI_clamp (by omega), m2, t1]
  intro r hr
  by_cases e : r = q
  · subst e
    refine ⟨_, t2, pk_us, fun e he => ?_⟩
    rw [t3 ⟨e, he⟩]
    try dsimp only
    by_cases c : e = d
    · subst c; rw [stk_s]; simp
    · rw [stk_n (fun h => c h.2), m3 e he]; simp [c]
  · obtain ⟨m', k1, k2, k3⟩ := hT r hr
    refine ⟨m', k1, ?_, fun e' he => ?_⟩
    · rw [pk_un (fun c => e (pl_inj hw hr hq c))]; exact k2
    · rw [stk_n (fun c => e c.1)]; exact k3 e' he
theorem cstep (hw : kw ≤ 24) (hh : kh ≤ 24) {q d : Nat} (hq : inn kw kh q) (hn : inn kw kh (nbr (kw + 2) q d)) (hd : d < 8) : f_C_stepFrom (nI (pl kw q)) (nI d) = nI (pl kw (nbr (kw + 2) q d)) := by
  obtain ⟨x, y, hx, hy, rfl⟩ := hq
  obtain ⟨a, b, ha, hb, e⟩ := hn
  obtain ⟨X, Y, hX, hY, e1, e2, e3⟩ := nb_pad hx hy d hd
  have hb' := rx_b ⟨d, hd⟩
  try dsimp only at hb'
  have h1 := lin_div (y := b) ha
  have h2 := lin_mod (y := b) ha
  rw [← e, ← e3, Nat.mul_comm, Nat.mul_add_div (by omega), Nat.div_eq_of_lt hX] at h1
  rw [← e, ← e3, Nat.mul_comm, Nat.mul_add_mod, Nat.mod_eq_of_lt hX] at h2
  have px : nI x + ts_rx d = nI a := Int32.toInt_inj.mp (by rw [nx_toInt (by omega) (by omega) (by omega), nI_toInt (by omega)]; omega)
  have py : nI y + ts_ry d = nI b := Int32.toInt_inj.mp (by rw [nx_toInt (by omega) (by omega) (by omega), nI_toInt (by omega)]; omega)
  rw [f_C_stepFrom, t_and7 ⟨d, hd⟩, pl_lin hx, col_eq (by omega) (by omega), row_eq (by omega) (by omega)]
  try dsimp only
  rw [px, py, pl_eq (by omega) (by omega), e, pl_lin ha]
theorem cotw (hC : CT kw kh mf clf) (hw : kw ≤ 24) (hh : kh ≤ 24) {q a : Nat} (hq : inn kw kh q) (h2 : dg (kw + 2) mf q = 2) (ha : a < 8) (hl : lk (kw + 2) mf q a = true) : f_C_firstDirection ((f_C_linksOf (kh * 32) clf (nI (pl kw q))) &&& ((1 <<< (nI a &&& 31)) ^^^ (-1))) = nI (otw (kw + 2) mf q a) := by
  have h0 : ¬ mf q = 0 := fun c => by
    unfold lk at hl
    rw [if_pos c] at hl; cases hl
  have el : lk (kw + 2) mf q = lnk (rd (kw + 2) mf q) := by funext e; unfold lk; rw [if_neg h0]
  unfold otw
  rw [clnk hC hw hh hq, if_neg h0, el]
  rw [el] at hl
  unfold dg at h2
  rw [if_neg h0] at h2
  exact t_fd ⟨_, rd_lt _ _ _⟩ ⟨a, ha⟩ h2 hl
theorem cfst (hC : CT kw kh mf clf) (hw : kw ≤ 24) (hh : kh ≤ 24) {q : Nat} (hq : inn kw kh q) (h2 : dg (kw + 2) mf q = 2) : f_C_firstDirection (f_C_linksOf (kh * 32) clf (nI (pl kw q))) = nI (fst8 (lk (kw + 2) mf q)) := by
  have h0 : ¬ mf q = 0 := fun c => by
    unfold dg at h2
    rw [if_pos c] at h2; cases h2
  have el : lk (kw + 2) mf q = lnk (rd (kw + 2) mf q) := by funext e; unfold lk; rw [if_neg h0]
  rw [clnk hC hw hh hq, if_neg h0, el]
  unfold dg at h2
  rw [if_neg h0] at h2
  exact t_fd2 ⟨_, rd_lt _ _ _⟩ h2
theorem CSQ.app {csf : Nat → Int32} {sq : List Nat} (h : CSQ kw csf sq) (a : Nat) : CSQ kw (upd csf sq.length (nI (pl kw a))) (sq ++ [a]) := fun n b hb => by
  rcases get_app hb with ⟨c1, c2⟩ | ⟨c1, c2⟩
  · rw [pk_un (by omega)]; exact h n b c2
  · rw [c1, pk_us, c2]
theorem cadd {K : Nat} (hK : K < 100000) {csf : Nat → Int32} {sq : List Nat} (hl : sq.length < K) (a : Nat) : f_C_addSample K csf (nI sq.length) (nI (pl kw a)) = (upd csf sq.length (nI (pl kw a)), nI (sq ++ [a]).length) := by
  rw [f_C_addSample, if_neg (nI_ge hl (by omega)), nI_clamp (by omega), nI_1, List.length_append]; rfl
theorem nI_dg {W q : Nat} : (nI (dg W mf q) = 2) ↔ dg W mf q = 2 := by
  have := dg_le W mf q
  show nI _ = nI 2 ↔ _
  exact nI_eq (by omega) (by omega)
theorem nI_dg0 {W q : Nat} : (nI (dg W mf q) = 0) ↔ dg W mf q = 0 := by
  have := dg_le W mf q
  show nI _ = nI 0 ↔ _
  exact nI_eq (by omega) (by omega)
theorem nI_pl (hw : kw ≤ 24) (hh : kh ≤ 24) {q r : Nat} (hq : inn kw kh q) (hr : inn kw kh r) : (nI (pl kw q) = nI (pl kw r)) ↔ q = r := by
  have h1 := pl_lt hw hq
  have h2 := pl_lt hw hr
  rw [nI_eq (by omega) (by omega)]
  exact ⟨fun h => pl_inj hw hq hr h, fun h => by rw [h]⟩
/-- one walk of the class -/
theorem cwalk (hM : MF kw kh mf) (hC : CT kw kh mf clf) (hw : kw ≤ 24) (hh : kh ≤ 24) {st i : Nat} (hst : inn kw kh st) (f4 : Nat → Int32) (csc : Int32) : ∀ (n v cur d : Nat) (tk : Nat → Nat → Bool) (sq : List Nat) (f2 f3 : Nat → Int32) (F : Nat), v + n = 4 * (kw * kh) → n < F → WI (kw + 2) mf st cur d tk → sq.length + vv (kw + 2) ((kw + 2) * (kh + 2)) mf i tk ≤ 4 * (kw * kh) + 1 → CTK kw kh f2 tk → CSQ kw f3 sq →
    ∃ v5 v4 v3 f2' f3', f_C_follow_L13 (kh * 32) clf (kh * 32) (4 * (kw * kh)) (nI (pl kw st)) F (nI v, nI d, nI (pl kw cur), f2, f3, f4, csc, nI sq.length) = (v5, v4, v3, f2', f3', f4, csc, nI (wlk (kw + 2) mf st n cur d tk sq).2.length) ∧ CTK kw kh f2' (wlk (kw + 2) mf st n cur d tk sq).1 ∧ CSQ kw f3' (wlk (kw + 2) mf st n cur d tk sq).2 := by
  have hkk : kw * kh ≤ 576 := Nat.mul_le_mul hw hh
  intro n
  induction n with
  | zero =>
    intro v cur d tk sq f2 f3 F hv hF hW hlen h2 h3
    obtain ⟨F, rfl⟩ : ∃ m, F = m + 1 := ⟨F - 1, by omega⟩
    refine ⟨nI v, nI d, nI (pl kw cur), f2, f3, ?_, h2, h3⟩
    rw [f_C_follow_L13, if_pos (nI_le (by omega) (by omega))]
    rfl
  | succ n ih =>
    intro v cur d tk sq f2 f3 F hv hF hW hlen h2 h3
    obtain ⟨F, rfl⟩ : ∃ m, F = m + 1 := ⟨F - 1, by omega⟩
    obtain ⟨s1, s2, s3, s4, s5, s6, s7, s8, s9, s10⟩ := hW.step hM
    have s6 := s6 i
    have hd : d < 8 := hW.1
    have ho : (d + 4) % 8 < 8 := Nat.mod_lt _ (by omega)
    have t1 := ctake h2 hw hh s1 hd
    have t2 := ctake t1 hw hh s2 ho
    have est := cstep hw hh s1 s2 hd
    have eop := t_opp ⟨d, hd⟩
    try dsimp only at eop
    have edst := cdeg hC hw hh hst
    have edn := cdeg hC hw hh s2
    have hl : sq.length < 4 * (kw * kh) := by omega
    have ead := cadd (kw := kw) (csf := f3) (by omega) hl (nbr (kw + 2) cur d)
    rw [f_C_follow_L13, if_neg (nI_ge (show v < 4 * (kw * kh) by omega) (by omega)), f_C_follow_q3, est, f_C_follow_t36, eop, f_C_follow_q4, edst, wlk]
    generalize hg : f_C_take (kh * 32) (f_C_take (kh * 32) f2 (nI (pl kw cur)) (nI d)) (nI (pl kw (nbr (kw + 2) cur d))) (nI ((d + 4) % 8)) = g at t2 ⊢
    by_cases c1 : nbr (kw + 2) cur d = st ∧ dg (kw + 2) mf st = 2
    · rw [if_pos c1, if_pos ((nI_pl hw hh s2 hst).mpr c1.1), if_pos (nI_dg.mpr c1.2)]
      exact ⟨_, _, _, g, f3, rfl, t2, h3⟩
    · rw [if_neg c1]
      have rest : ∃ v5 v4 v3 f2' f3', f_C_follow_j64 (kh * 32) clf (4 * (kw * kh)) (nI v) (nI d) f3 f4 csc (nI sq.length) (f_C_follow_L13 (kh * 32) clf (kh * 32) (4 * (kw * kh)) (nI (pl kw st)) F) (nI (pl kw (nbr (kw + 2) cur d))) g = (v5, v4, v3, f2', f3', f4, csc, nI (if dg (kw + 2) mf (nbr (kw + 2) cur d) = 2 then wlk (kw + 2) mf st n (nbr (kw + 2) cur d) (otw (kw + 2) mf (nbr (kw + 2) cur d) ((d + 4) % 8)) (st2 (kw + 2) tk cur d) (sq ++ [nbr (kw + 2) cur d]) else (st2 (kw + 2) tk cur d, sq ++ [nbr (kw + 2) cur d])).2.length) ∧ CTK kw kh f2' (if dg (kw + 2) mf (nbr (kw + 2) cur d) = 2 then wlk (kw + 2) mf st n (nbr (kw + 2) cur d) (otw (kw + 2) mf (nbr (kw + 2) cur d) ((d + 4) % 8)) (st2 (kw + 2) tk cur d) (sq ++ [nbr (kw + 2) cur d]) else (st2 (kw + 2) tk cur d, sq ++ [nbr (kw + 2) cur d])).1 ∧ CSQ kw f3' (if dg (kw + 2) mf (nbr (kw + 2) cur d) = 2 then wlk (kw + 2) mf st n (nbr (kw + 2) cur d) (otw (kw + 2) mf (nbr (kw + 2) cur d) ((d + 4) % 8)) (st2 (kw + 2) tk cur d) (sq ++ [nbr (kw + 2) cur d]) else (st2 (kw + 2) tk cur d, sq ++ [nbr (kw + 2) cur d])).2 := by
        rw [f_C_follow_j64, ead, f_C_follow_q5, edn]
        by_cases c2 : dg (kw + 2) mf (nbr (kw + 2) cur d) = 2
        · rw [if_pos c2, if_pos (nI_dg.mpr c2), eop, cotw hC hw hh s2 c2 ho s5, f_C_follow_t99, nI_1]
          exact ih (v + 1) _ _ _ _ _ _ F (by omega) (by omega) (s10 c1 c2) (by rw [List.length_append]; simp only [List.length_cons, List.length_nil]; omega) t2 (h3.app _)
        · rw [if_neg c2, if_neg (fun c => c2 (nI_dg.mp c))]
          exact ⟨_, _, _, g, _, rfl, t2, h3.app _⟩
      by_cases c3 : nbr (kw + 2) cur d = st
      · rw [if_pos ((nI_pl hw hh s2 hst).mpr c3), if_neg (fun c => c1 ⟨c3, nI_dg.mp c⟩)]
        exact rest
      · rw [if_neg (fun c => c3 ((nI_pl hw hh s2 hst).mp c))]
        exact rest
/-- the class's strokes beside the lists -/
def CR (kw kh : Nat) (ctf csf cbf : Nat → Int32) (csc csm : Int32) (s : SS) : Prop := csm = nI s.2.1.length ∧ csc = nI (s.2.2.length - 1) ∧ CSQ kw csf s.2.1 ∧ (∀ n b, s.2.2[n]? = some b → cbf n = nI b) ∧ CTK kw kh ctf s.1
theorem bg_app {cbf : Nat → Int32} {bg : List Nat} (h : ∀ n b, bg[n]? = some b → cbf n = nI b) (x : Nat) : ∀ n b, (bg ++ [x])[n]? = some b → upd cbf bg.length (nI x) n = nI b := fun n b hb => by
  rcases get_app hb with ⟨c1, c2⟩ | ⟨c1, c2⟩
  · rw [pk_un (by omega)]; exact h n b c2
  · rw [c1, pk_us, c2]
theorem cend {K : Nat} (hK : K < 100000) {cbf : Nat → Int32} {bg : List Nat} (h1 : 1 ≤ bg.length) (hl : bg.length < K) (x : Nat) : f_C_endStroke K cbf (nI (bg.length - 1)) (nI x) = (upd cbf bg.length (nI x), nI ((bg ++ [x]).length - 1)) := by
  rw [f_C_endStroke, nI_1, show bg.length - 1 + 1 = bg.length by omega, if_neg (nI_ge hl (by omega)), nI_clamp (by omega), List.length_append]
  rfl
theorem cfollow (hM : MF kw kh mf) (hC : CT kw kh mf clf) (hw : kw ≤ 24) (hh : kh ≤ 24) {i : Nat} {s : SS} (hI : SI kw kh mf i s) {q d : Nat} (hd : d < 8) (hl : lk (kw + 2) mf q d = true) (ht : s.1 q d = false) (hN : dg (kw + 2) mf q = 2 → TKN (kw + 2) mf s.1) {ctf csf cbf : Nat → Int32} {csc csm : Int32} (hR : CR kw kh ctf csf cbf csc csm s) :
    ∃ g1 g2 g3 z4 z5, f_C_follow (kh * 32) clf (kh * 32) ctf (4 * (kw * kh)) csf (2 * (kw * kh) + 1) cbf csc csm (nI (pl kw q)) (nI d) = (g1, g2, g3, z4, z5) ∧ CR kw kh g1 g2 g3 z4 z5 (flw kw kh mf q d s) := by
  have hkk : kw * kh ≤ 576 := Nat.mul_le_mul hw hh
  have hq := lk_inn hM hl
  have hW := SI_wi hI hd hl ht hN
  have hv := (hW.step hM).2.2.2.2.2.1 i
  obtain ⟨b1, b2, b3, b4, b5, -⟩ := hI
  obtain ⟨r1, r2, r3, r4, r5⟩ := hR
  have hl2 : s.2.1.length < 4 * (kw * kh) := by omega
  have ead := cadd (kw := kw) (csf := csf) (by omega) hl2 q
  obtain ⟨v5, v4, v3, f2', f3', e, e2, e3⟩ := cwalk hM hC hw hh (st := q) (i := i) hq cbf csc (4 * (kw * kh)) 0 q d s.1 (s.2.1 ++ [q]) ctf (upd csf s.2.1.length (nI (pl kw q))) FU (by omega) (lt_FU (by omega)) hW (by rw [List.length_append]; simp only [List.length_cons, List.length_nil]; omega) r5 (r3.app q)
  rw [nI_0] at e
  have h1 := b5.2.1
  have een := cend (K := 2 * (kw * kh) + 1) (cbf := cbf) (by omega) h1 (by omega) (wlk (kw + 2) mf q (4 * (kw * kh)) q d s.1 (s.2.1 ++ [q])).2.length
  refine ⟨f2', f3', ?_, ?_, ?_, ?_, ?_⟩
  · exact upd cbf s.2.2.length (nI (wlk (kw + 2) mf q (4 * (kw * kh)) q d s.1 (s.2.1 ++ [q])).2.length)
  · exact nI ((s.2.2 ++ [(wlk (kw + 2) mf q (4 * (kw * kh)) q d s.1 (s.2.1 ++ [q])).2.length]).length - 1)
  · exact nI (wlk (kw + 2) mf q (4 * (kw * kh)) q d s.1 (s.2.1 ++ [q])).2.length
  · rw [f_C_follow, r1, ead, f_C_follow_q1, e, f_C_follow_k13, r2, een, f_C_follow_q2]
  · exact ⟨rfl, rfl, e3, bg_app r4 _, e2⟩
theorem hb_l (hC : CT kw kh mf clf) (hw : kw ≤ 24) (hh : kh ≤ 24) {q d : Nat} (hq : inn kw kh q) (hd : d < 8) : f_hasBit (f_C_linksOf (kh * 32) clf (nI (pl kw q))) (nI d) = if lk (kw + 2) mf q d then 1 else 0 := by
  rw [clnk hC hw hh hq, lk]
  by_cases h : mf q = 0
  · rw [if_pos h, if_pos h]
    have := t_has ⟨0, by omega⟩ ⟨d, hd⟩
    try dsimp only at this
    rw [this]; unfold gr; simp
  · rw [if_neg h, if_neg h]; exact t_hasl ⟨_, rd_lt _ _ _⟩ ⟨d, hd⟩
theorem hb_t {ctf : Nat → Int32} {tk : Nat → Nat → Bool} (hT : CTK kw kh ctf tk) (hw : kw ≤ 24) (hh : kh ≤ 24) {q d : Nat} (hq : inn kw kh q) (hd : d < 8) : f_hasBit (f_C_takenOf (kh * 32) ctf (nI (pl kw q))) (nI d) = if tk q d then 1 else 0 := by
  obtain ⟨m, m1, m2, m3⟩ := ctkn hT hw hh hq
  have := t_has ⟨m, m1⟩ ⟨d, hd⟩
  try dsimp only at this
  rw [m2, this, gr, m3 d hd]
theorem t_none : ∀ m : Fin 256, (nI m.val = 0) ↔ fst8 (fun d => m.val.testBit d) = 8 := by decide +kernel
theorem tk_0 {ctf : Nat → Int32} {tk : Nat → Nat → Bool} (hT : CTK kw kh ctf tk) (hw : kw ≤ 24) (hh : kh ≤ 24) {q : Nat} (hq : inn kw kh q) : f_C_takenOf (kh * 32) ctf (nI (pl kw q)) = 0 ↔ fst8 (tk q) = 8 := by
  obtain ⟨m, m1, m2, m3⟩ := ctkn hT hw hh hq
  rw [m2, t_none ⟨m, m1⟩]
  have : fst8 (fun d => m.testBit d) = fst8 (tk q) := fsd_congr 8 0 (fun e _ he => m3 e (by omega))
  try dsimp only
  rw [this]
/-- one node of the class -/
theorem cnode (hM : MF kw kh mf) (hC : CT kw kh mf clf) (hw : kw ≤ 24) (hh : kh ≤ 24) {i : Nat} {s : SS} (hI : SI kw kh mf i s) {q : Nat} (hq : inn kw kh q) (h2 : dg (kw + 2) mf q ≠ 2) {ctf csf cbf : Nat → Int32} {csc csm : Int32} (hR : CR kw kh ctf csf cbf csc csm s) :
    ∃ g1 g2 g3 z4 z5, f_C_followFromNode_j17 (kh * 32) clf (kh * 32) (4 * (kw * kh)) (2 * (kw * kh) + 1) (nI (pl kw q)) (ctf, csf, cbf, csc, csm) = (g1, g2, g3, z4, z5) ∧ CR kw kh g1 g2 g3 z4 z5 (nod kw kh mf q s 8) := by
  obtain ⟨s', e, hJ⟩ := lu_0 (F := f_C_followFromNode_L19 (kh * 32) clf (kh * 32) (4 * (kw * kh)) (2 * (kw * kh) + 1) (nI (pl kw q))) (fun d t => CR kw kh t.1 t.2.1 t.2.2.1 t.2.2.2.1 t.2.2.2.2 (nod kw kh mf q s d)) 8 (by omega)
    (fun t _ n => by
      obtain ⟨t1, t2, t3, t4, t5⟩ := t
      rw [f_C_followFromNode_L19, if_pos (by decide)])
    (fun d t hd ht => by
      obtain ⟨t1, t2, t3, t4, t5⟩ := t
      try dsimp only at ht
      have h8 : ¬ (8 : Int32) ≤ nI d := nI_ge (b := 8) hd (by omega)
      have el := hb_l hC hw hh hq hd
      have et := hb_t ht.2.2.2.2 hw hh hq hd
      obtain ⟨i1, -⟩ := SI_nod hM hI h2 d (by omega)
      cases cl : lk (kw + 2) mf q d with
      | false =>
        refine ⟨(t1, t2, t3, t4, t5), ?_, fun n => ?_⟩
        · rw [nod, if_neg (by rw [cl]; simp)]; exact ht
        · rw [f_C_followFromNode_L19, if_neg h8, el, cl, if_pos (by simp), nI_1]
      | true =>
        cases ct : (nod kw kh mf q s d).1 q d with
        | true =>
          refine ⟨(t1, t2, t3, t4, t5), ?_, fun n => ?_⟩
          · rw [nod, if_neg (by rw [cl, ct]; simp)]; exact ht
          · rw [f_C_followFromNode_L19, if_neg h8, el, cl, if_neg (by simp), et, ct, if_neg (by simp), nI_1]
        | false =>
          obtain ⟨g1, g2, g3, z4, z5, e, hr⟩ := cfollow hM hC hw hh i1 hd cl ct (fun h => absurd h h2) ht
          refine ⟨(g1, g2, g3, z4, z5), ?_, fun n => ?_⟩
          · rw [nod, if_pos (by rw [cl, ct]; simp)]; exact hr
          · rw [f_C_followFromNode_L19, if_neg h8, el, cl, if_neg (by simp), et, ct, if_pos (by simp), e, f_C_followFromNode_q1, nI_1])
    (s := (ctf, csf, cbf, csc, csm)) hR
  obtain ⟨t1, t2, t3, t4, t5⟩ := s'
  refine ⟨t1, t2, t3, t4, t5, ?_, hJ⟩
  rw [f_C_followFromNode_j17, e, f_C_followFromNode_k19]
/-- the class's nodes -/
theorem cnodes {sf : Nat → Int32} (hS : SM kw kh sf mf) (hC : CT kw kh mf clf) (hw : kw ≤ 24) (hh : kh ≤ 24) {ctf csf cbf : Nat → Int32} (hR : CR kw kh ctf csf cbf 0 0 (tr1 kw kh mf 0)) :
    ∃ g1 g2 g3 z4 z5, f_C_followFromNodes (kh * 32) clf (kh * 32) ctf (4 * (kw * kh)) csf (2 * (kw * kh) + 1) cbf 0 0 (nI kw) (nI kh) sf = (g1, g2, g3, z4, z5) ∧ CR kw kh g1 g2 g3 z4 z5 (tr2 kw kh mf 0) := by
  have hM := hS.mf
  have hkk : kw * kh ≤ 576 := Nat.mul_le_mul hw hh
  obtain ⟨s', e, hJ⟩ := nest_inv (S := (Nat → Int32) × (Nat → Int32) × (Nat → Int32) × Int32 × Int32) (fun q t => CR kw kh t.1 t.2.1 t.2.2.1 t.2.2.2.1 t.2.2.2.2 (tr1 kw kh mf q)) hw hh
    (inner := fun y => f_C_followFromNodes_L12 (kh * 32) clf (kh * 32) (4 * (kw * kh)) (2 * (kw * kh) + 1) (nI kw) (nI kh) sf y) (outer := f_C_followFromNodes_L2 (kh * 32) clf (kh * 32) (4 * (kw * kh)) (2 * (kw * kh) + 1) (nI kw) (nI kh) sf)
    (fun y t n hy => by
      obtain ⟨t1, t2, t3, t4, t5⟩ := t
      simp only [f_C_followFromNodes_L12]
      rw [if_pos (nI_le (Nat.le_refl _) (by omega))])
    (fun x y t hx hy ht => by
      obtain ⟨t1, t2, t3, t4, t5⟩ := t
      try dsimp only at ht
      have hin : inn kw kh (lin kw x y) := ⟨x, y, hx, hy, rfl⟩
      have eb := hS.blk hw hh hx hy
      have ep : f_placeOf (nI x) (nI y) = nI (pl kw (lin kw x y)) := by rw [pl_eq (by omega) (by omega), pl_lin hx]
      have ed := cdeg hC hw hh hin
      obtain ⟨i1, -, -⟩ := tr1_ok hM hS hw (lin kw x y) (Nat.le_of_lt (inn_A hin))
      by_cases c0 : mf (lin kw x y) = 0
      · refine ⟨(t1, t2, t3, t4, t5), ?_, fun n => ?_⟩
        · rw [tr1, if_neg (fun c => c.1 c0)]; exact ht
        · simp only [f_C_followFromNodes_L12]
          rw [if_neg (nI_ge hx (by omega)), eb, if_pos c0, nI_1]
      · by_cases c2 : dg (kw + 2) mf (lin kw x y) = 2
        · refine ⟨(t1, t2, t3, t4, t5), ?_, fun n => ?_⟩
          · rw [tr1, if_neg (fun c => c.2 c2)]; exact ht
          · simp only [f_C_followFromNodes_L12]
            rw [if_neg (nI_ge hx (by omega)), eb, if_neg c0, ep, ed, if_pos (nI_dg.mpr c2), nI_1]
        · by_cases cz : dg (kw + 2) mf (lin kw x y) = 0
          · have hv := vv_iso (tr1 kw kh mf (lin kw x y)).1 (inn_A hin) ⟨c0, cz⟩
            have hA := SI_aln i1 (inn_A hin) ⟨c0, cz⟩
            obtain ⟨r1, r2, r3, r4, r5⟩ := ht
            have b3 := i1.2.2.1
            have b4 := i1.2.2.2.1
            have b5 := i1.2.2.2.2.1
            have ead := cadd (kw := kw) (csf := t2) (K := 4 * (kw * kh)) (by omega) (show (tr1 kw kh mf (lin kw x y)).2.1.length < 4 * (kw * kh) by omega) (lin kw x y)
            have een := cend (K := 2 * (kw * kh) + 1) (cbf := t3) (by omega) b5.2.1 (by omega) ((tr1 kw kh mf (lin kw x y)).2.1.length + 1)
            have hR' : CR kw kh t1 (upd t2 (tr1 kw kh mf (lin kw x y)).2.1.length (nI (pl kw (lin kw x y)))) (upd t3 (tr1 kw kh mf (lin kw x y)).2.2.length (nI ((tr1 kw kh mf (lin kw x y)).2.1.length + 1))) (nI (((tr1 kw kh mf (lin kw x y)).2.2 ++ [(tr1 kw kh mf (lin kw x y)).2.1.length + 1]).length - 1)) (nI ((tr1 kw kh mf (lin kw x y)).2.1 ++ [lin kw x y]).length) (aln (lin kw x y) (tr1 kw kh mf (lin kw x y))) := ⟨rfl, rfl, r3.app _, bg_app r4 _, r5⟩
            obtain ⟨g1, g2, g3, z4, z5, e, hr⟩ := cnode hM hC hw hh hA hin c2 hR'
            refine ⟨(g1, g2, g3, z4, z5), ?_, fun n => ?_⟩
            · rw [tr1, if_pos ⟨c0, c2⟩, if_pos cz]; exact hr
            · simp only [f_C_followFromNodes_L12]
              have elen : nI ((tr1 kw kh mf (lin kw x y)).2.1 ++ [lin kw x y]).length = nI ((tr1 kw kh mf (lin kw x y)).2.1.length + 1) := by rw [List.length_append]; rfl
              have e' := e
              rw [elen] at e'
              rw [if_neg (nI_ge hx (by omega)), eb, if_neg c0, ep, ed, if_neg (fun c => c2 (nI_dg.mp c)), f_C_followFromNode, ed, if_pos (nI_dg0.mpr cz), r1, ead, f_C_followFromNode_q2, r2, elen, een, f_C_followFromNode_q3, e', f_C_followFromNodes_q1, nI_1]
          · obtain ⟨g1, g2, g3, z4, z5, e, hr⟩ := cnode hM hC hw hh i1 hin c2 ht
            refine ⟨(g1, g2, g3, z4, z5), ?_, fun n => ?_⟩
            · rw [tr1, if_pos ⟨c0, c2⟩, if_neg cz]; exact hr
            · simp only [f_C_followFromNodes_L12]
              rw [if_neg (nI_ge hx (by omega)), eb, if_neg c0, ep, ed, if_neg (fun c => c2 (nI_dg.mp c)), f_C_followFromNode, ed, if_neg (fun c => cz (nI_dg0.mp c)), e, f_C_followFromNodes_q1, nI_1])
    (fun t n => by
      obtain ⟨t1, t2, t3, t4, t5⟩ := t
      rw [f_C_followFromNodes_L2, if_pos (nI_le (Nat.le_refl _) (by omega))])
    (fun y t t' n hy hi => by
      obtain ⟨t1, t2, t3, t4, t5⟩ := t
      obtain ⟨u1, u2, u3, u4, u5⟩ := t'
      rw [f_C_followFromNodes_L2, if_neg (nI_ge hy (by omega)), hi, f_C_followFromNodes_k12, nI_1])
    (fun q t hq ht => by
      rw [tr1, if_neg (fun c => c.1 (hS.2.2 q hq))]; exact ht)
    (s := (ctf, csf, cbf, 0, 0)) hR
  obtain ⟨t1, t2, t3, t4, t5⟩ := s'
  refine ⟨t1, t2, t3, t4, t5, ?_, hJ⟩
  rw [f_C_followFromNodes, e, f_C_followFromNodes_k2]
/-- the class's rings -/
theorem crings {sf : Nat → Int32} (hS : SM kw kh sf mf) (hC : CT kw kh mf clf) (hw : kw ≤ 24) (hh : kh ≤ 24) {ctf csf cbf : Nat → Int32} {csc csm : Int32} (hR : CR kw kh ctf csf cbf csc csm (tr2 kw kh mf 0)) :
    ∃ g1 g2 g3 z4 z5, f_C_followRound (kh * 32) clf (kh * 32) ctf (4 * (kw * kh)) csf (2 * (kw * kh) + 1) cbf csc csm (nI kw) (nI kh) = (g1, g2, g3, z4, z5) ∧ CR kw kh g1 g2 g3 z4 z5 (tr2 kw kh mf ((kw + 2) * (kh + 2))) := by
  have hM := hS.mf
  obtain ⟨s', e, hJ⟩ := nest_inv (S := (Nat → Int32) × (Nat → Int32) × (Nat → Int32) × Int32 × Int32) (fun q t => CR kw kh t.1 t.2.1 t.2.2.1 t.2.2.2.1 t.2.2.2.2 (tr2 kw kh mf q)) hw hh
    (inner := fun y => f_C_followRound_L12 (kh * 32) clf (kh * 32) (4 * (kw * kh)) (2 * (kw * kh) + 1) (nI kw) y) (outer := f_C_followRound_L2 (kh * 32) clf (kh * 32) (4 * (kw * kh)) (2 * (kw * kh) + 1) (nI kw) (nI kh))
    (fun y t n hy => by
      obtain ⟨t1, t2, t3, t4, t5⟩ := t
      simp only [f_C_followRound_L12]
      rw [if_pos (nI_le (Nat.le_refl _) (by omega))])
    (fun x y t hx hy ht => by
      obtain ⟨t1, t2, t3, t4, t5⟩ := t
      try dsimp only at ht
      have hin : inn kw kh (lin kw x y) := ⟨x, y, hx, hy, rfl⟩
      have ep : f_placeOf (nI x) (nI y) = nI (pl kw (lin kw x y)) := by rw [pl_eq (by omega) (by omega), pl_lin hx]
      have ed := cdeg hC hw hh hin
      have et := tk_0 ht.2.2.2.2 hw hh hin
      obtain ⟨i1, i2, -⟩ := tr2_ok hM hS hw (lin kw x y)
      by_cases c2 : dg (kw + 2) mf (lin kw x y) = 2
      · by_cases c8 : fst8 ((tr2 kw kh mf (lin kw x y)).1 (lin kw x y)) = 8
        · obtain ⟨l1, l2, l3⟩ := ring_dir c2 c8
          obtain ⟨g1, g2, g3, z4, z5, e, hr⟩ := cfollow hM hC hw hh i1 l1 l2 l3 (fun _ => i2) ht
          refine ⟨(g1, g2, g3, z4, z5), ?_, fun n => ?_⟩
          · rw [tr2, if_pos ⟨c2, c8⟩]; exact hr
          · simp only [f_C_followRound_L12]
            rw [if_neg (nI_ge hx (by omega)), ep, f_C_followRound_t25, ed, if_pos (nI_dg.mpr c2), if_pos (et.mpr c8), cfst hC hw hh hin c2, e, f_C_followRound_q1, nI_1]
        · refine ⟨(t1, t2, t3, t4, t5), ?_, fun n => ?_⟩
          · rw [tr2, if_neg (fun c => c8 c.2)]; exact ht
          · simp only [f_C_followRound_L12]
            rw [if_neg (nI_ge hx (by omega)), ep, f_C_followRound_t25, ed, if_pos (nI_dg.mpr c2), if_neg (fun c => c8 (et.mp c)), nI_1]
      · refine ⟨(t1, t2, t3, t4, t5), ?_, fun n => ?_⟩
        · rw [tr2, if_neg (fun c => c2 c.1)]; exact ht
        · simp only [f_C_followRound_L12]
          rw [if_neg (nI_ge hx (by omega)), ep, f_C_followRound_t25, ed, if_neg (fun c => c2 (nI_dg.mp c)), nI_1])
    (fun t n => by
      obtain ⟨t1, t2, t3, t4, t5⟩ := t
      rw [f_C_followRound_L2, if_pos (nI_le (Nat.le_refl _) (by omega))])
    (fun y t t' n hy hi => by
      obtain ⟨t1, t2, t3, t4, t5⟩ := t
      obtain ⟨u1, u2, u3, u4, u5⟩ := t'
      rw [f_C_followRound_L2, if_neg (nI_ge hy (by omega)), hi, f_C_followRound_k12, nI_1])
    (fun q t hq ht => by
      rw [tr2, if_neg (fun c => by have := dg0 (W := kw + 2) (hS.2.2 q hq); omega)]; exact ht)
    (s := (ctf, csf, cbf, csc, csm)) hR
  obtain ⟨t1, t2, t3, t4, t5⟩ := s'
  refine ⟨t1, t2, t3, t4, t5, ?_, hJ⟩
  rw [f_C_followRound, e, f_C_followRound_k2]
theorem clinks_all {sf : Nat → Int32} (hS : SM kw kh sf mf) (hw : kw ≤ 24) (hh : kh ≤ 24) (clf ctf : Nat → Int32) : ∃ g1 g2, f_C_findLinks (kh * 32) clf (kh * 32) ctf (nI kw) (nI kh) sf = (g1, g2) ∧ CT kw kh mf g1 ∧ CTK kw kh g2 (fun _ _ => false) := by
  obtain ⟨s', e, hI⟩ := lu_0 (F := f_C_findLinks_L2 (kh * 32) (kh * 32) (nI kw) (nI kh) sf) (fun i t => ∀ n, n < i → t.1 n = f_S_linksAt (nI kw) (nI kh) sf (nI (n % 32)) (nI (n / 32)) ∧ t.2 n = 0) (kh * 32) (by omega)
    (fun t _ n => by
      obtain ⟨t1, t2⟩ := t
      rw [f_C_findLinks_L2, if_pos (nI_le (Nat.le_refl _) (by omega))])
    (fun i t hi ht => by
      obtain ⟨t1, t2⟩ := t
      have ei : i = i / 32 * 32 + i % 32 := by omega
      have ec : f_columnOf (nI i) = nI (i % 32) := by
        have := col_eq (x := i % 32) (y := i / 32) (by omega) (by omega)
        rw [← ei] at this; exact this
      have er : f_rowOf (nI i) = nI (i / 32) := by
        have := row_eq (x := i % 32) (y := i / 32) (by omega) (by omega)
        rw [← ei] at this; exact this
      refine ⟨(upd t1 i (f_S_linksAt (nI kw) (nI kh) sf (nI (i % 32)) (nI (i / 32))), upd t2 i 0), fun n hn => ?_, fun n => ?_⟩
      · by_cases e : n = i
        · rw [e]; exact ⟨pk_us, pk_us⟩
        · exact ⟨(pk_un e).trans (ht n (by omega)).1, (pk_un e).trans (ht n (by omega)).2⟩
      · rw [f_C_findLinks_L2, if_neg (nI_ge hi (by omega)), if_neg (nI_ge hi (by omega)), nI_clamp (by omega), ec, er, nI_1])
    (s := (clf, ctf)) (fun n hn => by omega)
  obtain ⟨g1, g2⟩ := s'
  refine ⟨g1, g2, ?_, ?_, ?_⟩
  · rw [f_C_findLinks, e, f_C_findLinks_k2]
  · intro q hq
    have hp := pl_lt hw hq
    obtain ⟨x, y, hx, hy, rfl⟩ := hq
    have h1 := (hI _ hp).1
    try dsimp only at h1
    rw [h1, pl_lin hx, show (y * 32 + x) % 32 = x by omega, show (y * 32 + x) / 32 = y by omega, clinks hS hw hh hx hy]
    split <;> rfl
  · intro q hq
    have hp := pl_lt hw hq
    refine ⟨0, by omega, (hI _ hp).2, fun d _ => by simp⟩
/-- the crossings -/
def crs (W : Nat) (mf : Nat → Int32) (q : Nat) : Bool := decide (3 ≤ dg W mf q)
theorem crs_len {sf : Nat → Int32} (hS : SM kw kh sf mf) (hw : kw ≤ 24) : (cl (crs (kw + 2) mf) ((kw + 2) * (kh + 2))).length ≤ kw * kh := by
  rw [cl_len]
  have l4 : cntb (crs (kw + 2) mf) ((kw + 2) * (kh + 2)) ≤ blacks kw kh mf := cntb_imp (fun j hj => by
    simp only [crs, decide_eq_true_eq] at hj ⊢
    intro c
    rw [dg0 c] at hj; omega) _
  have := blacks_le hS hw
  omega
theorem ccross {sf : Nat → Int32} (hS : SM kw kh sf mf) (hC : CT kw kh mf clf) (hw : kw ≤ 24) (hh : kh ≤ 24) (ccf : Nat → Int32) : ∃ g, f_C_findCrossings (kh * 32) clf (kw * kh) ccf 0 (nI kw) (nI kh) = (g, nI (cl (crs (kw + 2) mf) ((kw + 2) * (kh + 2))).length) ∧ ∀ n a, (cl (crs (kw + 2) mf) ((kw + 2) * (kh + 2)))[n]? = some a → g n = nI (pl kw a) := by
  have hkk : kw * kh ≤ 576 := Nat.mul_le_mul hw hh
  obtain ⟨s', e, hJ⟩ := nest_inv (S := (Nat → Int32) × Int32) (fun q t => t.2 = nI (cl (crs (kw + 2) mf) q).length ∧ ∀ n a, (cl (crs (kw + 2) mf) q)[n]? = some a → t.1 n = nI (pl kw a)) hw hh
    (inner := fun y => f_C_findCrossings_L12 (kh * 32) clf (kw * kh) (nI kw) y) (outer := f_C_findCrossings_L2 (kh * 32) clf (kw * kh) (nI kw) (nI kh))
    (fun y t n hy => by
      obtain ⟨t1, t2⟩ := t
      simp only [f_C_findCrossings_L12]
      rw [if_pos (nI_le (Nat.le_refl _) (by omega))])
    (fun x y t hx hy ht => by
      obtain ⟨t1, t2⟩ := t
      obtain ⟨h1, h2⟩ := ht
      try dsimp only at h1 h2
      have hin : inn kw kh (lin kw x y) := ⟨x, y, hx, hy, rfl⟩
      have ep : f_placeOf (nI x) (nI y) = nI (pl kw (lin kw x y)) := by rw [pl_eq (by omega) (by omega), pl_lin hx]
      have ed := cdeg hC hw hh hin
      have h4 := dg_le (kw + 2) mf (lin kw x y)
      rw [cl_s]
      by_cases c3 : 3 ≤ dg (kw + 2) mf (lin kw x y)
      · have ec : crs (kw + 2) mf (lin kw x y) = true := by simp [crs, c3]
        have hlen : (cl (crs (kw + 2) mf) (lin kw x y)).length + 1 ≤ kw * kh := by
          have l1 := cl_len (crs (kw + 2) mf) (lin kw x y)
          have l2 : cntb (crs (kw + 2) mf) (lin kw x y + 1) = cntb (crs (kw + 2) mf) (lin kw x y) + 1 := by rw [cntb, ec]; rfl
          have l3 := cntb_mono (crs (kw + 2) mf) (lin kw x y + 1) ((kw + 2) * (kh + 2) - (lin kw x y + 1))
          have l5 := inn_lt hin
          rw [Nat.add_sub_cancel' (by omega)] at l3
          have l6 := crs_len hS hw
          rw [cl_len] at l6
          omega
        refine ⟨(upd t1 (cl (crs (kw + 2) mf) (lin kw x y)).length (nI (pl kw (lin kw x y))), nI ((cl (crs (kw + 2) mf) (lin kw x y)).length + 1)), ⟨?_, ?_⟩, fun n => ?_⟩
        · rw [ec, if_pos rfl, List.length_append]; rfl
        · intro n a hn
          rw [ec, if_pos rfl] at hn
          rcases get_app hn with ⟨g1, g2⟩ | ⟨g1, g2⟩
          · exact (pk_un (by omega)).trans (h2 n a g2)
          · rw [g1, g2]; exact pk_us
        · simp only [f_C_findCrossings_L12]
          rw [if_neg (nI_ge hx (by omega)), ep, f_C_findCrossings_t25, ed, if_neg (show ¬ nI (dg (kw + 2) mf (lin kw x y)) < 3 from nI_nlt (b := 3) c3 (by omega)), h1, if_neg (nI_ge (by omega) (by omega)), nI_clamp (by omega), nI_1, nI_1]
      · have ec : crs (kw + 2) mf (lin kw x y) = false := by simp [crs, c3]
        refine ⟨(t1, t2), ⟨?_, ?_⟩, fun n => ?_⟩
        · rw [ec]; simpa using h1
        · intro n a hn
          rw [ec] at hn
          simp only [Bool.false_eq_true, if_false, List.append_nil] at hn
          exact h2 n a hn
        · simp only [f_C_findCrossings_L12]
          rw [if_neg (nI_ge hx (by omega)), ep, f_C_findCrossings_t25, ed, if_pos (show nI (dg (kw + 2) mf (lin kw x y)) < 3 from nI_lt (b := 3) (by omega) (by omega)), nI_1])
    (fun t n => by
      obtain ⟨t1, t2⟩ := t
      rw [f_C_findCrossings_L2, if_pos (nI_le (Nat.le_refl _) (by omega))])
    (fun y t t' n hy hi => by
      obtain ⟨t1, t2⟩ := t
      obtain ⟨u1, u2⟩ := t'
      rw [f_C_findCrossings_L2, if_neg (nI_ge hy (by omega)), hi, f_C_findCrossings_k12, nI_1])
    (fun q t hq ht => by
      have ec : crs (kw + 2) mf q = false := by simp [crs, dg0 (W := kw + 2) (hS.2.2 q hq)]
      rw [cl_s, ec]
      simpa using ht)
    (s := (ccf, 0)) ⟨rfl, fun n a h => by simp [cl_0] at h⟩
  obtain ⟨g, z⟩ := s'
  refine ⟨g, ?_, hJ.2⟩
  rw [f_C_findCrossings, e, f_C_findCrossings_k2]
  rw [show z = _ from hJ.1]
end
/-- all that the class has traced of the lines -/
def TD (kw kh : Nat) (mf clf csf cbf ccf : Nat → Int32) (csc csm ccr : Int32) : Prop :=
  CT kw kh mf clf ∧ csm = nI (tr2 kw kh mf ((kw + 2) * (kh + 2))).2.1.length ∧ csc = nI ((tr2 kw kh mf ((kw + 2) * (kh + 2))).2.2.length - 1) ∧ CSQ kw csf (tr2 kw kh mf ((kw + 2) * (kh + 2))).2.1 ∧ (∀ n b, (tr2 kw kh mf ((kw + 2) * (kh + 2))).2.2[n]? = some b → cbf n = nI b) ∧
  ccr = nI (cl (crs (kw + 2) mf) ((kw + 2) * (kh + 2))).length ∧ ∀ n a, (cl (crs (kw + 2) mf) ((kw + 2) * (kh + 2)))[n]? = some a → ccf n = nI (pl kw a)
theorem ctrace {kw kh : Nat} {sf mf : Nat → Int32} (hS : SM kw kh sf mf) (hw : kw ≤ 24) (hh : kh ≤ 24) (clf ctf csf cbf ccf : Nat → Int32) (h0 : cbf 0 = 0) : ∃ g1 g2 g3 g4 g5 z6 z7 z8, f_C_trace (kh * 32) clf (kh * 32) ctf (4 * (kw * kh)) csf (2 * (kw * kh) + 1) cbf (kw * kh) ccf (nI kw) (nI kh) sf = (g1, g2, g3, g4, g5, z6, z7, z8) ∧ TD kw kh mf g1 g3 g4 g5 z6 z7 z8 := by
  obtain ⟨g1, g2, e1, hC, hT⟩ := clinks_all hS hw hh clf ctf
  obtain ⟨g5, e2, h5⟩ := ccross hS hC hw hh ccf
  obtain ⟨a1, a2, a3, a4, a5, e3, hA⟩ := cnodes hS hC hw hh (ctf := g2) (csf := csf) (cbf := cbf) ⟨rfl, rfl, fun n a h => by simp [tr1] at h, fun n b h => by
    have hn : n < 1 := lt_of_get h
    have : n = 0 := by omega
    subst this
    have hb : 0 = b := Option.some.inj h
    rw [← hb, h0]; rfl, hT⟩
  obtain ⟨b1, b2, b3, b4, b5, e4, hB⟩ := crings hS hC hw hh hA
  obtain ⟨r1, r2, r3, r4, r5⟩ := hB
  refine ⟨g1, b1, b2, b3, g5, b4, b5, _, ?_, hC, r1, r2, r3, r4, rfl, h5⟩
  rw [f_C_trace, e1, f_C_trace_q1, e2, f_C_trace_q2, e3, f_C_trace_q3, e4, f_C_trace_q4]
