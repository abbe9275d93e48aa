/-! own: groups: the class -/
theorem NBr.uniq {W A q d r r' : Nat} (h : NBr W A q d r) (h' : NBr W A q d r') : r = r' := by
  have e1 := Nat.div_add_mod r' W
  have e2 := Nat.div_add_mod r W
  have x1 : r' % W = r % W := by have := h.2.1; have := h'.2.1; omega
  have x2 : r' / W = r / W := by have := h.2.2; have := h'.2.2; omega
  rw [← e1, ← e2, x1, x2]
/-- a sample's neighbour, as the class sees it -/
theorem cnb {kw kh : Nat} (hw : kw ≤ 24) (hh : kh ≤ 24) {x y d : Nat} (hx : x < kw) (hy : y < kh) (hd : d < 8) : ∃ r, NBr (kw + 2) ((kw + 2) * (kh + 2)) (lin kw x y) d r ∧ ((f_S_has (nI kw) (nI kh) (nI x + ts_rx d) (nI y + ts_ry d) = 0 ∧ ¬ inn kw kh r) ∨ (∃ a b, a < kw ∧ b < kh ∧ nI x + ts_rx d = nI a ∧ nI y + ts_ry d = nI b ∧ r = lin kw a b)) := by
  obtain ⟨X, Y, hX, hY, e1, e2, e3⟩ := nb_pad hx hy d hd
  have hb := rx_b ⟨d, hd⟩
  try dsimp only at hb
  have hm : (Y * (kw + 2) + X) % (kw + 2) = X := by rw [Nat.mul_comm, Nat.mul_add_mod, Nat.mod_eq_of_lt hX]
  have hv : (Y * (kw + 2) + X) / (kw + 2) = Y := by rw [Nat.mul_comm, Nat.mul_add_div (by omega), Nat.div_eq_of_lt hX]; rfl
  have px : (nI x + ts_rx d).toInt = (X : Int) - 1 := by rw [nx_toInt (by omega) (by omega) (by omega)]; omega
  have py : (nI y + ts_ry d).toInt = (Y : Int) - 1 := by rw [nx_toInt (by omega) (by omega) (by omega)]; omega
  refine ⟨Y * (kw + 2) + X, ⟨?_, ?_, ?_⟩, ?_⟩
  · have h1 : (Y + 1) * (kw + 2) ≤ (kh + 2) * (kw + 2) := Nat.mul_le_mul_right _ (by omega)
    rw [Nat.add_mul] at h1
    rw [Nat.mul_comm (kw + 2)]; omega
  · rw [hm, lin_mod hx]; omega
  · rw [hv, lin_div hx]; omega
  · by_cases c : 1 ≤ X ∧ X ≤ kw ∧ 1 ≤ Y ∧ Y ≤ kh
    · right
      refine ⟨X - 1, Y - 1, by omega, by omega, Int32.toInt_inj.mp (by rw [px, nI_toInt (by omega)]; omega), Int32.toInt_inj.mp (by rw [py, nI_toInt (by omega)]; omega), ?_⟩
      unfold lin
      rw [show Y - 1 + 1 = Y by omega, show X - 1 + 1 = X by omega]
    · left
      refine ⟨by rw [has_eq (by omega) (by omega), px, py, if_neg (by omega)], ?_⟩
      rintro ⟨a, b, ha, hb, e⟩
      have h1 := lin_div (y := b) ha
      have h2 := lin_mod (y := b) ha
      rw [← e, hv] at h1
      rw [← e, hm] at h2
      omega
theorem blacks_set {kw kh : Nat} {e : Nat → Int32} {r : Nat} (hr : r < (kw + 2) * (kh + 2)) (h : e r = 0) : blacks kw kh (upd e r 1) = blacks kw kh e + 1 := by
  unfold blacks
  exact (cntb_one (p' := fun q => decide (e q ≠ 0)) (p := fun q => decide (upd e r 1 q ≠ 0)) (k := r) (by (try dsimp only); rw [pk_us]; decide) (by simp [h]) (fun j hj => by (try dsimp only); rw [pk_un hj]) _ hr).symm
/-- the search from q: L met so far, the first h of them looked round -/
def BQ (kw kh : Nat) (bl : Int32) (mlf e0 : Nat → Int32) (q h : Nat) (L : List Nat) (e : Nat → Int32) (v6 y0 : Int32) (ef gf : Nat → Int32) : Prop :=
  SM kw kh ef e ∧ blacks kw kh e = blacks kw kh e0 + L.length ∧ y0 = nI L.length ∧ (∀ n a, L[n]? = some a → gf n = nI (pl kw a)) ∧ (L[0]? = some q ∧ ∀ a, a ∈ L → RC (fun q => inn kw kh q ∧ mlf q = bl) (bl = 0) (kw + 2) q a) ∧ (∀ r, e r ≠ 0 ↔ (e0 r ≠ 0 ∨ r ∈ L)) ∧
  (v6 ≠ 0 → ∃ a s, RC (fun q => inn kw kh q ∧ mlf q = bl) (bl = 0) (kw + 2) q a ∧ s < (kw + 2) * (kh + 2) ∧ AD (bl = 0) (kw + 2) a s ∧ ¬ inn kw kh s) ∧
  ∀ n a, n < h → L[n]? = some a → ∀ r, r < (kw + 2) * (kh + 2) → AD (bl = 0) (kw + 2) a r → ((inn kw kh r ∧ mlf r = bl) → e r ≠ 0) ∧ (¬ inn kw kh r → v6 ≠ 0)
theorem inn_A {kw kh q : Nat} (h : inn kw kh q) : q < (kw + 2) * (kh + 2) := by have := inn_lt h; omega
theorem bfs_in {kw kh : Nat} (hw : kw ≤ 24) (hh : kh ≤ 24) {bl : Int32} (hbl : bl = 0 ∨ bl = 1) {sf mlf e0 : Nat → Int32} (hS : SM kw kh sf mlf) {q h : Nat} {L : List Nat} {e : Nat → Int32} {v6 y0 : Int32} {ef gf : Nat → Int32} (hB : BQ kw kh bl mlf e0 q h L e v6 y0 ef gf) {x y : Nat} (hx : x < kw) (hy : y < kh) (hc : L[h]? = some (lin kw x y)) :
    ∃ L' e' v6' y0' ef' gf', f_G_meetGroup_L59 (nI kw) (nI kh) (kw * kh) (nI kw) (nI kh) sf bl (if bl = 0 then (2 : Int32) else 1) (nI h) FU (0, v6, y0, ef, gf) = (nI 8, v6', y0', ef', gf') ∧ BQ kw kh bl mlf e0 q (h + 1) L' e' v6' y0' ef' gf' ∧ h < L'.length := by
  have har := ar_le hw hh
  have hkk : kw * kh ≤ 576 := Nat.mul_le_mul hw hh
  have key := lw_z (F := f_G_meetGroup_L59 (nI kw) (nI kh) (kw * kh) (nI kw) (nI kh) sf bl (if bl = 0 then (2 : Int32) else 1) (nI h)) (Fz := fun _ _ => True)
    (fun s => ∃ d L e v6 y0 ef gf, s = (nI d, v6, y0, ef, gf) ∧ d ≤ 8 ∧ (bl = 0 → d % 2 = 0) ∧ L[h]? = some (lin kw x y) ∧ BQ kw kh bl mlf e0 q h L e v6 y0 ef gf ∧ ∀ d', d' < d → (bl = 0 → d' % 2 = 0) → ∀ r, NBr (kw + 2) ((kw + 2) * (kh + 2)) (lin kw x y) d' r → ((inn kw kh r ∧ mlf r = bl) → e r ≠ 0) ∧ (¬ inn kw kh r → v6 ≠ 0))
    (fun s => ∃ L e v6 y0 ef gf, s = (nI 8, v6, y0, ef, gf) ∧ L[h]? = some (lin kw x y) ∧ BQ kw kh bl mlf e0 q h L e v6 y0 ef gf ∧ ∀ d', d' < 8 → (bl = 0 → d' % 2 = 0) → ∀ r, NBr (kw + 2) ((kw + 2) * (kh + 2)) (lin kw x y) d' r → ((inn kw kh r ∧ mlf r = bl) → e r ≠ 0) ∧ (¬ inn kw kh r → v6 ≠ 0))
    (fun s => 8 - s.1.toNatClampNeg) (by
      rintro s ⟨d, L, e, v6, y0, ef, gf, rfl, d8, de, hc, hB, hP⟩
      by_cases h8 : (8 : Int32) ≤ nI d
      · have e8 : d = 8 := (k8 d8).mp h8
        subst e8
        left
        refine ⟨⟨L, e, v6, y0, ef, gf, rfl, hc, hB, hP⟩, fun n => ⟨?_, trivial⟩⟩
        rw [f_G_meetGroup_L59, if_pos h8]
      · have hd : d < 8 := by rw [k8 d8] at h8; omega
        right
        obtain ⟨b1, b2, b3, b4, b5, b6, b7, b8'⟩ := hB
        have hlen : h < L.length := by
          rw [List.getElem?_eq_some_iff] at hc
          exact hc.1
        have hgf := b4 h _ hc
        rw [pl_lin hx] at hgf
        have fin : ∀ (L' : List Nat) (e' : Nat → Int32) (v6' y0' : Int32) (ef' gf' : Nat → Int32), L'[h]? = some (lin kw x y) → BQ kw kh bl mlf e0 q h L' e' v6' y0' ef' gf' → (∀ d', d' ≤ d → (bl = 0 → d' % 2 = 0) → ∀ r, NBr (kw + 2) ((kw + 2) * (kh + 2)) (lin kw x y) d' r → ((inn kw kh r ∧ mlf r = bl) → e' r ≠ 0) ∧ (¬ inn kw kh r → v6' ≠ 0)) →
            (∀ n, f_G_meetGroup_L59 (nI kw) (nI kh) (kw * kh) (nI kw) (nI kh) sf bl (if bl = 0 then (2 : Int32) else 1) (nI h) (n + 1) (nI d, v6, y0, ef, gf) = f_G_meetGroup_L59 (nI kw) (nI kh) (kw * kh) (nI kw) (nI kh) sf bl (if bl = 0 then (2 : Int32) else 1) (nI h) n (nI d + (if bl = 0 then (2 : Int32) else 1), v6', y0', ef', gf')) →
            ∃ s', (∃ d L e v6 y0 ef gf, s' = (nI d, v6, y0, ef, gf) ∧ d ≤ 8 ∧ (bl = 0 → d % 2 = 0) ∧ L[h]? = some (lin kw x y) ∧ BQ kw kh bl mlf e0 q h L e v6 y0 ef gf ∧ ∀ d', d' < d → (bl = 0 → d' % 2 = 0) → ∀ r, NBr (kw + 2) ((kw + 2) * (kh + 2)) (lin kw x y) d' r → ((inn kw kh r ∧ mlf r = bl) → e r ≠ 0) ∧ (¬ inn kw kh r → v6 ≠ 0)) ∧ 8 - s'.1.toNatClampNeg < 8 - (nI d).toNatClampNeg ∧ ∀ n, f_G_meetGroup_L59 (nI kw) (nI kh) (kw * kh) (nI kw) (nI kh) sf bl (if bl = 0 then (2 : Int32) else 1) (nI h) (n + 1) (nI d, v6, y0, ef, gf) = f_G_meetGroup_L59 (nI kw) (nI kh) (kw * kh) (nI kw) (nI kh) sf bl (if bl = 0 then (2 : Int32) else 1) (nI h) n s' ∧ (True → True) := by
          intro L' e' v6' y0' ef' gf' a1 a2 a3 a4
          by_cases hp : bl = 0
          · have de' := de hp
            refine ⟨(nI (d + 2), v6', y0', ef', gf'), ⟨d + 2, L', e', v6', y0', ef', gf', rfl, by omega, fun _ => by omega, a1, a2, fun d' h1 h2 r h3 => a3 d' (by have := h2 hp; omega) h2 r h3⟩, ?_, fun n => ⟨?_, id⟩⟩
            · try dsimp only
              rw [nI_clamp (by omega), nI_clamp (by omega)]; omega
            · rw [a4 n]
              simp only [if_pos hp]
              rw [show nI d + 2 = nI (d + 2) from nI_add d 2]
          · refine ⟨(nI (d + 1), v6', y0', ef', gf'), ⟨d + 1, L', e', v6', y0', ef', gf', rfl, by omega, fun h => absurd h hp, a1, a2, fun d' h1 h2 r h3 => a3 d' (by omega) h2 r h3⟩, ?_, fun n => ⟨?_, id⟩⟩
            · try dsimp only
              rw [nI_clamp (by omega), nI_clamp (by omega)]; omega
            · rw [a4 n]
              simp only [if_neg hp]
              rw [nI_1]
        have hlenk : L.length ≤ kw * kh := by have := blacks_le b1 hw; omega
        have hstep : ∀ n, f_G_meetGroup_L59 (nI kw) (nI kh) (kw * kh) (nI kw) (nI kh) sf bl (if bl = 0 then (2 : Int32) else 1) (nI h) (n + 1) (nI d, v6, y0, ef, gf) = f_G_meetGroup_t102 (nI kw) (nI kh) (kw * kh) (nI kw) (nI kh) sf bl (if bl = 0 then (2 : Int32) else 1) (nI d) v6 y0 ef gf (f_G_meetGroup_L59 (nI kw) (nI kh) (kw * kh) (nI kw) (nI kh) sf bl (if bl = 0 then (2 : Int32) else 1) (nI h) n) (nI x + ts_rx d) (nI y + ts_ry d) := by
          intro n
          rw [f_G_meetGroup_L59, if_neg h8, f_G_meetGroup_t83, nI_clamp (by omega), nI_clamp (by omega), hgf, col_eq (by omega) (by omega), row_eq (by omega) (by omega)]
        obtain ⟨r, hN, ⟨hh0, hni⟩ | ⟨a, b, ha, hb, ea, eb, er⟩⟩ := cnb hw hh hx hy hd
        · -- beyond the picture
          have hin : inn kw kh (lin kw x y) := ⟨x, y, hx, hy, rfl⟩
          refine fin L e 1 y0 ef gf hc ⟨b1, b2, b3, b4, b5, b6, fun _ => ⟨lin kw x y, r, b5.2 _ (List.mem_of_getElem? hc), hN.1, hN.ad hd de, hni⟩, fun n a h1 h2 r h3 h4 => ⟨(b8' n a h1 h2 r h3 h4).1, fun _ => by decide⟩⟩ ?_ ?_
          · intro d' h1 h2 r' h3
            refine ⟨?_, fun _ => by decide⟩
            by_cases e' : d' = d
            · subst e'
              rw [← hN.uniq h3]
              exact fun c => absurd c.1 hni
            · exact (hP d' (by omega) h2 r' h3).1
          · intro n
            rw [hstep n, f_G_meetGroup_t102, if_pos hh0]
        · have hhas : ¬ f_S_has (nI kw) (nI kh) (nI a) (nI b) = 0 := by rw [hs_in hw hh ha hb]; decide
          have hri : inn kw kh r := ⟨a, b, ha, hb, er⟩
          have hrA := inn_A hri
          have esf := hS.blk hw hh ha hb
          have eef := b1.blk hw hh ha hb
          rw [← er] at esf eef
          by_cases hcol : mlf r = bl
          · by_cases hm : e r = 0
            · -- a new one
              have hbs := blacks_set (kw := kw) (kh := kh) hrA hm
              have hSM := b1.paint hw hh ha hb (v := 1) (Or.inr rfl)
              rw [← er] at hSM
              have hle := blacks_le hSM hw
              have hlt : L.length < kw * kh := by omega
              refine fin (L ++ [r]) (upd e r 1) v6 (nI (L.length + 1)) (f_S_paint (nI kw) (nI kh) ef (nI a) (nI b) 1) (upd gf L.length (nI (pl kw r))) ?_ ⟨hSM, ?_, ?_, ?_, ?_, ?_, b7, ?_⟩ ?_ ?_
              · rw [List.getElem?_append_left hlen]; exact hc
              · rw [hbs, List.length_append]; simp only [List.length_cons, List.length_nil]; omega
              · rw [List.length_append]; rfl
              · intro n a' hn
                by_cases hnl : n < L.length
                · rw [List.getElem?_append_left hnl] at hn
                  rw [pk_un (by omega)]
                  exact b4 n a' hn
                · have hlt2 : n < (L ++ [r]).length := by
                    rw [List.getElem?_eq_some_iff] at hn
                    exact hn.1
                  rw [List.length_append] at hlt2
                  simp only [List.length_cons, List.length_nil] at hlt2
                  have en : n = L.length := by omega
                  subst en
                  rw [List.getElem?_append_right (Nat.le_refl _)] at hn
                  simp only [Nat.sub_self, List.getElem?_cons_zero, Option.some.injEq] at hn
                  rw [pk_us, hn]
              · refine ⟨by rw [List.getElem?_append_left (by omega)]; exact b5.1, ?_⟩
                intro a' ha'
                rw [List.mem_append] at ha'
                rcases ha' with ha' | ha'
                · exact b5.2 a' ha'
                · rw [List.mem_singleton] at ha'
                  rw [ha']
                  exact (b5.2 _ (List.mem_of_getElem? hc)).step (hN.ad hd de) ⟨hri, hcol⟩
              · intro r'
                by_cases e' : r' = r
                · rw [e', pk_us]
                  exact ⟨fun _ => Or.inr (List.mem_append_right _ (List.mem_singleton.mpr rfl)), fun _ => by decide⟩
                · rw [pk_un e', b6 r', List.mem_append, List.mem_singleton]
                  constructor
                  · rintro (h | h)
                    · exact Or.inl h
                    · exact Or.inr (Or.inl h)
                  · rintro (h | h | h)
                    · exact Or.inl h
                    · exact Or.inr h
                    · exact absurd h e'
              · intro n a' h1 h2 r' h3 h4
                rw [List.getElem?_append_left (by omega)] at h2
                refine ⟨fun c => ?_, (b8' n a' h1 h2 r' h3 h4).2⟩
                by_cases e' : r' = r
                · rw [e', pk_us]; decide
                · rw [pk_un e']; exact (b8' n a' h1 h2 r' h3 h4).1 c
              · intro d' h1 h2 r' h3
                by_cases e' : d' = d
                · subst e'
                  rw [← hN.uniq h3]
                  exact ⟨fun _ => by rw [pk_us]; decide, fun c => absurd hri c⟩
                · refine ⟨fun c => ?_, (hP d' (by omega) h2 r' h3).2⟩
                  by_cases e'' : r' = r
                  · rw [e'', pk_us]; decide
                  · rw [pk_un e'']; exact (hP d' (by omega) h2 r' h3).1 c
              · intro n
                rw [hstep n, f_G_meetGroup_t102, ea, eb, if_neg hhas, esf, if_pos hcol, f_G_meet, eef, if_pos hm, b3, if_neg (nI_ge hlt (by omega)), f_G_meet_q1, f_G_meetGroup_q2, nI_clamp (by omega), pl_eq (by omega) (by omega), nI_1, er, pl_lin ha]
            · refine fin L e v6 y0 ef gf hc ⟨b1, b2, b3, b4, b5, b6, b7, b8'⟩ ?_ ?_
              · intro d' h1 h2 r' h3
                by_cases e' : d' = d
                · subst e'
                  rw [← hN.uniq h3]
                  exact ⟨fun _ => hm, fun c => absurd hri c⟩
                · exact hP d' (by omega) h2 r' h3
              · intro n
                rw [hstep n, f_G_meetGroup_t102, ea, eb, if_neg hhas, esf, if_pos hcol, f_G_meet, eef, if_neg hm, f_G_meetGroup_q2]
          · refine fin L e v6 y0 ef gf hc ⟨b1, b2, b3, b4, b5, b6, b7, b8'⟩ ?_ ?_
            · intro d' h1 h2 r' h3
              by_cases e' : d' = d
              · subst e'
                rw [← hN.uniq h3]
                exact ⟨fun c => absurd c.2 hcol, fun c => absurd hri c⟩
              · exact hP d' (by omega) h2 r' h3
            · intro n
              rw [hstep n, f_G_meetGroup_t102, ea, eb, if_neg hhas, esf, if_neg hcol])
    FU (nI 0, v6, y0, ef, gf) (by have := lt_FU (k := 8) (by omega); (try dsimp only); omega) ⟨0, L, e, v6, y0, ef, gf, rfl, by omega, fun _ => rfl, hc, hB, fun d' h => by omega⟩
  rw [nI_0] at key
  obtain ⟨⟨L', e', v6', y0', ef', gf', es, c1, ⟨b1, b2, b3, b4, b5, b6, b7, b8'⟩, c3⟩, -⟩ := key
  have hlen : h < L'.length := by
    rw [List.getElem?_eq_some_iff] at c1
    exact c1.1
  refine ⟨L', e', v6', y0', ef', gf', es, ⟨b1, b2, b3, b4, b5, b6, b7, fun n a h1 h2 r h3 h4 => ?_⟩, hlen⟩
  by_cases en : n = h
  · subst en
    have ea : a = lin kw x y := by rw [c1] at h2; exact (Option.some.inj h2).symm
    subst ea
    by_cases er : r = lin kw x y
    · rw [er]
      exact ⟨fun _ => (b6 _).mpr (Or.inr (List.mem_of_getElem? c1)), fun c => absurd ⟨x, y, hx, hy, rfl⟩ c⟩
    · obtain ⟨d, d1, d2, d3⟩ := h4.nb h3 er
      exact c3 d d1 d2 r d3
  · exact b8' n a (by omega) h2 r h3 h4
theorem bfs_all {kw kh : Nat} (hw : kw ≤ 24) (hh : kh ≤ 24) {bl : Int32} (hbl : bl = 0 ∨ bl = 1) {sf mlf e0 ef gf : Nat → Int32} (hS : SM kw kh sf mlf) (hE : SM kw kh ef e0) {x y : Nat} (hx : x < kw) (hy : y < kh) (hcol : mlf (lin kw x y) = bl) (hm : e0 (lin kw x y) = 0) (hcl : ∀ r, RC (fun q => inn kw kh q ∧ mlf q = bl) (bl = 0) (kw + 2) (lin kw x y) r → e0 r = 0) :
    ∃ e' v6 y0 ef' gf', f_G_meetGroup (nI kw) (nI kh) ef (kw * kh) gf (nI kw) (nI kh) sf (nI x) (nI y) = (v6, y0, ef', gf') ∧ SM kw kh ef' e' ∧ (∀ r, e' r ≠ 0 ↔ (e0 r ≠ 0 ∨ RC (fun q => inn kw kh q ∧ mlf q = bl) (bl = 0) (kw + 2) (lin kw x y) r)) ∧ (v6 ≠ 0 ↔ ∃ a s, RC (fun q => inn kw kh q ∧ mlf q = bl) (bl = 0) (kw + 2) (lin kw x y) a ∧ s < (kw + 2) * (kh + 2) ∧ AD (bl = 0) (kw + 2) a s ∧ ¬ inn kw kh s) := by
  have har := ar_le hw hh
  have hkk : kw * kh ≤ 576 := Nat.mul_le_mul hw hh
  have hin : inn kw kh (lin kw x y) := ⟨x, y, hx, hy, rfl⟩
  have hrA := inn_A hin
  have esf := hS.blk hw hh hx hy
  have eef := hE.blk hw hh hx hy
  have hbs := blacks_set (kw := kw) (kh := kh) hrA hm
  have hSM := hE.paint hw hh hx hy (v := 1) (Or.inr rfl)
  have hle := blacks_le hSM hw
  have hmeet : f_G_meet (nI kw) (nI kh) ef (kw * kh) gf 0 (nI x) (nI y) = (nI 1, f_S_paint (nI kw) (nI kh) ef (nI x) (nI y) 1, upd gf 0 (nI (pl kw (lin kw x y)))) := by
    rw [f_G_meet, eef, if_pos hm, if_neg (nI_nle (by omega) (by omega)), f_G_meet_q1, pl_eq (by omega) (by omega), pl_lin hx]
    rfl
  have B0 : BQ kw kh bl mlf e0 (lin kw x y) 0 [lin kw x y] (upd e0 (lin kw x y) 1) 0 (nI 1) (f_S_paint (nI kw) (nI kh) ef (nI x) (nI y) 1) (upd gf 0 (nI (pl kw (lin kw x y)))) := by
    refine ⟨hSM, ?_, rfl, ?_, ?_, ?_, fun c => absurd rfl c, fun n a h => by omega⟩
    · rw [hbs]; rfl
    · intro n a hn
      have hlt2 : n < [lin kw x y].length := by
        rw [List.getElem?_eq_some_iff] at hn
        exact hn.1
      simp only [List.length_cons, List.length_nil] at hlt2
      have en : n = 0 := by omega
      subst en
      simp only [List.getElem?_cons_zero, Option.some.injEq] at hn
      rw [pk_us, hn]
    · refine ⟨rfl, ?_⟩
      intro a ha
      rw [List.mem_singleton] at ha
      rw [ha]; exact RC.refl ⟨hin, hcol⟩
    · intro r
      by_cases e' : r = lin kw x y
      · rw [e', pk_us]
        exact ⟨fun _ => Or.inr (List.mem_singleton.mpr rfl), fun _ => by decide⟩
      · rw [pk_un e', List.mem_singleton]
        exact ⟨fun h => Or.inl h, fun h => h.resolve_right e'⟩
  have key := lw_z (F := f_G_meetGroup_L37 (nI kw) (nI kh) (kw * kh) (nI kw) (nI kh) sf bl (if bl = 0 then (2 : Int32) else 1)) (Fz := fun _ _ => True)
    (fun s => ∃ h L e v6 y0 ef gf, s = (nI h, v6, y0, ef, gf) ∧ h ≤ L.length ∧ BQ kw kh bl mlf e0 (lin kw x y) h L e v6 y0 ef gf)
    (fun s => ∃ L e v6 y0 ef gf, s = (nI L.length, v6, y0, ef, gf) ∧ BQ kw kh bl mlf e0 (lin kw x y) L.length L e v6 y0 ef gf)
    (fun s => kw * kh - s.1.toNatClampNeg) (by
      rintro s ⟨h, L, e, v6, y0, ef, gf, rfl, h1, hB⟩
      have hlenk : L.length ≤ kw * kh := by have := blacks_le hB.1 hw; have := hB.2.1; omega
      have ey := hB.2.2.1
      by_cases hh' : h = L.length
      · subst hh'
        left
        refine ⟨⟨L, e, v6, y0, ef, gf, rfl, hB⟩, fun n => ⟨?_, trivial⟩⟩
        rw [f_G_meetGroup_L37, ey, if_pos (nI_le (Nat.le_refl _) (by omega))]
      · right
        have hlt : h < L.length := by omega
        have hc : L[h]? = some L[h] := List.getElem?_eq_getElem hlt
        obtain ⟨x', y', hx', hy', exy⟩ := (hB.2.2.2.2.1.2 _ (List.getElem_mem hlt)).col.1
        rw [exy] at hc
        obtain ⟨L', e', v6', y0', ef', gf', es, hB', hl'⟩ := bfs_in hw hh hbl hS hB hx' hy' hc
        refine ⟨(nI (h + 1), v6', y0', ef', gf'), ⟨h + 1, L', e', v6', y0', ef', gf', rfl, hl', hB'⟩, ?_, fun n => ⟨?_, id⟩⟩
        · try dsimp only
          rw [nI_clamp (by omega), nI_clamp (by omega)]; omega
        · rw [f_G_meetGroup_L37, ey, if_neg (nI_ge hlt (by omega)), if_neg (nI_ge (show h < kw * kh by omega) (by omega)), ← ey, es, f_G_meetGroup_k59, nI_1])
    FU (nI 0, 0, nI 1, f_S_paint (nI kw) (nI kh) ef (nI x) (nI y) 1, upd gf 0 (nI (pl kw (lin kw x y)))) (by have := lt_FU (k := kw * kh) (by omega); (try dsimp only); omega) ⟨0, [lin kw x y], _, _, _, _, _, rfl, by simp, B0⟩
  rw [nI_0] at key
  obtain ⟨⟨L, e, v6, y0, ef', gf', es, ⟨b1, b2, b3, b4, b5, b6, b7, b8'⟩⟩, -⟩ := key
  have all : ∀ r, RC (fun q => inn kw kh q ∧ mlf q = bl) (bl = 0) (kw + 2) (lin kw x y) r → r ∈ L := fun r hr =>
    (hr.2 (fun r => RC (fun q => inn kw kh q ∧ mlf q = bl) (bl = 0) (kw + 2) (lin kw x y) r ∧ r ∈ L) ⟨RC.refl ⟨hin, hcol⟩, List.mem_of_getElem? b5.1⟩ (fun a b ha hab hb => by
      have hRb := ha.1.step hab hb
      refine ⟨hRb, ?_⟩
      obtain ⟨n, hn⟩ := List.mem_iff_getElem?.mp ha.2
      have hlt2 : n < L.length := by
        rw [List.getElem?_eq_some_iff] at hn
        exact hn.1
      have := (b8' n a hlt2 hn b (inn_A hb.1) hab).1 hb
      rcases (b6 b).mp this with c | c
      · exact absurd (hcl b hRb) c
      · exact c)).2
  refine ⟨e, v6, y0, ef', gf', ?_, b1, fun r => ?_, b7, ?_⟩
  · rw [f_G_meetGroup, esf, hcol, f_G_meetGroup_t6, f_G_meetGroup_t18, hmeet, f_G_meetGroup_q1, es, f_G_meetGroup_k37]
  · rw [b6 r]
    exact ⟨fun h => h.elim Or.inl (fun h => Or.inr (b5.2 r h)), fun h => h.elim Or.inl (fun h => Or.inr (all r h))⟩
  · rintro ⟨a, s, h1, h2, h3, h4⟩
    obtain ⟨n, hn⟩ := List.mem_iff_getElem?.mp (all a h1)
    have hlt2 : n < L.length := by
      rw [List.getElem?_eq_some_iff] at hn
      exact hn.1
    exact (b8' n a hlt2 hn s h2 h3).2 h4
