/-! own: the strokes as lists -/
def wlk (W : Nat) (mf : Nat → Int32) (st : Nat) : Nat → Nat → Nat → (Nat → Nat → Bool) → List Nat → (Nat → Nat → Bool) × List Nat
  | 0, _, _, tk, sq => (tk, sq)
  | n + 1, cur, d, tk, sq =>
    if nbr W cur d = st ∧ dg W mf st = 2 then (st2 W tk cur d, sq)
    else if dg W mf (nbr W cur d) = 2 then wlk W mf st n (nbr W cur d) (otw W mf (nbr W cur d) ((d + 4) % 8)) (st2 W tk cur d) (sq ++ [nbr W cur d])
    else (st2 W tk cur d, sq ++ [nbr W cur d])
abbrev SS := (Nat → Nat → Bool) × List Nat × List Nat
def flw (kw kh : Nat) (mf : Nat → Int32) (q d : Nat) (s : SS) : SS :=
  ((wlk (kw + 2) mf q (4 * (kw * kh)) q d s.1 (s.2.1 ++ [q])).1, (wlk (kw + 2) mf q (4 * (kw * kh)) q d s.1 (s.2.1 ++ [q])).2, s.2.2 ++ [(wlk (kw + 2) mf q (4 * (kw * kh)) q d s.1 (s.2.1 ++ [q])).2.length])
/-- the directions before d of node q -/
def nod (kw kh : Nat) (mf : Nat → Int32) (q : Nat) (s : SS) : Nat → SS
  | 0 => s
  | d + 1 => if (lk (kw + 2) mf q d && !(nod kw kh mf q s d).1 q d) = true then flw kw kh mf q d (nod kw kh mf q s d) else nod kw kh mf q s d
def aln (q : Nat) (s : SS) : SS := (s.1, s.2.1 ++ [q], s.2.2 ++ [s.2.1.length + 1])
/-- the nodes before q -/
def tr1 (kw kh : Nat) (mf : Nat → Int32) : Nat → SS
  | 0 => (fun _ _ => false, [], [0])
  | q + 1 => if mf q ≠ 0 ∧ dg (kw + 2) mf q ≠ 2 then nod kw kh mf q (if dg (kw + 2) mf q = 0 then aln q (tr1 kw kh mf q) else tr1 kw kh mf q) 8 else tr1 kw kh mf q
/-- then the rings before q -/
def tr2 (kw kh : Nat) (mf : Nat → Int32) : Nat → SS
  | 0 => tr1 kw kh mf ((kw + 2) * (kh + 2))
  | q + 1 => if dg (kw + 2) mf q = 2 ∧ fst8 ((tr2 kw kh mf q).1 q) = 8 then flw kw kh mf q (fst8 (lk (kw + 2) mf q)) (tr2 kw kh mf q) else tr2 kw kh mf q
/-- begins and samples of whole strokes -/
def BG (W : Nat) (mf : Nat → Int32) (sq bg : List Nat) : Prop := bg[0]? = some 0 ∧ 1 ≤ bg.length ∧ bg[bg.length - 1]? = some sq.length ∧ (∀ s a b, bg[s]? = some a → bg[s + 1]? = some b → a < b ∧ b ≤ sq.length ∧ ∀ k c, a < k → k + 1 < b → sq[k]? = some c → dg W mf c = 2) ∧ ∀ a, a ∈ sq → mf a ≠ 0
/-- what holds between strokes -/
def SI (kw kh : Nat) (mf : Nat → Int32) (i : Nat) (s : SS) : Prop :=
  TKI (kw + 2) mf s.1 ∧ TK2 (kw + 2) mf s.1 (fun _ => False) ∧ s.2.1.length + vv (kw + 2) ((kw + 2) * (kh + 2)) mf i s.1 ≤ 4 * (kw * kh) ∧ 2 * (s.2.2.length - 1) + vv (kw + 2) ((kw + 2) * (kh + 2)) mf i s.1 ≤ 4 * (kw * kh) ∧ BG (kw + 2) mf s.2.1 s.2.2 ∧
  (∀ q d, s.1 q d = true → q ∈ s.2.1) ∧ ∀ q, q ∈ s.2.1 → dg (kw + 2) mf q ≠ 0 → ∃ d, d < 8 ∧ s.1 q d = true
theorem ring_dir {W : Nat} {mf : Nat → Int32} {tk : Nat → Bool} {q : Nat} (h2 : dg W mf q = 2) (h8 : fst8 tk = 8) : fst8 (lk W mf q) < 8 ∧ lk W mf q (fst8 (lk W mf q)) = true ∧ tk (fst8 (lk W mf q)) = false := by
  have h8 : fsd tk 8 0 = 8 := h8
  have hex : fsd (lk W mf q) 8 0 < 8 := Nat.lt_of_not_le fun c => by
    have h := dg_cnt W mf q
    rw [cntb_none (fun j hj => fsd_min (lk W mf q) 8 0 j (by omega) (by omega))] at h
    omega
  exact ⟨hex, fsd_p (lk W mf q) 8 0 (by omega), fsd_min tk 8 0 _ (by omega) (by rw [h8]; exact hex)⟩
theorem lt_of_get {L : List Nat} {n a : Nat} (h : L[n]? = some a) : n < L.length := by
  rw [List.getElem?_eq_some_iff] at h
  exact h.1
theorem get_app {L : List Nat} {x n a : Nat} (h : (L ++ [x])[n]? = some a) : (n < L.length ∧ L[n]? = some a) ∨ (n = L.length ∧ a = x) := by
  by_cases c : n < L.length
  · rw [List.getElem?_append_left c] at h
    exact Or.inl ⟨c, h⟩
  · have := lt_of_get h
    rw [List.length_append] at this
    simp only [List.length_cons, List.length_nil] at this
    have e : n = L.length := by omega
    subst e
    rw [List.getElem?_append_right (Nat.le_refl _)] at h
    simp only [Nat.sub_self, List.getElem?_cons_zero, Option.some.injEq] at h
    exact Or.inr ⟨rfl, h.symm⟩
theorem BG.app {W : Nat} {mf : Nat → Int32} {sq bg L : List Nat} (h : BG W mf sq bg) (hL : 1 ≤ L.length) (hi : ∀ k c, 0 < k → k + 1 < L.length → L[k]? = some c → dg W mf c = 2) (hm : ∀ a, a ∈ L → mf a ≠ 0) : BG W mf (sq ++ L) (bg ++ [(sq ++ L).length]) := by
  obtain ⟨h0, h1, h2, h3, h4⟩ := h
  refine ⟨?_, ?_, ?_, ?_, ?_⟩
  · rw [List.getElem?_append_left (by omega)]; exact h0
  · rw [List.length_append]; omega
  · rw [List.length_append (as := bg)]
    simp only [List.length_cons, List.length_nil, Nat.zero_add, Nat.add_sub_cancel]
    rw [List.getElem?_append_right (Nat.le_refl _)]
    simp
  · intro s a b ha hb
    rcases get_app hb with ⟨c1, c2⟩ | ⟨c1, c2⟩
    · rw [List.getElem?_append_left (by omega)] at ha
      obtain ⟨g1, g2, g3⟩ := h3 s a b ha c2
      refine ⟨g1, by rw [List.length_append]; omega, fun k c k1 k2 k3 => g3 k c k1 k2 ?_⟩
      rw [List.getElem?_append_left (by omega)] at k3
      exact k3
    · rw [List.getElem?_append_left (by omega)] at ha
      have ea : a = sq.length := by
        rw [show s = bg.length - 1 by omega, h2] at ha
        exact (Option.some.inj ha).symm
      subst ea
      rw [c2]
      refine ⟨by rw [List.length_append]; omega, Nat.le_refl _, fun k c k1 k2 k3 => ?_⟩
      rw [List.getElem?_append_right (by omega)] at k3
      rw [List.length_append] at k2
      exact hi (k - sq.length) c (by omega) (by omega) k3
  · intro a ha
    rcases List.mem_append.mp ha with c | c
    · exact h4 a c
    · exact hm a c
section
variable {kw kh : Nat} {mf : Nat → Int32} {st i : Nat}
theorem wlk_ok (hM : MF kw kh mf) : ∀ (n cur d : Nat) (tk : Nat → Nat → Bool) (sq : List Nat), WI (kw + 2) mf st cur d tk → vv (kw + 2) ((kw + 2) * (kh + 2)) mf i tk ≤ n →
    TKI (kw + 2) mf (wlk (kw + 2) mf st n cur d tk sq).1 ∧ TK2 (kw + 2) mf (wlk (kw + 2) mf st n cur d tk sq).1 (fun _ => False) ∧ (∀ q e, tk q e = true → (wlk (kw + 2) mf st n cur d tk sq).1 q e = true) ∧ (wlk (kw + 2) mf st n cur d tk sq).1 cur d = true ∧
    ∃ M, (wlk (kw + 2) mf st n cur d tk sq).2 = sq ++ M ∧ M.length + vv (kw + 2) ((kw + 2) * (kh + 2)) mf i (wlk (kw + 2) mf st n cur d tk sq).1 + 1 ≤ vv (kw + 2) ((kw + 2) * (kh + 2)) mf i tk ∧ vv (kw + 2) ((kw + 2) * (kh + 2)) mf i (wlk (kw + 2) mf st n cur d tk sq).1 + 2 ≤ vv (kw + 2) ((kw + 2) * (kh + 2)) mf i tk ∧
      (∀ k c, k + 1 < M.length → M[k]? = some c → dg (kw + 2) mf c = 2) ∧ (∀ c, c ∈ M → mf c ≠ 0) ∧ (∀ q e, (wlk (kw + 2) mf st n cur d tk sq).1 q e = true → tk q e = true ∨ q = cur ∨ q = st ∨ q ∈ M) ∧ (∀ c, c ∈ M → ∃ e, e < 8 ∧ (wlk (kw + 2) mf st n cur d tk sq).1 c e = true) := by
  intro n
  induction n with
  | zero =>
    intro cur d tk sq hW hv
    have := (hW.step hM).2.2.2.2.2.1 i
    omega
  | succ n ih =>
    intro cur d tk sq hW hv
    obtain ⟨s1, s2, s3, s4, s5, s6, s7, s8, s9, s10⟩ := hW.step hM
    have s6 := s6 i
    have e1 : st2 (kw + 2) tk cur d cur d = true := stk_mono (stk_s _ _ _)
    have e2 : st2 (kw + 2) tk cur d (nbr (kw + 2) cur d) ((d + 4) % 8) = true := stk_s _ _ _
    have e3 : ∀ q e, st2 (kw + 2) tk cur d q e = true → tk q e = true ∨ q = cur ∨ q = nbr (kw + 2) cur d := fun q e h => by
      by_cases c2 : q = nbr (kw + 2) cur d
      · exact Or.inr (Or.inr c2)
      · by_cases c1 : q = cur
        · exact Or.inr (Or.inl c1)
        · unfold st2 at h
          rw [stk_n (fun c => c2 c.1), stk_n (fun c => c1 c.1)] at h
          exact Or.inl h
    have hmn : mf (nbr (kw + 2) cur d) ≠ 0 := ((lk_iff hM (Nat.mod_lt _ (by omega))).mp s5).1
    rw [wlk]
    by_cases c1 : nbr (kw + 2) cur d = st ∧ dg (kw + 2) mf st = 2
    · rw [if_pos c1]
      refine ⟨s7, s8 c1, fun q e h => st2_mono h, e1, [], by simp, ?_, ?_, fun k c h => by simp at h, fun c h => by simp at h, fun q e h => ?_, fun c h => by simp at h⟩
      · (try dsimp only); simp only [List.length_nil]; omega
      · (try dsimp only); omega
      · rcases e3 q e h with g | g | g
        · exact Or.inl g
        · exact Or.inr (Or.inl g)
        · exact Or.inr (Or.inr (Or.inl (g.trans c1.1)))
    · rw [if_neg c1]
      by_cases c2 : dg (kw + 2) mf (nbr (kw + 2) cur d) = 2
      · rw [if_pos c2]
        obtain ⟨i1, i2, i3, i4, M, i5, i6, i7, i8, i9, i10, i11⟩ := ih (nbr (kw + 2) cur d) (otw (kw + 2) mf (nbr (kw + 2) cur d) ((d + 4) % 8)) (st2 (kw + 2) tk cur d) (sq ++ [nbr (kw + 2) cur d]) (s10 c1 c2) (by omega)
        refine ⟨i1, i2, fun q e h => i3 q e (st2_mono h), i3 _ _ e1, nbr (kw + 2) cur d :: M, ?_, ?_, by omega, ?_, ?_, ?_, ?_⟩
        · rw [i5, List.append_assoc]; rfl
        · simp only [List.length_cons]; omega
        · intro k c hk hc
          cases k with
          | zero =>
            simp only [List.getElem?_cons_zero, Option.some.injEq] at hc
            rw [← hc]; exact c2
          | succ k =>
            simp only [List.length_cons] at hk
            rw [List.getElem?_cons_succ] at hc
            exact i8 k c (by omega) hc
        · intro c hc
          rcases List.mem_cons.mp hc with g | g
          · rw [g]; exact hmn
          · exact i9 c g
        · intro q e h
          rcases i10 q e h with g | g | g | g
          · rcases e3 q e g with g | g | g
            · exact Or.inl g
            · exact Or.inr (Or.inl g)
            · exact Or.inr (Or.inr (Or.inr (by rw [g]; exact List.mem_cons_self)))
          · exact Or.inr (Or.inr (Or.inr (by rw [g]; exact List.mem_cons_self)))
          · exact Or.inr (Or.inr (Or.inl g))
          · exact Or.inr (Or.inr (Or.inr (List.mem_cons_of_mem _ g)))
        · intro c hc
          rcases List.mem_cons.mp hc with g | g
          · rw [g]; exact ⟨_, Nat.mod_lt _ (by omega), i3 _ _ e2⟩
          · exact i11 c g
      · rw [if_neg c2]
        refine ⟨s7, s9 c1 c2, fun q e h => st2_mono h, e1, [nbr (kw + 2) cur d], rfl, ?_, ?_, fun k c h => by simp at h, fun c h => ?_, fun q e h => ?_, fun c h => ?_⟩
        · (try dsimp only); simp only [List.length_cons, List.length_nil]; omega
        · (try dsimp only); omega
        · rw [List.mem_singleton] at h; rw [h]; exact hmn
        · rcases e3 q e h with g | g | g
          · exact Or.inl g
          · exact Or.inr (Or.inl g)
          · exact Or.inr (Or.inr (Or.inr (by rw [g]; exact List.mem_singleton.mpr rfl)))
        · rw [List.mem_singleton] at h; rw [h]
          exact ⟨_, Nat.mod_lt _ (by omega), e2⟩
/-- a walk may begin -/
theorem SI_wi {s : SS} (h : SI kw kh mf i s) {q d : Nat} (hd : d < 8) (hl : lk (kw + 2) mf q d = true) (ht : s.1 q d = false) (hN : dg (kw + 2) mf q = 2 → TKN (kw + 2) mf s.1) : WI (kw + 2) mf q q d s.1 :=
  ⟨hd, hl, ht, h.1, fun q' _ => h.2.1 q' id, fun c => absurd rfl c, fun c => absurd rfl c, fun _ h2 e he hle => by rw [h.2.1 q id h2 e d he hd hle hl]; exact ht, hN⟩
theorem SI_flw (hM : MF kw kh mf) {s : SS} (h : SI kw kh mf i s) {q d : Nat} (hd : d < 8) (hl : lk (kw + 2) mf q d = true) (ht : s.1 q d = false) (hN : dg (kw + 2) mf q = 2 → TKN (kw + 2) mf s.1) :
    SI kw kh mf i (flw kw kh mf q d s) ∧ (∀ a e, s.1 a e = true → (flw kw kh mf q d s).1 a e = true) ∧ (flw kw kh mf q d s).1 q d = true ∧ ∀ a, a ∈ s.2.1 → a ∈ (flw kw kh mf q d s).2.1 := by
  have hW := SI_wi h hd hl ht hN
  obtain ⟨b1, b2, b3, b4, b5, b6, b7⟩ := h
  obtain ⟨i1, i2, i3, i4, M, i5, i6, i7, i8, i9, i10, i11⟩ := wlk_ok (i := i) hM (4 * (kw * kh)) q d s.1 (s.2.1 ++ [q]) hW (by omega)
  have hq0 : mf q ≠ 0 := ((lk_iff hM hd).mp hl).1
  have e : (wlk (kw + 2) mf q (4 * (kw * kh)) q d s.1 (s.2.1 ++ [q])).2 = s.2.1 ++ (q :: M) := by rw [i5, List.append_assoc]; rfl
  have hlen : (s.2.1 ++ (q :: M)).length = s.2.1.length + M.length + 1 := by rw [List.length_append]; simp only [List.length_cons]; omega
  refine ⟨⟨i1, i2, ?_, ?_, ?_, ?_, ?_⟩, i3, i4, fun a ha => by show a ∈ (wlk (kw + 2) mf q (4 * (kw * kh)) q d s.1 (s.2.1 ++ [q])).2; rw [e]; exact List.mem_append_left _ ha⟩
  · show (wlk (kw + 2) mf q (4 * (kw * kh)) q d s.1 (s.2.1 ++ [q])).2.length + vv (kw + 2) ((kw + 2) * (kh + 2)) mf i (wlk (kw + 2) mf q (4 * (kw * kh)) q d s.1 (s.2.1 ++ [q])).1 ≤ _
    rw [e, hlen]; omega
  · show 2 * ((s.2.2 ++ [(wlk (kw + 2) mf q (4 * (kw * kh)) q d s.1 (s.2.1 ++ [q])).2.length]).length - 1) + vv (kw + 2) ((kw + 2) * (kh + 2)) mf i (wlk (kw + 2) mf q (4 * (kw * kh)) q d s.1 (s.2.1 ++ [q])).1 ≤ _
    rw [List.length_append]
    simp only [List.length_cons, List.length_nil]
    have := b5.2.1
    omega
  · show BG (kw + 2) mf (wlk (kw + 2) mf q (4 * (kw * kh)) q d s.1 (s.2.1 ++ [q])).2 (s.2.2 ++ [(wlk (kw + 2) mf q (4 * (kw * kh)) q d s.1 (s.2.1 ++ [q])).2.length])
    rw [e]
    refine b5.app (by simp) (fun k c k1 k2 k3 => ?_) (fun a ha => ?_)
    · cases k with
      | zero => omega
      | succ k =>
        simp only [List.length_cons] at k2
        rw [List.getElem?_cons_succ] at k3
        exact i8 k c (by omega) k3
    · rcases List.mem_cons.mp ha with g | g
      · rw [g]; exact hq0
      · exact i9 a g
  · intro a b hab
    show a ∈ (wlk (kw + 2) mf q (4 * (kw * kh)) q d s.1 (s.2.1 ++ [q])).2
    rw [e]
    rcases i10 a b hab with g | g | g | g
    · exact List.mem_append_left _ (b6 a b g)
    · rw [g]; exact List.mem_append_right _ List.mem_cons_self
    · rw [g]; exact List.mem_append_right _ List.mem_cons_self
    · exact List.mem_append_right _ (List.mem_cons_of_mem _ g)
  · intro a ha h0
    have ha' : a ∈ s.2.1 ++ (q :: M) := by rw [← e]; exact ha
    rcases List.mem_append.mp ha' with g | g
    · obtain ⟨d', d1, d2⟩ := b7 a g h0
      exact ⟨d', d1, i3 _ _ d2⟩
    · rcases List.mem_cons.mp g with g | g
      · rw [g]; exact ⟨d, hd, i4⟩
      · exact i11 a g
/-- the directions of a node -/
theorem SI_nod (hM : MF kw kh mf) {s : SS} (h : SI kw kh mf i s) {q : Nat} (hq : dg (kw + 2) mf q ≠ 2) : ∀ d, d ≤ 8 → SI kw kh mf i (nod kw kh mf q s d) ∧ (∀ a e, s.1 a e = true → (nod kw kh mf q s d).1 a e = true) ∧ (∀ e, e < d → lk (kw + 2) mf q e = true → (nod kw kh mf q s d).1 q e = true) ∧ ∀ a, a ∈ s.2.1 → a ∈ (nod kw kh mf q s d).2.1
  | 0, _ => ⟨h, fun _ _ h => h, fun e h => by omega, fun _ h => h⟩
  | d + 1, hd => by
    obtain ⟨i1, i2, i3, i4⟩ := SI_nod hM h hq d (by omega)
    rw [nod]
    by_cases c : (lk (kw + 2) mf q d && !(nod kw kh mf q s d).1 q d) = true
    · rw [if_pos c]
      simp only [Bool.and_eq_true, Bool.not_eq_true'] at c
      obtain ⟨j1, j2, j3, j4⟩ := SI_flw hM i1 (by omega) c.1 c.2 (fun h => absurd h hq)
      refine ⟨j1, fun a e h => j2 a e (i2 a e h), fun e he hl => ?_, fun a ha => j4 a (i4 a ha)⟩
      by_cases ed : e = d
      · rw [ed]; exact j3
      · exact j2 _ _ (i3 e (by omega) hl)
    · rw [if_neg c]
      refine ⟨i1, i2, fun e he hl => ?_, i4⟩
      by_cases ed : e = d
      · subst ed
        rw [hl] at c
        cases h' : (nod kw kh mf q s e).1 q e with
        | true => rfl
        | false => rw [h'] at c; exact absurd rfl c
      · exact i3 e (by omega) hl
theorem vv_next {i : Nat} (tk : Nat → Nat → Bool) (h : ¬ (mf i ≠ 0 ∧ dg (kw + 2) mf i = 0)) : vv (kw + 2) ((kw + 2) * (kh + 2)) mf (i + 1) tk = vv (kw + 2) ((kw + 2) * (kh + 2)) mf i tk := by
  unfold vv
  refine sumn_congr (fun j _ => ?_)
  congr 1
  refine if_congr ?_ rfl rfl
  constructor
  · rintro ⟨a, b⟩
    exact ⟨by omega, b⟩
  · rintro ⟨a, b⟩
    have : i ≠ j := fun c => h (by rw [c]; exact b)
    exact ⟨by omega, b⟩
theorem sumn_four {f g : Nat → Nat} {k : Nat} (hk : g k + 4 = f k) (ho : ∀ j, j ≠ k → g j = f j) : ∀ n, k < n → sumn g n + 4 = sumn f n
  | 0, h => by omega
  | n + 1, h => by
    rw [sumn, sumn]
    by_cases e : k = n
    · subst e
      rw [sumn_congr (f := g) (g := f) (fun j hj => ho j (by omega))]; omega
    · have := sumn_four hk ho n (by omega)
      rw [ho n (by omega)]; omega
theorem vv_iso {i : Nat} (tk : Nat → Nat → Bool) (hi : i < (kw + 2) * (kh + 2)) (h : mf i ≠ 0 ∧ dg (kw + 2) mf i = 0) : vv (kw + 2) ((kw + 2) * (kh + 2)) mf (i + 1) tk + 4 = vv (kw + 2) ((kw + 2) * (kh + 2)) mf i tk := by
  unfold vv
  refine sumn_four (k := i) ?_ (fun j hj => ?_) _ hi
  · rw [if_neg (by omega), if_pos ⟨Nat.le_refl _, h⟩]
  · congr 1
    refine if_congr ?_ rfl rfl
    constructor
    · rintro ⟨a, b⟩
      exact ⟨by omega, b⟩
    · rintro ⟨a, b⟩
      exact ⟨by omega, b⟩
theorem SI_next {s : SS} (h : SI kw kh mf i s) (hn : ¬ (mf i ≠ 0 ∧ dg (kw + 2) mf i = 0)) : SI kw kh mf (i + 1) s := by
  obtain ⟨b1, b2, b3, b4, b5⟩ := h
  exact ⟨b1, b2, by rw [vv_next _ hn]; exact b3, by rw [vv_next _ hn]; exact b4, b5⟩
theorem SI_aln {s : SS} (h : SI kw kh mf i s) (hi : i < (kw + 2) * (kh + 2)) (hn : mf i ≠ 0 ∧ dg (kw + 2) mf i = 0) : SI kw kh mf (i + 1) (aln i s) := by
  obtain ⟨b1, b2, b3, b4, b5, b6, b7⟩ := h
  have hv := vv_iso s.1 hi hn
  refine ⟨b1, b2, ?_, ?_, ?_, fun q d hq => List.mem_append_left _ (b6 q d hq), fun q hq h0 => ?_⟩
  · show (s.2.1 ++ [i]).length + vv (kw + 2) ((kw + 2) * (kh + 2)) mf (i + 1) s.1 ≤ _
    rw [List.length_append]
    simp only [List.length_cons, List.length_nil]
    omega
  · show 2 * ((s.2.2 ++ [s.2.1.length + 1]).length - 1) + vv (kw + 2) ((kw + 2) * (kh + 2)) mf (i + 1) s.1 ≤ _
    rw [List.length_append]
    simp only [List.length_cons, List.length_nil]
    have := b5.2.1
    omega
  · have := b5.app (L := [i]) (by simp) (fun k c k1 k2 => by simp at k2) (fun a ha => by rw [List.mem_singleton] at ha; rw [ha]; exact hn.1)
    rw [List.length_append] at this
    exact this
  · rcases List.mem_append.mp hq with g | g
    · exact b7 q g h0
    · rw [List.mem_singleton] at g
      rw [g] at h0
      exact absurd hn.2 h0
theorem sumn_p4 {f : Nat → Nat} {p : Nat → Bool} : ∀ {n : Nat}, (∀ q, q < n → f q ≤ if p q then 4 else 0) → sumn f n ≤ 4 * cntb p n
  | 0, _ => Nat.zero_le _
  | n + 1, h => by
    have h1 := sumn_p4 (n := n) (fun q hq => h q (by omega))
    have h2 := h n (by omega)
    rw [sumn, cntb]
    split at h2 <;> simp_all <;> omega
theorem dg0 {W q : Nat} (h : mf q = 0) : dg W mf q = 0 := by unfold dg; rw [if_pos h]
theorem vv0 {sf : Nat → Int32} (hS : SM kw kh sf mf) (hw : kw ≤ 24) : vv (kw + 2) ((kw + 2) * (kh + 2)) mf 0 (fun _ _ => false) ≤ 4 * (kw * kh) := by
  have h1 : vv (kw + 2) ((kw + 2) * (kh + 2)) mf 0 (fun _ _ => false) ≤ 4 * blacks kw kh mf := by
    unfold vv blacks
    refine sumn_p4 (fun q _ => ?_)
    have eu : ut (kw + 2) mf (fun _ _ => false) q = dg (kw + 2) mf q := by
      unfold ut
      rw [← dg_cnt]
      exact cntb_congr (fun d _ => by simp)
    rw [eu]
    by_cases h0 : mf q = 0
    · rw [dg0 h0, if_neg (fun c => c.2.1 h0)]
      omega
    · have h4 := dg_le (kw + 2) mf q
      rw [if_pos (show decide (mf q ≠ 0) = true by simp [h0])]
      by_cases hd : dg (kw + 2) mf q = 0
      · rw [hd]; split <;> omega
      · rw [if_neg (fun c => hd c.2.2)]; omega
  have h2 := blacks_le hS hw
  omega
/-- after the nodes before q -/
theorem tr1_ok (hM : MF kw kh mf) {sf : Nat → Int32} (hS : SM kw kh sf mf) (hw : kw ≤ 24) : ∀ q, q ≤ (kw + 2) * (kh + 2) → SI kw kh mf q (tr1 kw kh mf q) ∧ (∀ p d, p < q → d < 8 → lk (kw + 2) mf p d = true → dg (kw + 2) mf p ≠ 2 → (tr1 kw kh mf q).1 p d = true) ∧ ∀ p, p < q → mf p ≠ 0 → dg (kw + 2) mf p = 0 → p ∈ (tr1 kw kh mf q).2.1
  | 0, _ => by
    have hv := vv0 hS hw
    refine ⟨⟨fun q d h => absurd h (by simp [tr1]), fun q _ _ a b _ _ _ _ => rfl, ?_, ?_, ⟨rfl, Nat.le_refl _, rfl, fun s a b h1 h2 => ?_, fun a ha => by cases ha⟩, fun q d h => absurd h (by simp [tr1]), fun q h => by cases h⟩, fun p d h => by omega, fun p h => by omega⟩
    · show 0 + vv (kw + 2) ((kw + 2) * (kh + 2)) mf 0 (fun _ _ => false) ≤ _
      omega
    · show 2 * (1 - 1) + vv (kw + 2) ((kw + 2) * (kh + 2)) mf 0 (fun _ _ => false) ≤ _
      omega
    · have h3 : s + 1 < 1 := lt_of_get h2
      omega
  | q + 1, hq => by
    obtain ⟨i1, i2, i3⟩ := tr1_ok hM hS hw q (by omega)
    rw [tr1]
    by_cases c : mf q ≠ 0 ∧ dg (kw + 2) mf q ≠ 2
    · rw [if_pos c]
      by_cases c0 : dg (kw + 2) mf q = 0
      · rw [if_pos c0]
        obtain ⟨j1, j2, j3, j4⟩ := SI_nod hM (SI_aln i1 (by omega) ⟨c.1, c0⟩) c.2 8 (Nat.le_refl _)
        refine ⟨j1, fun p d h1 h2 h3 h4 => ?_, fun p h1 h2 h3 => ?_⟩
        · by_cases e : p = q
          · rw [e] at h3 ⊢; exact j3 d h2 h3
          · exact j2 p d (i2 p d (by omega) h2 h3 h4)
        · by_cases e : p = q
          · rw [e]; exact j4 q (List.mem_append_right _ (List.mem_singleton.mpr rfl))
          · exact j4 p (List.mem_append_left _ (i3 p (by omega) h2 h3))
      · rw [if_neg c0]
        obtain ⟨j1, j2, j3, j4⟩ := SI_nod hM (SI_next i1 (fun h => c0 h.2)) c.2 8 (Nat.le_refl _)
        refine ⟨j1, fun p d h1 h2 h3 h4 => ?_, fun p h1 h2 h3 => ?_⟩
        · by_cases e : p = q
          · rw [e] at h3 ⊢; exact j3 d h2 h3
          · exact j2 p d (i2 p d (by omega) h2 h3 h4)
        · by_cases e : p = q
          · rw [e] at h3; exact absurd h3 c0
          · exact j4 p (i3 p (by omega) h2 h3)
    · rw [if_neg c]
      have hn : ¬ (mf q ≠ 0 ∧ dg (kw + 2) mf q = 0) := fun h => c ⟨h.1, by rw [h.2]; decide⟩
      refine ⟨SI_next i1 hn, fun p d h1 h2 h3 h4 => ?_, fun p h1 h2 h3 => ?_⟩
      · by_cases e : p = q
        · rw [e] at h3 h4
          exact absurd ⟨((lk_iff hM h2).mp h3).1, h4⟩ c
        · exact i2 p d (by omega) h2 h3 h4
      · by_cases e : p = q
        · rw [e] at h2 h3; exact absurd ⟨h2, h3⟩ hn
        · exact i3 p (by omega) h2 h3
/-- with the rings before q -/
theorem tr2_ok (hM : MF kw kh mf) {sf : Nat → Int32} (hS : SM kw kh sf mf) (hw : kw ≤ 24) : ∀ q, SI kw kh mf ((kw + 2) * (kh + 2)) (tr2 kw kh mf q) ∧ TKN (kw + 2) mf (tr2 kw kh mf q).1 ∧ ∀ p, mf p ≠ 0 → dg (kw + 2) mf p = 0 → p ∈ (tr2 kw kh mf q).2.1
  | 0 => by
    obtain ⟨i1, i2, i3⟩ := tr1_ok hM hS hw ((kw + 2) * (kh + 2)) (Nat.le_refl _)
    exact ⟨i1, fun p d h1 h2 h3 => i2 p d (inn_A (lk_inn hM h2)) h1 h2 h3, fun p h1 h2 => i3 p (inn_A (hM.inn h1)) h1 h2⟩
  | q + 1 => by
    obtain ⟨i1, i2, i3⟩ := tr2_ok hM hS hw q
    rw [tr2]
    by_cases c : dg (kw + 2) mf q = 2 ∧ fst8 ((tr2 kw kh mf q).1 q) = 8
    · rw [if_pos c]
      obtain ⟨l1, l2, l3⟩ := ring_dir c.1 c.2
      obtain ⟨j1, j2, j3, j4⟩ := SI_flw hM i1 l1 l2 l3 (fun _ => i2)
      exact ⟨j1, fun p d h1 h2 h3 => j2 _ _ (i2 p d h1 h2 h3), fun p h1 h2 => j4 p (i3 p h1 h2)⟩
    · rw [if_neg c]
      exact ⟨i1, i2, i3⟩
end
