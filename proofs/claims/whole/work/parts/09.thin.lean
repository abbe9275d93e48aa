def f_H_isSimple_k4  : Int32 × Int32 → Int32
  | (v2_4, v1_4) => (if v1_4 = 1 then 1 else 0)
def f_H_isSimple_L4 (px : Int32) : Nat → Int32 × Int32 → Int32 × Int32
  | 0, σ => σ
  | n9 + 1, (v2_4, v1_4) => (if 8 ≤ v2_4 then (v2_4, v1_4) else (if (f_hasBit px v2_4) = 0 then (if (f_hasBit px (v2_4 + 1)) = 0 then (if (f_hasBit px (v2_4 + 2)) = 0 then ((f_H_isSimple_L4 px n9) (v2_4 + 2, v1_4)) else ((f_H_isSimple_L4 px n9) (v2_4 + 2, v1_4 + 1))) else ((f_H_isSimple_L4 px n9) (v2_4 + 2, v1_4 + 1))) else ((f_H_isSimple_L4 px n9) (v2_4 + 2, v1_4))))
def f_H_isSimple (px : Int32) : Int32 := (f_H_isSimple_k4 (f_H_isSimple_L4 px FU (0, 0)))
set_option maxHeartbeats 4000000 in
set_option maxRecDepth 100000 in
theorem c_H_isSimple (l : Launch) (D : va_G) (tX tY : Nat) (px : Int32) : Met l yX2_isSimple wX2_isSimple ({ frames := 1, cells := 0, slots := 0, locals := 21 }) (ro_P D tX tY [] [] [.int px]) (k2_QcV (.int (f_H_isSimple px))) 0 0 (fun _ => False) := by
  generalize hF : (f_H_isSimple px) = F
  refine Met.ofW (cc := cX2_isSimple) (maxL := 3) (ret := (some .boolean)) (by decide) rfl ?_
  intro p e s m args below meth c s₁ B hml hv
  obtain ⟨rfl, hP, hK, hT, hN⟩ := hv
  have hx := B.exec
  have hb := B.bytes
  have hr := B.returns
  have hts := atoms_spec (ws := wX2_isSimple) B.pre
  have hta : ∀ w ∈ gw, w.before _ s = true := fun w h => hts w (List.mem_cons_of_mem _ h)
  have hown : s.vm.findClass RX2 = some m.cls := findClass_of_methodNamed B.named
  have hlocks := B.notSynchronized
  have hl := lv_entry [.int px] (n := 3) (Nat.le_of_ble_eq_true rfl)
  rw [lg_entry_eq]
  generalize (lg_sl [.int px] ++ List.replicate (3 - (lg_sl [.int px]).length) Slot.unset).toArray = ls at hl ⊢
  have hl : lv_has ls 3 [(0, .int px)] := hl
  rw [f_H_isSimple] at hF
  refine lv_iconst (v := 0) hx hb dX2_isSimple_0 (by decide) ?_
  refine lv_istore_n (lv' := [(1, .int 0), (0, .int px)]) hx hb dX2_isSimple_1 rfl hl (by decide) rfl (fun ls hl => ?_)
  refine lv_iconst (v := 0) hx hb dX2_isSimple_2 (by decide) ?_
  refine lv_istore_n (lv' := [(2, .int 0), (1, .int 0), (0, .int px)]) hx hb dX2_isSimple_3 rfl hl (by decide) rfl (fun ls hl => ?_)
  have af4 : ∀ (v2_4 : Int32) (v1_4 : Int32) (ls : Array Slot), f_H_isSimple_k4  (v2_4, v1_4) = F → lv_has ls 3 [(2, .int v2_4), (1, .int v1_4), (0, .int px)] → W p l e { frames := 1, cells := 0, slots := 0, locals := 21 } s m (List.toArray [.int px]) below meth c s.heap [] 0 0 (MQ below (k2_QcV (.int F)) (List.toArray [.int px]) s 0 0 (fun _ => False)) (F0 m 47 ls []) := by
    intro v2_4 v1_4 ls hF hl
    rw [f_H_isSimple_k4] at hF
    refine lv_iload_n hx hb dX2_isSimple_47 rfl (lv_at hl 1 rfl) ?_
    refine lv_iconst (v := 1) hx hb dX2_isSimple_48 (by decide) ?_
    refine lv_icmp_ne (tgt := 56) hx hb dX2_isSimple_49 (by decide) (fun c49 => ?_) (fun c49 => ?_)
    · rw [if_neg c49] at hF
      refine lv_iconst (v := 0) hx hb dX2_isSimple_56 (by decide) ?_
      exact W.zret (v := 0) hx hb hr rfl (fun t ht _ => ⟨by rw [← hF], ht⟩) (fun _ h => nomatch h) dX2_isSimple_57
    · rw [if_pos c49] at hF
      refine lv_iconst (v := 1) hx hb dX2_isSimple_52 (by decide) ?_
      refine lv_goto (tgt := 57) hx hb dX2_isSimple_53 (by decide) ?_
      exact W.zret (v := 1) hx hb hr rfl (fun t ht _ => ⟨by rw [← hF], ht⟩) (fun _ h => nomatch h) dX2_isSimple_57
  have lp4 : ∀ (n9 : Nat) (v2_4 : Int32) (v1_4 : Int32) (ls : Array Slot), ((8 : Int32).toInt - v2_4.toInt).toNat < n9 → f_H_isSimple_k4  (f_H_isSimple_L4 px n9 (v2_4, v1_4)) = F → lv_has ls 3 [(2, .int v2_4), (1, .int v1_4), (0, .int px)] → W p l e { frames := 1, cells := 0, slots := 0, locals := 21 } s m (List.toArray [.int px]) below meth c s.heap [] 0 0 (MQ below (k2_QcV (.int F)) (List.toArray [.int px]) s 0 0 (fun _ => False)) (F0 m 4 ls []) := by
    intro n9
    induction n9 with
    | zero => intro v2_4 v1_4 ls hmu4; exact absurd hmu4 (Nat.not_lt_zero _)
    | succ n4 ih4 =>
      intro v2_4 v1_4 ls hmu4 hF hl
      rw [f_H_isSimple_L4] at hF
      refine lv_iload_n hx hb dX2_isSimple_4 rfl (lv_at hl 0 rfl) ?_
      refine lv_bipush (v := 8) hx hb dX2_isSimple_5 (by decide) ?_
      refine lv_icmp_ge (tgt := 47) hx hb dX2_isSimple_7 (by decide) (fun c7 => ?_) (fun c7 => ?_)
      · rw [if_pos c7] at hF
        exact af4 v2_4 v1_4 ls hF (lv_sub hl [0, 1, 2] rfl)
      · rw [if_neg c7] at hF
        refine lv_iload_n hx hb dX2_isSimple_10 rfl (lv_at hl 2 rfl) ?_
        refine lv_iload_n hx hb dX2_isSimple_11 rfl (lv_at hl 0 rfl) ?_
        refine ro_go (va_runSN (As := [.int px, .int v2_4]) (rest := []) ⟨hx, hb, hml, hown, hts⟩ (c_hasBit l D tX tY px v2_4) ⟨va_cnB 2 hts (gi gw_176) rfl rfl rfl (gn_174 hN) (hta _ gw_1) (by decide +kernel) ⟨Nat.le_of_ble_eq_true rfl, Nat.le_of_ble_eq_true rfl⟩, hta _ gw_175, trivial⟩ ⟨ro_blind, ro_at hP hK hT hN va_S.rf [] [] rfl rfl⟩ rfl rfl hl.1 rfl (lv_room (Nat.le_of_ble_eq_true rfl)) dX2_isSimple_12 ⟨Nat.le_of_ble_eq_true rfl, Nat.le_of_ble_eq_true rfl⟩) ?_
        refine lv_if_ne (tgt := 41) hx hb dX2_isSimple_15 (by decide) (fun c15 => ?_) (fun c15 => ?_)
        · rw [if_neg c15] at hF
          refine lv_iinc (v := v2_4 + 2) (lv' := [(2, .int (v2_4 + 2)), (1, .int v1_4), (0, .int px)]) hx hb dX2_isSimple_41 hl (k := 0) rfl rfl (by decide) rfl (fun ls hl => ?_)
          refine lv_goto (tgt := 4) hx hb dX2_isSimple_44 (by decide) ?_
          exact ih4 (v2_4 + 2) v1_4 ls (lt_lt (cu2 c7) hmu4) hF (lv_sub hl [0, 1, 2] rfl)
        · rw [if_pos c15] at hF
          refine lv_iload_n hx hb dX2_isSimple_18 rfl (lv_at hl 2 rfl) ?_
          refine lv_iload_n hx hb dX2_isSimple_19 rfl (lv_at hl 0 rfl) ?_
          refine lv_iconst (v := 1) hx hb dX2_isSimple_20 (by decide) ?_
          refine lv_iadd hx hb dX2_isSimple_21 ?_
          refine ro_go (va_runSN (As := [.int px, .int (v2_4 + 1)]) (rest := []) ⟨hx, hb, hml, hown, hts⟩ (c_hasBit l D tX tY px (v2_4 + 1)) ⟨va_cnB 2 hts (gi gw_176) rfl rfl rfl (gn_174 hN) (hta _ gw_1) (by decide +kernel) ⟨Nat.le_of_ble_eq_true rfl, Nat.le_of_ble_eq_true rfl⟩, hta _ gw_175, trivial⟩ ⟨ro_blind, ro_at hP hK hT hN va_S.rf [] [] rfl rfl⟩ rfl rfl hl.1 rfl (lv_room (Nat.le_of_ble_eq_true rfl)) dX2_isSimple_22 ⟨Nat.le_of_ble_eq_true rfl, Nat.le_of_ble_eq_true rfl⟩) ?_
          refine lv_if_ne (tgt := 38) hx hb dX2_isSimple_25 (by decide) (fun c25 => ?_) (fun c25 => ?_)
          · rw [if_neg c25] at hF
            refine lv_iinc (v := v1_4 + 1) (lv' := [(1, .int (v1_4 + 1)), (2, .int v2_4), (0, .int px)]) hx hb dX2_isSimple_38 hl (k := 1) rfl rfl (by decide) rfl (fun ls hl => ?_)
            refine lv_iinc (v := v2_4 + 2) (lv' := [(2, .int (v2_4 + 2)), (1, .int (v1_4 + 1)), (0, .int px)]) hx hb dX2_isSimple_41 hl (k := 1) rfl rfl (by decide) rfl (fun ls hl => ?_)
            refine lv_goto (tgt := 4) hx hb dX2_isSimple_44 (by decide) ?_
            exact ih4 (v2_4 + 2) (v1_4 + 1) ls (lt_lt (cu2 c7) hmu4) hF (lv_sub hl [0, 1, 2] rfl)
          · rw [if_pos c25] at hF
            refine lv_iload_n hx hb dX2_isSimple_28 rfl (lv_at hl 2 rfl) ?_
            refine lv_iload_n hx hb dX2_isSimple_29 rfl (lv_at hl 0 rfl) ?_
            refine lv_iconst (v := 2) hx hb dX2_isSimple_30 (by decide) ?_
            refine lv_iadd hx hb dX2_isSimple_31 ?_
            refine ro_go (va_runSN (As := [.int px, .int (v2_4 + 2)]) (rest := []) ⟨hx, hb, hml, hown, hts⟩ (c_hasBit l D tX tY px (v2_4 + 2)) ⟨va_cnB 2 hts (gi gw_176) rfl rfl rfl (gn_174 hN) (hta _ gw_1) (by decide +kernel) ⟨Nat.le_of_ble_eq_true rfl, Nat.le_of_ble_eq_true rfl⟩, hta _ gw_175, trivial⟩ ⟨ro_blind, ro_at hP hK hT hN va_S.rf [] [] rfl rfl⟩ rfl rfl hl.1 rfl (lv_room (Nat.le_of_ble_eq_true rfl)) dX2_isSimple_32 ⟨Nat.le_of_ble_eq_true rfl, Nat.le_of_ble_eq_true rfl⟩) ?_
            refine lv_if_eq (tgt := 41) hx hb dX2_isSimple_35 (by decide) (fun c35 => ?_) (fun c35 => ?_)
            · rw [if_pos c35] at hF
              refine lv_iinc (v := v2_4 + 2) (lv' := [(2, .int (v2_4 + 2)), (1, .int v1_4), (0, .int px)]) hx hb dX2_isSimple_41 hl (k := 0) rfl rfl (by decide) rfl (fun ls hl => ?_)
              refine lv_goto (tgt := 4) hx hb dX2_isSimple_44 (by decide) ?_
              exact ih4 (v2_4 + 2) v1_4 ls (lt_lt (cu2 c7) hmu4) hF (lv_sub hl [0, 1, 2] rfl)
            · rw [if_neg c35] at hF
              refine lv_iinc (v := v1_4 + 1) (lv' := [(1, .int (v1_4 + 1)), (2, .int v2_4), (0, .int px)]) hx hb dX2_isSimple_38 hl (k := 1) rfl rfl (by decide) rfl (fun ls hl => ?_)
              refine lv_iinc (v := v2_4 + 2) (lv' := [(2, .int (v2_4 + 2)), (1, .int (v1_4 + 1)), (0, .int px)]) hx hb dX2_isSimple_41 hl (k := 1) rfl rfl (by decide) rfl (fun ls hl => ?_)
              refine lv_goto (tgt := 4) hx hb dX2_isSimple_44 (by decide) ?_
              exact ih4 (v2_4 + 2) (v1_4 + 1) ls (lt_lt (cu2 c7) hmu4) hF (lv_sub hl [0, 1, 2] rfl)
  exact lp4 FU 0 0 ls (fu_lt _ _) hF (lv_sub hl [0, 1, 2] rfl)

def f_H_mayGo (px : Int32) : Int32 := (if (f_bitCount px) = 1 then 0 else (if (f_H_isSimple px) = 0 then 0 else 1))
set_option maxHeartbeats 4000000 in
set_option maxRecDepth 100000 in
theorem c_H_mayGo (l : Launch) (D : va_G) (tX tY : Nat) (px : Int32) : Met l yX2_mayGo wX2_mayGo ({ frames := 2, cells := 0, slots := 0, locals := 43 }) (ro_P D tX tY [] [] [.int px]) (k2_QcV (.int (f_H_mayGo px))) 0 0 (fun _ => False) := by
  generalize hF : (f_H_mayGo px) = F
  refine Met.ofW (cc := cX2_mayGo) (maxL := 2) (ret := (some .boolean)) (by decide) rfl ?_
  intro p e s m args below meth c s₁ B hml hv
  obtain ⟨rfl, hP, hK, hT, hN⟩ := hv
  have hx := B.exec
  have hb := B.bytes
  have hr := B.returns
  have hts := atoms_spec (ws := wX2_mayGo) B.pre
  have hta : ∀ w ∈ gw, w.before _ s = true := fun w h => hts w (List.mem_cons_of_mem _ h)
  have hown : s.vm.findClass RX2 = some m.cls := findClass_of_methodNamed B.named
  have hlocks := B.notSynchronized
  have hl := lv_entry [.int px] (n := 2) (Nat.le_of_ble_eq_true rfl)
  rw [lg_entry_eq]
  generalize (lg_sl [.int px] ++ List.replicate (2 - (lg_sl [.int px]).length) Slot.unset).toArray = ls at hl ⊢
  have hl : lv_has ls 2 [(0, .int px)] := hl
  rw [f_H_mayGo] at hF
  refine lv_iload_n hx hb dX2_mayGo_0 rfl (lv_at hl 0 rfl) ?_
  refine ro_go (va_runS (As := [.int px]) (rest := []) ⟨hx, hb, hml, hown, hts⟩ (c_bitCount l D tX tY px) (va_cwS 1 hts (gi_3 gi_c gw_180 gw_181 gw_12 gw_182) rfl rfl rfl (by decide +kernel) ⟨Nat.le_of_ble_eq_true rfl, Nat.le_of_ble_eq_true rfl⟩) ⟨ro_blind, ro_at hP hK hT hN va_S.rf [] [] rfl rfl⟩ rfl rfl hl.1 rfl (lv_room (Nat.le_of_ble_eq_true rfl)) dX2_mayGo_1 ⟨Nat.le_of_ble_eq_true rfl, Nat.le_of_ble_eq_true rfl⟩) ?_
  refine lv_iconst (v := 1) hx hb dX2_mayGo_4 (by decide) ?_
  refine lv_icmp_ne (tgt := 12) hx hb dX2_mayGo_5 (by decide) (fun c5 => ?_) (fun c5 => ?_)
  · rw [if_neg c5] at hF
    refine lv_iconst (v := 0) hx hb dX2_mayGo_12 (by decide) ?_
    refine lv_istore_n (lv' := [(1, .int 0), (0, .int px)]) hx hb dX2_mayGo_13 rfl hl (by decide) rfl (fun ls hl => ?_)
    refine lv_iload_n hx hb dX2_mayGo_14 rfl (lv_at hl 0 rfl) ?_
    refine lv_if_ne (tgt := 29) hx hb dX2_mayGo_15 (by decide) (fun c9 => absurd c9 (by decide)) (fun _ => ?_)
    refine lv_iload_n hx hb dX2_mayGo_18 rfl (lv_at hl 1 rfl) ?_
    refine ro_go (va_runS (As := [.int px]) (rest := []) ⟨hx, hb, hml, hown, hts⟩ (c_H_isSimple l D tX tY px) (va_cwS 1 hts (gi_3 gi_c gw_186 gw_187 gw_4 gw_188) rfl rfl rfl (by decide +kernel) ⟨Nat.le_of_ble_eq_true rfl, Nat.le_of_ble_eq_true rfl⟩) ⟨ro_blind, ro_at hP hK hT hN va_S.rf [] [] rfl rfl⟩ rfl rfl hl.1 rfl (lv_room (Nat.le_of_ble_eq_true rfl)) dX2_mayGo_19 ⟨Nat.le_of_ble_eq_true rfl, Nat.le_of_ble_eq_true rfl⟩) ?_
    refine lv_if_eq (tgt := 29) hx hb dX2_mayGo_22 (by decide) (fun c22 => ?_) (fun c22 => ?_)
    · rw [if_pos c22] at hF
      refine lv_iconst (v := 0) hx hb dX2_mayGo_29 (by decide) ?_
      exact W.zret (v := 0) hx hb hr rfl (fun t ht _ => ⟨by rw [← hF], ht⟩) (fun _ h => nomatch h) dX2_mayGo_30
    · rw [if_neg c22] at hF
      refine lv_iconst (v := 1) hx hb dX2_mayGo_25 (by decide) ?_
      refine lv_goto (tgt := 30) hx hb dX2_mayGo_26 (by decide) ?_
      exact W.zret (v := 1) hx hb hr rfl (fun t ht _ => ⟨by rw [← hF], ht⟩) (fun _ h => nomatch h) dX2_mayGo_30
  · rw [if_pos c5] at hF
    refine lv_iconst (v := 1) hx hb dX2_mayGo_8 (by decide) ?_
    refine lv_goto (tgt := 13) hx hb dX2_mayGo_9 (by decide) ?_
    refine lv_istore_n (lv' := [(1, .int 1), (0, .int px)]) hx hb dX2_mayGo_13 rfl hl (by decide) rfl (fun ls hl => ?_)
    refine lv_iload_n hx hb dX2_mayGo_14 rfl (lv_at hl 0 rfl) ?_
    refine lv_if_ne (tgt := 29) hx hb dX2_mayGo_15 (by decide) (fun _ => ?_) (fun c9 => absurd c9 (by decide))
    refine lv_iconst (v := 0) hx hb dX2_mayGo_29 (by decide) ?_
    exact W.zret (v := 0) hx hb hr rfl (fun t ht _ => ⟨by rw [← hF], ht⟩) (fun _ h => nomatch h) dX2_mayGo_30

def f_H_collect_k6  : Int32 × Int32 × (Nat → Int32) → Int32 × (Nat → Int32)
  | (v5_6, v4_6, f1_6) => (v4_6, f1_6)
def f_H_collect_k18 (v5_6 : Int32) (rc6 : (Int32 × Int32 × (Nat → Int32)) → (Int32 × Int32 × (Nat → Int32))) : Int32 × Int32 × (Nat → Int32) → Int32 × Int32 × (Nat → Int32)
  | (v6_18, v4_18, f1_18) => (rc6 (v5_6 + 1, v4_18, f1_18))
def f_H_collect_t49 (tn : Nat) (pa : Int32) (pb : Int32) (v5_6 : Int32) (v6_18 : Int32) (v4_18 : Int32) (f1_18 : Nat → Int32) (rc18 : (Int32 × Int32 × (Nat → Int32)) → (Int32 × Int32 × (Nat → Int32))) (rnd : Int32) : Int32 × Int32 × (Nat → Int32) := (if (f_hasBit rnd pa) = 0 then (if (f_H_mayGo rnd) = 0 then (rc18 (v6_18 + 1, v4_18, f1_18)) else (if (nI tn) ≤ v4_18 then (rc18 (v6_18 + 1, v4_18, f1_18)) else (rc18 (v6_18 + 1, v4_18 + 1, upd f1_18 v4_18.toNatClampNeg (f_placeOf v6_18 v5_6))))) else (if (f_hasBit rnd pb) = 0 then (if (f_H_mayGo rnd) = 0 then (rc18 (v6_18 + 1, v4_18, f1_18)) else (if (nI tn) ≤ v4_18 then (rc18 (v6_18 + 1, v4_18, f1_18)) else (rc18 (v6_18 + 1, v4_18 + 1, upd f1_18 v4_18.toNatClampNeg (f_placeOf v6_18 v5_6))))) else (rc18 (v6_18 + 1, v4_18, f1_18))))
def f_H_collect_L18 (tn : Nat) (sw : Int32) (sh : Int32) (sf : Nat → Int32) (pa : Int32) (pb : Int32) (v5_6 : Int32) : Nat → Int32 × Int32 × (Nat → Int32) → Int32 × Int32 × (Nat → Int32)
  | 0, σ => σ
  | n9 + 1, (v6_18, v4_18, f1_18) => (if sw ≤ v6_18 then (v6_18, v4_18, f1_18) else (if (f_S_isBlack sw sh sf v6_18 v5_6) = 0 then ((f_H_collect_L18 tn sw sh sf pa pb v5_6 n9) (v6_18 + 1, v4_18, f1_18)) else (f_H_collect_t49 tn pa pb v5_6 v6_18 v4_18 f1_18 (f_H_collect_L18 tn sw sh sf pa pb v5_6 n9) (f_S_blackRound sw sh sf v6_18 v5_6))))
def f_H_collect_L6 (tn : Nat) (sw : Int32) (sh : Int32) (sf : Nat → Int32) (pa : Int32) (pb : Int32) : Nat → Int32 × Int32 × (Nat → Int32) → Int32 × Int32 × (Nat → Int32)
  | 0, σ => σ
  | n9 + 1, (v5_6, v4_6, f1_6) => (if sh ≤ v5_6 then (v5_6, v4_6, f1_6) else (f_H_collect_k18 v5_6 (f_H_collect_L6 tn sw sh sf pa pb n9) (f_H_collect_L18 tn sw sh sf pa pb v5_6 FU (0, v4_6, f1_6))))
def f_H_collect (tn : Nat) (tf : Nat → Int32) (sw : Int32) (sh : Int32) (sf : Nat → Int32) (pa : Int32) (pb : Int32) : Int32 × (Nat → Int32) := (f_H_collect_k6 (f_H_collect_L6 tn sw sh sf pa pb FU (0, 0, tf)))
set_option maxHeartbeats 4000000 in
set_option maxRecDepth 100000 in
theorem c_H_collect (l : Launch) (D : va_G) (tX tY : Nat) (a_t : Nat) (a_tc : Nat) (k_tc : ClassId) (tn : Nat) (tf : Nat → Int32) (a_ss : Nat) (a_sr : Nat) (k_sr : ClassId) (sw : Int32) (sh : Int32) (sn : Nat) (sf : Nat → Int32) (sz : Nat) (pa : Int32) (pb : Int32) (htn : tn < 2147483647) (hss : tsok sw sh sn) : Met l yX2_collect wX2_collect ({ frames := 3, cells := 0, slots := 0, locals := 68 }) (mu_P D tX tY [(k_tc, .int), (k_sr, .int)] [(a_t, .inr (2, [.ref a_tc])), (a_tc, .inl (k_tc, tn, .inl tf)), (a_ss, .inr (1, [.int sw, .int sh, .ref a_sr])), (a_sr, .inl (k_sr, sn, .inl sf))] sz [.ref a_t, .ref a_ss, .int pa, .int pb]) (va_Qi (fun (r : Int32) (u : (Nat → Int32)) => (f_H_collect tn tf sw sh sf pa pb) = (r, u)) (fun (u : (Nat → Int32)) (t : State) => va_P D vwCl [(a_t, .inr (2, [.ref a_tc])), (a_tc, .inl (k_tc, tn, .inl u)), (a_ss, .inr (1, [.int sw, .int sh, .ref a_sr])), (a_sr, .inl (k_sr, sn, .inl sf))] t.heap ∧ va_K D vwCl [(k_tc, .int), (k_sr, .int)] t ∧ va_D (va_A [(a_t, .inr (2, [.ref a_tc])), (a_tc, .inl (k_tc, tn, .inl tf)), (a_ss, .inr (1, [.int sw, .int sh, .ref a_sr])), (a_sr, .inl (k_sr, sn, .inl sf))] sz) [(a_t, .inr (2, [.ref a_tc])), (a_tc, .inl (k_tc, tn, .inl u)), (a_ss, .inr (1, [.int sw, .int sh, .ref a_sr])), (a_sr, .inl (k_sr, sn, .inl sf))]) (va_A [(a_t, .inr (2, [.ref a_tc])), (a_tc, .inl (k_tc, tn, .inl tf)), (a_ss, .inr (1, [.int sw, .int sh, .ref a_sr])), (a_sr, .inl (k_sr, sn, .inl sf))] sz)) 0 0 (va_A [(a_t, .inr (2, [.ref a_tc])), (a_tc, .inl (k_tc, tn, .inl tf)), (a_ss, .inr (1, [.int sw, .int sh, .ref a_sr])), (a_sr, .inl (k_sr, sn, .inl sf))] sz) := by
  generalize hF : (f_H_collect tn tf sw sh sf pa pb) = F
  refine Met.ofW (cc := cX2_collect) (maxL := 9) (ret := (some .int)) (by decide) rfl ?_
  intro p e s m args below meth c s₁ B hml hv
  obtain ⟨rfl, hsz, hP, hK, hD0, hT, hN⟩ := hv
  have hx := B.exec
  have hb := B.bytes
  have hr := B.returns
  have hts := atoms_spec (ws := wX2_collect) B.pre
  have hta : ∀ w ∈ gw, w.before _ s = true := fun w h => hts w (List.mem_cons_of_mem _ h)
  have hown : s.vm.findClass RX2 = some m.cls := findClass_of_methodNamed B.named
  have hlocks := B.notSynchronized
  have hD : va_D (va_A [(a_t, .inr (2, [.ref a_tc])), (a_tc, .inl (k_tc, tn, .inl tf)), (a_ss, .inr (1, [.int sw, .int sh, .ref a_sr])), (a_sr, .inl (k_sr, sn, .inl sf))] sz) [(a_t, .inr (2, [.ref a_tc])), (a_tc, .inl (k_tc, tn, .inl tf)), (a_ss, .inr (1, [.int sw, .int sh, .ref a_sr])), (a_sr, .inl (k_sr, sn, .inl sf))] := hD0.self
  have hA : ∀ q : Nat, s.heap.size ≤ q → (va_A [(a_t, .inr (2, [.ref a_tc])), (a_tc, .inl (k_tc, tn, .inl tf)), (a_ss, .inr (1, [.int sw, .int sh, .ref a_sr])), (a_sr, .inl (k_sr, sn, .inl sf))] sz) q := fun q h => Or.inr (hsz ▸ h)
  have hS : va_S (va_A [(a_t, .inr (2, [.ref a_tc])), (a_tc, .inl (k_tc, tn, .inl tf)), (a_ss, .inr (1, [.int sw, .int sh, .ref a_sr])), (a_sr, .inl (k_sr, sn, .inl sf))] sz) s.heap s.heap [] := va_S.rf
  have hl := lv_entry [.ref a_t, .ref a_ss, .int pa, .int pb] (n := 9) (Nat.le_of_ble_eq_true rfl)
  rw [lg_entry_eq]
  generalize (lg_sl [.ref a_t, .ref a_ss, .int pa, .int pb] ++ List.replicate (9 - (lg_sl [.ref a_t, .ref a_ss, .int pa, .int pb]).length) Slot.unset).toArray = ls at hl ⊢
  have hl : lv_has ls 9 [(0, .ref a_t), (1, .ref a_ss), (2, .int pa), (3, .int pb)] := hl
  rw [f_H_collect] at hF
  have hgo : ∀ (H : Heap) (locs : List Loc), va_P D vwCl [(a_t, .inr (2, [.ref a_tc])), (a_tc, .inl (k_tc, tn, .inl tf)), (a_ss, .inr (1, [.int sw, .int sh, .ref a_sr])), (a_sr, .inl (k_sr, sn, .inl sf))] H → va_D (va_A [(a_t, .inr (2, [.ref a_tc])), (a_tc, .inl (k_tc, tn, .inl tf)), (a_ss, .inr (1, [.int sw, .int sh, .ref a_sr])), (a_sr, .inl (k_sr, sn, .inl sf))] sz) [(a_t, .inr (2, [.ref a_tc])), (a_tc, .inl (k_tc, tn, .inl tf)), (a_ss, .inr (1, [.int sw, .int sh, .ref a_sr])), (a_sr, .inl (k_sr, sn, .inl sf))] → va_S (va_A [(a_t, .inr (2, [.ref a_tc])), (a_tc, .inl (k_tc, tn, .inl tf)), (a_ss, .inr (1, [.int sw, .int sh, .ref a_sr])), (a_sr, .inl (k_sr, sn, .inl sf))] sz) s.heap H locs → W p l e { frames := 3, cells := 0, slots := 0, locals := 68 } s m (List.toArray [.ref a_t, .ref a_ss, .int pa, .int pb]) below meth c H locs 0 0 (MQ below (va_Qi (fun (r : Int32) (u : (Nat → Int32)) => F = (r, u)) (fun (u : (Nat → Int32)) (t : State) => va_P D vwCl [(a_t, .inr (2, [.ref a_tc])), (a_tc, .inl (k_tc, tn, .inl u)), (a_ss, .inr (1, [.int sw, .int sh, .ref a_sr])), (a_sr, .inl (k_sr, sn, .inl sf))] t.heap ∧ va_K D vwCl [(k_tc, .int), (k_sr, .int)] t ∧ va_D (va_A [(a_t, .inr (2, [.ref a_tc])), (a_tc, .inl (k_tc, tn, .inl tf)), (a_ss, .inr (1, [.int sw, .int sh, .ref a_sr])), (a_sr, .inl (k_sr, sn, .inl sf))] sz) [(a_t, .inr (2, [.ref a_tc])), (a_tc, .inl (k_tc, tn, .inl u)), (a_ss, .inr (1, [.int sw, .int sh, .ref a_sr])), (a_sr, .inl (k_sr, sn, .inl sf))]) (va_A [(a_t, .inr (2, [.ref a_tc])), (a_tc, .inl (k_tc, tn, .inl tf)), (a_ss, .inr (1, [.int sw, .int sh, .ref a_sr])), (a_sr, .inl (k_sr, sn, .inl sf))] sz)) (List.toArray [.ref a_t, .ref a_ss, .int pa, .int pb]) s 0 0 (va_A [(a_t, .inr (2, [.ref a_tc])), (a_tc, .inl (k_tc, tn, .inl tf)), (a_ss, .inr (1, [.int sw, .int sh, .ref a_sr])), (a_sr, .inl (k_sr, sn, .inl sf))] sz)) (F0 m 0 ls []) := by
    intro H locs hP hD hS
    refine lv_iconst (v := 0) hx hb dX2_collect_0 (by decide) ?_
    refine lv_istore (lv' := [(4, .int 0), (0, .ref a_t), (1, .ref a_ss), (2, .int pa), (3, .int pb)]) hx hb dX2_collect_1 hl (by decide) rfl (fun ls hl => ?_)
    refine lv_iconst (v := 0) hx hb dX2_collect_3 (by decide) ?_
    refine lv_istore (lv' := [(5, .int 0), (4, .int 0), (0, .ref a_t), (1, .ref a_ss), (2, .int pa), (3, .int pb)]) hx hb dX2_collect_4 hl (by decide) rfl (fun ls hl => ?_)
    have af6 : ∀ (v5_6 : Int32) (v4_6 : Int32) (f1_6 : Nat → Int32) (H : Heap) (locs : List Loc) (ls : Array Slot), (0 ≤ v4_6.toInt) → f_H_collect_k6  (v5_6, v4_6, f1_6) = F → va_P D vwCl [(a_t, .inr (2, [.ref a_tc])), (a_tc, .inl (k_tc, tn, .inl f1_6)), (a_ss, .inr (1, [.int sw, .int sh, .ref a_sr])), (a_sr, .inl (k_sr, sn, .inl sf))] H → va_D (va_A [(a_t, .inr (2, [.ref a_tc])), (a_tc, .inl (k_tc, tn, .inl tf)), (a_ss, .inr (1, [.int sw, .int sh, .ref a_sr])), (a_sr, .inl (k_sr, sn, .inl sf))] sz) [(a_t, .inr (2, [.ref a_tc])), (a_tc, .inl (k_tc, tn, .inl f1_6)), (a_ss, .inr (1, [.int sw, .int sh, .ref a_sr])), (a_sr, .inl (k_sr, sn, .inl sf))] → va_S (va_A [(a_t, .inr (2, [.ref a_tc])), (a_tc, .inl (k_tc, tn, .inl tf)), (a_ss, .inr (1, [.int sw, .int sh, .ref a_sr])), (a_sr, .inl (k_sr, sn, .inl sf))] sz) s.heap H locs → lv_has ls 9 [(5, .int v5_6), (4, .int v4_6), (0, .ref a_t), (1, .ref a_ss), (2, .int pa), (3, .int pb)] → W p l e { frames := 3, cells := 0, slots := 0, locals := 68 } s m (List.toArray [.ref a_t, .ref a_ss, .int pa, .int pb]) below meth c H locs 0 0 (MQ below (va_Qi (fun (r : Int32) (u : (Nat → Int32)) => F = (r, u)) (fun (u : (Nat → Int32)) (t : State) => va_P D vwCl [(a_t, .inr (2, [.ref a_tc])), (a_tc, .inl (k_tc, tn, .inl u)), (a_ss, .inr (1, [.int sw, .int sh, .ref a_sr])), (a_sr, .inl (k_sr, sn, .inl sf))] t.heap ∧ va_K D vwCl [(k_tc, .int), (k_sr, .int)] t ∧ va_D (va_A [(a_t, .inr (2, [.ref a_tc])), (a_tc, .inl (k_tc, tn, .inl tf)), (a_ss, .inr (1, [.int sw, .int sh, .ref a_sr])), (a_sr, .inl (k_sr, sn, .inl sf))] sz) [(a_t, .inr (2, [.ref a_tc])), (a_tc, .inl (k_tc, tn, .inl u)), (a_ss, .inr (1, [.int sw, .int sh, .ref a_sr])), (a_sr, .inl (k_sr, sn, .inl sf))]) (va_A [(a_t, .inr (2, [.ref a_tc])), (a_tc, .inl (k_tc, tn, .inl tf)), (a_ss, .inr (1, [.int sw, .int sh, .ref a_sr])), (a_sr, .inl (k_sr, sn, .inl sf))] sz)) (List.toArray [.ref a_t, .ref a_ss, .int pa, .int pb]) s 0 0 (va_A [(a_t, .inr (2, [.ref a_tc])), (a_tc, .inl (k_tc, tn, .inl tf)), (a_ss, .inr (1, [.int sw, .int sh, .ref a_sr])), (a_sr, .inl (k_sr, sn, .inl sf))] sz)) (F0 m 128 ls []) := by
      intro v5_6 v4_6 f1_6 H locs ls h_c6 hF hP hD hS hl
      rw [f_H_collect_k6] at hF
      refine lv_iload hx hb dX2_collect_128 (lv_at hl 1 rfl) ?_
      exact W.iret (v := v4_6) hx hb hr (fun t ht hW => ⟨⟨v4_6, f1_6, rfl, hF.symm, by rw [ht]; exact hP, va_K.moved hW.alike hK, hD⟩, hS.F ht⟩) hS.2.2 dX2_collect_130
    have lp6 : ∀ (n9 : Nat) (v5_6 : Int32) (v4_6 : Int32) (f1_6 : Nat → Int32) (H : Heap) (locs : List Loc) (ls : Array Slot), (0 ≤ v4_6.toInt) → (sh.toInt - v5_6.toInt).toNat < n9 → f_H_collect_k6  (f_H_collect_L6 tn sw sh sf pa pb n9 (v5_6, v4_6, f1_6)) = F → va_P D vwCl [(a_t, .inr (2, [.ref a_tc])), (a_tc, .inl (k_tc, tn, .inl f1_6)), (a_ss, .inr (1, [.int sw, .int sh, .ref a_sr])), (a_sr, .inl (k_sr, sn, .inl sf))] H → va_D (va_A [(a_t, .inr (2, [.ref a_tc])), (a_tc, .inl (k_tc, tn, .inl tf)), (a_ss, .inr (1, [.int sw, .int sh, .ref a_sr])), (a_sr, .inl (k_sr, sn, .inl sf))] sz) [(a_t, .inr (2, [.ref a_tc])), (a_tc, .inl (k_tc, tn, .inl f1_6)), (a_ss, .inr (1, [.int sw, .int sh, .ref a_sr])), (a_sr, .inl (k_sr, sn, .inl sf))] → va_S (va_A [(a_t, .inr (2, [.ref a_tc])), (a_tc, .inl (k_tc, tn, .inl tf)), (a_ss, .inr (1, [.int sw, .int sh, .ref a_sr])), (a_sr, .inl (k_sr, sn, .inl sf))] sz) s.heap H locs → lv_has ls 9 [(5, .int v5_6), (4, .int v4_6), (0, .ref a_t), (1, .ref a_ss), (2, .int pa), (3, .int pb)] → W p l e { frames := 3, cells := 0, slots := 0, locals := 68 } s m (List.toArray [.ref a_t, .ref a_ss, .int pa, .int pb]) below meth c H locs 0 0 (MQ below (va_Qi (fun (r : Int32) (u : (Nat → Int32)) => F = (r, u)) (fun (u : (Nat → Int32)) (t : State) => va_P D vwCl [(a_t, .inr (2, [.ref a_tc])), (a_tc, .inl (k_tc, tn, .inl u)), (a_ss, .inr (1, [.int sw, .int sh, .ref a_sr])), (a_sr, .inl (k_sr, sn, .inl sf))] t.heap ∧ va_K D vwCl [(k_tc, .int), (k_sr, .int)] t ∧ va_D (va_A [(a_t, .inr (2, [.ref a_tc])), (a_tc, .inl (k_tc, tn, .inl tf)), (a_ss, .inr (1, [.int sw, .int sh, .ref a_sr])), (a_sr, .inl (k_sr, sn, .inl sf))] sz) [(a_t, .inr (2, [.ref a_tc])), (a_tc, .inl (k_tc, tn, .inl u)), (a_ss, .inr (1, [.int sw, .int sh, .ref a_sr])), (a_sr, .inl (k_sr, sn, .inl sf))]) (va_A [(a_t, .inr (2, [.ref a_tc])), (a_tc, .inl (k_tc, tn, .inl tf)), (a_ss, .inr (1, [.int sw, .int sh, .ref a_sr])), (a_sr, .inl (k_sr, sn, .inl sf))] sz)) (List.toArray [.ref a_t, .ref a_ss, .int pa, .int pb]) s 0 0 (va_A [(a_t, .inr (2, [.ref a_tc])), (a_tc, .inl (k_tc, tn, .inl tf)), (a_ss, .inr (1, [.int sw, .int sh, .ref a_sr])), (a_sr, .inl (k_sr, sn, .inl sf))] sz)) (F0 m 6 ls []) := by
      intro n9
      induction n9 with
      | zero => intro v5_6 v4_6 f1_6 H locs ls h_c6 hmu6; exact absurd hmu6 (Nat.not_lt_zero _)
      | succ n6 ih6 =>
        intro v5_6 v4_6 f1_6 H locs ls h_c6 hmu6 hF hP hD hS hl
        rw [f_H_collect_L6] at hF
        refine lv_iload hx hb dX2_collect_6 (lv_at hl 0 rfl) ?_
        refine lv_aload_n hx hb dX2_collect_8 rfl (lv_at hl 3 rfl) ?_
        refine va_get (D := D) (ci := 1) (v := .int sh) (C := RX1) (T := TX1) (N := 3) hx hb hta inX1 hown hK hP 2 rfl rfl 1 (by decide) (hta _ gw_46) (fun _ h9 => h9) rfl dX2_collect_9 ?_
        refine lv_icmp_ge (tgt := 128) hx hb dX2_collect_12 (by decide) (fun c12 => ?_) (fun c12 => ?_)
        · rw [if_pos c12] at hF
          exact af6 v5_6 v4_6 f1_6 _ _ ls (h_c6) hF hP hD hS (lv_sub hl [0, 1, 2, 3, 4, 5] rfl)
        · rw [if_neg c12] at hF
          refine lv_iconst (v := 0) hx hb dX2_collect_15 (by decide) ?_
          refine lv_istore (lv' := [(6, .int 0), (5, .int v5_6), (4, .int v4_6), (0, .ref a_t), (1, .ref a_ss), (2, .int pa), (3, .int pb)]) hx hb dX2_collect_16 hl (by decide) rfl (fun ls hl => ?_)
          have af18 : ∀ (v6_18 : Int32) (v4_18 : Int32) (f1_18 : Nat → Int32) (H : Heap) (locs : List Loc) (ls : Array Slot), (0 ≤ v4_18.toInt) → f_H_collect_k6  (f_H_collect_k18 v5_6 (f_H_collect_L6 tn sw sh sf pa pb n6) (v6_18, v4_18, f1_18)) = F → va_P D vwCl [(a_t, .inr (2, [.ref a_tc])), (a_tc, .inl (k_tc, tn, .inl f1_18)), (a_ss, .inr (1, [.int sw, .int sh, .ref a_sr])), (a_sr, .inl (k_sr, sn, .inl sf))] H → va_D (va_A [(a_t, .inr (2, [.ref a_tc])), (a_tc, .inl (k_tc, tn, .inl tf)), (a_ss, .inr (1, [.int sw, .int sh, .ref a_sr])), (a_sr, .inl (k_sr, sn, .inl sf))] sz) [(a_t, .inr (2, [.ref a_tc])), (a_tc, .inl (k_tc, tn, .inl f1_18)), (a_ss, .inr (1, [.int sw, .int sh, .ref a_sr])), (a_sr, .inl (k_sr, sn, .inl sf))] → va_S (va_A [(a_t, .inr (2, [.ref a_tc])), (a_tc, .inl (k_tc, tn, .inl tf)), (a_ss, .inr (1, [.int sw, .int sh, .ref a_sr])), (a_sr, .inl (k_sr, sn, .inl sf))] sz) s.heap H locs → lv_has ls 9 [(6, .int v6_18), (5, .int v5_6), (4, .int v4_18), (0, .ref a_t), (1, .ref a_ss), (2, .int pa), (3, .int pb)] → W p l e { frames := 3, cells := 0, slots := 0, locals := 68 } s m (List.toArray [.ref a_t, .ref a_ss, .int pa, .int pb]) below meth c H locs 0 0 (MQ below (va_Qi (fun (r : Int32) (u : (Nat → Int32)) => F = (r, u)) (fun (u : (Nat → Int32)) (t : State) => va_P D vwCl [(a_t, .inr (2, [.ref a_tc])), (a_tc, .inl (k_tc, tn, .inl u)), (a_ss, .inr (1, [.int sw, .int sh, .ref a_sr])), (a_sr, .inl (k_sr, sn, .inl sf))] t.heap ∧ va_K D vwCl [(k_tc, .int), (k_sr, .int)] t ∧ va_D (va_A [(a_t, .inr (2, [.ref a_tc])), (a_tc, .inl (k_tc, tn, .inl tf)), (a_ss, .inr (1, [.int sw, .int sh, .ref a_sr])), (a_sr, .inl (k_sr, sn, .inl sf))] sz) [(a_t, .inr (2, [.ref a_tc])), (a_tc, .inl (k_tc, tn, .inl u)), (a_ss, .inr (1, [.int sw, .int sh, .ref a_sr])), (a_sr, .inl (k_sr, sn, .inl sf))]) (va_A [(a_t, .inr (2, [.ref a_tc])), (a_tc, .inl (k_tc, tn, .inl tf)), (a_ss, .inr (1, [.int sw, .int sh, .ref a_sr])), (a_sr, .inl (k_sr, sn, .inl sf))] sz)) (List.toArray [.ref a_t, .ref a_ss, .int pa, .int pb]) s 0 0 (va_A [(a_t, .inr (2, [.ref a_tc])), (a_tc, .inl (k_tc, tn, .inl tf)), (a_ss, .inr (1, [.int sw, .int sh, .ref a_sr])), (a_sr, .inl (k_sr, sn, .inl sf))] sz)) (F0 m 122 ls []) := by
            intro v6_18 v4_18 f1_18 H locs ls h_c18 hF hP hD hS hl
            rw [f_H_collect_k18] at hF
            refine lv_iinc (v := v5_6 + 1) (lv' := [(5, .int (v5_6 + 1)), (6, .int v6_18), (4, .int v4_18), (0, .ref a_t), (1, .ref a_ss), (2, .int pa), (3, .int pb)]) hx hb dX2_collect_122 hl (k := 1) rfl rfl (by decide) rfl (fun ls hl => ?_)
            refine lv_goto (tgt := 6) hx hb dX2_collect_125 (by decide) ?_
            exact ih6 (v5_6 + 1) v4_18 f1_18 _ _ ls (h_c18) (lt_lt (cu c12) hmu6) hF hP hD hS (lv_sub hl [0, 2, 3, 4, 5, 6] rfl)
          have lp18 : ∀ (n9 : Nat) (v6_18 : Int32) (v4_18 : Int32) (f1_18 : Nat → Int32) (H : Heap) (locs : List Loc) (ls : Array Slot), (0 ≤ v4_18.toInt) → (sw.toInt - v6_18.toInt).toNat < n9 → f_H_collect_k6  (f_H_collect_k18 v5_6 (f_H_collect_L6 tn sw sh sf pa pb n6) (f_H_collect_L18 tn sw sh sf pa pb v5_6 n9 (v6_18, v4_18, f1_18))) = F → va_P D vwCl [(a_t, .inr (2, [.ref a_tc])), (a_tc, .inl (k_tc, tn, .inl f1_18)), (a_ss, .inr (1, [.int sw, .int sh, .ref a_sr])), (a_sr, .inl (k_sr, sn, .inl sf))] H → va_D (va_A [(a_t, .inr (2, [.ref a_tc])), (a_tc, .inl (k_tc, tn, .inl tf)), (a_ss, .inr (1, [.int sw, .int sh, .ref a_sr])), (a_sr, .inl (k_sr, sn, .inl sf))] sz) [(a_t, .inr (2, [.ref a_tc])), (a_tc, .inl (k_tc, tn, .inl f1_18)), (a_ss, .inr (1, [.int sw, .int sh, .ref a_sr])), (a_sr, .inl (k_sr, sn, .inl sf))] → va_S (va_A [(a_t, .inr (2, [.ref a_tc])), (a_tc, .inl (k_tc, tn, .inl tf)), (a_ss, .inr (1, [.int sw, .int sh, .ref a_sr])), (a_sr, .inl (k_sr, sn, .inl sf))] sz) s.heap H locs → lv_has ls 9 [(6, .int v6_18), (5, .int v5_6), (4, .int v4_18), (0, .ref a_t), (1, .ref a_ss), (2, .int pa), (3, .int pb)] → W p l e { frames := 3, cells := 0, slots := 0, locals := 68 } s m (List.toArray [.ref a_t, .ref a_ss, .int pa, .int pb]) below meth c H locs 0 0 (MQ below (va_Qi (fun (r : Int32) (u : (Nat → Int32)) => F = (r, u)) (fun (u : (Nat → Int32)) (t : State) => va_P D vwCl [(a_t, .inr (2, [.ref a_tc])), (a_tc, .inl (k_tc, tn, .inl u)), (a_ss, .inr (1, [.int sw, .int sh, .ref a_sr])), (a_sr, .inl (k_sr, sn, .inl sf))] t.heap ∧ va_K D vwCl [(k_tc, .int), (k_sr, .int)] t ∧ va_D (va_A [(a_t, .inr (2, [.ref a_tc])), (a_tc, .inl (k_tc, tn, .inl tf)), (a_ss, .inr (1, [.int sw, .int sh, .ref a_sr])), (a_sr, .inl (k_sr, sn, .inl sf))] sz) [(a_t, .inr (2, [.ref a_tc])), (a_tc, .inl (k_tc, tn, .inl u)), (a_ss, .inr (1, [.int sw, .int sh, .ref a_sr])), (a_sr, .inl (k_sr, sn, .inl sf))]) (va_A [(a_t, .inr (2, [.ref a_tc])), (a_tc, .inl (k_tc, tn, .inl tf)), (a_ss, .inr (1, [.int sw, .int sh, .ref a_sr])), (a_sr, .inl (k_sr, sn, .inl sf))] sz)) (List.toArray [.ref a_t, .ref a_ss, .int pa, .int pb]) s 0 0 (va_A [(a_t, .inr (2, [.ref a_tc])), (a_tc, .inl (k_tc, tn, .inl tf)), (a_ss, .inr (1, [.int sw, .int sh, .ref a_sr])), (a_sr, .inl (k_sr, sn, .inl sf))] sz)) (F0 m 18 ls []) := by
            intro n9
            induction n9 with
            | zero => intro v6_18 v4_18 f1_18 H locs ls h_c18 hmu18; exact absurd hmu18 (Nat.not_lt_zero _)
            | succ n18 ih18 =>
              intro v6_18 v4_18 f1_18 H locs ls h_c18 hmu18 hF hP hD hS hl
              rw [f_H_collect_L18] at hF
              refine lv_iload hx hb dX2_collect_18 (lv_at hl 0 rfl) ?_
              refine lv_aload_n hx hb dX2_collect_20 rfl (lv_at hl 4 rfl) ?_
              refine va_get (D := D) (ci := 1) (v := .int sw) (C := RX1) (T := TX1) (N := 3) hx hb hta inX1 hown hK hP 2 rfl rfl 0 (by decide) (hta _ gw_41) (fun _ h9 => h9) rfl dX2_collect_21 ?_
              refine lv_icmp_ge (tgt := 122) hx hb dX2_collect_24 (by decide) (fun c24 => ?_) (fun c24 => ?_)
              · rw [if_pos c24] at hF
                exact af18 v6_18 v4_18 f1_18 _ _ ls (h_c18) hF hP hD hS (lv_sub hl [0, 1, 2, 3, 4, 5, 6] rfl)
              · rw [if_neg c24] at hF
                refine lv_aload_n hx hb dX2_collect_27 rfl (lv_at hl 4 rfl) ?_
                refine lv_iload hx hb dX2_collect_28 (lv_at hl 0 rfl) ?_
                refine lv_iload hx hb dX2_collect_30 (lv_at hl 1 rfl) ?_
                refine ro_go (va_runV (As := [.int v6_18, .int v5_6]) (rest := []) ⟨hx, hb, hml, hown, hts⟩ (c_S_isBlack l D tX tY a_ss a_sr k_sr sw sh sn sf v6_18 v5_6 (hss)) (cwV 2 hts (gi_4 gi_c gw_157 gw_158 gw_159 gw_3 gw_160) rfl rfl rfl (by decide +kernel) ⟨Nat.le_of_ble_eq_true rfl, Nat.le_of_ble_eq_true rfl⟩) ⟨ro_blind, va_recv hK hP (ci := 1) (q0 := 2) rfl rfl, ro_at hP hK hT hN hS [2, 3] [1] rfl rfl⟩ rfl rfl hl.1 rfl (lv_room (Nat.le_of_ble_eq_true rfl)) dX2_collect_32 ⟨Nat.le_of_ble_eq_true rfl, Nat.le_of_ble_eq_true rfl⟩) ?_
                refine lv_if_ne (tgt := 41) hx hb dX2_collect_35 (by decide) (fun c35 => ?_) (fun c35 => ?_)
                · rw [if_neg c35] at hF
                  refine lv_aload_n hx hb dX2_collect_41 rfl (lv_at hl 4 rfl) ?_
                  refine lv_iload hx hb dX2_collect_42 (lv_at hl 0 rfl) ?_
                  refine lv_iload hx hb dX2_collect_44 (lv_at hl 1 rfl) ?_
                  refine ro_go (va_runV (As := [.int v6_18, .int v5_6]) (rest := []) ⟨hx, hb, hml, hown, hts⟩ (c_S_blackRound l D tX tY a_ss a_sr k_sr sw sh sn sf v6_18 v5_6 (hss)) (cwV 2 hts (gi_4 gi_c gw_165 gw_166 gw_167 gw_3 gw_168) rfl rfl rfl (by decide +kernel) ⟨Nat.le_of_ble_eq_true rfl, Nat.le_of_ble_eq_true rfl⟩) ⟨ro_blind, va_recv hK hP (ci := 1) (q0 := 2) rfl rfl, ro_at hP hK hT hN hS [2, 3] [1] rfl rfl⟩ rfl rfl hl.1 rfl (lv_room (Nat.le_of_ble_eq_true rfl)) dX2_collect_46 ⟨Nat.le_of_ble_eq_true rfl, Nat.le_of_ble_eq_true rfl⟩) ?_
                  refine lv_topi (fun rnd e_rnd => ?_)
                  have e_rnd : rnd = (f_S_blackRound sw sh sf v6_18 v5_6) := e_rnd
                  rw [← e_rnd] at hF
                  rw [f_H_collect_t49] at hF
                  refine lv_istore (lv' := [(7, .int rnd), (6, .int v6_18), (5, .int v5_6), (4, .int v4_18), (0, .ref a_t), (1, .ref a_ss), (2, .int pa), (3, .int pb)]) hx hb dX2_collect_49 hl (by decide) rfl (fun ls hl => ?_)
                  refine lv_iload hx hb dX2_collect_51 (lv_at hl 0 rfl) ?_
                  refine lv_iload_n hx hb dX2_collect_53 rfl (lv_at hl 6 rfl) ?_
                  refine ro_go (va_runSN (As := [.int rnd, .int pa]) (rest := []) ⟨hx, hb, hml, hown, hts⟩ (c_hasBit l D tX tY rnd pa) ⟨va_cnB 2 hts (gi gw_176) rfl rfl rfl (gn_174 hN) (hta _ gw_1) (by decide +kernel) ⟨Nat.le_of_ble_eq_true rfl, Nat.le_of_ble_eq_true rfl⟩, hta _ gw_175, trivial⟩ ⟨ro_blind, ro_at hP hK hT hN hS [] [] rfl rfl⟩ rfl rfl hl.1 rfl (lv_room (Nat.le_of_ble_eq_true rfl)) dX2_collect_54 ⟨Nat.le_of_ble_eq_true rfl, Nat.le_of_ble_eq_true rfl⟩) ?_
                  refine lv_if_eq (tgt := 69) hx hb dX2_collect_57 (by decide) (fun c57 => ?_) (fun c57 => ?_)
                  · rw [if_pos c57] at hF
                    refine lv_iconst (v := 1) hx hb dX2_collect_69 (by decide) ?_
                    refine lv_goto (tgt := 74) hx hb dX2_collect_70 (by decide) ?_
                    refine lv_istore (lv' := [(8, .int 1), (7, .int rnd), (6, .int v6_18), (5, .int v5_6), (4, .int v4_18), (0, .ref a_t), (1, .ref a_ss), (2, .int pa), (3, .int pb)]) hx hb dX2_collect_74 hl (by decide) rfl (fun ls hl => ?_)
                    refine lv_iload hx hb dX2_collect_76 (lv_at hl 0 rfl) ?_
                    refine lv_if_eq (tgt := 116) hx hb dX2_collect_78 (by decide) (fun c9 => absurd c9 (by decide)) (fun _ => ?_)
                    refine lv_iload hx hb dX2_collect_81 (lv_at hl 1 rfl) ?_
                    refine ro_go (va_runS (As := [.int rnd]) (rest := []) ⟨hx, hb, hml, hown, hts⟩ (c_H_mayGo l D tX tY rnd) (va_cwS 1 hts (gi_3 gi_c gw_177 gw_178 gw_4 gw_179) rfl rfl rfl (by decide +kernel) ⟨Nat.le_of_ble_eq_true rfl, Nat.le_of_ble_eq_true rfl⟩) ⟨ro_blind, ro_at hP hK hT hN hS [] [] rfl rfl⟩ rfl rfl hl.1 rfl (lv_room (Nat.le_of_ble_eq_true rfl)) dX2_collect_83 ⟨Nat.le_of_ble_eq_true rfl, Nat.le_of_ble_eq_true rfl⟩) ?_
                    refine lv_if_eq (tgt := 116) hx hb dX2_collect_86 (by decide) (fun c86 => ?_) (fun c86 => ?_)
                    · rw [if_pos c86] at hF
                      refine lv_iinc (v := v6_18 + 1) (lv' := [(6, .int (v6_18 + 1)), (8, .int 1), (7, .int rnd), (5, .int v5_6), (4, .int v4_18), (0, .ref a_t), (1, .ref a_ss), (2, .int pa), (3, .int pb)]) hx hb dX2_collect_116 hl (k := 2) rfl rfl (by decide) rfl (fun ls hl => ?_)
                      refine lv_goto (tgt := 18) hx hb dX2_collect_119 (by decide) ?_
                      exact ih18 (v6_18 + 1) v4_18 f1_18 _ _ ls (by first | exact h_c18 | exact cz h_c18 c96) (lt_lt (cu c24) hmu18) hF hP hD hS (lv_sub hl [0, 3, 4, 5, 6, 7, 8] rfl)
                    · rw [if_neg c86] at hF
                      refine lv_iload hx hb dX2_collect_89 (lv_at hl 4 rfl) ?_
                      refine lv_aload_n hx hb dX2_collect_91 rfl (lv_at hl 5 rfl) ?_
                      refine va_get (D := D) (ci := 2) (v := .ref a_tc) (C := RX2) (T := TX2) (N := 1) hx hb hta inX2 hown hK hP 0 rfl rfl 0 (by decide) (hta _ gw_65) (fun _ h9 => h9) rfl dX2_collect_92 ?_
                      refine va_alen hx hb hK hP 1 0 rfl rfl (v := nI tn) (rfl) dX2_collect_95 ?_
                      refine lv_icmp_ge (tgt := 116) hx hb dX2_collect_96 (by decide) (fun c96 => ?_) (fun c96 => ?_)
                      · rw [if_pos c96] at hF
                        refine lv_iinc (v := v6_18 + 1) (lv' := [(6, .int (v6_18 + 1)), (8, .int 1), (7, .int rnd), (5, .int v5_6), (4, .int v4_18), (0, .ref a_t), (1, .ref a_ss), (2, .int pa), (3, .int pb)]) hx hb dX2_collect_116 hl (k := 2) rfl rfl (by decide) rfl (fun ls hl => ?_)
                        refine lv_goto (tgt := 18) hx hb dX2_collect_119 (by decide) ?_
                        exact ih18 (v6_18 + 1) v4_18 f1_18 _ _ ls (by first | exact h_c18 | exact cz h_c18 c96) (lt_lt (cu c24) hmu18) hF hP hD hS (lv_sub hl [0, 3, 4, 5, 6, 7, 8] rfl)
                      · rw [if_neg c96] at hF
                        refine lv_aload_n hx hb dX2_collect_99 rfl (lv_at hl 5 rfl) ?_
                        refine va_get (D := D) (ci := 2) (v := .ref a_tc) (C := RX2) (T := TX2) (N := 1) hx hb hta inX2 hown hK hP 0 rfl rfl 0 (by decide) (hta _ gw_65) (fun _ h9 => h9) rfl dX2_collect_100 ?_
                        refine lv_iload hx hb dX2_collect_103 (lv_at hl 4 rfl) ?_
                        refine lv_iload hx hb dX2_collect_105 (lv_at hl 2 rfl) ?_
                        refine lv_iload hx hb dX2_collect_107 (lv_at hl 3 rfl) ?_
                        refine ro_go (va_runSN (As := [.int v6_18, .int v5_6]) (rest := [.int v4_18, .ref a_tc]) ⟨hx, hb, hml, hown, hts⟩ (c_placeOf l D tX tY v6_18 v5_6) ⟨va_cnB 2 hts (gi gw_191) rfl rfl rfl (gn_189 hN) (hta _ gw_1) (by decide +kernel) ⟨Nat.le_of_ble_eq_true rfl, Nat.le_of_ble_eq_true rfl⟩, hta _ gw_190, trivial⟩ ⟨ro_blind, ro_at hP hK hT hN hS [] [] rfl rfl⟩ rfl rfl hl.1 rfl (lv_room (Nat.le_of_ble_eq_true rfl)) dX2_collect_109 ⟨Nat.le_of_ble_eq_true rfl, Nat.le_of_ble_eq_true rfl⟩) ?_
                        refine va_iast hx hb hK hP hD hS 1 0 rfl rfl (i := v4_18) (x := (f_placeOf v6_18 v5_6)) (vi_lt h_c18 c96 (by omega)) dX2_collect_112 (fun H locs hP hD hS => ?_)
                        have hP : va_P D vwCl [(a_t, .inr (2, [.ref a_tc])), (a_tc, .inl (k_tc, tn, .inl (upd f1_18 v4_18.toNatClampNeg (f_placeOf v6_18 v5_6)))), (a_ss, .inr (1, [.int sw, .int sh, .ref a_sr])), (a_sr, .inl (k_sr, sn, .inl sf))] H := hP
                        have hD : va_D (va_A [(a_t, .inr (2, [.ref a_tc])), (a_tc, .inl (k_tc, tn, .inl tf)), (a_ss, .inr (1, [.int sw, .int sh, .ref a_sr])), (a_sr, .inl (k_sr, sn, .inl sf))] sz) [(a_t, .inr (2, [.ref a_tc])), (a_tc, .inl (k_tc, tn, .inl (upd f1_18 v4_18.toNatClampNeg (f_placeOf v6_18 v5_6)))), (a_ss, .inr (1, [.int sw, .int sh, .ref a_sr])), (a_sr, .inl (k_sr, sn, .inl sf))] := hD
                        refine lv_iinc (v := v4_18 + 1) (lv' := [(4, .int (v4_18 + 1)), (8, .int 1), (7, .int rnd), (6, .int v6_18), (5, .int v5_6), (0, .ref a_t), (1, .ref a_ss), (2, .int pa), (3, .int pb)]) hx hb dX2_collect_113 hl (k := 4) rfl rfl (by decide) rfl (fun ls hl => ?_)
                        refine lv_iinc (v := v6_18 + 1) (lv' := [(6, .int (v6_18 + 1)), (4, .int (v4_18 + 1)), (8, .int 1), (7, .int rnd), (5, .int v5_6), (0, .ref a_t), (1, .ref a_ss), (2, .int pa), (3, .int pb)]) hx hb dX2_collect_116 hl (k := 3) rfl rfl (by decide) rfl (fun ls hl => ?_)
                        refine lv_goto (tgt := 18) hx hb dX2_collect_119 (by decide) ?_
                        exact ih18 (v6_18 + 1) (v4_18 + 1) (upd f1_18 v4_18.toNatClampNeg (f_placeOf v6_18 v5_6)) _ _ ls (by first | exact h_c18 | exact cz h_c18 c96) (lt_lt (cu c24) hmu18) hF hP hD hS (lv_sub hl [0, 4, 1, 5, 6, 7, 8] rfl)
                  · rw [if_neg c57] at hF
                    refine lv_iload hx hb dX2_collect_60 (lv_at hl 0 rfl) ?_
                    refine lv_iload_n hx hb dX2_collect_62 rfl (lv_at hl 7 rfl) ?_
                    refine ro_go (va_runSN (As := [.int rnd, .int pb]) (rest := []) ⟨hx, hb, hml, hown, hts⟩ (c_hasBit l D tX tY rnd pb) ⟨va_cnB 2 hts (gi gw_176) rfl rfl rfl (gn_174 hN) (hta _ gw_1) (by decide +kernel) ⟨Nat.le_of_ble_eq_true rfl, Nat.le_of_ble_eq_true rfl⟩, hta _ gw_175, trivial⟩ ⟨ro_blind, ro_at hP hK hT hN hS [] [] rfl rfl⟩ rfl rfl hl.1 rfl (lv_room (Nat.le_of_ble_eq_true rfl)) dX2_collect_63 ⟨Nat.le_of_ble_eq_true rfl, Nat.le_of_ble_eq_true rfl⟩) ?_
                    refine lv_if_ne (tgt := 73) hx hb dX2_collect_66 (by decide) (fun c66 => ?_) (fun c66 => ?_)
                    · rw [if_neg c66] at hF
                      refine lv_iconst (v := 0) hx hb dX2_collect_73 (by decide) ?_
                      refine lv_istore (lv' := [(8, .int 0), (7, .int rnd), (6, .int v6_18), (5, .int v5_6), (4, .int v4_18), (0, .ref a_t), (1, .ref a_ss), (2, .int pa), (3, .int pb)]) hx hb dX2_collect_74 hl (by decide) rfl (fun ls hl => ?_)
                      refine lv_iload hx hb dX2_collect_76 (lv_at hl 0 rfl) ?_
                      refine lv_if_eq (tgt := 116) hx hb dX2_collect_78 (by decide) (fun _ => ?_) (fun c9 => absurd c9 (by decide))
                      refine lv_iinc (v := v6_18 + 1) (lv' := [(6, .int (v6_18 + 1)), (8, .int 0), (7, .int rnd), (5, .int v5_6), (4, .int v4_18), (0, .ref a_t), (1, .ref a_ss), (2, .int pa), (3, .int pb)]) hx hb dX2_collect_116 hl (k := 2) rfl rfl (by decide) rfl (fun ls hl => ?_)
                      refine lv_goto (tgt := 18) hx hb dX2_collect_119 (by decide) ?_
                      exact ih18 (v6_18 + 1) v4_18 f1_18 _ _ ls (by first | exact h_c18 | exact cz h_c18 c96) (lt_lt (cu c24) hmu18) hF hP hD hS (lv_sub hl [0, 3, 4, 5, 6, 7, 8] rfl)
                    · rw [if_pos c66] at hF
                      refine lv_iconst (v := 1) hx hb dX2_collect_69 (by decide) ?_
                      refine lv_goto (tgt := 74) hx hb dX2_collect_70 (by decide) ?_
                      refine lv_istore (lv' := [(8, .int 1), (7, .int rnd), (6, .int v6_18), (5, .int v5_6), (4, .int v4_18), (0, .ref a_t), (1, .ref a_ss), (2, .int pa), (3, .int pb)]) hx hb dX2_collect_74 hl (by decide) rfl (fun ls hl => ?_)
                      refine lv_iload hx hb dX2_collect_76 (lv_at hl 0 rfl) ?_
                      refine lv_if_eq (tgt := 116) hx hb dX2_collect_78 (by decide) (fun c9 => absurd c9 (by decide)) (fun _ => ?_)
                      refine lv_iload hx hb dX2_collect_81 (lv_at hl 1 rfl) ?_
                      refine ro_go (va_runS (As := [.int rnd]) (rest := []) ⟨hx, hb, hml, hown, hts⟩ (c_H_mayGo l D tX tY rnd) (va_cwS 1 hts (gi_3 gi_c gw_177 gw_178 gw_4 gw_179) rfl rfl rfl (by decide +kernel) ⟨Nat.le_of_ble_eq_true rfl, Nat.le_of_ble_eq_true rfl⟩) ⟨ro_blind, ro_at hP hK hT hN hS [] [] rfl rfl⟩ rfl rfl hl.1 rfl (lv_room (Nat.le_of_ble_eq_true rfl)) dX2_collect_83 ⟨Nat.le_of_ble_eq_true rfl, Nat.le_of_ble_eq_true rfl⟩) ?_
                      refine lv_if_eq (tgt := 116) hx hb dX2_collect_86 (by decide) (fun c86 => ?_) (fun c86 => ?_)
                      · rw [if_pos c86] at hF
                        refine lv_iinc (v := v6_18 + 1) (lv' := [(6, .int (v6_18 + 1)), (8, .int 1), (7, .int rnd), (5, .int v5_6), (4, .int v4_18), (0, .ref a_t), (1, .ref a_ss), (2, .int pa), (3, .int pb)]) hx hb dX2_collect_116 hl (k := 2) rfl rfl (by decide) rfl (fun ls hl => ?_)
                        refine lv_goto (tgt := 18) hx hb dX2_collect_119 (by decide) ?_
                        exact ih18 (v6_18 + 1) v4_18 f1_18 _ _ ls (by first | exact h_c18 | exact cz h_c18 c96) (lt_lt (cu c24) hmu18) hF hP hD hS (lv_sub hl [0, 3, 4, 5, 6, 7, 8] rfl)
                      · rw [if_neg c86] at hF
                        refine lv_iload hx hb dX2_collect_89 (lv_at hl 4 rfl) ?_
                        refine lv_aload_n hx hb dX2_collect_91 rfl (lv_at hl 5 rfl) ?_
                        refine va_get (D := D) (ci := 2) (v := .ref a_tc) (C := RX2) (T := TX2) (N := 1) hx hb hta inX2 hown hK hP 0 rfl rfl 0 (by decide) (hta _ gw_65) (fun _ h9 => h9) rfl dX2_collect_92 ?_
                        refine va_alen hx hb hK hP 1 0 rfl rfl (v := nI tn) (rfl) dX2_collect_95 ?_
                        refine lv_icmp_ge (tgt := 116) hx hb dX2_collect_96 (by decide) (fun c96 => ?_) (fun c96 => ?_)
                        · rw [if_pos c96] at hF
                          refine lv_iinc (v := v6_18 + 1) (lv' := [(6, .int (v6_18 + 1)), (8, .int 1), (7, .int rnd), (5, .int v5_6), (4, .int v4_18), (0, .ref a_t), (1, .ref a_ss), (2, .int pa), (3, .int pb)]) hx hb dX2_collect_116 hl (k := 2) rfl rfl (by decide) rfl (fun ls hl => ?_)
                          refine lv_goto (tgt := 18) hx hb dX2_collect_119 (by decide) ?_
                          exact ih18 (v6_18 + 1) v4_18 f1_18 _ _ ls (by first | exact h_c18 | exact cz h_c18 c96) (lt_lt (cu c24) hmu18) hF hP hD hS (lv_sub hl [0, 3, 4, 5, 6, 7, 8] rfl)
                        · rw [if_neg c96] at hF
                          refine lv_aload_n hx hb dX2_collect_99 rfl (lv_at hl 5 rfl) ?_
                          refine va_get (D := D) (ci := 2) (v := .ref a_tc) (C := RX2) (T := TX2) (N := 1) hx hb hta inX2 hown hK hP 0 rfl rfl 0 (by decide) (hta _ gw_65) (fun _ h9 => h9) rfl dX2_collect_100 ?_
                          refine lv_iload hx hb dX2_collect_103 (lv_at hl 4 rfl) ?_
                          refine lv_iload hx hb dX2_collect_105 (lv_at hl 2 rfl) ?_
                          refine lv_iload hx hb dX2_collect_107 (lv_at hl 3 rfl) ?_
                          refine ro_go (va_runSN (As := [.int v6_18, .int v5_6]) (rest := [.int v4_18, .ref a_tc]) ⟨hx, hb, hml, hown, hts⟩ (c_placeOf l D tX tY v6_18 v5_6) ⟨va_cnB 2 hts (gi gw_191) rfl rfl rfl (gn_189 hN) (hta _ gw_1) (by decide +kernel) ⟨Nat.le_of_ble_eq_true rfl, Nat.le_of_ble_eq_true rfl⟩, hta _ gw_190, trivial⟩ ⟨ro_blind, ro_at hP hK hT hN hS [] [] rfl rfl⟩ rfl rfl hl.1 rfl (lv_room (Nat.le_of_ble_eq_true rfl)) dX2_collect_109 ⟨Nat.le_of_ble_eq_true rfl, Nat.le_of_ble_eq_true rfl⟩) ?_
                          refine va_iast hx hb hK hP hD hS 1 0 rfl rfl (i := v4_18) (x := (f_placeOf v6_18 v5_6)) (vi_lt h_c18 c96 (by omega)) dX2_collect_112 (fun H locs hP hD hS => ?_)
                          have hP : va_P D vwCl [(a_t, .inr (2, [.ref a_tc])), (a_tc, .inl (k_tc, tn, .inl (upd f1_18 v4_18.toNatClampNeg (f_placeOf v6_18 v5_6)))), (a_ss, .inr (1, [.int sw, .int sh, .ref a_sr])), (a_sr, .inl (k_sr, sn, .inl sf))] H := hP
                          have hD : va_D (va_A [(a_t, .inr (2, [.ref a_tc])), (a_tc, .inl (k_tc, tn, .inl tf)), (a_ss, .inr (1, [.int sw, .int sh, .ref a_sr])), (a_sr, .inl (k_sr, sn, .inl sf))] sz) [(a_t, .inr (2, [.ref a_tc])), (a_tc, .inl (k_tc, tn, .inl (upd f1_18 v4_18.toNatClampNeg (f_placeOf v6_18 v5_6)))), (a_ss, .inr (1, [.int sw, .int sh, .ref a_sr])), (a_sr, .inl (k_sr, sn, .inl sf))] := hD
                          refine lv_iinc (v := v4_18 + 1) (lv' := [(4, .int (v4_18 + 1)), (8, .int 1), (7, .int rnd), (6, .int v6_18), (5, .int v5_6), (0, .ref a_t), (1, .ref a_ss), (2, .int pa), (3, .int pb)]) hx hb dX2_collect_113 hl (k := 4) rfl rfl (by decide) rfl (fun ls hl => ?_)
                          refine lv_iinc (v := v6_18 + 1) (lv' := [(6, .int (v6_18 + 1)), (4, .int (v4_18 + 1)), (8, .int 1), (7, .int rnd), (5, .int v5_6), (0, .ref a_t), (1, .ref a_ss), (2, .int pa), (3, .int pb)]) hx hb dX2_collect_116 hl (k := 3) rfl rfl (by decide) rfl (fun ls hl => ?_)
                          refine lv_goto (tgt := 18) hx hb dX2_collect_119 (by decide) ?_
                          exact ih18 (v6_18 + 1) (v4_18 + 1) (upd f1_18 v4_18.toNatClampNeg (f_placeOf v6_18 v5_6)) _ _ ls (by first | exact h_c18 | exact cz h_c18 c96) (lt_lt (cu c24) hmu18) hF hP hD hS (lv_sub hl [0, 4, 1, 5, 6, 7, 8] rfl)
                · rw [if_pos c35] at hF
                  refine lv_goto (tgt := 116) hx hb dX2_collect_38 (by decide) ?_
                  refine lv_iinc (v := v6_18 + 1) (lv' := [(6, .int (v6_18 + 1)), (5, .int v5_6), (4, .int v4_18), (0, .ref a_t), (1, .ref a_ss), (2, .int pa), (3, .int pb)]) hx hb dX2_collect_116 hl (k := 0) rfl rfl (by decide) rfl (fun ls hl => ?_)
                  refine lv_goto (tgt := 18) hx hb dX2_collect_119 (by decide) ?_
                  exact ih18 (v6_18 + 1) v4_18 f1_18 _ _ ls (by first | exact h_c18 | exact cz h_c18 c96) (lt_lt (cu c24) hmu18) hF hP hD hS (lv_sub hl [0, 1, 2, 3, 4, 5, 6] rfl)
          exact lp18 FU 0 v4_6 f1_6 _ _ ls (h_c6) (fu_lt _ _) hF hP hD hS (lv_sub hl [0, 1, 2, 3, 4, 5, 6] rfl)
    exact lp6 FU 0 0 tf _ _ ls (by decide) (fu_lt _ _) hF hP hD hS (lv_sub hl [0, 1, 2, 3, 4, 5] rfl)
  exact hgo _ _ hP hD hS

def f_H_takeHalf_k15 (g2 : Nat → Int32) : Int32 × Int32 × (Nat → Int32) → Int32 × (Nat → Int32) × (Nat → Int32)
  | (v6_15, v5_15, f3_15) => (v5_15, g2, f3_15)
def f_H_takeHalf_q2 (v6_15 : Int32) (v5_15 : Int32) (rc15 : (Int32 × Int32 × (Nat → Int32)) → (Int32 × Int32 × (Nat → Int32))) : (Nat → Int32) → Int32 × Int32 × (Nat → Int32)
  | g3 => (rc15 (v6_15 + 1, v5_15 + 1, g3))
def f_H_takeHalf_t54 (sw : Int32) (sh : Int32) (v6_15 : Int32) (v5_15 : Int32) (f3_15 : Nat → Int32) (rc15 : (Int32 × Int32 × (Nat → Int32)) → (Int32 × Int32 × (Nat → Int32))) (cx : Int32) (cy : Int32) : Int32 × Int32 × (Nat → Int32) := (if (f_S_isBlack sw sh f3_15 cx cy) = 0 then (rc15 (v6_15 + 1, v5_15, f3_15)) else (if (f_H_mayGo (f_S_blackRound sw sh f3_15 cx cy)) = 0 then (rc15 (v6_15 + 1, v5_15, f3_15)) else (f_H_takeHalf_q2 v6_15 v5_15 rc15 (f_S_paint sw sh f3_15 cx cy 0))))
def f_H_takeHalf_t42 (sw : Int32) (sh : Int32) (g2 : Nat → Int32) (v6_15 : Int32) (v5_15 : Int32) (f3_15 : Nat → Int32) (rc15 : (Int32 × Int32 × (Nat → Int32)) → (Int32 × Int32 × (Nat → Int32))) (cx : Int32) : Int32 × Int32 × (Nat → Int32) := (f_H_takeHalf_t54 sw sh v6_15 v5_15 f3_15 rc15 cx (f_rowOf (g2 v6_15.toNatClampNeg)))
def f_H_takeHalf_L15 (tn : Nat) (sw : Int32) (sh : Int32) (r1 : Int32) (g2 : Nat → Int32) : Nat → Int32 × Int32 × (Nat → Int32) → Int32 × Int32 × (Nat → Int32)
  | 0, σ => σ
  | n9 + 1, (v6_15, v5_15, f3_15) => (if r1 ≤ v6_15 then (v6_15, v5_15, f3_15) else (if (nI tn) ≤ v6_15 then (v6_15, v5_15, f3_15) else (f_H_takeHalf_t42 sw sh g2 v6_15 v5_15 f3_15 (f_H_takeHalf_L15 tn sw sh r1 g2 n9) (f_columnOf (g2 v6_15.toNatClampNeg)))))
def f_H_takeHalf_q1 (tn : Nat) (sw : Int32) (sh : Int32) (sf : Nat → Int32) : Int32 × (Nat → Int32) → Int32 × (Nat → Int32) × (Nat → Int32)
  | (r1, g2) => (f_H_takeHalf_k15 g2 (f_H_takeHalf_L15 tn sw sh r1 g2 FU (0, 0, sf)))
def f_H_takeHalf (tn : Nat) (tf : Nat → Int32) (sw : Int32) (sh : Int32) (sf : Nat → Int32) (pa : Int32) (pb : Int32) : Int32 × (Nat → Int32) × (Nat → Int32) := (f_H_takeHalf_q1 tn sw sh sf (f_H_collect tn tf sw sh sf pa pb))
set_option maxHeartbeats 4000000 in
set_option maxRecDepth 100000 in
theorem c_H_takeHalf (l : Launch) (D : va_G) (tX tY : Nat) (a_t : Nat) (a_tc : Nat) (k_tc : ClassId) (tn : Nat) (tf : Nat → Int32) (a_ss : Nat) (a_sr : Nat) (k_sr : ClassId) (sw : Int32) (sh : Int32) (sn : Nat) (sf : Nat → Int32) (sz : Nat) (pa : Int32) (pb : Int32) (htn : tn < 2147483647) (hss : tsok sw sh sn) : Met l yX2_takeHalf wX2_takeHalf ({ frames := 4, cells := 0, slots := 0, locals := 96 }) (mu_P D tX tY [(k_tc, .int), (k_sr, .int)] [(a_t, .inr (2, [.ref a_tc])), (a_tc, .inl (k_tc, tn, .inl tf)), (a_ss, .inr (1, [.int sw, .int sh, .ref a_sr])), (a_sr, .inl (k_sr, sn, .inl sf))] sz [.ref a_t, .ref a_ss, .int pa, .int pb]) (va_Qi (fun (r : Int32) (u : (Nat → Int32) × (Nat → Int32)) => (f_H_takeHalf tn tf sw sh sf pa pb) = (r, u)) (fun (u : (Nat → Int32) × (Nat → Int32)) (t : State) => va_P D vwCl [(a_t, .inr (2, [.ref a_tc])), (a_tc, .inl (k_tc, tn, .inl u.1)), (a_ss, .inr (1, [.int sw, .int sh, .ref a_sr])), (a_sr, .inl (k_sr, sn, .inl u.2))] t.heap ∧ va_K D vwCl [(k_tc, .int), (k_sr, .int)] t ∧ va_D (va_A [(a_t, .inr (2, [.ref a_tc])), (a_tc, .inl (k_tc, tn, .inl tf)), (a_ss, .inr (1, [.int sw, .int sh, .ref a_sr])), (a_sr, .inl (k_sr, sn, .inl sf))] sz) [(a_t, .inr (2, [.ref a_tc])), (a_tc, .inl (k_tc, tn, .inl u.1)), (a_ss, .inr (1, [.int sw, .int sh, .ref a_sr])), (a_sr, .inl (k_sr, sn, .inl u.2))]) (va_A [(a_t, .inr (2, [.ref a_tc])), (a_tc, .inl (k_tc, tn, .inl tf)), (a_ss, .inr (1, [.int sw, .int sh, .ref a_sr])), (a_sr, .inl (k_sr, sn, .inl sf))] sz)) 0 0 (va_A [(a_t, .inr (2, [.ref a_tc])), (a_tc, .inl (k_tc, tn, .inl tf)), (a_ss, .inr (1, [.int sw, .int sh, .ref a_sr])), (a_sr, .inl (k_sr, sn, .inl sf))] sz) := by
  generalize hF : (f_H_takeHalf tn tf sw sh sf pa pb) = F
  refine Met.ofW (cc := cX2_takeHalf) (maxL := 9) (ret := (some .int)) (by decide) rfl ?_
  intro p e s m args below meth c s₁ B hml hv
  obtain ⟨rfl, hsz, hP, hK, hD0, hT, hN⟩ := hv
  have hx := B.exec
  have hb := B.bytes
  have hr := B.returns
  have hts := atoms_spec (ws := wX2_takeHalf) B.pre
  have hta : ∀ w ∈ gw, w.before _ s = true := fun w h => hts w (List.mem_cons_of_mem _ h)
  have hown : s.vm.findClass RX2 = some m.cls := findClass_of_methodNamed B.named
  have hlocks := B.notSynchronized
  have hD : va_D (va_A [(a_t, .inr (2, [.ref a_tc])), (a_tc, .inl (k_tc, tn, .inl tf)), (a_ss, .inr (1, [.int sw, .int sh, .ref a_sr])), (a_sr, .inl (k_sr, sn, .inl sf))] sz) [(a_t, .inr (2, [.ref a_tc])), (a_tc, .inl (k_tc, tn, .inl tf)), (a_ss, .inr (1, [.int sw, .int sh, .ref a_sr])), (a_sr, .inl (k_sr, sn, .inl sf))] := hD0.self
  have hA : ∀ q : Nat, s.heap.size ≤ q → (va_A [(a_t, .inr (2, [.ref a_tc])), (a_tc, .inl (k_tc, tn, .inl tf)), (a_ss, .inr (1, [.int sw, .int sh, .ref a_sr])), (a_sr, .inl (k_sr, sn, .inl sf))] sz) q := fun q h => Or.inr (hsz ▸ h)
  have hS : va_S (va_A [(a_t, .inr (2, [.ref a_tc])), (a_tc, .inl (k_tc, tn, .inl tf)), (a_ss, .inr (1, [.int sw, .int sh, .ref a_sr])), (a_sr, .inl (k_sr, sn, .inl sf))] sz) s.heap s.heap [] := va_S.rf
  have hl := lv_entry [.ref a_t, .ref a_ss, .int pa, .int pb] (n := 9) (Nat.le_of_ble_eq_true rfl)
  rw [lg_entry_eq]
  generalize (lg_sl [.ref a_t, .ref a_ss, .int pa, .int pb] ++ List.replicate (9 - (lg_sl [.ref a_t, .ref a_ss, .int pa, .int pb]).length) Slot.unset).toArray = ls at hl ⊢
  have hl : lv_has ls 9 [(0, .ref a_t), (1, .ref a_ss), (2, .int pa), (3, .int pb)] := hl
  rw [f_H_takeHalf] at hF
  have hgo : ∀ (H : Heap) (locs : List Loc), va_P D vwCl [(a_t, .inr (2, [.ref a_tc])), (a_tc, .inl (k_tc, tn, .inl tf)), (a_ss, .inr (1, [.int sw, .int sh, .ref a_sr])), (a_sr, .inl (k_sr, sn, .inl sf))] H → va_D (va_A [(a_t, .inr (2, [.ref a_tc])), (a_tc, .inl (k_tc, tn, .inl tf)), (a_ss, .inr (1, [.int sw, .int sh, .ref a_sr])), (a_sr, .inl (k_sr, sn, .inl sf))] sz) [(a_t, .inr (2, [.ref a_tc])), (a_tc, .inl (k_tc, tn, .inl tf)), (a_ss, .inr (1, [.int sw, .int sh, .ref a_sr])), (a_sr, .inl (k_sr, sn, .inl sf))] → va_S (va_A [(a_t, .inr (2, [.ref a_tc])), (a_tc, .inl (k_tc, tn, .inl tf)), (a_ss, .inr (1, [.int sw, .int sh, .ref a_sr])), (a_sr, .inl (k_sr, sn, .inl sf))] sz) s.heap H locs → W p l e { frames := 4, cells := 0, slots := 0, locals := 96 } s m (List.toArray [.ref a_t, .ref a_ss, .int pa, .int pb]) below meth c H locs 0 0 (MQ below (va_Qi (fun (r : Int32) (u : (Nat → Int32) × (Nat → Int32)) => F = (r, u)) (fun (u : (Nat → Int32) × (Nat → Int32)) (t : State) => va_P D vwCl [(a_t, .inr (2, [.ref a_tc])), (a_tc, .inl (k_tc, tn, .inl u.1)), (a_ss, .inr (1, [.int sw, .int sh, .ref a_sr])), (a_sr, .inl (k_sr, sn, .inl u.2))] t.heap ∧ va_K D vwCl [(k_tc, .int), (k_sr, .int)] t ∧ va_D (va_A [(a_t, .inr (2, [.ref a_tc])), (a_tc, .inl (k_tc, tn, .inl tf)), (a_ss, .inr (1, [.int sw, .int sh, .ref a_sr])), (a_sr, .inl (k_sr, sn, .inl sf))] sz) [(a_t, .inr (2, [.ref a_tc])), (a_tc, .inl (k_tc, tn, .inl u.1)), (a_ss, .inr (1, [.int sw, .int sh, .ref a_sr])), (a_sr, .inl (k_sr, sn, .inl u.2))]) (va_A [(a_t, .inr (2, [.ref a_tc])), (a_tc, .inl (k_tc, tn, .inl tf)), (a_ss, .inr (1, [.int sw, .int sh, .ref a_sr])), (a_sr, .inl (k_sr, sn, .inl sf))] sz)) (List.toArray [.ref a_t, .ref a_ss, .int pa, .int pb]) s 0 0 (va_A [(a_t, .inr (2, [.ref a_tc])), (a_tc, .inl (k_tc, tn, .inl tf)), (a_ss, .inr (1, [.int sw, .int sh, .ref a_sr])), (a_sr, .inl (k_sr, sn, .inl sf))] sz)) (F0 m 0 ls []) := by
    intro H locs hP hD hS
    refine lv_aload_n hx hb dX2_takeHalf_0 rfl (lv_at hl 0 rfl) ?_
    refine lv_aload_n hx hb dX2_takeHalf_1 rfl (lv_at hl 1 rfl) ?_
    refine lv_iload_n hx hb dX2_takeHalf_2 rfl (lv_at hl 2 rfl) ?_
    refine lv_iload_n hx hb dX2_takeHalf_3 rfl (lv_at hl 3 rfl) ?_
    have hPc := hP.sub (ws' := [(a_t, .inr (2, [.ref a_tc])), (a_tc, .inl (k_tc, tn, .inl tf)), (a_ss, .inr (1, [.int sw, .int sh, .ref a_sr])), (a_sr, .inl (k_sr, sn, .inl sf))]) [0, 1, 2, 3] rfl
    have hDc := hD.sub (ws' := [(a_t, .inr (2, [.ref a_tc])), (a_tc, .inl (k_tc, tn, .inl tf)), (a_ss, .inr (1, [.int sw, .int sh, .ref a_sr])), (a_sr, .inl (k_sr, sn, .inl sf))]) [0, 1, 2, 3] (by decide) rfl
    have hKc := hK.sub (tys' := [(k_tc, .int), (k_sr, .int)]) [0, 1] rfl
    have hFc := va_free (wc := [(a_t, .inr (2, [.ref a_tc])), (a_tc, .inl (k_tc, tn, .inl tf)), (a_ss, .inr (1, [.int sw, .int sh, .ref a_sr])), (a_sr, .inl (k_sr, sn, .inl sf))]) hD hS hA [0, 1, 2, 3] rfl
    refine va_calli (va_runV (As := [.ref a_ss, .int pa, .int pb]) (rest := []) ⟨hx, hb, hml, hown, hts⟩ (c_H_collect l D tX tY a_t a_tc k_tc tn tf a_ss a_sr k_sr sw sh sn sf H.size pa pb (htn) (hss)) (cwV 3 hts (gi_4 gi_c gw_153 gw_155 gs_X2_collect gw_4 gw_156) rfl rfl rfl (by decide +kernel) ⟨Nat.le_of_ble_eq_true rfl, Nat.le_of_ble_eq_true rfl⟩) ⟨mu_blind, va_recv hKc hPc (ci := 2) (q0 := 0) rfl rfl, mu_at hPc hKc hDc hT hN hS hFc⟩ rfl rfl hl.1 rfl (lv_room (Nat.le_of_ble_eq_true rfl)) dX2_takeHalf_4 ⟨Nat.le_of_ble_eq_true rfl, Nat.le_of_ble_eq_true rfl⟩) hS (fun q _ h => hFc q h) hFc (fun r1 u t H1 locs ht hvm hw hB hz1 hk1 hS => ?_)
    obtain ⟨g2, rfl⟩ : ∃ z, z = u := ⟨_, rfl⟩
    obtain ⟨hP1, hK1, hD1⟩ := hB
    rw [ht] at hP1
    obtain ⟨hP, hD⟩ := va_join (wr := []) (w1 := [(a_t, .inr (2, [.ref a_tc])), (a_tc, .inl (k_tc, tn, .inl g2)), (a_ss, .inr (1, [.int sw, .int sh, .ref a_sr])), (a_sr, .inl (k_sr, sn, .inl sf))]) hP hD [0, 1, 2, 3] [] rfl rfl (by decide) (by decide) hk1 hFc hP1 hD1
    generalize H1 = H at hP hS ⊢
    have hP := hP.sub (ws' := [(a_t, .inr (2, [.ref a_tc])), (a_tc, .inl (k_tc, tn, .inl g2)), (a_ss, .inr (1, [.int sw, .int sh, .ref a_sr])), (a_sr, .inl (k_sr, sn, .inl sf))]) [0, 1, 2, 3] rfl
    have hD := hD.sub (ws' := [(a_t, .inr (2, [.ref a_tc])), (a_tc, .inl (k_tc, tn, .inl g2)), (a_ss, .inr (1, [.int sw, .int sh, .ref a_sr])), (a_sr, .inl (k_sr, sn, .inl sf))]) [0, 1, 2, 3] (by decide) rfl
    rw [hw] at hF
    rw [f_H_takeHalf_q1] at hF
    refine lv_istore (lv' := [(4, .int r1), (0, .ref a_t), (1, .ref a_ss), (2, .int pa), (3, .int pb)]) hx hb dX2_takeHalf_7 hl (by decide) rfl (fun ls hl => ?_)
    refine lv_iconst (v := 0) hx hb dX2_takeHalf_9 (by decide) ?_
    refine lv_istore (lv' := [(5, .int 0), (4, .int r1), (0, .ref a_t), (1, .ref a_ss), (2, .int pa), (3, .int pb)]) hx hb dX2_takeHalf_10 hl (by decide) rfl (fun ls hl => ?_)
    refine lv_iconst (v := 0) hx hb dX2_takeHalf_12 (by decide) ?_
    refine lv_istore (lv' := [(6, .int 0), (5, .int 0), (4, .int r1), (0, .ref a_t), (1, .ref a_ss), (2, .int pa), (3, .int pb)]) hx hb dX2_takeHalf_13 hl (by decide) rfl (fun ls hl => ?_)
    have af15 : ∀ (v6_15 : Int32) (v5_15 : Int32) (f3_15 : Nat → Int32) (H : Heap) (locs : List Loc) (ls : Array Slot), (0 ≤ v6_15.toInt) → f_H_takeHalf_k15 g2 (v6_15, v5_15, f3_15) = F → va_P D vwCl [(a_t, .inr (2, [.ref a_tc])), (a_tc, .inl (k_tc, tn, .inl g2)), (a_ss, .inr (1, [.int sw, .int sh, .ref a_sr])), (a_sr, .inl (k_sr, sn, .inl f3_15))] H → va_D (va_A [(a_t, .inr (2, [.ref a_tc])), (a_tc, .inl (k_tc, tn, .inl tf)), (a_ss, .inr (1, [.int sw, .int sh, .ref a_sr])), (a_sr, .inl (k_sr, sn, .inl sf))] sz) [(a_t, .inr (2, [.ref a_tc])), (a_tc, .inl (k_tc, tn, .inl g2)), (a_ss, .inr (1, [.int sw, .int sh, .ref a_sr])), (a_sr, .inl (k_sr, sn, .inl f3_15))] → va_S (va_A [(a_t, .inr (2, [.ref a_tc])), (a_tc, .inl (k_tc, tn, .inl tf)), (a_ss, .inr (1, [.int sw, .int sh, .ref a_sr])), (a_sr, .inl (k_sr, sn, .inl sf))] sz) s.heap H locs → lv_has ls 9 [(6, .int v6_15), (5, .int v5_15), (4, .int r1), (0, .ref a_t), (1, .ref a_ss), (2, .int pa), (3, .int pb)] → W p l e { frames := 4, cells := 0, slots := 0, locals := 96 } s m (List.toArray [.ref a_t, .ref a_ss, .int pa, .int pb]) below meth c H locs 0 0 (MQ below (va_Qi (fun (r : Int32) (u : (Nat → Int32) × (Nat → Int32)) => F = (r, u)) (fun (u : (Nat → Int32) × (Nat → Int32)) (t : State) => va_P D vwCl [(a_t, .inr (2, [.ref a_tc])), (a_tc, .inl (k_tc, tn, .inl u.1)), (a_ss, .inr (1, [.int sw, .int sh, .ref a_sr])), (a_sr, .inl (k_sr, sn, .inl u.2))] t.heap ∧ va_K D vwCl [(k_tc, .int), (k_sr, .int)] t ∧ va_D (va_A [(a_t, .inr (2, [.ref a_tc])), (a_tc, .inl (k_tc, tn, .inl tf)), (a_ss, .inr (1, [.int sw, .int sh, .ref a_sr])), (a_sr, .inl (k_sr, sn, .inl sf))] sz) [(a_t, .inr (2, [.ref a_tc])), (a_tc, .inl (k_tc, tn, .inl u.1)), (a_ss, .inr (1, [.int sw, .int sh, .ref a_sr])), (a_sr, .inl (k_sr, sn, .inl u.2))]) (va_A [(a_t, .inr (2, [.ref a_tc])), (a_tc, .inl (k_tc, tn, .inl tf)), (a_ss, .inr (1, [.int sw, .int sh, .ref a_sr])), (a_sr, .inl (k_sr, sn, .inl sf))] sz)) (List.toArray [.ref a_t, .ref a_ss, .int pa, .int pb]) s 0 0 (va_A [(a_t, .inr (2, [.ref a_tc])), (a_tc, .inl (k_tc, tn, .inl tf)), (a_ss, .inr (1, [.int sw, .int sh, .ref a_sr])), (a_sr, .inl (k_sr, sn, .inl sf))] sz)) (F0 m 99 ls []) := by
      intro v6_15 v5_15 f3_15 H locs ls h_v6_15 hF hP hD hS hl
      rw [f_H_takeHalf_k15] at hF
      refine lv_iload hx hb dX2_takeHalf_99 (lv_at hl 1 rfl) ?_
      exact W.iret (v := v5_15) hx hb hr (fun t ht hW => ⟨⟨v5_15, (g2, f3_15), rfl, hF.symm, by rw [ht]; exact hP, va_K.moved hW.alike hK, hD⟩, hS.F ht⟩) hS.2.2 dX2_takeHalf_101
    have lp15 : ∀ (n9 : Nat) (v6_15 : Int32) (v5_15 : Int32) (f3_15 : Nat → Int32) (H : Heap) (locs : List Loc) (ls : Array Slot), (0 ≤ v6_15.toInt) → ((nI tn).toInt - v6_15.toInt).toNat < n9 → f_H_takeHalf_k15 g2 (f_H_takeHalf_L15 tn sw sh r1 g2 n9 (v6_15, v5_15, f3_15)) = F → va_P D vwCl [(a_t, .inr (2, [.ref a_tc])), (a_tc, .inl (k_tc, tn, .inl g2)), (a_ss, .inr (1, [.int sw, .int sh, .ref a_sr])), (a_sr, .inl (k_sr, sn, .inl f3_15))] H → va_D (va_A [(a_t, .inr (2, [.ref a_tc])), (a_tc, .inl (k_tc, tn, .inl tf)), (a_ss, .inr (1, [.int sw, .int sh, .ref a_sr])), (a_sr, .inl (k_sr, sn, .inl sf))] sz) [(a_t, .inr (2, [.ref a_tc])), (a_tc, .inl (k_tc, tn, .inl g2)), (a_ss, .inr (1, [.int sw, .int sh, .ref a_sr])), (a_sr, .inl (k_sr, sn, .inl f3_15))] → va_S (va_A [(a_t, .inr (2, [.ref a_tc])), (a_tc, .inl (k_tc, tn, .inl tf)), (a_ss, .inr (1, [.int sw, .int sh, .ref a_sr])), (a_sr, .inl (k_sr, sn, .inl sf))] sz) s.heap H locs → lv_has ls 9 [(6, .int v6_15), (5, .int v5_15), (4, .int r1), (0, .ref a_t), (1, .ref a_ss), (2, .int pa), (3, .int pb)] → W p l e { frames := 4, cells := 0, slots := 0, locals := 96 } s m (List.toArray [.ref a_t, .ref a_ss, .int pa, .int pb]) below meth c H locs 0 0 (MQ below (va_Qi (fun (r : Int32) (u : (Nat → Int32) × (Nat → Int32)) => F = (r, u)) (fun (u : (Nat → Int32) × (Nat → Int32)) (t : State) => va_P D vwCl [(a_t, .inr (2, [.ref a_tc])), (a_tc, .inl (k_tc, tn, .inl u.1)), (a_ss, .inr (1, [.int sw, .int sh, .ref a_sr])), (a_sr, .inl (k_sr, sn, .inl u.2))] t.heap ∧ va_K D vwCl [(k_tc, .int), (k_sr, .int)] t ∧ va_D (va_A [(a_t, .inr (2, [.ref a_tc])), (a_tc, .inl (k_tc, tn, .inl tf)), (a_ss, .inr (1, [.int sw, .int sh, .ref a_sr])), (a_sr, .inl (k_sr, sn, .inl sf))] sz) [(a_t, .inr (2, [.ref a_tc])), (a_tc, .inl (k_tc, tn, .inl u.1)), (a_ss, .inr (1, [.int sw, .int sh, .ref a_sr])), (a_sr, .inl (k_sr, sn, .inl u.2))]) (va_A [(a_t, .inr (2, [.ref a_tc])), (a_tc, .inl (k_tc, tn, .inl tf)), (a_ss, .inr (1, [.int sw, .int sh, .ref a_sr])), (a_sr, .inl (k_sr, sn, .inl sf))] sz)) (List.toArray [.ref a_t, .ref a_ss, .int pa, .int pb]) s 0 0 (va_A [(a_t, .inr (2, [.ref a_tc])), (a_tc, .inl (k_tc, tn, .inl tf)), (a_ss, .inr (1, [.int sw, .int sh, .ref a_sr])), (a_sr, .inl (k_sr, sn, .inl sf))] sz)) (F0 m 15 ls []) := by
      intro n9
      induction n9 with
      | zero => intro v6_15 v5_15 f3_15 H locs ls h_v6_15 hmu15; exact absurd hmu15 (Nat.not_lt_zero _)
      | succ n15 ih15 =>
        intro v6_15 v5_15 f3_15 H locs ls h_v6_15 hmu15 hF hP hD hS hl
        rw [f_H_takeHalf_L15] at hF
        refine lv_iload hx hb dX2_takeHalf_15 (lv_at hl 0 rfl) ?_
        refine lv_iload hx hb dX2_takeHalf_17 (lv_at hl 2 rfl) ?_
        refine lv_icmp_ge (tgt := 99) hx hb dX2_takeHalf_19 (by decide) (fun c19 => ?_) (fun c19 => ?_)
        · rw [if_pos c19] at hF
          exact af15 v6_15 v5_15 f3_15 _ _ ls (h_v6_15) hF hP hD hS (lv_sub hl [0, 1, 2, 3, 4, 5, 6] rfl)
        · rw [if_neg c19] at hF
          refine lv_iload hx hb dX2_takeHalf_22 (lv_at hl 0 rfl) ?_
          refine lv_aload_n hx hb dX2_takeHalf_24 rfl (lv_at hl 3 rfl) ?_
          refine va_get (D := D) (ci := 2) (v := .ref a_tc) (C := RX2) (T := TX2) (N := 1) hx hb hta inX2 hown hK hP 0 rfl rfl 0 (by decide) (hta _ gw_65) (fun _ h9 => h9) rfl dX2_takeHalf_25 ?_
          refine va_alen hx hb hK hP 1 0 rfl rfl (v := nI tn) (rfl) dX2_takeHalf_28 ?_
          refine lv_icmp_ge (tgt := 99) hx hb dX2_takeHalf_29 (by decide) (fun c29 => ?_) (fun c29 => ?_)
          · rw [if_pos c29] at hF
            exact af15 v6_15 v5_15 f3_15 _ _ ls (h_v6_15) hF hP hD hS (lv_sub hl [0, 1, 2, 3, 4, 5, 6] rfl)
          · rw [if_neg c29] at hF
            refine lv_aload_n hx hb dX2_takeHalf_32 rfl (lv_at hl 3 rfl) ?_
            refine va_get (D := D) (ci := 2) (v := .ref a_tc) (C := RX2) (T := TX2) (N := 1) hx hb hta inX2 hown hK hP 0 rfl rfl 0 (by decide) (hta _ gw_65) (fun _ h9 => h9) rfl dX2_takeHalf_33 ?_
            refine lv_iload hx hb dX2_takeHalf_36 (lv_at hl 0 rfl) ?_
            refine va_iald hx hb hK hP 1 0 rfl rfl (i := v6_15) (vi_lt h_v6_15 c29 (by omega)) dX2_takeHalf_38 ?_
            refine ro_go (va_runSN (As := [.int (g2 v6_15.toNatClampNeg)]) (rest := []) ⟨hx, hb, hml, hown, hts⟩ (c_columnOf l D tX tY (g2 v6_15.toNatClampNeg)) ⟨va_cnB 1 hts (gi gw_194) rfl rfl rfl (gn_192 hN) (hta _ gw_1) (by decide +kernel) ⟨Nat.le_of_ble_eq_true rfl, Nat.le_of_ble_eq_true rfl⟩, hta _ gw_193, trivial⟩ ⟨ro_blind, ro_at hP hK hT hN hS [] [] rfl rfl⟩ rfl rfl hl.1 rfl (lv_room (Nat.le_of_ble_eq_true rfl)) dX2_takeHalf_39 ⟨Nat.le_of_ble_eq_true rfl, Nat.le_of_ble_eq_true rfl⟩) ?_
            refine lv_topi (fun cx e_cx => ?_)
            have e_cx : cx = (f_columnOf (g2 v6_15.toNatClampNeg)) := e_cx
            rw [← e_cx] at hF
            rw [f_H_takeHalf_t42] at hF
            refine lv_istore (lv' := [(7, .int cx), (6, .int v6_15), (5, .int v5_15), (4, .int r1), (0, .ref a_t), (1, .ref a_ss), (2, .int pa), (3, .int pb)]) hx hb dX2_takeHalf_42 hl (by decide) rfl (fun ls hl => ?_)
            refine lv_aload_n hx hb dX2_takeHalf_44 rfl (lv_at hl 4 rfl) ?_
            refine va_get (D := D) (ci := 2) (v := .ref a_tc) (C := RX2) (T := TX2) (N := 1) hx hb hta inX2 hown hK hP 0 rfl rfl 0 (by decide) (hta _ gw_65) (fun _ h9 => h9) rfl dX2_takeHalf_45 ?_
            refine lv_iload hx hb dX2_takeHalf_48 (lv_at hl 1 rfl) ?_
            refine va_iald hx hb hK hP 1 0 rfl rfl (i := v6_15) (vi_lt h_v6_15 c29 (by omega)) dX2_takeHalf_50 ?_
            refine ro_go (va_runSN (As := [.int (g2 v6_15.toNatClampNeg)]) (rest := []) ⟨hx, hb, hml, hown, hts⟩ (c_rowOf l D tX tY (g2 v6_15.toNatClampNeg)) ⟨va_cnB 1 hts (gi gw_197) rfl rfl rfl (gn_195 hN) (hta _ gw_1) (by decide +kernel) ⟨Nat.le_of_ble_eq_true rfl, Nat.le_of_ble_eq_true rfl⟩, hta _ gw_196, trivial⟩ ⟨ro_blind, ro_at hP hK hT hN hS [] [] rfl rfl⟩ rfl rfl hl.1 rfl (lv_room (Nat.le_of_ble_eq_true rfl)) dX2_takeHalf_51 ⟨Nat.le_of_ble_eq_true rfl, Nat.le_of_ble_eq_true rfl⟩) ?_
            refine lv_topi (fun cy e_cy => ?_)
            have e_cy : cy = (f_rowOf (g2 v6_15.toNatClampNeg)) := e_cy
            rw [← e_cy] at hF
            rw [f_H_takeHalf_t54] at hF
            refine lv_istore (lv' := [(8, .int cy), (7, .int cx), (6, .int v6_15), (5, .int v5_15), (4, .int r1), (0, .ref a_t), (1, .ref a_ss), (2, .int pa), (3, .int pb)]) hx hb dX2_takeHalf_54 hl (by decide) rfl (fun ls hl => ?_)
            refine lv_aload_n hx hb dX2_takeHalf_56 rfl (lv_at hl 6 rfl) ?_
            refine lv_iload hx hb dX2_takeHalf_57 (lv_at hl 1 rfl) ?_
            refine lv_iload hx hb dX2_takeHalf_59 (lv_at hl 0 rfl) ?_
            refine ro_go (va_runV (As := [.int cx, .int cy]) (rest := []) ⟨hx, hb, hml, hown, hts⟩ (c_S_isBlack l D tX tY a_ss a_sr k_sr sw sh sn f3_15 cx cy (hss)) (cwV 2 hts (gi_4 gi_c gw_157 gw_158 gw_159 gw_3 gw_160) rfl rfl rfl (by decide +kernel) ⟨Nat.le_of_ble_eq_true rfl, Nat.le_of_ble_eq_true rfl⟩) ⟨ro_blind, va_recv hK hP (ci := 1) (q0 := 2) rfl rfl, ro_at hP hK hT hN hS [2, 3] [1] rfl rfl⟩ rfl rfl hl.1 rfl (lv_room (Nat.le_of_ble_eq_true rfl)) dX2_takeHalf_61 ⟨Nat.le_of_ble_eq_true rfl, Nat.le_of_ble_eq_true rfl⟩) ?_
            refine lv_if_eq (tgt := 93) hx hb dX2_takeHalf_64 (by decide) (fun c64 => ?_) (fun c64 => ?_)
            · rw [if_pos c64] at hF
              refine lv_iinc (v := v6_15 + 1) (lv' := [(6, .int (v6_15 + 1)), (8, .int cy), (7, .int cx), (5, .int v5_15), (4, .int r1), (0, .ref a_t), (1, .ref a_ss), (2, .int pa), (3, .int pb)]) hx hb dX2_takeHalf_93 hl (k := 2) rfl rfl (by decide) rfl (fun ls hl => ?_)
              refine lv_goto (tgt := 15) hx hb dX2_takeHalf_96 (by decide) ?_
              exact ih15 (v6_15 + 1) v5_15 f3_15 _ _ ls (cz h_v6_15 c29) (lt_lt (cu c29) hmu15) hF hP hD hS (lv_sub hl [0, 3, 4, 5, 6, 7, 8] rfl)
            · rw [if_neg c64] at hF
              refine lv_aload_n hx hb dX2_takeHalf_67 rfl (lv_at hl 6 rfl) ?_
              refine lv_iload hx hb dX2_takeHalf_68 (lv_at hl 1 rfl) ?_
              refine lv_iload hx hb dX2_takeHalf_70 (lv_at hl 0 rfl) ?_
              refine ro_go (va_runV (As := [.int cx, .int cy]) (rest := []) ⟨hx, hb, hml, hown, hts⟩ (c_S_blackRound l D tX tY a_ss a_sr k_sr sw sh sn f3_15 cx cy (hss)) (cwV 2 hts (gi_4 gi_c gw_165 gw_166 gw_167 gw_3 gw_168) rfl rfl rfl (by decide +kernel) ⟨Nat.le_of_ble_eq_true rfl, Nat.le_of_ble_eq_true rfl⟩) ⟨ro_blind, va_recv hK hP (ci := 1) (q0 := 2) rfl rfl, ro_at hP hK hT hN hS [2, 3] [1] rfl rfl⟩ rfl rfl hl.1 rfl (lv_room (Nat.le_of_ble_eq_true rfl)) dX2_takeHalf_72 ⟨Nat.le_of_ble_eq_true rfl, Nat.le_of_ble_eq_true rfl⟩) ?_
              refine ro_go (va_runS (As := [.int (f_S_blackRound sw sh f3_15 cx cy)]) (rest := []) ⟨hx, hb, hml, hown, hts⟩ (c_H_mayGo l D tX tY (f_S_blackRound sw sh f3_15 cx cy)) (va_cwS 1 hts (gi_3 gi_c gw_177 gw_178 gw_4 gw_179) rfl rfl rfl (by decide +kernel) ⟨Nat.le_of_ble_eq_true rfl, Nat.le_of_ble_eq_true rfl⟩) ⟨ro_blind, ro_at hP hK hT hN hS [] [] rfl rfl⟩ rfl rfl hl.1 rfl (lv_room (Nat.le_of_ble_eq_true rfl)) dX2_takeHalf_75 ⟨Nat.le_of_ble_eq_true rfl, Nat.le_of_ble_eq_true rfl⟩) ?_
              refine lv_if_eq (tgt := 93) hx hb dX2_takeHalf_78 (by decide) (fun c78 => ?_) (fun c78 => ?_)
              · rw [if_pos c78] at hF
                refine lv_iinc (v := v6_15 + 1) (lv' := [(6, .int (v6_15 + 1)), (8, .int cy), (7, .int cx), (5, .int v5_15), (4, .int r1), (0, .ref a_t), (1, .ref a_ss), (2, .int pa), (3, .int pb)]) hx hb dX2_takeHalf_93 hl (k := 2) rfl rfl (by decide) rfl (fun ls hl => ?_)
                refine lv_goto (tgt := 15) hx hb dX2_takeHalf_96 (by decide) ?_
                exact ih15 (v6_15 + 1) v5_15 f3_15 _ _ ls (cz h_v6_15 c29) (lt_lt (cu c29) hmu15) hF hP hD hS (lv_sub hl [0, 3, 4, 5, 6, 7, 8] rfl)
              · rw [if_neg c78] at hF
                refine lv_aload_n hx hb dX2_takeHalf_81 rfl (lv_at hl 6 rfl) ?_
                refine lv_iload hx hb dX2_takeHalf_82 (lv_at hl 1 rfl) ?_
                refine lv_iload hx hb dX2_takeHalf_84 (lv_at hl 0 rfl) ?_
                refine lv_iconst (v := 0) hx hb dX2_takeHalf_86 (by decide) ?_
                have hPc := hP.sub (ws' := [(a_ss, .inr (1, [.int sw, .int sh, .ref a_sr])), (a_sr, .inl (k_sr, sn, .inl f3_15))]) [2, 3] rfl
                have hDc := hD.sub (ws' := [(a_ss, .inr (1, [.int sw, .int sh, .ref a_sr])), (a_sr, .inl (k_sr, sn, .inl f3_15))]) [2, 3] (by decide) rfl
                have hKc := hK.sub (tys' := [(k_sr, .int)]) [1] rfl
                have hFc := va_free (wc := [(a_ss, .inr (1, [.int sw, .int sh, .ref a_sr])), (a_sr, .inl (k_sr, sn, .inl f3_15))]) hD hS hA [2, 3] rfl
                refine va_callv (va_runV (As := [.int cx, .int cy, .int 0]) (rest := []) ⟨hx, hb, hml, hown, hts⟩ (c_S_paint l D tX tY a_ss a_sr k_sr sw sh sn f3_15 H.size cx cy 0 (hss)) (cwV 3 hts (gi_4 gi_c gw_198 gw_199 gw_200 gw_3 gw_201) rfl rfl rfl (by decide +kernel) ⟨Nat.le_of_ble_eq_true rfl, Nat.le_of_ble_eq_true rfl⟩) ⟨mu_blind, va_recv hKc hPc (ci := 1) (q0 := 0) rfl rfl, mu_at hPc hKc hDc hT hN hS hFc⟩ rfl rfl hl.1 rfl (lv_room (Nat.le_of_ble_eq_true rfl)) dX2_takeHalf_87 ⟨Nat.le_of_ble_eq_true rfl, Nat.le_of_ble_eq_true rfl⟩) hS (fun q _ h => hFc q h) hFc (fun u t H1 locs ht hvm hw hB hz1 hk1 hS => ?_)
                obtain ⟨g3, rfl⟩ : ∃ z, z = u := ⟨_, rfl⟩
                obtain ⟨hP1, hK1, hD1⟩ := hB
                rw [ht] at hP1
                obtain ⟨hP, hD⟩ := va_join (wr := [(a_t, .inr (2, [.ref a_tc])), (a_tc, .inl (k_tc, tn, .inl g2))]) (w1 := [(a_ss, .inr (1, [.int sw, .int sh, .ref a_sr])), (a_sr, .inl (k_sr, sn, .inl g3))]) hP hD [2, 3] [0, 1] rfl rfl (by decide) (by decide) hk1 hFc hP1 hD1
                generalize H1 = H at hP hS ⊢
                have hP := hP.sub (ws' := [(a_t, .inr (2, [.ref a_tc])), (a_tc, .inl (k_tc, tn, .inl g2)), (a_ss, .inr (1, [.int sw, .int sh, .ref a_sr])), (a_sr, .inl (k_sr, sn, .inl g3))]) [0, 1, 2, 3] rfl
                have hD := hD.sub (ws' := [(a_t, .inr (2, [.ref a_tc])), (a_tc, .inl (k_tc, tn, .inl g2)), (a_ss, .inr (1, [.int sw, .int sh, .ref a_sr])), (a_sr, .inl (k_sr, sn, .inl g3))]) [0, 1, 2, 3] (by decide) rfl
                rw [hw] at hF
                rw [f_H_takeHalf_q2] at hF
                refine lv_iinc (v := v5_15 + 1) (lv' := [(5, .int (v5_15 + 1)), (8, .int cy), (7, .int cx), (6, .int v6_15), (4, .int r1), (0, .ref a_t), (1, .ref a_ss), (2, .int pa), (3, .int pb)]) hx hb dX2_takeHalf_90 hl (k := 3) rfl rfl (by decide) rfl (fun ls hl => ?_)
                refine lv_iinc (v := v6_15 + 1) (lv' := [(6, .int (v6_15 + 1)), (5, .int (v5_15 + 1)), (8, .int cy), (7, .int cx), (4, .int r1), (0, .ref a_t), (1, .ref a_ss), (2, .int pa), (3, .int pb)]) hx hb dX2_takeHalf_93 hl (k := 3) rfl rfl (by decide) rfl (fun ls hl => ?_)
                refine lv_goto (tgt := 15) hx hb dX2_takeHalf_96 (by decide) ?_
                exact ih15 (v6_15 + 1) (v5_15 + 1) g3 _ _ ls (cz h_v6_15 c29) (lt_lt (cu c29) hmu15) hF hP hD hS (lv_sub hl [0, 1, 4, 5, 6, 7, 8] rfl)
    exact lp15 FU 0 0 sf _ _ ls (by decide) (fu_lt _ _) hF hP hD hS (lv_sub hl [0, 1, 2, 3, 4, 5, 6] rfl)
  exact hgo _ _ hP hD hS

theorem po_e {i : Int32} {n : Nat} (hn : n < 2147483647) (c : ¬ nI n < i) : (i + 1).toInt = i.toInt + 1 ∧ i.toInt ≤ (nI n).toInt := by
  have hi := i_bd i
  have c' : i.toInt ≤ (nI n).toInt := by rw [i_lt] at c; omega
  have hb : (nI n).toInt = n := nI_toInt (by omega)
  exact ⟨by rw [i_add (by rw [i_1]; omega) (by rw [i_1]; omega), i_1], c'⟩
theorem po_dec {i : Int32} {n : Nat} (hn : n < 2147483647) (h0 : 0 ≤ i.toInt) (c : ¬ nI n < i) : ((nI n).toInt + 1 - (i + 1).toInt).toNat < ((nI n).toInt + 1 - i.toInt).toNat := by
  have h := po_e hn c
  rw [h.1]; omega
theorem po_st {i : Int32} {n : Nat} (hn : n < 2147483647) (h0 : 0 ≤ i.toInt) (c : ¬ nI n < i) : 0 ≤ (i + 1).toInt := by
  have h := po_e hn c
  rw [h.1]; omega
def f_H_passesOver_k4  : Int32 × Int32 × (Nat → Int32) × (Nat → Int32) → Int32 × (Nat → Int32) × (Nat → Int32)
  | (v3_4, v2_4, f1_4, f3_4) => (v2_4, f1_4, f3_4)
def f_H_passesOver_q2 (v3_4 : Int32) (v2_4 : Int32) (rc4 : (Int32 × Int32 × (Nat → Int32) × (Nat → Int32)) → (Int32 × Int32 × (Nat → Int32) × (Nat → Int32))) (r1 : Int32) : Int32 × (Nat → Int32) × (Nat → Int32) → Int32 × Int32 × (Nat → Int32) × (Nat → Int32)
  | (r4, g5, g6) => (if (r1 + r4) = 0 then (v3_4, v2_4, g5, g6) else (rc4 (v3_4 + 1, v2_4 + 1, g5, g6)))
def f_H_passesOver_q1 (tn : Nat) (sw : Int32) (sh : Int32) (v3_4 : Int32) (v2_4 : Int32) (rc4 : (Int32 × Int32 × (Nat → Int32) × (Nat → Int32)) → (Int32 × Int32 × (Nat → Int32) × (Nat → Int32))) : Int32 × (Nat → Int32) × (Nat → Int32) → Int32 × Int32 × (Nat → Int32) × (Nat → Int32)
  | (r1, g2, g3) => (f_H_passesOver_q2 v3_4 v2_4 rc4 r1 (f_H_takeHalf tn g2 sw sh g3 4 2))
def f_H_passesOver_L4 (tn : Nat) (sw : Int32) (sh : Int32) : Nat → Int32 × Int32 × (Nat → Int32) × (Nat → Int32) → Int32 × Int32 × (Nat → Int32) × (Nat → Int32)
  | 0, σ => σ
  | n9 + 1, (v3_4, v2_4, f1_4, f3_4) => (if (nI tn) < v3_4 then (v3_4, v2_4, f1_4, f3_4) else (f_H_passesOver_q1 tn sw sh v3_4 v2_4 (f_H_passesOver_L4 tn sw sh n9) (f_H_takeHalf tn f1_4 sw sh f3_4 0 6)))
def f_H_passesOver (tn : Nat) (tf : Nat → Int32) (sw : Int32) (sh : Int32) (sf : Nat → Int32) : Int32 × (Nat → Int32) × (Nat → Int32) := (f_H_passesOver_k4 (f_H_passesOver_L4 tn sw sh FU (0, 0, tf, sf)))
set_option maxHeartbeats 4000000 in
set_option maxRecDepth 100000 in
theorem c_H_passesOver (l : Launch) (D : va_G) (tX tY : Nat) (a_t : Nat) (a_tc : Nat) (k_tc : ClassId) (tn : Nat) (tf : Nat → Int32) (a_ss : Nat) (a_sr : Nat) (k_sr : ClassId) (sw : Int32) (sh : Int32) (sn : Nat) (sf : Nat → Int32) (sz : Nat) (htn : tn < 2147483647) (hss : tsok sw sh sn) : Met l yX2_passesOver wX2_passesOver ({ frames := 5, cells := 0, slots := 0, locals := 124 }) (mu_P D tX tY [(k_tc, .int), (k_sr, .int)] [(a_t, .inr (2, [.ref a_tc])), (a_tc, .inl (k_tc, tn, .inl tf)), (a_ss, .inr (1, [.int sw, .int sh, .ref a_sr])), (a_sr, .inl (k_sr, sn, .inl sf))] sz [.ref a_t, .ref a_ss]) (va_Qi (fun (r : Int32) (u : (Nat → Int32) × (Nat → Int32)) => (f_H_passesOver tn tf sw sh sf) = (r, u)) (fun (u : (Nat → Int32) × (Nat → Int32)) (t : State) => va_P D vwCl [(a_t, .inr (2, [.ref a_tc])), (a_tc, .inl (k_tc, tn, .inl u.1)), (a_ss, .inr (1, [.int sw, .int sh, .ref a_sr])), (a_sr, .inl (k_sr, sn, .inl u.2))] t.heap ∧ va_K D vwCl [(k_tc, .int), (k_sr, .int)] t ∧ va_D (va_A [(a_t, .inr (2, [.ref a_tc])), (a_tc, .inl (k_tc, tn, .inl tf)), (a_ss, .inr (1, [.int sw, .int sh, .ref a_sr])), (a_sr, .inl (k_sr, sn, .inl sf))] sz) [(a_t, .inr (2, [.ref a_tc])), (a_tc, .inl (k_tc, tn, .inl u.1)), (a_ss, .inr (1, [.int sw, .int sh, .ref a_sr])), (a_sr, .inl (k_sr, sn, .inl u.2))]) (va_A [(a_t, .inr (2, [.ref a_tc])), (a_tc, .inl (k_tc, tn, .inl tf)), (a_ss, .inr (1, [.int sw, .int sh, .ref a_sr])), (a_sr, .inl (k_sr, sn, .inl sf))] sz)) 0 0 (va_A [(a_t, .inr (2, [.ref a_tc])), (a_tc, .inl (k_tc, tn, .inl tf)), (a_ss, .inr (1, [.int sw, .int sh, .ref a_sr])), (a_sr, .inl (k_sr, sn, .inl sf))] sz) := by
  generalize hF : (f_H_passesOver tn tf sw sh sf) = F
  refine Met.ofW (cc := cX2_passesOver) (maxL := 5) (ret := (some .int)) (by decide) rfl ?_
  intro p e s m args below meth c s₁ B hml hv
  obtain ⟨rfl, hsz, hP, hK, hD0, hT, hN⟩ := hv
  have hx := B.exec
  have hb := B.bytes
  have hr := B.returns
  have hts := atoms_spec (ws := wX2_passesOver) B.pre
  have hta : ∀ w ∈ gw, w.before _ s = true := fun w h => hts w (List.mem_cons_of_mem _ h)
  have hown : s.vm.findClass RX2 = some m.cls := findClass_of_methodNamed B.named
  have hlocks := B.notSynchronized
  have hD : va_D (va_A [(a_t, .inr (2, [.ref a_tc])), (a_tc, .inl (k_tc, tn, .inl tf)), (a_ss, .inr (1, [.int sw, .int sh, .ref a_sr])), (a_sr, .inl (k_sr, sn, .inl sf))] sz) [(a_t, .inr (2, [.ref a_tc])), (a_tc, .inl (k_tc, tn, .inl tf)), (a_ss, .inr (1, [.int sw, .int sh, .ref a_sr])), (a_sr, .inl (k_sr, sn, .inl sf))] := hD0.self
  have hA : ∀ q : Nat, s.heap.size ≤ q → (va_A [(a_t, .inr (2, [.ref a_tc])), (a_tc, .inl (k_tc, tn, .inl tf)), (a_ss, .inr (1, [.int sw, .int sh, .ref a_sr])), (a_sr, .inl (k_sr, sn, .inl sf))] sz) q := fun q h => Or.inr (hsz ▸ h)
  have hS : va_S (va_A [(a_t, .inr (2, [.ref a_tc])), (a_tc, .inl (k_tc, tn, .inl tf)), (a_ss, .inr (1, [.int sw, .int sh, .ref a_sr])), (a_sr, .inl (k_sr, sn, .inl sf))] sz) s.heap s.heap [] := va_S.rf
  have hl := lv_entry [.ref a_t, .ref a_ss] (n := 5) (Nat.le_of_ble_eq_true rfl)
  rw [lg_entry_eq]
  generalize (lg_sl [.ref a_t, .ref a_ss] ++ List.replicate (5 - (lg_sl [.ref a_t, .ref a_ss]).length) Slot.unset).toArray = ls at hl ⊢
  have hl : lv_has ls 5 [(0, .ref a_t), (1, .ref a_ss)] := hl
  rw [f_H_passesOver] at hF
  have hgo : ∀ (H : Heap) (locs : List Loc), va_P D vwCl [(a_t, .inr (2, [.ref a_tc])), (a_tc, .inl (k_tc, tn, .inl tf)), (a_ss, .inr (1, [.int sw, .int sh, .ref a_sr])), (a_sr, .inl (k_sr, sn, .inl sf))] H → va_D (va_A [(a_t, .inr (2, [.ref a_tc])), (a_tc, .inl (k_tc, tn, .inl tf)), (a_ss, .inr (1, [.int sw, .int sh, .ref a_sr])), (a_sr, .inl (k_sr, sn, .inl sf))] sz) [(a_t, .inr (2, [.ref a_tc])), (a_tc, .inl (k_tc, tn, .inl tf)), (a_ss, .inr (1, [.int sw, .int sh, .ref a_sr])), (a_sr, .inl (k_sr, sn, .inl sf))] → va_S (va_A [(a_t, .inr (2, [.ref a_tc])), (a_tc, .inl (k_tc, tn, .inl tf)), (a_ss, .inr (1, [.int sw, .int sh, .ref a_sr])), (a_sr, .inl (k_sr, sn, .inl sf))] sz) s.heap H locs → W p l e { frames := 5, cells := 0, slots := 0, locals := 124 } s m (List.toArray [.ref a_t, .ref a_ss]) below meth c H locs 0 0 (MQ below (va_Qi (fun (r : Int32) (u : (Nat → Int32) × (Nat → Int32)) => F = (r, u)) (fun (u : (Nat → Int32) × (Nat → Int32)) (t : State) => va_P D vwCl [(a_t, .inr (2, [.ref a_tc])), (a_tc, .inl (k_tc, tn, .inl u.1)), (a_ss, .inr (1, [.int sw, .int sh, .ref a_sr])), (a_sr, .inl (k_sr, sn, .inl u.2))] t.heap ∧ va_K D vwCl [(k_tc, .int), (k_sr, .int)] t ∧ va_D (va_A [(a_t, .inr (2, [.ref a_tc])), (a_tc, .inl (k_tc, tn, .inl tf)), (a_ss, .inr (1, [.int sw, .int sh, .ref a_sr])), (a_sr, .inl (k_sr, sn, .inl sf))] sz) [(a_t, .inr (2, [.ref a_tc])), (a_tc, .inl (k_tc, tn, .inl u.1)), (a_ss, .inr (1, [.int sw, .int sh, .ref a_sr])), (a_sr, .inl (k_sr, sn, .inl u.2))]) (va_A [(a_t, .inr (2, [.ref a_tc])), (a_tc, .inl (k_tc, tn, .inl tf)), (a_ss, .inr (1, [.int sw, .int sh, .ref a_sr])), (a_sr, .inl (k_sr, sn, .inl sf))] sz)) (List.toArray [.ref a_t, .ref a_ss]) s 0 0 (va_A [(a_t, .inr (2, [.ref a_tc])), (a_tc, .inl (k_tc, tn, .inl tf)), (a_ss, .inr (1, [.int sw, .int sh, .ref a_sr])), (a_sr, .inl (k_sr, sn, .inl sf))] sz)) (F0 m 0 ls []) := by
    intro H locs hP hD hS
    refine lv_iconst (v := 0) hx hb dX2_passesOver_0 (by decide) ?_
    refine lv_istore_n (lv' := [(2, .int 0), (0, .ref a_t), (1, .ref a_ss)]) hx hb dX2_passesOver_1 rfl hl (by decide) rfl (fun ls hl => ?_)
    refine lv_iconst (v := 0) hx hb dX2_passesOver_2 (by decide) ?_
    refine lv_istore_n (lv' := [(3, .int 0), (2, .int 0), (0, .ref a_t), (1, .ref a_ss)]) hx hb dX2_passesOver_3 rfl hl (by decide) rfl (fun ls hl => ?_)
    have af4 : ∀ (v3_4 : Int32) (v2_4 : Int32) (f1_4 : Nat → Int32) (f3_4 : Nat → Int32) (H : Heap) (locs : List Loc) (ls : Array Slot), (0 ≤ v3_4.toInt) → f_H_passesOver_k4  (v3_4, v2_4, f1_4, f3_4) = F → va_P D vwCl [(a_t, .inr (2, [.ref a_tc])), (a_tc, .inl (k_tc, tn, .inl f1_4)), (a_ss, .inr (1, [.int sw, .int sh, .ref a_sr])), (a_sr, .inl (k_sr, sn, .inl f3_4))] H → va_D (va_A [(a_t, .inr (2, [.ref a_tc])), (a_tc, .inl (k_tc, tn, .inl tf)), (a_ss, .inr (1, [.int sw, .int sh, .ref a_sr])), (a_sr, .inl (k_sr, sn, .inl sf))] sz) [(a_t, .inr (2, [.ref a_tc])), (a_tc, .inl (k_tc, tn, .inl f1_4)), (a_ss, .inr (1, [.int sw, .int sh, .ref a_sr])), (a_sr, .inl (k_sr, sn, .inl f3_4))] → va_S (va_A [(a_t, .inr (2, [.ref a_tc])), (a_tc, .inl (k_tc, tn, .inl tf)), (a_ss, .inr (1, [.int sw, .int sh, .ref a_sr])), (a_sr, .inl (k_sr, sn, .inl sf))] sz) s.heap H locs → lv_has ls 5 [(3, .int v3_4), (2, .int v2_4), (0, .ref a_t), (1, .ref a_ss)] → W p l e { frames := 5, cells := 0, slots := 0, locals := 124 } s m (List.toArray [.ref a_t, .ref a_ss]) below meth c H locs 0 0 (MQ below (va_Qi (fun (r : Int32) (u : (Nat → Int32) × (Nat → Int32)) => F = (r, u)) (fun (u : (Nat → Int32) × (Nat → Int32)) (t : State) => va_P D vwCl [(a_t, .inr (2, [.ref a_tc])), (a_tc, .inl (k_tc, tn, .inl u.1)), (a_ss, .inr (1, [.int sw, .int sh, .ref a_sr])), (a_sr, .inl (k_sr, sn, .inl u.2))] t.heap ∧ va_K D vwCl [(k_tc, .int), (k_sr, .int)] t ∧ va_D (va_A [(a_t, .inr (2, [.ref a_tc])), (a_tc, .inl (k_tc, tn, .inl tf)), (a_ss, .inr (1, [.int sw, .int sh, .ref a_sr])), (a_sr, .inl (k_sr, sn, .inl sf))] sz) [(a_t, .inr (2, [.ref a_tc])), (a_tc, .inl (k_tc, tn, .inl u.1)), (a_ss, .inr (1, [.int sw, .int sh, .ref a_sr])), (a_sr, .inl (k_sr, sn, .inl u.2))]) (va_A [(a_t, .inr (2, [.ref a_tc])), (a_tc, .inl (k_tc, tn, .inl tf)), (a_ss, .inr (1, [.int sw, .int sh, .ref a_sr])), (a_sr, .inl (k_sr, sn, .inl sf))] sz)) (List.toArray [.ref a_t, .ref a_ss]) s 0 0 (va_A [(a_t, .inr (2, [.ref a_tc])), (a_tc, .inl (k_tc, tn, .inl tf)), (a_ss, .inr (1, [.int sw, .int sh, .ref a_sr])), (a_sr, .inl (k_sr, sn, .inl sf))] sz)) (F0 m 48 ls []) := by
      intro v3_4 v2_4 f1_4 f3_4 H locs ls h_v3_4 hF hP hD hS hl
      rw [f_H_passesOver_k4] at hF
      refine lv_iload_n hx hb dX2_passesOver_48 rfl (lv_at hl 1 rfl) ?_
      exact W.iret (v := v2_4) hx hb hr (fun t ht hW => ⟨⟨v2_4, (f1_4, f3_4), rfl, hF.symm, by rw [ht]; exact hP, va_K.moved hW.alike hK, hD⟩, hS.F ht⟩) hS.2.2 dX2_passesOver_49
    have lp4 : ∀ (n9 : Nat) (v3_4 : Int32) (v2_4 : Int32) (f1_4 : Nat → Int32) (f3_4 : Nat → Int32) (H : Heap) (locs : List Loc) (ls : Array Slot), (0 ≤ v3_4.toInt) → ((nI tn).toInt + 1 - v3_4.toInt).toNat < n9 → f_H_passesOver_k4  (f_H_passesOver_L4 tn sw sh n9 (v3_4, v2_4, f1_4, f3_4)) = F → va_P D vwCl [(a_t, .inr (2, [.ref a_tc])), (a_tc, .inl (k_tc, tn, .inl f1_4)), (a_ss, .inr (1, [.int sw, .int sh, .ref a_sr])), (a_sr, .inl (k_sr, sn, .inl f3_4))] H → va_D (va_A [(a_t, .inr (2, [.ref a_tc])), (a_tc, .inl (k_tc, tn, .inl tf)), (a_ss, .inr (1, [.int sw, .int sh, .ref a_sr])), (a_sr, .inl (k_sr, sn, .inl sf))] sz) [(a_t, .inr (2, [.ref a_tc])), (a_tc, .inl (k_tc, tn, .inl f1_4)), (a_ss, .inr (1, [.int sw, .int sh, .ref a_sr])), (a_sr, .inl (k_sr, sn, .inl f3_4))] → va_S (va_A [(a_t, .inr (2, [.ref a_tc])), (a_tc, .inl (k_tc, tn, .inl tf)), (a_ss, .inr (1, [.int sw, .int sh, .ref a_sr])), (a_sr, .inl (k_sr, sn, .inl sf))] sz) s.heap H locs → lv_has ls 5 [(3, .int v3_4), (2, .int v2_4), (0, .ref a_t), (1, .ref a_ss)] → W p l e { frames := 5, cells := 0, slots := 0, locals := 124 } s m (List.toArray [.ref a_t, .ref a_ss]) below meth c H locs 0 0 (MQ below (va_Qi (fun (r : Int32) (u : (Nat → Int32) × (Nat → Int32)) => F = (r, u)) (fun (u : (Nat → Int32) × (Nat → Int32)) (t : State) => va_P D vwCl [(a_t, .inr (2, [.ref a_tc])), (a_tc, .inl (k_tc, tn, .inl u.1)), (a_ss, .inr (1, [.int sw, .int sh, .ref a_sr])), (a_sr, .inl (k_sr, sn, .inl u.2))] t.heap ∧ va_K D vwCl [(k_tc, .int), (k_sr, .int)] t ∧ va_D (va_A [(a_t, .inr (2, [.ref a_tc])), (a_tc, .inl (k_tc, tn, .inl tf)), (a_ss, .inr (1, [.int sw, .int sh, .ref a_sr])), (a_sr, .inl (k_sr, sn, .inl sf))] sz) [(a_t, .inr (2, [.ref a_tc])), (a_tc, .inl (k_tc, tn, .inl u.1)), (a_ss, .inr (1, [.int sw, .int sh, .ref a_sr])), (a_sr, .inl (k_sr, sn, .inl u.2))]) (va_A [(a_t, .inr (2, [.ref a_tc])), (a_tc, .inl (k_tc, tn, .inl tf)), (a_ss, .inr (1, [.int sw, .int sh, .ref a_sr])), (a_sr, .inl (k_sr, sn, .inl sf))] sz)) (List.toArray [.ref a_t, .ref a_ss]) s 0 0 (va_A [(a_t, .inr (2, [.ref a_tc])), (a_tc, .inl (k_tc, tn, .inl tf)), (a_ss, .inr (1, [.int sw, .int sh, .ref a_sr])), (a_sr, .inl (k_sr, sn, .inl sf))] sz)) (F0 m 4 ls []) := by
      intro n9
      induction n9 with
      | zero => intro v3_4 v2_4 f1_4 f3_4 H locs ls h_v3_4 hmu4; exact absurd hmu4 (Nat.not_lt_zero _)
      | succ n4 ih4 =>
        intro v3_4 v2_4 f1_4 f3_4 H locs ls h_v3_4 hmu4 hF hP hD hS hl
        rw [f_H_passesOver_L4] at hF
        refine lv_iload_n hx hb dX2_passesOver_4 rfl (lv_at hl 0 rfl) ?_
        refine lv_aload_n hx hb dX2_passesOver_5 rfl (lv_at hl 2 rfl) ?_
        refine va_get (D := D) (ci := 2) (v := .ref a_tc) (C := RX2) (T := TX2) (N := 1) hx hb hta inX2 hown hK hP 0 rfl rfl 0 (by decide) (hta _ gw_65) (fun _ h9 => h9) rfl dX2_passesOver_6 ?_
        refine va_alen hx hb hK hP 1 0 rfl rfl (v := nI tn) (rfl) dX2_passesOver_9 ?_
        refine lv_icmp_gt (tgt := 48) hx hb dX2_passesOver_10 (by decide) (fun c10 => ?_) (fun c10 => ?_)
        · rw [if_pos c10] at hF
          exact af4 v3_4 v2_4 f1_4 f3_4 _ _ ls (h_v3_4) hF hP hD hS (lv_sub hl [0, 1, 2, 3] rfl)
        · rw [if_neg c10] at hF
          refine lv_aload_n hx hb dX2_passesOver_13 rfl (lv_at hl 2 rfl) ?_
          refine lv_aload_n hx hb dX2_passesOver_14 rfl (lv_at hl 3 rfl) ?_
          refine lv_iconst (v := 0) hx hb dX2_passesOver_15 (by decide) ?_
          refine lv_bipush (v := 6) hx hb dX2_passesOver_16 (by decide) ?_
          have hPc := hP.sub (ws' := [(a_t, .inr (2, [.ref a_tc])), (a_tc, .inl (k_tc, tn, .inl f1_4)), (a_ss, .inr (1, [.int sw, .int sh, .ref a_sr])), (a_sr, .inl (k_sr, sn, .inl f3_4))]) [0, 1, 2, 3] rfl
          have hDc := hD.sub (ws' := [(a_t, .inr (2, [.ref a_tc])), (a_tc, .inl (k_tc, tn, .inl f1_4)), (a_ss, .inr (1, [.int sw, .int sh, .ref a_sr])), (a_sr, .inl (k_sr, sn, .inl f3_4))]) [0, 1, 2, 3] (by decide) rfl
          have hKc := hK.sub (tys' := [(k_tc, .int), (k_sr, .int)]) [0, 1] rfl
          have hFc := va_free (wc := [(a_t, .inr (2, [.ref a_tc])), (a_tc, .inl (k_tc, tn, .inl f1_4)), (a_ss, .inr (1, [.int sw, .int sh, .ref a_sr])), (a_sr, .inl (k_sr, sn, .inl f3_4))]) hD hS hA [0, 1, 2, 3] rfl
          refine va_calli (va_runV (As := [.ref a_ss, .int 0, .int 6]) (rest := []) ⟨hx, hb, hml, hown, hts⟩ (c_H_takeHalf l D tX tY a_t a_tc k_tc tn f1_4 a_ss a_sr k_sr sw sh sn f3_4 H.size 0 6 (htn) (hss)) (cwV 3 hts (gi_4 gi_c gw_149 gw_151 gs_X2_takeHalf gw_4 gw_152) rfl rfl rfl (by decide +kernel) ⟨Nat.le_of_ble_eq_true rfl, Nat.le_of_ble_eq_true rfl⟩) ⟨mu_blind, va_recv hKc hPc (ci := 2) (q0 := 0) rfl rfl, mu_at hPc hKc hDc hT hN hS hFc⟩ rfl rfl hl.1 rfl (lv_room (Nat.le_of_ble_eq_true rfl)) dX2_passesOver_18 ⟨Nat.le_of_ble_eq_true rfl, Nat.le_of_ble_eq_true rfl⟩) hS (fun q _ h => hFc q h) hFc (fun r1 u t H1 locs ht hvm hw hB hz1 hk1 hS => ?_)
          obtain ⟨g2, g3⟩ := u
          obtain ⟨hP1, hK1, hD1⟩ := hB
          rw [ht] at hP1
          obtain ⟨hP, hD⟩ := va_join (wr := []) (w1 := [(a_t, .inr (2, [.ref a_tc])), (a_tc, .inl (k_tc, tn, .inl g2)), (a_ss, .inr (1, [.int sw, .int sh, .ref a_sr])), (a_sr, .inl (k_sr, sn, .inl g3))]) hP hD [0, 1, 2, 3] [] rfl rfl (by decide) (by decide) hk1 hFc hP1 hD1
          generalize H1 = H at hP hS ⊢
          have hP := hP.sub (ws' := [(a_t, .inr (2, [.ref a_tc])), (a_tc, .inl (k_tc, tn, .inl g2)), (a_ss, .inr (1, [.int sw, .int sh, .ref a_sr])), (a_sr, .inl (k_sr, sn, .inl g3))]) [0, 1, 2, 3] rfl
          have hD := hD.sub (ws' := [(a_t, .inr (2, [.ref a_tc])), (a_tc, .inl (k_tc, tn, .inl g2)), (a_ss, .inr (1, [.int sw, .int sh, .ref a_sr])), (a_sr, .inl (k_sr, sn, .inl g3))]) [0, 1, 2, 3] (by decide) rfl
          rw [hw] at hF
          rw [f_H_passesOver_q1] at hF
          refine lv_aload_n hx hb dX2_passesOver_21 rfl (lv_at hl 2 rfl) ?_
          refine lv_aload_n hx hb dX2_passesOver_22 rfl (lv_at hl 3 rfl) ?_
          refine lv_iconst (v := 4) hx hb dX2_passesOver_23 (by decide) ?_
          refine lv_iconst (v := 2) hx hb dX2_passesOver_24 (by decide) ?_
          have hPc := hP.sub (ws' := [(a_t, .inr (2, [.ref a_tc])), (a_tc, .inl (k_tc, tn, .inl g2)), (a_ss, .inr (1, [.int sw, .int sh, .ref a_sr])), (a_sr, .inl (k_sr, sn, .inl g3))]) [0, 1, 2, 3] rfl
          have hDc := hD.sub (ws' := [(a_t, .inr (2, [.ref a_tc])), (a_tc, .inl (k_tc, tn, .inl g2)), (a_ss, .inr (1, [.int sw, .int sh, .ref a_sr])), (a_sr, .inl (k_sr, sn, .inl g3))]) [0, 1, 2, 3] (by decide) rfl
          have hKc := hK.sub (tys' := [(k_tc, .int), (k_sr, .int)]) [0, 1] rfl
          have hFc := va_free (wc := [(a_t, .inr (2, [.ref a_tc])), (a_tc, .inl (k_tc, tn, .inl g2)), (a_ss, .inr (1, [.int sw, .int sh, .ref a_sr])), (a_sr, .inl (k_sr, sn, .inl g3))]) hD hS hA [0, 1, 2, 3] rfl
          refine va_calli (va_runV (As := [.ref a_ss, .int 4, .int 2]) (rest := [.int r1]) ⟨hx, hb, hml, hown, hts⟩ (c_H_takeHalf l D tX tY a_t a_tc k_tc tn g2 a_ss a_sr k_sr sw sh sn g3 H.size 4 2 (htn) (hss)) (cwV 3 hts (gi_4 gi_c gw_149 gw_151 gs_X2_takeHalf gw_4 gw_152) rfl rfl rfl (by decide +kernel) ⟨Nat.le_of_ble_eq_true rfl, Nat.le_of_ble_eq_true rfl⟩) ⟨mu_blind, va_recv hKc hPc (ci := 2) (q0 := 0) rfl rfl, mu_at hPc hKc hDc hT hN hS hFc⟩ rfl rfl hl.1 rfl (lv_room (Nat.le_of_ble_eq_true rfl)) dX2_passesOver_25 ⟨Nat.le_of_ble_eq_true rfl, Nat.le_of_ble_eq_true rfl⟩) hS (fun q _ h => hFc q h) hFc (fun r4 u t H1 locs ht hvm hw hB hz1 hk1 hS => ?_)
          obtain ⟨g5, g6⟩ := u
          obtain ⟨hP1, hK1, hD1⟩ := hB
          rw [ht] at hP1
          obtain ⟨hP, hD⟩ := va_join (wr := []) (w1 := [(a_t, .inr (2, [.ref a_tc])), (a_tc, .inl (k_tc, tn, .inl g5)), (a_ss, .inr (1, [.int sw, .int sh, .ref a_sr])), (a_sr, .inl (k_sr, sn, .inl g6))]) hP hD [0, 1, 2, 3] [] rfl rfl (by decide) (by decide) hk1 hFc hP1 hD1
          generalize H1 = H at hP hS ⊢
          have hP := hP.sub (ws' := [(a_t, .inr (2, [.ref a_tc])), (a_tc, .inl (k_tc, tn, .inl g5)), (a_ss, .inr (1, [.int sw, .int sh, .ref a_sr])), (a_sr, .inl (k_sr, sn, .inl g6))]) [0, 1, 2, 3] rfl
          have hD := hD.sub (ws' := [(a_t, .inr (2, [.ref a_tc])), (a_tc, .inl (k_tc, tn, .inl g5)), (a_ss, .inr (1, [.int sw, .int sh, .ref a_sr])), (a_sr, .inl (k_sr, sn, .inl g6))]) [0, 1, 2, 3] (by decide) rfl
          rw [hw] at hF
          rw [f_H_passesOver_q2] at hF
          refine lv_iadd hx hb dX2_passesOver_28 ?_
          refine lv_istore (lv' := [(4, .int (r1 + r4)), (3, .int v3_4), (2, .int v2_4), (0, .ref a_t), (1, .ref a_ss)]) hx hb dX2_passesOver_29 hl (by decide) rfl (fun ls hl => ?_)
          refine lv_iload hx hb dX2_passesOver_31 (lv_at hl 0 rfl) ?_
          refine lv_if_ne (tgt := 39) hx hb dX2_passesOver_33 (by decide) (fun c33 => ?_) (fun c33 => ?_)
          · rw [if_neg c33] at hF
            refine lv_iinc (v := v2_4 + 1) (lv' := [(2, .int (v2_4 + 1)), (4, .int (r1 + r4)), (3, .int v3_4), (0, .ref a_t), (1, .ref a_ss)]) hx hb dX2_passesOver_39 hl (k := 2) rfl rfl (by decide) rfl (fun ls hl => ?_)
            refine lv_iinc (v := v3_4 + 1) (lv' := [(3, .int (v3_4 + 1)), (2, .int (v2_4 + 1)), (4, .int (r1 + r4)), (0, .ref a_t), (1, .ref a_ss)]) hx hb dX2_passesOver_42 hl (k := 2) rfl rfl (by decide) rfl (fun ls hl => ?_)
            refine lv_goto (tgt := 4) hx hb dX2_passesOver_45 (by decide) ?_
            exact ih4 (v3_4 + 1) (v2_4 + 1) g5 g6 _ _ ls (po_st htn h_v3_4 c10) (lt_lt (po_dec htn h_v3_4 c10) hmu4) hF hP hD hS (lv_sub hl [0, 1, 3, 4] rfl)
          · rw [if_pos c33] at hF
            refine lv_goto (tgt := 48) hx hb dX2_passesOver_36 (by decide) ?_
            exact af4 v3_4 v2_4 g5 g6 _ _ ls (h_v3_4) hF hP hD hS (lv_sub hl [1, 2, 3, 4] rfl)
    exact lp4 FU 0 0 tf sf _ _ ls (by decide) (rc_fu _ _) hF hP hD hS (lv_sub hl [0, 1, 2, 3] rfl)
  exact hgo _ _ hP hD hS
