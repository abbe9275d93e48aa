def f_nearestSize (px : Int32) : Int32 := mx 1 (mn 24 px)
set_option maxHeartbeats 4000000 in
set_option maxRecDepth 100000 in
theorem c_nearestSize (l : Launch) (D : va_G) (tX tY : Nat) (px : Int32) : Met l yX4_nearestSize wX4_nearestSize ({ frames := 1, cells := 0, slots := 0, locals := 24 }) (ro_P D tX tY [] [] [.int px]) (k2_QcV (.int (f_nearestSize px))) 0 0 (fun _ => False) := by
  generalize hF : (f_nearestSize px) = F
  refine Met.ofW (cc := cX4_nearestSize) (maxL := 1) (ret := (some .int)) (by decide) rfl ?_
  intro p e s m args below meth c s₁ B hml hv
  obtain ⟨rfl, hP, hK, hT, hN⟩ := hv
  have hx := B.exec
  have hb := B.bytes
  have hr := B.returns
  have hts := atoms_spec (ws := wX4_nearestSize) B.pre
  have hta : ∀ w ∈ gw, w.before _ s = true := fun w h => hts w (List.mem_cons_of_mem _ h)
  have hown : s.vm.findClass RX4 = some m.cls := findClass_of_methodNamed B.named
  have hlocks := B.notSynchronized
  have hl := lv_entry [.int px] (n := 1) (Nat.le_of_ble_eq_true rfl)
  rw [lg_entry_eq]
  generalize (lg_sl [.int px] ++ List.replicate (1 - (lg_sl [.int px]).length) Slot.unset).toArray = ls at hl ⊢
  have hl : lv_has ls 1 [(0, .int px)] := hl
  rw [f_nearestSize] at hF
  refine lv_iconst (v := 1) hx hb dX4_nearestSize_0 (by decide) ?_
  refine lv_bipush (v := 24) hx hb dX4_nearestSize_1 (by decide) ?_
  refine lv_iload_n hx hb dX4_nearestSize_3 rfl (lv_at hl 0 rfl) ?_
  refine va_mmin hx hb (hml.trans hl.1.symm) hown (hta _ gw_26) (hta _ gw_27) (hta _ gw_2) (hta _ gw_28) (Nat.le_of_ble_eq_true rfl) (Nat.le_of_ble_eq_true rfl) (Nat.le_of_ble_eq_true rfl) (Nat.le_of_ble_eq_true rfl) dX4_nearestSize_4 ?_
  refine va_mmax hx hb (hml.trans hl.1.symm) hown (hta _ gw_29) (hta _ gw_30) (hta _ gw_2) (hta _ gw_31) (Nat.le_of_ble_eq_true rfl) (Nat.le_of_ble_eq_true rfl) (Nat.le_of_ble_eq_true rfl) (Nat.le_of_ble_eq_true rfl) dX4_nearestSize_7 ?_
  exact W.iret (v := mx 1 (mn 24 px)) hx hb hr (fun t ht _ => ⟨by rw [← hF], ht⟩) (fun _ h => nomatch h) dX4_nearestSize_10

def f_placeOf (px : Int32) (py : Int32) : Int32 := (py <<< (5 &&& 31)) ||| px
set_option maxHeartbeats 4000000 in
set_option maxRecDepth 100000 in
theorem c_placeOf (l : Launch) (D : va_G) (tX tY : Nat) (px : Int32) (py : Int32) : Met l yX4_placeOf wX4_placeOf ({ frames := 0, cells := 0, slots := 0, locals := 0 }) (ro_P D tX tY [] [] [.int px, .int py]) (k2_QcV (.int (f_placeOf px py))) 0 0 (fun _ => False) := by
  generalize hF : (f_placeOf px py) = F
  refine Met.ofW (cc := cX4_placeOf) (maxL := 2) (ret := (some .int)) (by decide) rfl ?_
  intro p e s m args below meth c s₁ B hml hv
  obtain ⟨rfl, hP, hK, hT, hN⟩ := hv
  have hx := B.exec
  have hb := B.bytes
  have hr := B.returns
  have hts := atoms_spec (ws := wX4_placeOf) B.pre
  have hta : ∀ w ∈ gw, w.before _ s = true := fun w h => hts w (List.mem_cons_of_mem _ h)
  have hown : s.vm.findClass RX4 = some m.cls := findClass_of_methodNamed B.named
  have hlocks := B.notSynchronized
  have hl := lv_entry [.int px, .int py] (n := 2) (Nat.le_of_ble_eq_true rfl)
  rw [lg_entry_eq]
  generalize (lg_sl [.int px, .int py] ++ List.replicate (2 - (lg_sl [.int px, .int py]).length) Slot.unset).toArray = ls at hl ⊢
  have hl : lv_has ls 2 [(0, .int px), (1, .int py)] := hl
  rw [f_placeOf] at hF
  refine lv_iload_n hx hb dX4_placeOf_0 rfl (lv_at hl 1 rfl) ?_
  refine lv_iconst (v := 5) hx hb dX4_placeOf_1 (by decide) ?_
  refine lv_ishl hx hb dX4_placeOf_2 ?_
  refine lv_iload_n hx hb dX4_placeOf_3 rfl (lv_at hl 0 rfl) ?_
  refine lv_ior hx hb dX4_placeOf_4 ?_
  exact W.iret (v := (py <<< (5 &&& 31)) ||| px) hx hb hr (fun t ht _ => ⟨by rw [← hF], ht⟩) (fun _ h => nomatch h) dX4_placeOf_5

def f_columnOf (px : Int32) : Int32 := px &&& 31
set_option maxHeartbeats 4000000 in
set_option maxRecDepth 100000 in
theorem c_columnOf (l : Launch) (D : va_G) (tX tY : Nat) (px : Int32) : Met l yX4_columnOf wX4_columnOf ({ frames := 0, cells := 0, slots := 0, locals := 0 }) (ro_P D tX tY [] [] [.int px]) (k2_QcV (.int (f_columnOf px))) 0 0 (fun _ => False) := by
  generalize hF : (f_columnOf px) = F
  refine Met.ofW (cc := cX4_columnOf) (maxL := 1) (ret := (some .int)) (by decide) rfl ?_
  intro p e s m args below meth c s₁ B hml hv
  obtain ⟨rfl, hP, hK, hT, hN⟩ := hv
  have hx := B.exec
  have hb := B.bytes
  have hr := B.returns
  have hts := atoms_spec (ws := wX4_columnOf) B.pre
  have hta : ∀ w ∈ gw, w.before _ s = true := fun w h => hts w (List.mem_cons_of_mem _ h)
  have hown : s.vm.findClass RX4 = some m.cls := findClass_of_methodNamed B.named
  have hlocks := B.notSynchronized
  have hl := lv_entry [.int px] (n := 1) (Nat.le_of_ble_eq_true rfl)
  rw [lg_entry_eq]
  generalize (lg_sl [.int px] ++ List.replicate (1 - (lg_sl [.int px]).length) Slot.unset).toArray = ls at hl ⊢
  have hl : lv_has ls 1 [(0, .int px)] := hl
  rw [f_columnOf] at hF
  refine lv_iload_n hx hb dX4_columnOf_0 rfl (lv_at hl 0 rfl) ?_
  refine lv_bipush (v := 31) hx hb dX4_columnOf_1 (by decide) ?_
  refine lv_iand hx hb dX4_columnOf_3 ?_
  exact W.iret (v := px &&& 31) hx hb hr (fun t ht _ => ⟨by rw [← hF], ht⟩) (fun _ h => nomatch h) dX4_columnOf_4

def f_rowOf (px : Int32) : Int32 := px >>> (5 &&& 31)
set_option maxHeartbeats 4000000 in
set_option maxRecDepth 100000 in
theorem c_rowOf (l : Launch) (D : va_G) (tX tY : Nat) (px : Int32) : Met l yX4_rowOf wX4_rowOf ({ frames := 0, cells := 0, slots := 0, locals := 0 }) (ro_P D tX tY [] [] [.int px]) (k2_QcV (.int (f_rowOf px))) 0 0 (fun _ => False) := by
  generalize hF : (f_rowOf px) = F
  refine Met.ofW (cc := cX4_rowOf) (maxL := 1) (ret := (some .int)) (by decide) rfl ?_
  intro p e s m args below meth c s₁ B hml hv
  obtain ⟨rfl, hP, hK, hT, hN⟩ := hv
  have hx := B.exec
  have hb := B.bytes
  have hr := B.returns
  have hts := atoms_spec (ws := wX4_rowOf) B.pre
  have hta : ∀ w ∈ gw, w.before _ s = true := fun w h => hts w (List.mem_cons_of_mem _ h)
  have hown : s.vm.findClass RX4 = some m.cls := findClass_of_methodNamed B.named
  have hlocks := B.notSynchronized
  have hl := lv_entry [.int px] (n := 1) (Nat.le_of_ble_eq_true rfl)
  rw [lg_entry_eq]
  generalize (lg_sl [.int px] ++ List.replicate (1 - (lg_sl [.int px]).length) Slot.unset).toArray = ls at hl ⊢
  have hl : lv_has ls 1 [(0, .int px)] := hl
  rw [f_rowOf] at hF
  refine lv_iload_n hx hb dX4_rowOf_0 rfl (lv_at hl 0 rfl) ?_
  refine lv_iconst (v := 5) hx hb dX4_rowOf_1 (by decide) ?_
  refine lv_ishr hx hb dX4_rowOf_2 ?_
  exact W.iret (v := px >>> (5 &&& 31)) hx hb hr (fun t ht _ => ⟨by rw [← hF], ht⟩) (fun _ h => nomatch h) dX4_rowOf_3

def f_opposite (px : Int32) : Int32 := (px + 4) &&& 7
set_option maxHeartbeats 4000000 in
set_option maxRecDepth 100000 in
theorem c_opposite (l : Launch) (D : va_G) (tX tY : Nat) (px : Int32) : Met l yX4_opposite wX4_opposite ({ frames := 0, cells := 0, slots := 0, locals := 0 }) (ro_P D tX tY [] [] [.int px]) (k2_QcV (.int (f_opposite px))) 0 0 (fun _ => False) := by
  generalize hF : (f_opposite px) = F
  refine Met.ofW (cc := cX4_opposite) (maxL := 1) (ret := (some .int)) (by decide) rfl ?_
  intro p e s m args below meth c s₁ B hml hv
  obtain ⟨rfl, hP, hK, hT, hN⟩ := hv
  have hx := B.exec
  have hb := B.bytes
  have hr := B.returns
  have hts := atoms_spec (ws := wX4_opposite) B.pre
  have hta : ∀ w ∈ gw, w.before _ s = true := fun w h => hts w (List.mem_cons_of_mem _ h)
  have hown : s.vm.findClass RX4 = some m.cls := findClass_of_methodNamed B.named
  have hlocks := B.notSynchronized
  have hl := lv_entry [.int px] (n := 1) (Nat.le_of_ble_eq_true rfl)
  rw [lg_entry_eq]
  generalize (lg_sl [.int px] ++ List.replicate (1 - (lg_sl [.int px]).length) Slot.unset).toArray = ls at hl ⊢
  have hl : lv_has ls 1 [(0, .int px)] := hl
  rw [f_opposite] at hF
  refine lv_iload_n hx hb dX4_opposite_0 rfl (lv_at hl 0 rfl) ?_
  refine lv_iconst (v := 4) hx hb dX4_opposite_1 (by decide) ?_
  refine lv_iadd hx hb dX4_opposite_2 ?_
  refine lv_bipush (v := 7) hx hb dX4_opposite_3 (by decide) ?_
  refine lv_iand hx hb dX4_opposite_5 ?_
  exact W.iret (v := (px + 4) &&& 7) hx hb hr (fun t ht _ => ⟨by rw [← hF], ht⟩) (fun _ h => nomatch h) dX4_opposite_6

def f_hasBit (px : Int32) (py : Int32) : Int32 := (if ((px >>> ((py &&& 7) &&& 31)) &&& 1) = 0 then 0 else 1)
set_option maxHeartbeats 4000000 in
set_option maxRecDepth 100000 in
theorem c_hasBit (l : Launch) (D : va_G) (tX tY : Nat) (px : Int32) (py : Int32) : Met l yX4_hasBit wX4_hasBit ({ frames := 0, cells := 0, slots := 0, locals := 0 }) (ro_P D tX tY [] [] [.int px, .int py]) (k2_QcV (.int (f_hasBit px py))) 0 0 (fun _ => False) := by
  generalize hF : (f_hasBit px py) = F
  refine Met.ofW (cc := cX4_hasBit) (maxL := 2) (ret := (some .boolean)) (by decide) rfl ?_
  intro p e s m args below meth c s₁ B hml hv
  obtain ⟨rfl, hP, hK, hT, hN⟩ := hv
  have hx := B.exec
  have hb := B.bytes
  have hr := B.returns
  have hts := atoms_spec (ws := wX4_hasBit) B.pre
  have hta : ∀ w ∈ gw, w.before _ s = true := fun w h => hts w (List.mem_cons_of_mem _ h)
  have hown : s.vm.findClass RX4 = some m.cls := findClass_of_methodNamed B.named
  have hlocks := B.notSynchronized
  have hl := lv_entry [.int px, .int py] (n := 2) (Nat.le_of_ble_eq_true rfl)
  rw [lg_entry_eq]
  generalize (lg_sl [.int px, .int py] ++ List.replicate (2 - (lg_sl [.int px, .int py]).length) Slot.unset).toArray = ls at hl ⊢
  have hl : lv_has ls 2 [(0, .int px), (1, .int py)] := hl
  rw [f_hasBit] at hF
  refine lv_iload_n hx hb dX4_hasBit_0 rfl (lv_at hl 0 rfl) ?_
  refine lv_iload_n hx hb dX4_hasBit_1 rfl (lv_at hl 1 rfl) ?_
  refine lv_bipush (v := 7) hx hb dX4_hasBit_2 (by decide) ?_
  refine lv_iand hx hb dX4_hasBit_4 ?_
  refine lv_ishr hx hb dX4_hasBit_5 ?_
  refine lv_iconst (v := 1) hx hb dX4_hasBit_6 (by decide) ?_
  refine lv_iand hx hb dX4_hasBit_7 ?_
  refine lv_if_eq (tgt := 15) hx hb dX4_hasBit_8 (by decide) (fun c8 => ?_) (fun c8 => ?_)
  · rw [if_pos c8] at hF
    refine lv_iconst (v := 0) hx hb dX4_hasBit_15 (by decide) ?_
    exact W.zret (v := 0) hx hb hr rfl (fun t ht _ => ⟨by rw [← hF], ht⟩) (fun _ h => nomatch h) dX4_hasBit_16
  · rw [if_neg c8] at hF
    refine lv_iconst (v := 1) hx hb dX4_hasBit_11 (by decide) ?_
    refine lv_goto (tgt := 16) hx hb dX4_hasBit_12 (by decide) ?_
    exact W.zret (v := 1) hx hb hr rfl (fun t ht _ => ⟨by rw [← hF], ht⟩) (fun _ h => nomatch h) dX4_hasBit_16

def f_S_has (sw : Int32) (sh : Int32) (px : Int32) (py : Int32) : Int32 := (if px < 0 then 0 else (if sw ≤ px then 0 else (if py < 0 then 0 else (if sh ≤ py then 0 else 1))))
set_option maxHeartbeats 4000000 in
set_option maxRecDepth 100000 in
theorem c_S_has (l : Launch) (D : va_G) (tX tY : Nat) (a_ss : Nat) (a_sr : Nat) (k_sr : ClassId) (sw : Int32) (sh : Int32) (sn : Nat) (sf : Nat → Int32) (px : Int32) (py : Int32) : Met l yX1_has wX1_has ({ frames := 0, cells := 0, slots := 0, locals := 0 }) (ro_P D tX tY [(k_sr, .int)] [(a_ss, .inr (1, [.int sw, .int sh, .ref a_sr])), (a_sr, .inl (k_sr, sn, .inl sf))] [.ref a_ss, .int px, .int py]) (k2_QcV (.int (f_S_has sw sh px py))) 0 0 (fun _ => False) := by
  generalize hF : (f_S_has sw sh px py) = F
  refine Met.ofW (cc := cX1_has) (maxL := 3) (ret := (some .boolean)) (by decide) rfl ?_
  intro p e s m args below meth c s₁ B hml hv
  obtain ⟨rfl, hP, hK, hT, hN⟩ := hv
  have hx := B.exec
  have hb := B.bytes
  have hr := B.returns
  have hts := atoms_spec (ws := wX1_has) B.pre
  have hta : ∀ w ∈ gw, w.before _ s = true := fun w h => hts w (List.mem_cons_of_mem _ h)
  have hown : s.vm.findClass RX1 = some m.cls := findClass_of_methodNamed B.named
  have hlocks := B.notSynchronized
  have hl := lv_entry [.ref a_ss, .int px, .int py] (n := 3) (Nat.le_of_ble_eq_true rfl)
  rw [lg_entry_eq]
  generalize (lg_sl [.ref a_ss, .int px, .int py] ++ List.replicate (3 - (lg_sl [.ref a_ss, .int px, .int py]).length) Slot.unset).toArray = ls at hl ⊢
  have hl : lv_has ls 3 [(0, .ref a_ss), (1, .int px), (2, .int py)] := hl
  rw [f_S_has] at hF
  refine lv_iload_n hx hb dX1_has_0 rfl (lv_at hl 1 rfl) ?_
  refine lv_if_lt (tgt := 28) hx hb dX1_has_1 (by decide) (fun c1 => ?_) (fun c1 => ?_)
  · rw [if_pos c1] at hF
    refine lv_iconst (v := 0) hx hb dX1_has_28 (by decide) ?_
    exact W.zret (v := 0) hx hb hr rfl (fun t ht _ => ⟨by rw [← hF], ht⟩) (fun _ h => nomatch h) dX1_has_29
  · rw [if_neg c1] at hF
    refine lv_iload_n hx hb dX1_has_4 rfl (lv_at hl 1 rfl) ?_
    refine lv_aload_n hx hb dX1_has_5 rfl (lv_at hl 0 rfl) ?_
    refine va_get (D := D) (ci := 1) (v := .int sw) (C := RX1) (T := TX1) (N := 3) hx hb hta inX1 hown hK hP 0 rfl rfl 0 (by decide) (hta _ gw_39) (fun _ h9 => h9) rfl dX1_has_6 ?_
    refine lv_icmp_ge (tgt := 28) hx hb dX1_has_9 (by decide) (fun c9 => ?_) (fun c9 => ?_)
    · rw [if_pos c9] at hF
      refine lv_iconst (v := 0) hx hb dX1_has_28 (by decide) ?_
      exact W.zret (v := 0) hx hb hr rfl (fun t ht _ => ⟨by rw [← hF], ht⟩) (fun _ h => nomatch h) dX1_has_29
    · rw [if_neg c9] at hF
      refine lv_iload_n hx hb dX1_has_12 rfl (lv_at hl 2 rfl) ?_
      refine lv_if_lt (tgt := 28) hx hb dX1_has_13 (by decide) (fun c13 => ?_) (fun c13 => ?_)
      · rw [if_pos c13] at hF
        refine lv_iconst (v := 0) hx hb dX1_has_28 (by decide) ?_
        exact W.zret (v := 0) hx hb hr rfl (fun t ht _ => ⟨by rw [← hF], ht⟩) (fun _ h => nomatch h) dX1_has_29
      · rw [if_neg c13] at hF
        refine lv_iload_n hx hb dX1_has_16 rfl (lv_at hl 2 rfl) ?_
        refine lv_aload_n hx hb dX1_has_17 rfl (lv_at hl 0 rfl) ?_
        refine va_get (D := D) (ci := 1) (v := .int sh) (C := RX1) (T := TX1) (N := 3) hx hb hta inX1 hown hK hP 0 rfl rfl 1 (by decide) (hta _ gw_44) (fun _ h9 => h9) rfl dX1_has_18 ?_
        refine lv_icmp_ge (tgt := 28) hx hb dX1_has_21 (by decide) (fun c21 => ?_) (fun c21 => ?_)
        · rw [if_pos c21] at hF
          refine lv_iconst (v := 0) hx hb dX1_has_28 (by decide) ?_
          exact W.zret (v := 0) hx hb hr rfl (fun t ht _ => ⟨by rw [← hF], ht⟩) (fun _ h => nomatch h) dX1_has_29
        · rw [if_neg c21] at hF
          refine lv_iconst (v := 1) hx hb dX1_has_24 (by decide) ?_
          refine lv_goto (tgt := 29) hx hb dX1_has_25 (by decide) ?_
          exact W.zret (v := 1) hx hb hr rfl (fun t ht _ => ⟨by rw [← hF], ht⟩) (fun _ h => nomatch h) dX1_has_29

theorem has_in {sw sh px py : Int32} {sn : Nat} (hs : tsok sw sh sn) (h : ¬ f_S_has sw sh px py = 0) : vp_in py sn := by
  rw [f_S_has] at h
  by_cases h1 : px < 0
  · rw [if_pos h1] at h; exact absurd rfl h
  rw [if_neg h1] at h
  by_cases h2 : sw ≤ px
  · rw [if_pos h2] at h; exact absurd rfl h
  rw [if_neg h2] at h
  by_cases h3 : py < 0
  · rw [if_pos h3] at h; exact absurd rfl h
  rw [if_neg h3] at h
  by_cases h4 : sh ≤ py
  · rw [if_pos h4] at h; exact absurd rfl h
  exact vi_of hs.1 (by have := hs.2.2.1; omega) h3 h4
def f_S_isBlack (sw : Int32) (sh : Int32) (sf : Nat → Int32) (px : Int32) (py : Int32) : Int32 := (if (f_S_has sw sh px py) = 0 then 0 else (if (((sf py.toNatClampNeg) >>> (px &&& 31)) &&& 1) = 0 then 0 else 1))
set_option maxHeartbeats 4000000 in
set_option maxRecDepth 100000 in
theorem c_S_isBlack (l : Launch) (D : va_G) (tX tY : Nat) (a_ss : Nat) (a_sr : Nat) (k_sr : ClassId) (sw : Int32) (sh : Int32) (sn : Nat) (sf : Nat → Int32) (px : Int32) (py : Int32) (hss : tsok sw sh sn) : Met l yX1_isBlack wX1_isBlack ({ frames := 1, cells := 0, slots := 0, locals := 22 }) (ro_P D tX tY [(k_sr, .int)] [(a_ss, .inr (1, [.int sw, .int sh, .ref a_sr])), (a_sr, .inl (k_sr, sn, .inl sf))] [.ref a_ss, .int px, .int py]) (k2_QcV (.int (f_S_isBlack sw sh sf px py))) 0 0 (fun _ => False) := by
  generalize hF : (f_S_isBlack sw sh sf px py) = F
  refine Met.ofW (cc := cX1_isBlack) (maxL := 3) (ret := (some .boolean)) (by decide) rfl ?_
  intro p e s m args below meth c s₁ B hml hv
  obtain ⟨rfl, hP, hK, hT, hN⟩ := hv
  have hx := B.exec
  have hb := B.bytes
  have hr := B.returns
  have hts := atoms_spec (ws := wX1_isBlack) B.pre
  have hta : ∀ w ∈ gw, w.before _ s = true := fun w h => hts w (List.mem_cons_of_mem _ h)
  have hown : s.vm.findClass RX1 = some m.cls := findClass_of_methodNamed B.named
  have hlocks := B.notSynchronized
  have hl := lv_entry [.ref a_ss, .int px, .int py] (n := 3) (Nat.le_of_ble_eq_true rfl)
  rw [lg_entry_eq]
  generalize (lg_sl [.ref a_ss, .int px, .int py] ++ List.replicate (3 - (lg_sl [.ref a_ss, .int px, .int py]).length) Slot.unset).toArray = ls at hl ⊢
  have hl : lv_has ls 3 [(0, .ref a_ss), (1, .int px), (2, .int py)] := hl
  rw [f_S_isBlack] at hF
  refine lv_aload_n hx hb dX1_isBlack_0 rfl (lv_at hl 0 rfl) ?_
  refine lv_iload_n hx hb dX1_isBlack_1 rfl (lv_at hl 1 rfl) ?_
  refine lv_iload_n hx hb dX1_isBlack_2 rfl (lv_at hl 2 rfl) ?_
  refine ro_go (va_runV (As := [.int px, .int py]) (rest := []) ⟨hx, hb, hml, hown, hts⟩ (c_S_has l D tX tY a_ss a_sr k_sr sw sh sn sf px py) (cwV 2 hts (gi_4 gi_c gw_169 gw_170 gw_171 gw_3 gw_172) rfl rfl rfl (by decide +kernel) ⟨Nat.le_of_ble_eq_true rfl, Nat.le_of_ble_eq_true rfl⟩) ⟨ro_blind, va_recv hK hP (ci := 1) (q0 := 0) rfl rfl, ro_at hP hK hT hN va_S.rf [0, 1] [0] rfl rfl⟩ rfl rfl hl.1 rfl (lv_room (Nat.le_of_ble_eq_true rfl)) dX1_isBlack_3 ⟨Nat.le_of_ble_eq_true rfl, Nat.le_of_ble_eq_true rfl⟩) ?_
  refine lv_if_eq (tgt := 26) hx hb dX1_isBlack_6 (by decide) (fun c6 => ?_) (fun c6 => ?_)
  · rw [if_pos c6] at hF
    refine lv_iconst (v := 0) hx hb dX1_isBlack_26 (by decide) ?_
    exact W.zret (v := 0) hx hb hr rfl (fun t ht _ => ⟨by rw [← hF], ht⟩) (fun _ h => nomatch h) dX1_isBlack_27
  · rw [if_neg c6] at hF
    refine lv_aload_n hx hb dX1_isBlack_9 rfl (lv_at hl 0 rfl) ?_
    refine va_get (D := D) (ci := 1) (v := .ref a_sr) (C := RX1) (T := TX1) (N := 3) hx hb hta inX1 hown hK hP 0 rfl rfl 2 (by decide) (hta _ gw_49) (fun _ h9 => h9) rfl dX1_isBlack_10 ?_
    refine lv_iload_n hx hb dX1_isBlack_13 rfl (lv_at hl 2 rfl) ?_
    refine va_iald hx hb hK hP 1 0 rfl rfl (i := py) (has_in hss c6) dX1_isBlack_14 ?_
    refine lv_iload_n hx hb dX1_isBlack_15 rfl (lv_at hl 1 rfl) ?_
    refine lv_ishr hx hb dX1_isBlack_16 ?_
    refine lv_iconst (v := 1) hx hb dX1_isBlack_17 (by decide) ?_
    refine lv_iand hx hb dX1_isBlack_18 ?_
    refine lv_if_eq (tgt := 26) hx hb dX1_isBlack_19 (by decide) (fun c19 => ?_) (fun c19 => ?_)
    · rw [if_pos c19] at hF
      refine lv_iconst (v := 0) hx hb dX1_isBlack_26 (by decide) ?_
      exact W.zret (v := 0) hx hb hr rfl (fun t ht _ => ⟨by rw [← hF], ht⟩) (fun _ h => nomatch h) dX1_isBlack_27
    · rw [if_neg c19] at hF
      refine lv_iconst (v := 1) hx hb dX1_isBlack_22 (by decide) ?_
      refine lv_goto (tgt := 27) hx hb dX1_isBlack_23 (by decide) ?_
      exact W.zret (v := 1) hx hb hr rfl (fun t ht _ => ⟨by rw [← hF], ht⟩) (fun _ h => nomatch h) dX1_isBlack_27

def f_S_paint (sw : Int32) (sh : Int32) (sf : Nat → Int32) (px : Int32) (py : Int32) (pz : Int32) : (Nat → Int32) := (if (f_S_has sw sh px py) = 0 then sf else (if pz = 0 then (upd sf py.toNatClampNeg ((sf py.toNatClampNeg) &&& ((1 <<< (px &&& 31)) ^^^ (-1)))) else (upd sf py.toNatClampNeg ((sf py.toNatClampNeg) ||| (1 <<< (px &&& 31))))))
set_option maxHeartbeats 4000000 in
set_option maxRecDepth 100000 in
theorem c_S_paint (l : Launch) (D : va_G) (tX tY : Nat) (a_ss : Nat) (a_sr : Nat) (k_sr : ClassId) (sw : Int32) (sh : Int32) (sn : Nat) (sf : Nat → Int32) (sz : Nat) (px : Int32) (py : Int32) (pz : Int32) (hss : tsok sw sh sn) : Met l yX1_paint wX1_paint ({ frames := 1, cells := 0, slots := 0, locals := 22 }) (mu_P D tX tY [(k_sr, .int)] [(a_ss, .inr (1, [.int sw, .int sh, .ref a_sr])), (a_sr, .inl (k_sr, sn, .inl sf))] sz [.ref a_ss, .int px, .int py, .int pz]) (va_Qv (fun (u : (Nat → Int32)) => (f_S_paint sw sh sf px py pz) = u) (fun (u : (Nat → Int32)) (t : State) => va_P D vwCl [(a_ss, .inr (1, [.int sw, .int sh, .ref a_sr])), (a_sr, .inl (k_sr, sn, .inl u))] t.heap ∧ va_K D vwCl [(k_sr, .int)] t ∧ va_D (va_A [(a_ss, .inr (1, [.int sw, .int sh, .ref a_sr])), (a_sr, .inl (k_sr, sn, .inl sf))] sz) [(a_ss, .inr (1, [.int sw, .int sh, .ref a_sr])), (a_sr, .inl (k_sr, sn, .inl u))]) (va_A [(a_ss, .inr (1, [.int sw, .int sh, .ref a_sr])), (a_sr, .inl (k_sr, sn, .inl sf))] sz)) 0 0 (va_A [(a_ss, .inr (1, [.int sw, .int sh, .ref a_sr])), (a_sr, .inl (k_sr, sn, .inl sf))] sz) := by
  generalize hF : (f_S_paint sw sh sf px py pz) = F
  refine Met.ofW (cc := cX1_paint) (maxL := 4) (ret := none) (by decide) rfl ?_
  intro p e s m args below meth c s₁ B hml hv
  obtain ⟨rfl, hsz, hP, hK, hD0, hT, hN⟩ := hv
  have hx := B.exec
  have hb := B.bytes
  have hr := B.returns
  have hts := atoms_spec (ws := wX1_paint) B.pre
  have hta : ∀ w ∈ gw, w.before _ s = true := fun w h => hts w (List.mem_cons_of_mem _ h)
  have hown : s.vm.findClass RX1 = some m.cls := findClass_of_methodNamed B.named
  have hlocks := B.notSynchronized
  have hD : va_D (va_A [(a_ss, .inr (1, [.int sw, .int sh, .ref a_sr])), (a_sr, .inl (k_sr, sn, .inl sf))] sz) [(a_ss, .inr (1, [.int sw, .int sh, .ref a_sr])), (a_sr, .inl (k_sr, sn, .inl sf))] := hD0.self
  have hA : ∀ q : Nat, s.heap.size ≤ q → (va_A [(a_ss, .inr (1, [.int sw, .int sh, .ref a_sr])), (a_sr, .inl (k_sr, sn, .inl sf))] sz) q := fun q h => Or.inr (hsz ▸ h)
  have hS : va_S (va_A [(a_ss, .inr (1, [.int sw, .int sh, .ref a_sr])), (a_sr, .inl (k_sr, sn, .inl sf))] sz) s.heap s.heap [] := va_S.rf
  have hl := lv_entry [.ref a_ss, .int px, .int py, .int pz] (n := 4) (Nat.le_of_ble_eq_true rfl)
  rw [lg_entry_eq]
  generalize (lg_sl [.ref a_ss, .int px, .int py, .int pz] ++ List.replicate (4 - (lg_sl [.ref a_ss, .int px, .int py, .int pz]).length) Slot.unset).toArray = ls at hl ⊢
  have hl : lv_has ls 4 [(0, .ref a_ss), (1, .int px), (2, .int py), (3, .int pz)] := hl
  rw [f_S_paint] at hF
  have hgo : ∀ (H : Heap) (locs : List Loc), va_P D vwCl [(a_ss, .inr (1, [.int sw, .int sh, .ref a_sr])), (a_sr, .inl (k_sr, sn, .inl sf))] H → va_D (va_A [(a_ss, .inr (1, [.int sw, .int sh, .ref a_sr])), (a_sr, .inl (k_sr, sn, .inl sf))] sz) [(a_ss, .inr (1, [.int sw, .int sh, .ref a_sr])), (a_sr, .inl (k_sr, sn, .inl sf))] → va_S (va_A [(a_ss, .inr (1, [.int sw, .int sh, .ref a_sr])), (a_sr, .inl (k_sr, sn, .inl sf))] sz) s.heap H locs → W p l e { frames := 1, cells := 0, slots := 0, locals := 22 } s m (List.toArray [.ref a_ss, .int px, .int py, .int pz]) below meth c H locs 0 0 (MQ below (va_Qv (fun (u : (Nat → Int32)) => F = u) (fun (u : (Nat → Int32)) (t : State) => va_P D vwCl [(a_ss, .inr (1, [.int sw, .int sh, .ref a_sr])), (a_sr, .inl (k_sr, sn, .inl u))] t.heap ∧ va_K D vwCl [(k_sr, .int)] t ∧ va_D (va_A [(a_ss, .inr (1, [.int sw, .int sh, .ref a_sr])), (a_sr, .inl (k_sr, sn, .inl sf))] sz) [(a_ss, .inr (1, [.int sw, .int sh, .ref a_sr])), (a_sr, .inl (k_sr, sn, .inl u))]) (va_A [(a_ss, .inr (1, [.int sw, .int sh, .ref a_sr])), (a_sr, .inl (k_sr, sn, .inl sf))] sz)) (List.toArray [.ref a_ss, .int px, .int py, .int pz]) s 0 0 (va_A [(a_ss, .inr (1, [.int sw, .int sh, .ref a_sr])), (a_sr, .inl (k_sr, sn, .inl sf))] sz)) (F0 m 0 ls []) := by
    intro H locs hP hD hS
    refine lv_aload_n hx hb dX1_paint_0 rfl (lv_at hl 0 rfl) ?_
    refine lv_iload_n hx hb dX1_paint_1 rfl (lv_at hl 1 rfl) ?_
    refine lv_iload_n hx hb dX1_paint_2 rfl (lv_at hl 2 rfl) ?_
    refine ro_go (va_runV (As := [.int px, .int py]) (rest := []) ⟨hx, hb, hml, hown, hts⟩ (c_S_has l D tX tY a_ss a_sr k_sr sw sh sn sf px py) (cwV 2 hts (gi_4 gi_c gw_169 gw_170 gw_171 gw_3 gw_172) rfl rfl rfl (by decide +kernel) ⟨Nat.le_of_ble_eq_true rfl, Nat.le_of_ble_eq_true rfl⟩) ⟨ro_blind, va_recv hK hP (ci := 1) (q0 := 0) rfl rfl, ro_at hP hK hT hN hS [0, 1] [0] rfl rfl⟩ rfl rfl hl.1 rfl (lv_room (Nat.le_of_ble_eq_true rfl)) dX1_paint_3 ⟨Nat.le_of_ble_eq_true rfl, Nat.le_of_ble_eq_true rfl⟩) ?_
    refine lv_if_ne (tgt := 10) hx hb dX1_paint_6 (by decide) (fun c6 => ?_) (fun c6 => ?_)
    · rw [if_neg c6] at hF
      refine lv_aload_n hx hb dX1_paint_10 rfl (lv_at hl 0 rfl) ?_
      refine va_get (D := D) (ci := 1) (v := .ref a_sr) (C := RX1) (T := TX1) (N := 3) hx hb hta inX1 hown hK hP 0 rfl rfl 2 (by decide) (hta _ gw_49) (fun _ h9 => h9) rfl dX1_paint_11 ?_
      refine lv_iload_n hx hb dX1_paint_14 rfl (lv_at hl 2 rfl) ?_
      refine lv_iload_n hx hb dX1_paint_15 rfl (lv_at hl 3 rfl) ?_
      refine lv_if_eq (tgt := 32) hx hb dX1_paint_16 (by decide) (fun c16 => ?_) (fun c16 => ?_)
      · rw [if_pos c16] at hF
        refine lv_aload_n hx hb dX1_paint_32 rfl (lv_at hl 0 rfl) ?_
        refine va_get (D := D) (ci := 1) (v := .ref a_sr) (C := RX1) (T := TX1) (N := 3) hx hb hta inX1 hown hK hP 0 rfl rfl 2 (by decide) (hta _ gw_49) (fun _ h9 => h9) rfl dX1_paint_33 ?_
        refine lv_iload_n hx hb dX1_paint_36 rfl (lv_at hl 2 rfl) ?_
        refine va_iald hx hb hK hP 1 0 rfl rfl (i := py) (has_in hss c6) dX1_paint_37 ?_
        refine lv_iconst (v := 1) hx hb dX1_paint_38 (by decide) ?_
        refine lv_iload_n hx hb dX1_paint_39 rfl (lv_at hl 1 rfl) ?_
        refine lv_ishl hx hb dX1_paint_40 ?_
        refine lv_iconst (v := (-1)) hx hb dX1_paint_41 (by decide) ?_
        refine lv_ixor hx hb dX1_paint_42 ?_
        refine lv_iand hx hb dX1_paint_43 ?_
        refine va_iast hx hb hK hP hD hS 1 0 rfl rfl (i := py) (x := (sf py.toNatClampNeg) &&& ((1 <<< (px &&& 31)) ^^^ (-1))) (has_in hss c6) dX1_paint_44 (fun H locs hP hD hS => ?_)
        have hP : va_P D vwCl [(a_ss, .inr (1, [.int sw, .int sh, .ref a_sr])), (a_sr, .inl (k_sr, sn, .inl (upd sf py.toNatClampNeg ((sf py.toNatClampNeg) &&& ((1 <<< (px &&& 31)) ^^^ (-1))))))] H := hP
        have hD : va_D (va_A [(a_ss, .inr (1, [.int sw, .int sh, .ref a_sr])), (a_sr, .inl (k_sr, sn, .inl sf))] sz) [(a_ss, .inr (1, [.int sw, .int sh, .ref a_sr])), (a_sr, .inl (k_sr, sn, .inl (upd sf py.toNatClampNeg ((sf py.toNatClampNeg) &&& ((1 <<< (px &&& 31)) ^^^ (-1))))))] := hD
        exact W.vret hx hb hr (fun t ht hW => ⟨⟨(upd sf py.toNatClampNeg ((sf py.toNatClampNeg) &&& ((1 <<< (px &&& 31)) ^^^ (-1)))), rfl, hF.symm, by rw [ht]; exact hP, va_K.moved hW.alike hK, hD⟩, hS.F ht⟩) hS.2.2 dX1_paint_45
      · rw [if_neg c16] at hF
        refine lv_aload_n hx hb dX1_paint_19 rfl (lv_at hl 0 rfl) ?_
        refine va_get (D := D) (ci := 1) (v := .ref a_sr) (C := RX1) (T := TX1) (N := 3) hx hb hta inX1 hown hK hP 0 rfl rfl 2 (by decide) (hta _ gw_49) (fun _ h9 => h9) rfl dX1_paint_20 ?_
        refine lv_iload_n hx hb dX1_paint_23 rfl (lv_at hl 2 rfl) ?_
        refine va_iald hx hb hK hP 1 0 rfl rfl (i := py) (has_in hss c6) dX1_paint_24 ?_
        refine lv_iconst (v := 1) hx hb dX1_paint_25 (by decide) ?_
        refine lv_iload_n hx hb dX1_paint_26 rfl (lv_at hl 1 rfl) ?_
        refine lv_ishl hx hb dX1_paint_27 ?_
        refine lv_ior hx hb dX1_paint_28 ?_
        refine lv_goto (tgt := 44) hx hb dX1_paint_29 (by decide) ?_
        refine va_iast hx hb hK hP hD hS 1 0 rfl rfl (i := py) (x := (sf py.toNatClampNeg) ||| (1 <<< (px &&& 31))) (has_in hss c6) dX1_paint_44 (fun H locs hP hD hS => ?_)
        have hP : va_P D vwCl [(a_ss, .inr (1, [.int sw, .int sh, .ref a_sr])), (a_sr, .inl (k_sr, sn, .inl (upd sf py.toNatClampNeg ((sf py.toNatClampNeg) ||| (1 <<< (px &&& 31))))))] H := hP
        have hD : va_D (va_A [(a_ss, .inr (1, [.int sw, .int sh, .ref a_sr])), (a_sr, .inl (k_sr, sn, .inl sf))] sz) [(a_ss, .inr (1, [.int sw, .int sh, .ref a_sr])), (a_sr, .inl (k_sr, sn, .inl (upd sf py.toNatClampNeg ((sf py.toNatClampNeg) ||| (1 <<< (px &&& 31))))))] := hD
        exact W.vret hx hb hr (fun t ht hW => ⟨⟨(upd sf py.toNatClampNeg ((sf py.toNatClampNeg) ||| (1 <<< (px &&& 31)))), rfl, hF.symm, by rw [ht]; exact hP, va_K.moved hW.alike hK, hD⟩, hS.F ht⟩) hS.2.2 dX1_paint_45
    · rw [if_pos c6] at hF
      exact W.vret hx hb hr (fun t ht hW => ⟨⟨sf, rfl, hF.symm, by rw [ht]; exact hP, va_K.moved hW.alike hK, hD⟩, hS.F ht⟩) hS.2.2 dX1_paint_9
  exact hgo _ _ hP hD hS

def f_S_whiten_k2  : Int32 × (Nat → Int32) → (Nat → Int32)
  | (v1_2, f1_2) => f1_2
def f_S_whiten_L2 (sn : Nat) : Nat → Int32 × (Nat → Int32) → Int32 × (Nat → Int32)
  | 0, σ => σ
  | n9 + 1, (v1_2, f1_2) => (if (nI sn) ≤ v1_2 then (v1_2, f1_2) else ((f_S_whiten_L2 sn n9) (v1_2 + 1, upd f1_2 v1_2.toNatClampNeg 0)))
def f_S_whiten (sn : Nat) (sf : Nat → Int32) : (Nat → Int32) := (f_S_whiten_k2 (f_S_whiten_L2 sn FU (0, sf)))
set_option maxHeartbeats 4000000 in
set_option maxRecDepth 100000 in
theorem c_S_whiten (l : Launch) (D : va_G) (tX tY : Nat) (a_ss : Nat) (a_sr : Nat) (k_sr : ClassId) (sw : Int32) (sh : Int32) (sn : Nat) (sf : Nat → Int32) (sz : Nat) (hss : tsok sw sh sn) : Met l yX1_whiten wX1_whiten ({ frames := 0, cells := 0, slots := 0, locals := 0 }) (mu_P D tX tY [(k_sr, .int)] [(a_ss, .inr (1, [.int sw, .int sh, .ref a_sr])), (a_sr, .inl (k_sr, sn, .inl sf))] sz [.ref a_ss]) (va_Qv (fun (u : (Nat → Int32)) => (f_S_whiten sn sf) = u) (fun (u : (Nat → Int32)) (t : State) => va_P D vwCl [(a_ss, .inr (1, [.int sw, .int sh, .ref a_sr])), (a_sr, .inl (k_sr, sn, .inl u))] t.heap ∧ va_K D vwCl [(k_sr, .int)] t ∧ va_D (va_A [(a_ss, .inr (1, [.int sw, .int sh, .ref a_sr])), (a_sr, .inl (k_sr, sn, .inl sf))] sz) [(a_ss, .inr (1, [.int sw, .int sh, .ref a_sr])), (a_sr, .inl (k_sr, sn, .inl u))]) (va_A [(a_ss, .inr (1, [.int sw, .int sh, .ref a_sr])), (a_sr, .inl (k_sr, sn, .inl sf))] sz)) 0 0 (va_A [(a_ss, .inr (1, [.int sw, .int sh, .ref a_sr])), (a_sr, .inl (k_sr, sn, .inl sf))] sz) := by
  generalize hF : (f_S_whiten sn sf) = F
  refine Met.ofW (cc := cX1_whiten) (maxL := 2) (ret := none) (by decide) rfl ?_
  intro p e s m args below meth c s₁ B hml hv
  obtain ⟨rfl, hsz, hP, hK, hD0, hT, hN⟩ := hv
  have hx := B.exec
  have hb := B.bytes
  have hr := B.returns
  have hts := atoms_spec (ws := wX1_whiten) B.pre
  have hta : ∀ w ∈ gw, w.before _ s = true := fun w h => hts w (List.mem_cons_of_mem _ h)
  have hown : s.vm.findClass RX1 = some m.cls := findClass_of_methodNamed B.named
  have hlocks := B.notSynchronized
  have hD : va_D (va_A [(a_ss, .inr (1, [.int sw, .int sh, .ref a_sr])), (a_sr, .inl (k_sr, sn, .inl sf))] sz) [(a_ss, .inr (1, [.int sw, .int sh, .ref a_sr])), (a_sr, .inl (k_sr, sn, .inl sf))] := hD0.self
  have hA : ∀ q : Nat, s.heap.size ≤ q → (va_A [(a_ss, .inr (1, [.int sw, .int sh, .ref a_sr])), (a_sr, .inl (k_sr, sn, .inl sf))] sz) q := fun q h => Or.inr (hsz ▸ h)
  have hS : va_S (va_A [(a_ss, .inr (1, [.int sw, .int sh, .ref a_sr])), (a_sr, .inl (k_sr, sn, .inl sf))] sz) s.heap s.heap [] := va_S.rf
  have hl := lv_entry [.ref a_ss] (n := 2) (Nat.le_of_ble_eq_true rfl)
  rw [lg_entry_eq]
  generalize (lg_sl [.ref a_ss] ++ List.replicate (2 - (lg_sl [.ref a_ss]).length) Slot.unset).toArray = ls at hl ⊢
  have hl : lv_has ls 2 [(0, .ref a_ss)] := hl
  rw [f_S_whiten] at hF
  have hgo : ∀ (H : Heap) (locs : List Loc), va_P D vwCl [(a_ss, .inr (1, [.int sw, .int sh, .ref a_sr])), (a_sr, .inl (k_sr, sn, .inl sf))] H → va_D (va_A [(a_ss, .inr (1, [.int sw, .int sh, .ref a_sr])), (a_sr, .inl (k_sr, sn, .inl sf))] sz) [(a_ss, .inr (1, [.int sw, .int sh, .ref a_sr])), (a_sr, .inl (k_sr, sn, .inl sf))] → va_S (va_A [(a_ss, .inr (1, [.int sw, .int sh, .ref a_sr])), (a_sr, .inl (k_sr, sn, .inl sf))] sz) s.heap H locs → W p l e { frames := 0, cells := 0, slots := 0, locals := 0 } s m (List.toArray [.ref a_ss]) below meth c H locs 0 0 (MQ below (va_Qv (fun (u : (Nat → Int32)) => F = u) (fun (u : (Nat → Int32)) (t : State) => va_P D vwCl [(a_ss, .inr (1, [.int sw, .int sh, .ref a_sr])), (a_sr, .inl (k_sr, sn, .inl u))] t.heap ∧ va_K D vwCl [(k_sr, .int)] t ∧ va_D (va_A [(a_ss, .inr (1, [.int sw, .int sh, .ref a_sr])), (a_sr, .inl (k_sr, sn, .inl sf))] sz) [(a_ss, .inr (1, [.int sw, .int sh, .ref a_sr])), (a_sr, .inl (k_sr, sn, .inl u))]) (va_A [(a_ss, .inr (1, [.int sw, .int sh, .ref a_sr])), (a_sr, .inl (k_sr, sn, .inl sf))] sz)) (List.toArray [.ref a_ss]) s 0 0 (va_A [(a_ss, .inr (1, [.int sw, .int sh, .ref a_sr])), (a_sr, .inl (k_sr, sn, .inl sf))] sz)) (F0 m 0 ls []) := by
    intro H locs hP hD hS
    refine lv_iconst (v := 0) hx hb dX1_whiten_0 (by decide) ?_
    refine lv_istore_n (lv' := [(1, .int 0), (0, .ref a_ss)]) hx hb dX1_whiten_1 rfl hl (by decide) rfl (fun ls hl => ?_)
    have af2 : ∀ (v1_2 : Int32) (f1_2 : Nat → Int32) (H : Heap) (locs : List Loc) (ls : Array Slot), (0 ≤ v1_2.toInt) → f_S_whiten_k2  (v1_2, f1_2) = F → va_P D vwCl [(a_ss, .inr (1, [.int sw, .int sh, .ref a_sr])), (a_sr, .inl (k_sr, sn, .inl f1_2))] H → va_D (va_A [(a_ss, .inr (1, [.int sw, .int sh, .ref a_sr])), (a_sr, .inl (k_sr, sn, .inl sf))] sz) [(a_ss, .inr (1, [.int sw, .int sh, .ref a_sr])), (a_sr, .inl (k_sr, sn, .inl f1_2))] → va_S (va_A [(a_ss, .inr (1, [.int sw, .int sh, .ref a_sr])), (a_sr, .inl (k_sr, sn, .inl sf))] sz) s.heap H locs → lv_has ls 2 [(1, .int v1_2), (0, .ref a_ss)] → W p l e { frames := 0, cells := 0, slots := 0, locals := 0 } s m (List.toArray [.ref a_ss]) below meth c H locs 0 0 (MQ below (va_Qv (fun (u : (Nat → Int32)) => F = u) (fun (u : (Nat → Int32)) (t : State) => va_P D vwCl [(a_ss, .inr (1, [.int sw, .int sh, .ref a_sr])), (a_sr, .inl (k_sr, sn, .inl u))] t.heap ∧ va_K D vwCl [(k_sr, .int)] t ∧ va_D (va_A [(a_ss, .inr (1, [.int sw, .int sh, .ref a_sr])), (a_sr, .inl (k_sr, sn, .inl sf))] sz) [(a_ss, .inr (1, [.int sw, .int sh, .ref a_sr])), (a_sr, .inl (k_sr, sn, .inl u))]) (va_A [(a_ss, .inr (1, [.int sw, .int sh, .ref a_sr])), (a_sr, .inl (k_sr, sn, .inl sf))] sz)) (List.toArray [.ref a_ss]) s 0 0 (va_A [(a_ss, .inr (1, [.int sw, .int sh, .ref a_sr])), (a_sr, .inl (k_sr, sn, .inl sf))] sz)) (F0 m 24 ls []) := by
      intro v1_2 f1_2 H locs ls hi hF hP hD hS hl
      rw [f_S_whiten_k2] at hF
      exact W.vret hx hb hr (fun t ht hW => ⟨⟨f1_2, rfl, hF.symm, by rw [ht]; exact hP, va_K.moved hW.alike hK, hD⟩, hS.F ht⟩) hS.2.2 dX1_whiten_24
    have lp2 : ∀ (n9 : Nat) (v1_2 : Int32) (f1_2 : Nat → Int32) (H : Heap) (locs : List Loc) (ls : Array Slot), (0 ≤ v1_2.toInt) → ((nI sn).toInt - v1_2.toInt).toNat < n9 → f_S_whiten_k2  (f_S_whiten_L2 sn n9 (v1_2, f1_2)) = F → va_P D vwCl [(a_ss, .inr (1, [.int sw, .int sh, .ref a_sr])), (a_sr, .inl (k_sr, sn, .inl f1_2))] H → va_D (va_A [(a_ss, .inr (1, [.int sw, .int sh, .ref a_sr])), (a_sr, .inl (k_sr, sn, .inl sf))] sz) [(a_ss, .inr (1, [.int sw, .int sh, .ref a_sr])), (a_sr, .inl (k_sr, sn, .inl f1_2))] → va_S (va_A [(a_ss, .inr (1, [.int sw, .int sh, .ref a_sr])), (a_sr, .inl (k_sr, sn, .inl sf))] sz) s.heap H locs → lv_has ls 2 [(1, .int v1_2), (0, .ref a_ss)] → W p l e { frames := 0, cells := 0, slots := 0, locals := 0 } s m (List.toArray [.ref a_ss]) below meth c H locs 0 0 (MQ below (va_Qv (fun (u : (Nat → Int32)) => F = u) (fun (u : (Nat → Int32)) (t : State) => va_P D vwCl [(a_ss, .inr (1, [.int sw, .int sh, .ref a_sr])), (a_sr, .inl (k_sr, sn, .inl u))] t.heap ∧ va_K D vwCl [(k_sr, .int)] t ∧ va_D (va_A [(a_ss, .inr (1, [.int sw, .int sh, .ref a_sr])), (a_sr, .inl (k_sr, sn, .inl sf))] sz) [(a_ss, .inr (1, [.int sw, .int sh, .ref a_sr])), (a_sr, .inl (k_sr, sn, .inl u))]) (va_A [(a_ss, .inr (1, [.int sw, .int sh, .ref a_sr])), (a_sr, .inl (k_sr, sn, .inl sf))] sz)) (List.toArray [.ref a_ss]) s 0 0 (va_A [(a_ss, .inr (1, [.int sw, .int sh, .ref a_sr])), (a_sr, .inl (k_sr, sn, .inl sf))] sz)) (F0 m 2 ls []) := by
      intro n9
      induction n9 with
      | zero => intro v1_2 f1_2 H locs ls hi hmu; exact absurd hmu (Nat.not_lt_zero _)
      | succ n2 ih2 =>
        intro v1_2 f1_2 H locs ls hi hmu hF hP hD hS hl
        rw [f_S_whiten_L2] at hF
        refine lv_iload_n hx hb dX1_whiten_2 rfl (lv_at hl 0 rfl) ?_
        refine lv_aload_n hx hb dX1_whiten_3 rfl (lv_at hl 1 rfl) ?_
        refine va_get (D := D) (ci := 1) (v := .ref a_sr) (C := RX1) (T := TX1) (N := 3) hx hb hta inX1 hown hK hP 0 rfl rfl 2 (by decide) (hta _ gw_49) (fun _ h9 => h9) rfl dX1_whiten_4 ?_
        refine va_alen hx hb hK hP 1 0 rfl rfl (v := nI sn) (rfl) dX1_whiten_7 ?_
        refine lv_icmp_ge (tgt := 24) hx hb dX1_whiten_8 (by decide) (fun c8 => ?_) (fun c8 => ?_)
        · rw [if_pos c8] at hF
          exact af2 v1_2 f1_2 _ _ ls (hi) hF hP hD hS (lv_sub hl [0, 1] rfl)
        · rw [if_neg c8] at hF
          refine lv_aload_n hx hb dX1_whiten_11 rfl (lv_at hl 1 rfl) ?_
          refine va_get (D := D) (ci := 1) (v := .ref a_sr) (C := RX1) (T := TX1) (N := 3) hx hb hta inX1 hown hK hP 0 rfl rfl 2 (by decide) (hta _ gw_49) (fun _ h9 => h9) rfl dX1_whiten_12 ?_
          refine lv_iload_n hx hb dX1_whiten_15 rfl (lv_at hl 0 rfl) ?_
          refine lv_iconst (v := 0) hx hb dX1_whiten_16 (by decide) ?_
          refine va_iast hx hb hK hP hD hS 1 0 rfl rfl (i := v1_2) (x := 0) (by assumption) dX1_whiten_17 (fun H locs hP hD hS => ?_)
          have hP : va_P D vwCl [(a_ss, .inr (1, [.int sw, .int sh, .ref a_sr])), (a_sr, .inl (k_sr, sn, .inl (upd f1_2 v1_2.toNatClampNeg 0)))] H := hP
          have hD : va_D (va_A [(a_ss, .inr (1, [.int sw, .int sh, .ref a_sr])), (a_sr, .inl (k_sr, sn, .inl sf))] sz) [(a_ss, .inr (1, [.int sw, .int sh, .ref a_sr])), (a_sr, .inl (k_sr, sn, .inl (upd f1_2 v1_2.toNatClampNeg 0)))] := hD
          refine lv_iinc (v := v1_2 + 1) (lv' := [(1, .int (v1_2 + 1)), (0, .ref a_ss)]) hx hb dX1_whiten_18 hl (k := 0) rfl rfl (by decide) rfl (fun ls hl => ?_)
          refine lv_goto (tgt := 2) hx hb dX1_whiten_21 (by decide) ?_
          exact ih2 (v1_2 + 1) (upd f1_2 v1_2.toNatClampNeg 0) _ _ ls (cz hi c8) (cu c8) hF hP hD hS (lv_sub hl [0, 1] rfl)
    exact lp2 FU 0 sf _ _ ls (by decide) (fu_lt _ _) hF hP hD hS (lv_sub hl [0, 1] rfl)
  exact hgo _ _ hP hD hS

def f_S_blackRound_k5  : Int32 × Int32 → Int32
  | (v4_5, v3_5) => v3_5
def f_S_blackRound_L5 (sw : Int32) (sh : Int32) (sf : Nat → Int32) (px : Int32) (py : Int32) : Nat → Int32 × Int32 → Int32 × Int32
  | 0, σ => σ
  | n9 + 1, (v4_5, v3_5) => (if 8 ≤ v4_5 then (v4_5, v3_5) else (if (f_S_isBlack sw sh sf (px + (ts_rx v4_5.toNatClampNeg)) (py + (ts_ry v4_5.toNatClampNeg))) = 0 then ((f_S_blackRound_L5 sw sh sf px py n9) (v4_5 + 1, v3_5)) else ((f_S_blackRound_L5 sw sh sf px py n9) (v4_5 + 1, v3_5 ||| (1 <<< (v4_5 &&& 31))))))
def f_S_blackRound (sw : Int32) (sh : Int32) (sf : Nat → Int32) (px : Int32) (py : Int32) : Int32 := (f_S_blackRound_k5 (f_S_blackRound_L5 sw sh sf px py FU (0, 0)))
set_option maxHeartbeats 4000000 in
set_option maxRecDepth 100000 in
theorem c_S_blackRound (l : Launch) (D : va_G) (tX tY : Nat) (a_ss : Nat) (a_sr : Nat) (k_sr : ClassId) (sw : Int32) (sh : Int32) (sn : Nat) (sf : Nat → Int32) (px : Int32) (py : Int32) (hss : tsok sw sh sn) : Met l yX1_blackRound wX1_blackRound ({ frames := 2, cells := 0, slots := 0, locals := 44 }) (ro_P D tX tY [(k_sr, .int)] [(a_ss, .inr (1, [.int sw, .int sh, .ref a_sr])), (a_sr, .inl (k_sr, sn, .inl sf))] [.ref a_ss, .int px, .int py]) (k2_QcV (.int (f_S_blackRound sw sh sf px py))) 0 0 (fun _ => False) := by
  generalize hF : (f_S_blackRound sw sh sf px py) = F
  refine Met.ofW (cc := cX1_blackRound) (maxL := 5) (ret := (some .int)) (by decide) rfl ?_
  intro p e s m args below meth c s₁ B hml hv
  obtain ⟨rfl, hP, hK, hT, hN⟩ := hv
  have hx := B.exec
  have hb := B.bytes
  have hr := B.returns
  have hts := atoms_spec (ws := wX1_blackRound) B.pre
  have hta : ∀ w ∈ gw, w.before _ s = true := fun w h => hts w (List.mem_cons_of_mem _ h)
  have hown : s.vm.findClass RX1 = some m.cls := findClass_of_methodNamed B.named
  have hlocks := B.notSynchronized
  have hl := lv_entry [.ref a_ss, .int px, .int py] (n := 5) (Nat.le_of_ble_eq_true rfl)
  rw [lg_entry_eq]
  generalize (lg_sl [.ref a_ss, .int px, .int py] ++ List.replicate (5 - (lg_sl [.ref a_ss, .int px, .int py]).length) Slot.unset).toArray = ls at hl ⊢
  have hl : lv_has ls 5 [(0, .ref a_ss), (1, .int px), (2, .int py)] := hl
  rw [f_S_blackRound] at hF
  refine lv_iconst (v := 0) hx hb dX1_blackRound_0 (by decide) ?_
  refine lv_istore_n (lv' := [(3, .int 0), (0, .ref a_ss), (1, .int px), (2, .int py)]) hx hb dX1_blackRound_1 rfl hl (by decide) rfl (fun ls hl => ?_)
  refine lv_iconst (v := 0) hx hb dX1_blackRound_2 (by decide) ?_
  refine lv_istore (lv' := [(4, .int 0), (3, .int 0), (0, .ref a_ss), (1, .int px), (2, .int py)]) hx hb dX1_blackRound_3 hl (by decide) rfl (fun ls hl => ?_)
  have af5 : ∀ (v4_5 : Int32) (v3_5 : Int32) (ls : Array Slot), (0 ≤ v4_5.toInt) → f_S_blackRound_k5  (v4_5, v3_5) = F → lv_has ls 5 [(4, .int v4_5), (3, .int v3_5), (0, .ref a_ss), (1, .int px), (2, .int py)] → W p l e { frames := 2, cells := 0, slots := 0, locals := 44 } s m (List.toArray [.ref a_ss, .int px, .int py]) below meth c s.heap [] 0 0 (MQ below (k2_QcV (.int F)) (List.toArray [.ref a_ss, .int px, .int py]) s 0 0 (fun _ => False)) (F0 m 48 ls []) := by
    intro v4_5 v3_5 ls hi hF hl
    rw [f_S_blackRound_k5] at hF
    refine lv_iload_n hx hb dX1_blackRound_48 rfl (lv_at hl 1 rfl) ?_
    exact W.iret (v := v3_5) hx hb hr (fun t ht _ => ⟨by rw [← hF], ht⟩) (fun _ h => nomatch h) dX1_blackRound_49
  have lp5 : ∀ (n9 : Nat) (v4_5 : Int32) (v3_5 : Int32) (ls : Array Slot), (0 ≤ v4_5.toInt) → ((8 : Int32).toInt - v4_5.toInt).toNat < n9 → f_S_blackRound_k5  (f_S_blackRound_L5 sw sh sf px py n9 (v4_5, v3_5)) = F → lv_has ls 5 [(4, .int v4_5), (3, .int v3_5), (0, .ref a_ss), (1, .int px), (2, .int py)] → W p l e { frames := 2, cells := 0, slots := 0, locals := 44 } s m (List.toArray [.ref a_ss, .int px, .int py]) below meth c s.heap [] 0 0 (MQ below (k2_QcV (.int F)) (List.toArray [.ref a_ss, .int px, .int py]) s 0 0 (fun _ => False)) (F0 m 5 ls []) := by
    intro n9
    induction n9 with
    | zero => intro v4_5 v3_5 ls hi hmu; exact absurd hmu (Nat.not_lt_zero _)
    | succ n5 ih5 =>
      intro v4_5 v3_5 ls hi hmu hF hl
      rw [f_S_blackRound_L5] at hF
      refine lv_iload hx hb dX1_blackRound_5 (lv_at hl 0 rfl) ?_
      refine lv_bipush (v := 8) hx hb dX1_blackRound_7 (by decide) ?_
      refine lv_icmp_ge (tgt := 48) hx hb dX1_blackRound_9 (by decide) (fun c9 => ?_) (fun c9 => ?_)
      · rw [if_pos c9] at hF
        exact af5 v4_5 v3_5 ls (hi) hF (lv_sub hl [0, 1, 2, 3, 4] rfl)
      · rw [if_neg c9] at hF
        refine lv_aload_n hx hb dX1_blackRound_12 rfl (lv_at hl 2 rfl) ?_
        refine lv_iload_n hx hb dX1_blackRound_13 rfl (lv_at hl 3 rfl) ?_
        refine va_getsN hx hb hT.1 va_S.rf hown (va_Nw.use rfl (gn_161 hN)) (fun _ h9 => h9) dX1_blackRound_14 ?_
        refine lv_iload hx hb dX1_blackRound_17 (lv_at hl 0 rfl) ?_
        refine va_ti hx hb hT.2.1 va_S.rf (i := v4_5) (by assumption) rfl dX1_blackRound_19 ?_
        refine lv_iadd hx hb dX1_blackRound_20 ?_
        refine lv_iload_n hx hb dX1_blackRound_21 rfl (lv_at hl 4 rfl) ?_
        refine va_getsN hx hb hT.2.2.1 va_S.rf hown (va_Nw.use rfl (gn_163 hN)) (fun _ h9 => h9) dX1_blackRound_22 ?_
        refine lv_iload hx hb dX1_blackRound_25 (lv_at hl 0 rfl) ?_
        refine va_ti hx hb hT.2.2.2 va_S.rf (i := v4_5) (by assumption) rfl dX1_blackRound_27 ?_
        refine lv_iadd hx hb dX1_blackRound_28 ?_
        refine ro_go (va_runV (As := [.int (px + (ts_rx v4_5.toNatClampNeg)), .int (py + (ts_ry v4_5.toNatClampNeg))]) (rest := []) ⟨hx, hb, hml, hown, hts⟩ (c_S_isBlack l D tX tY a_ss a_sr k_sr sw sh sn sf (px + (ts_rx v4_5.toNatClampNeg)) (py + (ts_ry v4_5.toNatClampNeg)) (hss)) (cwV 2 hts (gi_4 gi_c gw_165 gw_166 gw_167 gw_3 gw_168) rfl rfl rfl (by decide +kernel) ⟨Nat.le_of_ble_eq_true rfl, Nat.le_of_ble_eq_true rfl⟩) ⟨ro_blind, va_recv hK hP (ci := 1) (q0 := 0) rfl rfl, ro_at hP hK hT hN va_S.rf [0, 1] [0] rfl rfl⟩ rfl rfl hl.1 rfl (lv_room (Nat.le_of_ble_eq_true rfl)) dX1_blackRound_29 ⟨Nat.le_of_ble_eq_true rfl, Nat.le_of_ble_eq_true rfl⟩) ?_
        refine lv_if_eq (tgt := 42) hx hb dX1_blackRound_32 (by decide) (fun c32 => ?_) (fun c32 => ?_)
        · rw [if_pos c32] at hF
          refine lv_iinc (v := v4_5 + 1) (lv' := [(4, .int (v4_5 + 1)), (3, .int v3_5), (0, .ref a_ss), (1, .int px), (2, .int py)]) hx hb dX1_blackRound_42 hl (k := 0) rfl rfl (by decide) rfl (fun ls hl => ?_)
          refine lv_goto (tgt := 5) hx hb dX1_blackRound_45 (by decide) ?_
          exact ih5 (v4_5 + 1) v3_5 ls (cz hi c9) (cu c9) hF (lv_sub hl [0, 1, 2, 3, 4] rfl)
        · rw [if_neg c32] at hF
          refine lv_iload_n hx hb dX1_blackRound_35 rfl (lv_at hl 1 rfl) ?_
          refine lv_iconst (v := 1) hx hb dX1_blackRound_36 (by decide) ?_
          refine lv_iload hx hb dX1_blackRound_37 (lv_at hl 0 rfl) ?_
          refine lv_ishl hx hb dX1_blackRound_39 ?_
          refine lv_ior hx hb dX1_blackRound_40 ?_
          refine lv_istore_n (lv' := [(3, .int (v3_5 ||| (1 <<< (v4_5 &&& 31)))), (4, .int v4_5), (0, .ref a_ss), (1, .int px), (2, .int py)]) hx hb dX1_blackRound_41 rfl hl (by decide) rfl (fun ls hl => ?_)
          refine lv_iinc (v := v4_5 + 1) (lv' := [(4, .int (v4_5 + 1)), (3, .int (v3_5 ||| (1 <<< (v4_5 &&& 31)))), (0, .ref a_ss), (1, .int px), (2, .int py)]) hx hb dX1_blackRound_42 hl (k := 1) rfl rfl (by decide) rfl (fun ls hl => ?_)
          refine lv_goto (tgt := 5) hx hb dX1_blackRound_45 (by decide) ?_
          exact ih5 (v4_5 + 1) (v3_5 ||| (1 <<< (v4_5 &&& 31))) ls (cz hi c9) (cu c9) hF (lv_sub hl [0, 1, 2, 3, 4] rfl)
  exact lp5 FU 0 0 ls (by decide) (fu_lt _ _) hF (lv_sub hl [0, 1, 2, 3, 4] rfl)
