def f_bitCount_t47 (b47 : Int32) : Int32 := b47 &&& 63
def f_bitCount_t40 (b40 : Int32) : Int32 := (f_bitCount_t47 (b40 + ((b40.toUInt32 >>> ((16 : Int32).toUInt32 &&& Int32.toUInt32 31)).toInt32)))
def f_bitCount_t33 (b33 : Int32) : Int32 := (f_bitCount_t40 (b33 + ((b33.toUInt32 >>> ((8 : Int32).toUInt32 &&& Int32.toUInt32 31)).toInt32)))
def f_bitCount_t23 (b23 : Int32) : Int32 := (f_bitCount_t33 ((b23 + ((b23.toUInt32 >>> ((4 : Int32).toUInt32 &&& Int32.toUInt32 31)).toInt32)) &&& 252645135))
def f_bitCount_t9 (b9 : Int32) : Int32 := (f_bitCount_t23 ((b9 &&& 858993459) + (((b9.toUInt32 >>> ((2 : Int32).toUInt32 &&& Int32.toUInt32 31)).toInt32) &&& 858993459)))
def f_bitCount (px : Int32) : Int32 := (f_bitCount_t9 (px - (((px.toUInt32 >>> ((1 : Int32).toUInt32 &&& Int32.toUInt32 31)).toInt32) &&& 1431655765)))
set_option maxHeartbeats 4000000 in
set_option maxRecDepth 100000 in
theorem c_bitCount (l : Launch) (D : va_G) (tX tY : Nat) (px : Int32) : Met l yJ_bitCount wJ_bitCount ({ frames := 0, cells := 0, slots := 0, locals := 0 }) (ro_P D tX tY [] [] [.int px]) (k2_QcV (.int (f_bitCount px))) 0 0 (fun _ => False) := by
  generalize hF : (f_bitCount px) = F
  refine Met.ofW (cc := cJ_bitCount) (maxL := 1) (ret := (some .int)) (by decide) rfl ?_
  intro p e s m args below meth c s₁ B hml hv
  obtain ⟨rfl, hP, hK, hT, hN⟩ := hv
  have hx := B.exec
  have hb := B.bytes
  have hr := B.returns
  have hts := atoms_spec (ws := wJ_bitCount) B.pre
  have hta : ∀ w ∈ gw, w.before _ s = true := fun w h => hts w (List.mem_cons_of_mem _ h)
  have hown : s.vm.findClass RJ = some m.cls := findClass_of_methodNamed B.named
  have hlocks := B.notSynchronized
  have hl := lv_entry [.int px] (n := 1) (Nat.le_of_ble_eq_true rfl)
  rw [lg_entry_eq]
  generalize (lg_sl [.int px] ++ List.replicate (1 - (lg_sl [.int px]).length) Slot.unset).toArray = ls at hl ⊢
  have hl : lv_has ls 1 [(0, .int px)] := hl
  rw [f_bitCount] at hF
  refine lv_iload_n hx hb dJ_bitCount_0 rfl (lv_at hl 0 rfl) ?_
  refine lv_iload_n hx hb dJ_bitCount_1 rfl (lv_at hl 0 rfl) ?_
  refine lv_iconst (v := 1) hx hb dJ_bitCount_2 (by decide) ?_
  refine lv_iushr hx hb dJ_bitCount_3 rfl ?_
  refine lv_ldcw (v := 1431655765) hx hb hown (hta _ gw_183) dJ_bitCount_4 ?_
  refine lv_iand hx hb dJ_bitCount_7 ?_
  refine lv_isub hx hb dJ_bitCount_8 ?_
  refine lv_topi (fun b9 e_b9 => ?_)
  have e_b9 : b9 = px - (((px.toUInt32 >>> ((1 : Int32).toUInt32 &&& Int32.toUInt32 31)).toInt32) &&& 1431655765) := e_b9
  rw [← e_b9] at hF
  rw [f_bitCount_t9] at hF
  refine lv_istore_n (lv' := [(0, .int b9)]) hx hb dJ_bitCount_9 rfl hl (by decide) rfl (fun ls hl => ?_)
  refine lv_iload_n hx hb dJ_bitCount_10 rfl (lv_at hl 0 rfl) ?_
  refine lv_ldcw (v := 858993459) hx hb hown (hta _ gw_184) dJ_bitCount_11 ?_
  refine lv_iand hx hb dJ_bitCount_14 ?_
  refine lv_iload_n hx hb dJ_bitCount_15 rfl (lv_at hl 0 rfl) ?_
  refine lv_iconst (v := 2) hx hb dJ_bitCount_16 (by decide) ?_
  refine lv_iushr hx hb dJ_bitCount_17 rfl ?_
  refine lv_ldcw (v := 858993459) hx hb hown (hta _ gw_184) dJ_bitCount_18 ?_
  refine lv_iand hx hb dJ_bitCount_21 ?_
  refine lv_iadd hx hb dJ_bitCount_22 ?_
  refine lv_topi (fun b23 e_b23 => ?_)
  have e_b23 : b23 = (b9 &&& 858993459) + (((b9.toUInt32 >>> ((2 : Int32).toUInt32 &&& Int32.toUInt32 31)).toInt32) &&& 858993459) := e_b23
  rw [← e_b23] at hF
  rw [f_bitCount_t23] at hF
  refine lv_istore_n (lv' := [(0, .int b23)]) hx hb dJ_bitCount_23 rfl hl (by decide) rfl (fun ls hl => ?_)
  refine lv_iload_n hx hb dJ_bitCount_24 rfl (lv_at hl 0 rfl) ?_
  refine lv_iload_n hx hb dJ_bitCount_25 rfl (lv_at hl 0 rfl) ?_
  refine lv_iconst (v := 4) hx hb dJ_bitCount_26 (by decide) ?_
  refine lv_iushr hx hb dJ_bitCount_27 rfl ?_
  refine lv_iadd hx hb dJ_bitCount_28 ?_
  refine lv_ldcw (v := 252645135) hx hb hown (hta _ gw_185) dJ_bitCount_29 ?_
  refine lv_iand hx hb dJ_bitCount_32 ?_
  refine lv_topi (fun b33 e_b33 => ?_)
  have e_b33 : b33 = (b23 + ((b23.toUInt32 >>> ((4 : Int32).toUInt32 &&& Int32.toUInt32 31)).toInt32)) &&& 252645135 := e_b33
  rw [← e_b33] at hF
  rw [f_bitCount_t33] at hF
  refine lv_istore_n (lv' := [(0, .int b33)]) hx hb dJ_bitCount_33 rfl hl (by decide) rfl (fun ls hl => ?_)
  refine lv_iload_n hx hb dJ_bitCount_34 rfl (lv_at hl 0 rfl) ?_
  refine lv_iload_n hx hb dJ_bitCount_35 rfl (lv_at hl 0 rfl) ?_
  refine lv_bipush (v := 8) hx hb dJ_bitCount_36 (by decide) ?_
  refine lv_iushr hx hb dJ_bitCount_38 rfl ?_
  refine lv_iadd hx hb dJ_bitCount_39 ?_
  refine lv_topi (fun b40 e_b40 => ?_)
  have e_b40 : b40 = b33 + ((b33.toUInt32 >>> ((8 : Int32).toUInt32 &&& Int32.toUInt32 31)).toInt32) := e_b40
  rw [← e_b40] at hF
  rw [f_bitCount_t40] at hF
  refine lv_istore_n (lv' := [(0, .int b40)]) hx hb dJ_bitCount_40 rfl hl (by decide) rfl (fun ls hl => ?_)
  refine lv_iload_n hx hb dJ_bitCount_41 rfl (lv_at hl 0 rfl) ?_
  refine lv_iload_n hx hb dJ_bitCount_42 rfl (lv_at hl 0 rfl) ?_
  refine lv_bipush (v := 16) hx hb dJ_bitCount_43 (by decide) ?_
  refine lv_iushr hx hb dJ_bitCount_45 rfl ?_
  refine lv_iadd hx hb dJ_bitCount_46 ?_
  refine lv_topi (fun b47 e_b47 => ?_)
  have e_b47 : b47 = b40 + ((b40.toUInt32 >>> ((16 : Int32).toUInt32 &&& Int32.toUInt32 31)).toInt32) := e_b47
  rw [← e_b47] at hF
  rw [f_bitCount_t47] at hF
  refine lv_istore_n (lv' := [(0, .int b47)]) hx hb dJ_bitCount_47 rfl hl (by decide) rfl (fun ls hl => ?_)
  refine lv_iload_n hx hb dJ_bitCount_48 rfl (lv_at hl 0 rfl) ?_
  refine lv_bipush (v := 63) hx hb dJ_bitCount_49 (by decide) ?_
  refine lv_iand hx hb dJ_bitCount_51 ?_
  exact W.iret (v := b47 &&& 63) hx hb hr (fun t ht _ => ⟨by rw [← hF], ht⟩) (fun _ h => nomatch h) dJ_bitCount_52

def f_nearestSize (px : Int32) : Int32 := mx 1 (mn 24 px)
set_option maxHeartbeats 4000000 in
set_option maxRecDepth 100000 in
theorem c_nearestSize (l : Launch) (D : va_G) (tX tY : Nat) (px : Int32) : Met l yX4_nearestSize wX4_nearestSize ({ frames := 1, cells := 0, slots := 0, locals := 24 }) (ro_P D tX tY [] [] [.int px]) (k2_QcV (.int (f_nearestSize px))) 0 0 (fun _ => False) := by
  generalize hF : (f_nearestSize px) = F
  refine Met.ofW (cc := cX4_nearestSize) (maxL := 1) (ret := (some .int)) (by decide) rfl ?_
  intro p e s m args below meth c s₁ B hml hv
  obtain ⟨rfl, hP, hK, hT, hN⟩ := hv
  have hx := B.exec
  have hb := B.bytes
  have hr := B.returns
  have hts := atoms_spec (ws := wX4_nearestSize) B.pre
  have hta : ∀ w ∈ gw, w.before _ s = true := fun w h => hts w (List.mem_cons_of_mem _ h)
  have hown : s.vm.findClass RX4 = some m.cls := findClass_of_methodNamed B.named
  have hlocks := B.notSynchronized
  have hl := lv_entry [.int px] (n := 1) (Nat.le_of_ble_eq_true rfl)
  rw [lg_entry_eq]
  generalize (lg_sl [.int px] ++ List.replicate (1 - (lg_sl [.int px]).length) Slot.unset).toArray = ls at hl ⊢
  have hl : lv_has ls 1 [(0, .int px)] := hl
  rw [f_nearestSize] at hF
  refine lv_iconst (v := 1) hx hb dX4_nearestSize_0 (by decide) ?_
  refine lv_bipush (v := 24) hx hb dX4_nearestSize_1 (by decide) ?_
  refine lv_iload_n hx hb dX4_nearestSize_3 rfl (lv_at hl 0 rfl) ?_
  refine va_mmin hx hb (hml.trans hl.1.symm) hown (hta _ gw_26) (hta _ gw_27) (hta _ gw_2) (hta _ gw_28) (Nat.le_of_ble_eq_true rfl) (Nat.le_of_ble_eq_true rfl) (Nat.le_of_ble_eq_true rfl) (Nat.le_of_ble_eq_true rfl) dX4_nearestSize_4 ?_
  refine va_mmax hx hb (hml.trans hl.1.symm) hown (hta _ gw_29) (hta _ gw_30) (hta _ gw_2) (hta _ gw_31) (Nat.le_of_ble_eq_true rfl) (Nat.le_of_ble_eq_true rfl) (Nat.le_of_ble_eq_true rfl) (Nat.le_of_ble_eq_true rfl) dX4_nearestSize_7 ?_
  exact W.iret (v := mx 1 (mn 24 px)) hx hb hr (fun t ht _ => ⟨by rw [← hF], ht⟩) (fun _ h => nomatch h) dX4_nearestSize_10

def f_placeOf (px : Int32) (py : Int32) : Int32 := (py <<< (5 &&& 31)) ||| px
set_option maxHeartbeats 4000000 in
set_option maxRecDepth 100000 in
theorem c_placeOf (l : Launch) (D : va_G) (tX tY : Nat) (px : Int32) (py : Int32) : Met l yX4_placeOf wX4_placeOf ({ frames := 0, cells := 0, slots := 0, locals := 0 }) (ro_P D tX tY [] [] [.int px, .int py]) (k2_QcV (.int (f_placeOf px py))) 0 0 (fun _ => False) := by
  generalize hF : (f_placeOf px py) = F
  refine Met.ofW (cc := cX4_placeOf) (maxL := 2) (ret := (some .int)) (by decide) rfl ?_
  intro p e s m args below meth c s₁ B hml hv
  obtain ⟨rfl, hP, hK, hT, hN⟩ := hv
  have hx := B.exec
  have hb := B.bytes
  have hr := B.returns
  have hts := atoms_spec (ws := wX4_placeOf) B.pre
  have hta : ∀ w ∈ gw, w.before _ s = true := fun w h => hts w (List.mem_cons_of_mem _ h)
  have hown : s.vm.findClass RX4 = some m.cls := findClass_of_methodNamed B.named
  have hlocks := B.notSynchronized
  have hl := lv_entry [.int px, .int py] (n := 2) (Nat.le_of_ble_eq_true rfl)
  rw [lg_entry_eq]
  generalize (lg_sl [.int px, .int py] ++ List.replicate (2 - (lg_sl [.int px, .int py]).length) Slot.unset).toArray = ls at hl ⊢
  have hl : lv_has ls 2 [(0, .int px), (1, .int py)] := hl
  rw [f_placeOf] at hF
  refine lv_iload_n hx hb dX4_placeOf_0 rfl (lv_at hl 1 rfl) ?_
  refine lv_iconst (v := 5) hx hb dX4_placeOf_1 (by decide) ?_
  refine lv_ishl hx hb dX4_placeOf_2 ?_
  refine lv_iload_n hx hb dX4_placeOf_3 rfl (lv_at hl 0 rfl) ?_
  refine lv_ior hx hb dX4_placeOf_4 ?_
  exact W.iret (v := (py <<< (5 &&& 31)) ||| px) hx hb hr (fun t ht _ => ⟨by rw [← hF], ht⟩) (fun _ h => nomatch h) dX4_placeOf_5

def f_columnOf (px : Int32) : Int32 := px &&& 31
set_option maxHeartbeats 4000000 in
set_option maxRecDepth 100000 in
theorem c_columnOf (l : Launch) (D : va_G) (tX tY : Nat) (px : Int32) : Met l yX4_columnOf wX4_columnOf ({ frames := 0, cells := 0, slots := 0, locals := 0 }) (ro_P D tX tY [] [] [.int px]) (k2_QcV (.int (f_columnOf px))) 0 0 (fun _ => False) := by
  generalize hF : (f_columnOf px) = F
  refine Met.ofW (cc := cX4_columnOf) (maxL := 1) (ret := (some .int)) (by decide) rfl ?_
  intro p e s m args below meth c s₁ B hml hv
  obtain ⟨rfl, hP, hK, hT, hN⟩ := hv
  have hx := B.exec
  have hb := B.bytes
  have hr := B.returns
  have hts := atoms_spec (ws := wX4_columnOf) B.pre
  have hta : ∀ w ∈ gw, w.before _ s = true := fun w h => hts w (List.mem_cons_of_mem _ h)
  have hown : s.vm.findClass RX4 = some m.cls := findClass_of_methodNamed B.named
  have hlocks := B.notSynchronized
  have hl := lv_entry [.int px] (n := 1) (Nat.le_of_ble_eq_true rfl)
  rw [lg_entry_eq]
  generalize (lg_sl [.int px] ++ List.replicate (1 - (lg_sl [.int px]).length) Slot.unset).toArray = ls at hl ⊢
  have hl : lv_has ls 1 [(0, .int px)] := hl
  rw [f_columnOf] at hF
  refine lv_iload_n hx hb dX4_columnOf_0 rfl (lv_at hl 0 rfl) ?_
  refine lv_bipush (v := 31) hx hb dX4_columnOf_1 (by decide) ?_
  refine lv_iand hx hb dX4_columnOf_3 ?_
  exact W.iret (v := px &&& 31) hx hb hr (fun t ht _ => ⟨by rw [← hF], ht⟩) (fun _ h => nomatch h) dX4_columnOf_4

def f_rowOf (px : Int32) : Int32 := px >>> (5 &&& 31)
set_option maxHeartbeats 4000000 in
set_option maxRecDepth 100000 in
theorem c_rowOf (l : Launch) (D : va_G) (tX tY : Nat) (px : Int32) : Met l yX4_rowOf wX4_rowOf ({ frames := 0, cells := 0, slots := 0, locals := 0 }) (ro_P D tX tY [] [] [.int px]) (k2_QcV (.int (f_rowOf px))) 0 0 (fun _ => False) := by
  generalize hF : (f_rowOf px) = F
  refine Met.ofW (cc := cX4_rowOf) (maxL := 1) (ret := (some .int)) (by decide) rfl ?_
  intro p e s m args below meth c s₁ B hml hv
  obtain ⟨rfl, hP, hK, hT, hN⟩ := hv
  have hx := B.exec
  have hb := B.bytes
  have hr := B.returns
  have hts := atoms_spec (ws := wX4_rowOf) B.pre
  have hta : ∀ w ∈ gw, w.before _ s = true := fun w h => hts w (List.mem_cons_of_mem _ h)
  have hown : s.vm.findClass RX4 = some m.cls := findClass_of_methodNamed B.named
  have hlocks := B.notSynchronized
  have hl := lv_entry [.int px] (n := 1) (Nat.le_of_ble_eq_true rfl)
  rw [lg_entry_eq]
  generalize (lg_sl [.int px] ++ List.replicate (1 - (lg_sl [.int px]).length) Slot.unset).toArray = ls at hl ⊢
  have hl : lv_has ls 1 [(0, .int px)] := hl
  rw [f_rowOf] at hF
  refine lv_iload_n hx hb dX4_rowOf_0 rfl (lv_at hl 0 rfl) ?_
  refine lv_iconst (v := 5) hx hb dX4_rowOf_1 (by decide) ?_
  refine lv_ishr hx hb dX4_rowOf_2 ?_
  exact W.iret (v := px >>> (5 &&& 31)) hx hb hr (fun t ht _ => ⟨by rw [← hF], ht⟩) (fun _ h => nomatch h) dX4_rowOf_3

def f_opposite (px : Int32) : Int32 := (px + 4) &&& 7
set_option maxHeartbeats 4000000 in
set_option maxRecDepth 100000 in
theorem c_opposite (l : Launch) (D : va_G) (tX tY : Nat) (px : Int32) : Met l yX4_opposite wX4_opposite ({ frames := 0, cells := 0, slots := 0, locals := 0 }) (ro_P D tX tY [] [] [.int px]) (k2_QcV (.int (f_opposite px))) 0 0 (fun _ => False) := by
  generalize hF : (f_opposite px) = F
  refine Met.ofW (cc := cX4_opposite) (maxL := 1) (ret := (some .int)) (by decide) rfl ?_
  intro p e s m args below meth c s₁ B hml hv
  obtain ⟨rfl, hP, hK, hT, hN⟩ := hv
  have hx := B.exec
  have hb := B.bytes
  have hr := B.returns
  have hts := atoms_spec (ws := wX4_opposite) B.pre
  have hta : ∀ w ∈ gw, w.before _ s = true := fun w h => hts w (List.mem_cons_of_mem _ h)
  have hown : s.vm.findClass RX4 = some m.cls := findClass_of_methodNamed B.named
  have hlocks := B.notSynchronized
  have hl := lv_entry [.int px] (n := 1) (Nat.le_of_ble_eq_true rfl)
  rw [lg_entry_eq]
  generalize (lg_sl [.int px] ++ List.replicate (1 - (lg_sl [.int px]).length) Slot.unset).toArray = ls at hl ⊢
  have hl : lv_has ls 1 [(0, .int px)] := hl
  rw [f_opposite] at hF
  refine lv_iload_n hx hb dX4_opposite_0 rfl (lv_at hl 0 rfl) ?_
  refine lv_iconst (v := 4) hx hb dX4_opposite_1 (by decide) ?_
  refine lv_iadd hx hb dX4_opposite_2 ?_
  refine lv_bipush (v := 7) hx hb dX4_opposite_3 (by decide) ?_
  refine lv_iand hx hb dX4_opposite_5 ?_
  exact W.iret (v := (px + 4) &&& 7) hx hb hr (fun t ht _ => ⟨by rw [← hF], ht⟩) (fun _ h => nomatch h) dX4_opposite_6

def f_hasBit (px : Int32) (py : Int32) : Int32 := (if ((px >>> ((py &&& 7) &&& 31)) &&& 1) = 0 then 0 else 1)
set_option maxHeartbeats 4000000 in
set_option maxRecDepth 100000 in
theorem c_hasBit (l : Launch) (D : va_G) (tX tY : Nat) (px : Int32) (py : Int32) : Met l yX4_hasBit wX4_hasBit ({ frames := 0, cells := 0, slots := 0, locals := 0 }) (ro_P D tX tY [] [] [.int px, .int py]) (k2_QcV (.int (f_hasBit px py))) 0 0 (fun _ => False) := by
  generalize hF : (f_hasBit px py) = F
  refine Met.ofW (cc := cX4_hasBit) (maxL := 2) (ret := (some .boolean)) (by decide) rfl ?_
  intro p e s m args below meth c s₁ B hml hv
  obtain ⟨rfl, hP, hK, hT, hN⟩ := hv
  have hx := B.exec
  have hb := B.bytes
  have hr := B.returns
  have hts := atoms_spec (ws := wX4_hasBit) B.pre
  have hta : ∀ w ∈ gw, w.before _ s = true := fun w h => hts w (List.mem_cons_of_mem _ h)
  have hown : s.vm.findClass RX4 = some m.cls := findClass_of_methodNamed B.named
  have hlocks := B.notSynchronized
  have hl := lv_entry [.int px, .int py] (n := 2) (Nat.le_of_ble_eq_true rfl)
  rw [lg_entry_eq]
  generalize (lg_sl [.int px, .int py] ++ List.replicate (2 - (lg_sl [.int px, .int py]).length) Slot.unset).toArray = ls at hl ⊢
  have hl : lv_has ls 2 [(0, .int px), (1, .int py)] := hl
  rw [f_hasBit] at hF
  refine lv_iload_n hx hb dX4_hasBit_0 rfl (lv_at hl 0 rfl) ?_
  refine lv_iload_n hx hb dX4_hasBit_1 rfl (lv_at hl 1 rfl) ?_
  refine lv_bipush (v := 7) hx hb dX4_hasBit_2 (by decide) ?_
  refine lv_iand hx hb dX4_hasBit_4 ?_
  refine lv_ishr hx hb dX4_hasBit_5 ?_
  refine lv_iconst (v := 1) hx hb dX4_hasBit_6 (by decide) ?_
  refine lv_iand hx hb dX4_hasBit_7 ?_
  refine lv_if_eq (tgt := 15) hx hb dX4_hasBit_8 (by decide) (fun c8 => ?_) (fun c8 => ?_)
  · rw [if_pos c8] at hF
    refine lv_iconst (v := 0) hx hb dX4_hasBit_15 (by decide) ?_
    exact W.zret (v := 0) hx hb hr rfl (fun t ht _ => ⟨by rw [← hF], ht⟩) (fun _ h => nomatch h) dX4_hasBit_16
  · rw [if_neg c8] at hF
    refine lv_iconst (v := 1) hx hb dX4_hasBit_11 (by decide) ?_
    refine lv_goto (tgt := 16) hx hb dX4_hasBit_12 (by decide) ?_
    exact W.zret (v := 1) hx hb hr rfl (fun t ht _ => ⟨by rw [← hF], ht⟩) (fun _ h => nomatch h) dX4_hasBit_16

def f_S_has (sw : Int32) (sh : Int32) (px : Int32) (py : Int32) : Int32 := (if px < 0 then 0 else (if sw ≤ px then 0 else (if py < 0 then 0 else (if sh ≤ py then 0 else 1))))
set_option maxHeartbeats 4000000 in
set_option maxRecDepth 100000 in
theorem c_S_has (l : Launch) (D : va_G) (tX tY : Nat) (a_ss : Nat) (a_sr : Nat) (k_sr : ClassId) (sw : Int32) (sh : Int32) (sn : Nat) (sf : Nat → Int32) (px : Int32) (py : Int32) : Met l yX1_has wX1_has ({ frames := 0, cells := 0, slots := 0, locals := 0 }) (ro_P D tX tY [(k_sr, .int)] [(a_ss, .inr (1, [.int sw, .int sh, .ref a_sr])), (a_sr, .inl (k_sr, sn, .inl sf))] [.ref a_ss, .int px, .int py]) (k2_QcV (.int (f_S_has sw sh px py))) 0 0 (fun _ => False) := by
  generalize hF : (f_S_has sw sh px py) = F
  refine Met.ofW (cc := cX1_has) (maxL := 3) (ret := (some .boolean)) (by decide) rfl ?_
  intro p e s m args below meth c s₁ B hml hv
  obtain ⟨rfl, hP, hK, hT, hN⟩ := hv
  have hx := B.exec
  have hb := B.bytes
  have hr := B.returns
  have hts := atoms_spec (ws := wX1_has) B.pre
  have hta : ∀ w ∈ gw, w.before _ s = true := fun w h => hts w (List.mem_cons_of_mem _ h)
  have hown : s.vm.findClass RX1 = some m.cls := findClass_of_methodNamed B.named
  have hlocks := B.notSynchronized
  have hl := lv_entry [.ref a_ss, .int px, .int py] (n := 3) (Nat.le_of_ble_eq_true rfl)
  rw [lg_entry_eq]
  generalize (lg_sl [.ref a_ss, .int px, .int py] ++ List.replicate (3 - (lg_sl [.ref a_ss, .int px, .int py]).length) Slot.unset).toArray = ls at hl ⊢
  have hl : lv_has ls 3 [(0, .ref a_ss), (1, .int px), (2, .int py)] := hl
  rw [f_S_has] at hF
  refine lv_iload_n hx hb dX1_has_0 rfl (lv_at hl 1 rfl) ?_
  refine lv_if_lt (tgt := 28) hx hb dX1_has_1 (by decide) (fun c1 => ?_) (fun c1 => ?_)
  · rw [if_pos c1] at hF
    refine lv_iconst (v := 0) hx hb dX1_has_28 (by decide) ?_
    exact W.zret (v := 0) hx hb hr rfl (fun t ht _ => ⟨by rw [← hF], ht⟩) (fun _ h => nomatch h) dX1_has_29
  · rw [if_neg c1] at hF
    refine lv_iload_n hx hb dX1_has_4 rfl (lv_at hl 1 rfl) ?_
    refine lv_aload_n hx hb dX1_has_5 rfl (lv_at hl 0 rfl) ?_
    refine va_get (D := D) (ci := 1) (v := .int sw) (C := RX1) (T := TX1) (N := 3) hx hb hta inX1 hown hK hP 0 rfl rfl 0 (by decide) (hta _ gw_39) (fun _ h9 => h9) rfl dX1_has_6 ?_
    refine lv_icmp_ge (tgt := 28) hx hb dX1_has_9 (by decide) (fun c9 => ?_) (fun c9 => ?_)
    · rw [if_pos c9] at hF
      refine lv_iconst (v := 0) hx hb dX1_has_28 (by decide) ?_
      exact W.zret (v := 0) hx hb hr rfl (fun t ht _ => ⟨by rw [← hF], ht⟩) (fun _ h => nomatch h) dX1_has_29
    · rw [if_neg c9] at hF
      refine lv_iload_n hx hb dX1_has_12 rfl (lv_at hl 2 rfl) ?_
      refine lv_if_lt (tgt := 28) hx hb dX1_has_13 (by decide) (fun c13 => ?_) (fun c13 => ?_)
      · rw [if_pos c13] at hF
        refine lv_iconst (v := 0) hx hb dX1_has_28 (by decide) ?_
        exact W.zret (v := 0) hx hb hr rfl (fun t ht _ => ⟨by rw [← hF], ht⟩) (fun _ h => nomatch h) dX1_has_29
      · rw [if_neg c13] at hF
        refine lv_iload_n hx hb dX1_has_16 rfl (lv_at hl 2 rfl) ?_
        refine lv_aload_n hx hb dX1_has_17 rfl (lv_at hl 0 rfl) ?_
        refine va_get (D := D) (ci := 1) (v := .int sh) (C := RX1) (T := TX1) (N := 3) hx hb hta inX1 hown hK hP 0 rfl rfl 1 (by decide) (hta _ gw_44) (fun _ h9 => h9) rfl dX1_has_18 ?_
        refine lv_icmp_ge (tgt := 28) hx hb dX1_has_21 (by decide) (fun c21 => ?_) (fun c21 => ?_)
        · rw [if_pos c21] at hF
          refine lv_iconst (v := 0) hx hb dX1_has_28 (by decide) ?_
          exact W.zret (v := 0) hx hb hr rfl (fun t ht _ => ⟨by rw [← hF], ht⟩) (fun _ h => nomatch h) dX1_has_29
        · rw [if_neg c21] at hF
          refine lv_iconst (v := 1) hx hb dX1_has_24 (by decide) ?_
          refine lv_goto (tgt := 29) hx hb dX1_has_25 (by decide) ?_
          exact W.zret (v := 1) hx hb hr rfl (fun t ht _ => ⟨by rw [← hF], ht⟩) (fun _ h => nomatch h) dX1_has_29

theorem has_in {sw sh px py : Int32} {sn : Nat} (hs : tsok sw sh sn) (h : ¬ f_S_has sw sh px py = 0) : vp_in py sn := by
  rw [f_S_has] at h
  by_cases h1 : px < 0
  · rw [if_pos h1] at h; exact absurd rfl h
  rw [if_neg h1] at h
  by_cases h2 : sw ≤ px
  · rw [if_pos h2] at h; exact absurd rfl h
  rw [if_neg h2] at h
  by_cases h3 : py < 0
  · rw [if_pos h3] at h; exact absurd rfl h
  rw [if_neg h3] at h
  by_cases h4 : sh ≤ py
  · rw [if_pos h4] at h; exact absurd rfl h
  exact vi_of hs.1 (by have := hs.2.2.1; omega) h3 h4
def f_S_isBlack (sw : Int32) (sh : Int32) (sf : Nat → Int32) (px : Int32) (py : Int32) : Int32 := (if (f_S_has sw sh px py) = 0 then 0 else (if (((sf py.toNatClampNeg) >>> (px &&& 31)) &&& 1) = 0 then 0 else 1))
set_option maxHeartbeats 4000000 in
set_option maxRecDepth 100000 in
theorem c_S_isBlack (l : Launch) (D : va_G) (tX tY : Nat) (a_ss : Nat) (a_sr : Nat) (k_sr : ClassId) (sw : Int32) (sh : Int32) (sn : Nat) (sf : Nat → Int32) (px : Int32) (py : Int32) (hss : tsok sw sh sn) : Met l yX1_isBlack wX1_isBlack ({ frames := 1, cells := 0, slots := 0, locals := 22 }) (ro_P D tX tY [(k_sr, .int)] [(a_ss, .inr (1, [.int sw, .int sh, .ref a_sr])), (a_sr, .inl (k_sr, sn, .inl sf))] [.ref a_ss, .int px, .int py]) (k2_QcV (.int (f_S_isBlack sw sh sf px py))) 0 0 (fun _ => False) := by
  generalize hF : (f_S_isBlack sw sh sf px py) = F
  refine Met.ofW (cc := cX1_isBlack) (maxL := 3) (ret := (some .boolean)) (by decide) rfl ?_
  intro p e s m args below meth c s₁ B hml hv
  obtain ⟨rfl, hP, hK, hT, hN⟩ := hv
  have hx := B.exec
  have hb := B.bytes
  have hr := B.returns
  have hts := atoms_spec (ws := wX1_isBlack) B.pre
  have hta : ∀ w ∈ gw, w.before _ s = true := fun w h => hts w (List.mem_cons_of_mem _ h)
  have hown : s.vm.findClass RX1 = some m.cls := findClass_of_methodNamed B.named
  have hlocks := B.notSynchronized
  have hl := lv_entry [.ref a_ss, .int px, .int py] (n := 3) (Nat.le_of_ble_eq_true rfl)
  rw [lg_entry_eq]
  generalize (lg_sl [.ref a_ss, .int px, .int py] ++ List.replicate (3 - (lg_sl [.ref a_ss, .int px, .int py]).length) Slot.unset).toArray = ls at hl ⊢
  have hl : lv_has ls 3 [(0, .ref a_ss), (1, .int px), (2, .int py)] := hl
  rw [f_S_isBlack] at hF
  refine lv_aload_n hx hb dX1_isBlack_0 rfl (lv_at hl 0 rfl) ?_
  refine lv_iload_n hx hb dX1_isBlack_1 rfl (lv_at hl 1 rfl) ?_
  refine lv_iload_n hx hb dX1_isBlack_2 rfl (lv_at hl 2 rfl) ?_
  refine ro_go (va_runV (As := [.int px, .int py]) (rest := []) ⟨hx, hb, hml, hown, hts⟩ (c_S_has l D tX tY a_ss a_sr k_sr sw sh sn sf px py) (cwV 2 hts (gi_4 gi_c gw_161 gw_162 gw_163 gw_3 gw_164) rfl rfl rfl (by decide +kernel) ⟨Nat.le_of_ble_eq_true rfl, Nat.le_of_ble_eq_true rfl⟩) ⟨ro_blind, va_recv hK hP (ci := 1) (q0 := 0) rfl rfl, ro_at hP hK hT hN va_S.rf [0, 1] [0] rfl rfl⟩ rfl rfl hl.1 rfl (lv_room (Nat.le_of_ble_eq_true rfl)) dX1_isBlack_3 ⟨Nat.le_of_ble_eq_true rfl, Nat.le_of_ble_eq_true rfl⟩) ?_
  refine lv_if_eq (tgt := 26) hx hb dX1_isBlack_6 (by decide) (fun c6 => ?_) (fun c6 => ?_)
  · rw [if_pos c6] at hF
    refine lv_iconst (v := 0) hx hb dX1_isBlack_26 (by decide) ?_
    exact W.zret (v := 0) hx hb hr rfl (fun t ht _ => ⟨by rw [← hF], ht⟩) (fun _ h => nomatch h) dX1_isBlack_27
  · rw [if_neg c6] at hF
    refine lv_aload_n hx hb dX1_isBlack_9 rfl (lv_at hl 0 rfl) ?_
    refine va_get (D := D) (ci := 1) (v := .ref a_sr) (C := RX1) (T := TX1) (N := 3) hx hb hta inX1 hown hK hP 0 rfl rfl 2 (by decide) (hta _ gw_49) (fun _ h9 => h9) rfl dX1_isBlack_10 ?_
    refine lv_iload_n hx hb dX1_isBlack_13 rfl (lv_at hl 2 rfl) ?_
    refine va_iald hx hb hK hP 1 0 rfl rfl (i := py) (has_in hss c6) dX1_isBlack_14 ?_
    refine lv_iload_n hx hb dX1_isBlack_15 rfl (lv_at hl 1 rfl) ?_
    refine lv_ishr hx hb dX1_isBlack_16 ?_
    refine lv_iconst (v := 1) hx hb dX1_isBlack_17 (by decide) ?_
    refine lv_iand hx hb dX1_isBlack_18 ?_
    refine lv_if_eq (tgt := 26) hx hb dX1_isBlack_19 (by decide) (fun c19 => ?_) (fun c19 => ?_)
    · rw [if_pos c19] at hF
      refine lv_iconst (v := 0) hx hb dX1_isBlack_26 (by decide) ?_
      exact W.zret (v := 0) hx hb hr rfl (fun t ht _ => ⟨by rw [← hF], ht⟩) (fun _ h => nomatch h) dX1_isBlack_27
    · rw [if_neg c19] at hF
      refine lv_iconst (v := 1) hx hb dX1_isBlack_22 (by decide) ?_
      refine lv_goto (tgt := 27) hx hb dX1_isBlack_23 (by decide) ?_
      exact W.zret (v := 1) hx hb hr rfl (fun t ht _ => ⟨by rw [← hF], ht⟩) (fun _ h => nomatch h) dX1_isBlack_27

def f_S_paint (sw : Int32) (sh : Int32) (sf : Nat → Int32) (px : Int32) (py : Int32) (pz : Int32) : (Nat → Int32) := (if (f_S_has sw sh px py) = 0 then sf else (if pz = 0 then (upd sf py.toNatClampNeg ((sf py.toNatClampNeg) &&& ((1 <<< (px &&& 31)) ^^^ (-1)))) else (upd sf py.toNatClampNeg ((sf py.toNatClampNeg) ||| (1 <<< (px &&& 31))))))
set_option maxHeartbeats 4000000 in
set_option maxRecDepth 100000 in
theorem c_S_paint (l : Launch) (D : va_G) (tX tY : Nat) (a_ss : Nat) (a_sr : Nat) (k_sr : ClassId) (sw : Int32) (sh : Int32) (sn : Nat) (sf : Nat → Int32) (sz : Nat) (px : Int32) (py : Int32) (pz : Int32) (hss : tsok sw sh sn) : Met l yX1_paint wX1_paint ({ frames := 1, cells := 0, slots := 0, locals := 22 }) (mu_P D tX tY [(k_sr, .int)] [(a_ss, .inr (1, [.int sw, .int sh, .ref a_sr])), (a_sr, .inl (k_sr, sn, .inl sf))] sz [.ref a_ss, .int px, .int py, .int pz]) (va_Qv (fun (u : (Nat → Int32)) => (f_S_paint sw sh sf px py pz) = u) (fun (u : (Nat → Int32)) (t : State) => va_P D vwCl [(a_ss, .inr (1, [.int sw, .int sh, .ref a_sr])), (a_sr, .inl (k_sr, sn, .inl u))] t.heap ∧ va_K D vwCl [(k_sr, .int)] t ∧ va_D (va_A [(a_ss, .inr (1, [.int sw, .int sh, .ref a_sr])), (a_sr, .inl (k_sr, sn, .inl sf))] sz) [(a_ss, .inr (1, [.int sw, .int sh, .ref a_sr])), (a_sr, .inl (k_sr, sn, .inl u))]) (va_A [(a_ss, .inr (1, [.int sw, .int sh, .ref a_sr])), (a_sr, .inl (k_sr, sn, .inl sf))] sz)) 0 0 (va_A [(a_ss, .inr (1, [.int sw, .int sh, .ref a_sr])), (a_sr, .inl (k_sr, sn, .inl sf))] sz) := by
  generalize hF : (f_S_paint sw sh sf px py pz) = F
  refine Met.ofW (cc := cX1_paint) (maxL := 4) (ret := none) (by decide) rfl ?_
  intro p e s m args below meth c s₁ B hml hv
  obtain ⟨rfl, hsz, hP, hK, hD0, hT, hN⟩ := hv
  have hx := B.exec
  have hb := B.bytes
  have hr := B.returns
  have hts := atoms_spec (ws := wX1_paint) B.pre
  have hta : ∀ w ∈ gw, w.before _ s = true := fun w h => hts w (List.mem_cons_of_mem _ h)
  have hown : s.vm.findClass RX1 = some m.cls := findClass_of_methodNamed B.named
  have hlocks := B.notSynchronized
  have hD : va_D (va_A [(a_ss, .inr (1, [.int sw, .int sh, .ref a_sr])), (a_sr, .inl (k_sr, sn, .inl sf))] sz) [(a_ss, .inr (1, [.int sw, .int sh, .ref a_sr])), (a_sr, .inl (k_sr, sn, .inl sf))] := hD0.self
  have hA : ∀ q : Nat, s.heap.size ≤ q → (va_A [(a_ss, .inr (1, [.int sw, .int sh, .ref a_sr])), (a_sr, .inl (k_sr, sn, .inl sf))] sz) q := fun q h => Or.inr (hsz ▸ h)
  have hS : va_S (va_A [(a_ss, .inr (1, [.int sw, .int sh, .ref a_sr])), (a_sr, .inl (k_sr, sn, .inl sf))] sz) s.heap s.heap [] := va_S.rf
  have hl := lv_entry [.ref a_ss, .int px, .int py, .int pz] (n := 4) (Nat.le_of_ble_eq_true rfl)
  rw [lg_entry_eq]
  generalize (lg_sl [.ref a_ss, .int px, .int py, .int pz] ++ List.replicate (4 - (lg_sl [.ref a_ss, .int px, .int py, .int pz]).length) Slot.unset).toArray = ls at hl ⊢
  have hl : lv_has ls 4 [(0, .ref a_ss), (1, .int px), (2, .int py), (3, .int pz)] := hl
  rw [f_S_paint] at hF
  have hgo : ∀ (H : Heap) (locs : List Loc), va_P D vwCl [(a_ss, .inr (1, [.int sw, .int sh, .ref a_sr])), (a_sr, .inl (k_sr, sn, .inl sf))] H → va_D (va_A [(a_ss, .inr (1, [.int sw, .int sh, .ref a_sr])), (a_sr, .inl (k_sr, sn, .inl sf))] sz) [(a_ss, .inr (1, [.int sw, .int sh, .ref a_sr])), (a_sr, .inl (k_sr, sn, .inl sf))] → va_S (va_A [(a_ss, .inr (1, [.int sw, .int sh, .ref a_sr])), (a_sr, .inl (k_sr, sn, .inl sf))] sz) s.heap H locs → W p l e { frames := 1, cells := 0, slots := 0, locals := 22 } s m (List.toArray [.ref a_ss, .int px, .int py, .int pz]) below meth c H locs 0 0 (MQ below (va_Qv (fun (u : (Nat → Int32)) => F = u) (fun (u : (Nat → Int32)) (t : State) => va_P D vwCl [(a_ss, .inr (1, [.int sw, .int sh, .ref a_sr])), (a_sr, .inl (k_sr, sn, .inl u))] t.heap ∧ va_K D vwCl [(k_sr, .int)] t ∧ va_D (va_A [(a_ss, .inr (1, [.int sw, .int sh, .ref a_sr])), (a_sr, .inl (k_sr, sn, .inl sf))] sz) [(a_ss, .inr (1, [.int sw, .int sh, .ref a_sr])), (a_sr, .inl (k_sr, sn, .inl u))]) (va_A [(a_ss, .inr (1, [.int sw, .int sh, .ref a_sr])), (a_sr, .inl (k_sr, sn, .inl sf))] sz)) (List.toArray [.ref a_ss, .int px, .int py, .int pz]) s 0 0 (va_A [(a_ss, .inr (1, [.int sw, .int sh, .ref a_sr])), (a_sr, .inl (k_sr, sn, .inl sf))] sz)) (F0 m 0 ls []) := by
    intro H locs hP hD hS
    refine lv_aload_n hx hb dX1_paint_0 rfl (lv_at hl 0 rfl) ?_
    refine lv_iload_n hx hb dX1_paint_1 rfl (lv_at hl 1 rfl) ?_
    refine lv_iload_n hx hb dX1_paint_2 rfl (lv_at hl 2 rfl) ?_
    refine ro_go (va_runV (As := [.int px, .int py]) (rest := []) ⟨hx, hb, hml, hown, hts⟩ (c_S_has l D tX tY a_ss a_sr k_sr sw sh sn sf px py) (cwV 2 hts (gi_4 gi_c gw_161 gw_162 gw_163 gw_3 gw_164) rfl rfl rfl (by decide +kernel) ⟨Nat.le_of_ble_eq_true rfl, Nat.le_of_ble_eq_true rfl⟩) ⟨ro_blind, va_recv hK hP (ci := 1) (q0 := 0) rfl rfl, ro_at hP hK hT hN hS [0, 1] [0] rfl rfl⟩ rfl rfl hl.1 rfl (lv_room (Nat.le_of_ble_eq_true rfl)) dX1_paint_3 ⟨Nat.le_of_ble_eq_true rfl, Nat.le_of_ble_eq_true rfl⟩) ?_
    refine lv_if_ne (tgt := 10) hx hb dX1_paint_6 (by decide) (fun c6 => ?_) (fun c6 => ?_)
    · rw [if_neg c6] at hF
      refine lv_aload_n hx hb dX1_paint_10 rfl (lv_at hl 0 rfl) ?_
      refine va_get (D := D) (ci := 1) (v := .ref a_sr) (C := RX1) (T := TX1) (N := 3) hx hb hta inX1 hown hK hP 0 rfl rfl 2 (by decide) (hta _ gw_49) (fun _ h9 => h9) rfl dX1_paint_11 ?_
      refine lv_iload_n hx hb dX1_paint_14 rfl (lv_at hl 2 rfl) ?_
      refine lv_iload_n hx hb dX1_paint_15 rfl (lv_at hl 3 rfl) ?_
      refine lv_if_eq (tgt := 32) hx hb dX1_paint_16 (by decide) (fun c16 => ?_) (fun c16 => ?_)
      · rw [if_pos c16] at hF
        refine lv_aload_n hx hb dX1_paint_32 rfl (lv_at hl 0 rfl) ?_
        refine va_get (D := D) (ci := 1) (v := .ref a_sr) (C := RX1) (T := TX1) (N := 3) hx hb hta inX1 hown hK hP 0 rfl rfl 2 (by decide) (hta _ gw_49) (fun _ h9 => h9) rfl dX1_paint_33 ?_
        refine lv_iload_n hx hb dX1_paint_36 rfl (lv_at hl 2 rfl) ?_
        refine va_iald hx hb hK hP 1 0 rfl rfl (i := py) (has_in hss c6) dX1_paint_37 ?_
        refine lv_iconst (v := 1) hx hb dX1_paint_38 (by decide) ?_
        refine lv_iload_n hx hb dX1_paint_39 rfl (lv_at hl 1 rfl) ?_
        refine lv_ishl hx hb dX1_paint_40 ?_
        refine lv_iconst (v := (-1)) hx hb dX1_paint_41 (by decide) ?_
        refine lv_ixor hx hb dX1_paint_42 ?_
        refine lv_iand hx hb dX1_paint_43 ?_
        refine va_iast hx hb hK hP hD hS 1 0 rfl rfl (i := py) (x := (sf py.toNatClampNeg) &&& ((1 <<< (px &&& 31)) ^^^ (-1))) (has_in hss c6) dX1_paint_44 (fun H locs hP hD hS => ?_)
        have hP : va_P D vwCl [(a_ss, .inr (1, [.int sw, .int sh, .ref a_sr])), (a_sr, .inl (k_sr, sn, .inl (upd sf py.toNatClampNeg ((sf py.toNatClampNeg) &&& ((1 <<< (px &&& 31)) ^^^ (-1))))))] H := hP
        have hD : va_D (va_A [(a_ss, .inr (1, [.int sw, .int sh, .ref a_sr])), (a_sr, .inl (k_sr, sn, .inl sf))] sz) [(a_ss, .inr (1, [.int sw, .int sh, .ref a_sr])), (a_sr, .inl (k_sr, sn, .inl (upd sf py.toNatClampNeg ((sf py.toNatClampNeg) &&& ((1 <<< (px &&& 31)) ^^^ (-1))))))] := hD
        exact W.vret hx hb hr (fun t ht hW => ⟨⟨(upd sf py.toNatClampNeg ((sf py.toNatClampNeg) &&& ((1 <<< (px &&& 31)) ^^^ (-1)))), rfl, hF.symm, by rw [ht]; exact hP, va_K.moved hW.alike hK, hD⟩, hS.F ht⟩) hS.2.2 dX1_paint_45
      · rw [if_neg c16] at hF
        refine lv_aload_n hx hb dX1_paint_19 rfl (lv_at hl 0 rfl) ?_
        refine va_get (D := D) (ci := 1) (v := .ref a_sr) (C := RX1) (T := TX1) (N := 3) hx hb hta inX1 hown hK hP 0 rfl rfl 2 (by decide) (hta _ gw_49) (fun _ h9 => h9) rfl dX1_paint_20 ?_
        refine lv_iload_n hx hb dX1_paint_23 rfl (lv_at hl 2 rfl) ?_
        refine va_iald hx hb hK hP 1 0 rfl rfl (i := py) (has_in hss c6) dX1_paint_24 ?_
        refine lv_iconst (v := 1) hx hb dX1_paint_25 (by decide) ?_
        refine lv_iload_n hx hb dX1_paint_26 rfl (lv_at hl 1 rfl) ?_
        refine lv_ishl hx hb dX1_paint_27 ?_
        refine lv_ior hx hb dX1_paint_28 ?_
        refine lv_goto (tgt := 44) hx hb dX1_paint_29 (by decide) ?_
        refine va_iast hx hb hK hP hD hS 1 0 rfl rfl (i := py) (x := (sf py.toNatClampNeg) ||| (1 <<< (px &&& 31))) (has_in hss c6) dX1_paint_44 (fun H locs hP hD hS => ?_)
        have hP : va_P D vwCl [(a_ss, .inr (1, [.int sw, .int sh, .ref a_sr])), (a_sr, .inl (k_sr, sn, .inl (upd sf py.toNatClampNeg ((sf py.toNatClampNeg) ||| (1 <<< (px &&& 31))))))] H := hP
        have hD : va_D (va_A [(a_ss, .inr (1, [.int sw, .int sh, .ref a_sr])), (a_sr, .inl (k_sr, sn, .inl sf))] sz) [(a_ss, .inr (1, [.int sw, .int sh, .ref a_sr])), (a_sr, .inl (k_sr, sn, .inl (upd sf py.toNatClampNeg ((sf py.toNatClampNeg) ||| (1 <<< (px &&& 31))))))] := hD
        exact W.vret hx hb hr (fun t ht hW => ⟨⟨(upd sf py.toNatClampNeg ((sf py.toNatClampNeg) ||| (1 <<< (px &&& 31)))), rfl, hF.symm, by rw [ht]; exact hP, va_K.moved hW.alike hK, hD⟩, hS.F ht⟩) hS.2.2 dX1_paint_45
    · rw [if_pos c6] at hF
      exact W.vret hx hb hr (fun t ht hW => ⟨⟨sf, rfl, hF.symm, by rw [ht]; exact hP, va_K.moved hW.alike hK, hD⟩, hS.F ht⟩) hS.2.2 dX1_paint_9
  exact hgo _ _ hP hD hS

def f_S_whiten_k2  : Int32 × (Nat → Int32) → (Nat → Int32)
  | (v1_2, f1_2) => f1_2
def f_S_whiten_L2 (sn : Nat) : Nat → Int32 × (Nat → Int32) → Int32 × (Nat → Int32)
  | 0, σ => σ
  | n9 + 1, (v1_2, f1_2) => (if (nI sn) ≤ v1_2 then (v1_2, f1_2) else ((f_S_whiten_L2 sn n9) (v1_2 + 1, upd f1_2 v1_2.toNatClampNeg 0)))
def f_S_whiten (sn : Nat) (sf : Nat → Int32) : (Nat → Int32) := (f_S_whiten_k2 (f_S_whiten_L2 sn FU (0, sf)))
set_option maxHeartbeats 4000000 in
set_option maxRecDepth 100000 in
theorem c_S_whiten (l : Launch) (D : va_G) (tX tY : Nat) (a_ss : Nat) (a_sr : Nat) (k_sr : ClassId) (sw : Int32) (sh : Int32) (sn : Nat) (sf : Nat → Int32) (sz : Nat) (hss : tsok sw sh sn) : Met l yX1_whiten wX1_whiten ({ frames := 0, cells := 0, slots := 0, locals := 0 }) (mu_P D tX tY [(k_sr, .int)] [(a_ss, .inr (1, [.int sw, .int sh, .ref a_sr])), (a_sr, .inl (k_sr, sn, .inl sf))] sz [.ref a_ss]) (va_Qv (fun (u : (Nat → Int32)) => (f_S_whiten sn sf) = u) (fun (u : (Nat → Int32)) (t : State) => va_P D vwCl [(a_ss, .inr (1, [.int sw, .int sh, .ref a_sr])), (a_sr, .inl (k_sr, sn, .inl u))] t.heap ∧ va_K D vwCl [(k_sr, .int)] t ∧ va_D (va_A [(a_ss, .inr (1, [.int sw, .int sh, .ref a_sr])), (a_sr, .inl (k_sr, sn, .inl sf))] sz) [(a_ss, .inr (1, [.int sw, .int sh, .ref a_sr])), (a_sr, .inl (k_sr, sn, .inl u))]) (va_A [(a_ss, .inr (1, [.int sw, .int sh, .ref a_sr])), (a_sr, .inl (k_sr, sn, .inl sf))] sz)) 0 0 (va_A [(a_ss, .inr (1, [.int sw, .int sh, .ref a_sr])), (a_sr, .inl (k_sr, sn, .inl sf))] sz) := by
  generalize hF : (f_S_whiten sn sf) = F
  refine Met.ofW (cc := cX1_whiten) (maxL := 2) (ret := none) (by decide) rfl ?_
  intro p e s m args below meth c s₁ B hml hv
  obtain ⟨rfl, hsz, hP, hK, hD0, hT, hN⟩ := hv
  have hx := B.exec
  have hb := B.bytes
  have hr := B.returns
  have hts := atoms_spec (ws := wX1_whiten) B.pre
  have hta : ∀ w ∈ gw, w.before _ s = true := fun w h => hts w (List.mem_cons_of_mem _ h)
  have hown : s.vm.findClass RX1 = some m.cls := findClass_of_methodNamed B.named
  have hlocks := B.notSynchronized
  have hD : va_D (va_A [(a_ss, .inr (1, [.int sw, .int sh, .ref a_sr])), (a_sr, .inl (k_sr, sn, .inl sf))] sz) [(a_ss, .inr (1, [.int sw, .int sh, .ref a_sr])), (a_sr, .inl (k_sr, sn, .inl sf))] := hD0.self
  have hA : ∀ q : Nat, s.heap.size ≤ q → (va_A [(a_ss, .inr (1, [.int sw, .int sh, .ref a_sr])), (a_sr, .inl (k_sr, sn, .inl sf))] sz) q := fun q h => Or.inr (hsz ▸ h)
  have hS : va_S (va_A [(a_ss, .inr (1, [.int sw, .int sh, .ref a_sr])), (a_sr, .inl (k_sr, sn, .inl sf))] sz) s.heap s.heap [] := va_S.rf
  have hl := lv_entry [.ref a_ss] (n := 2) (Nat.le_of_ble_eq_true rfl)
  rw [lg_entry_eq]
  generalize (lg_sl [.ref a_ss] ++ List.replicate (2 - (lg_sl [.ref a_ss]).length) Slot.unset).toArray = ls at hl ⊢
  have hl : lv_has ls 2 [(0, .ref a_ss)] := hl
  rw [f_S_whiten] at hF
  have hgo : ∀ (H : Heap) (locs : List Loc), va_P D vwCl [(a_ss, .inr (1, [.int sw, .int sh, .ref a_sr])), (a_sr, .inl (k_sr, sn, .inl sf))] H → va_D (va_A [(a_ss, .inr (1, [.int sw, .int sh, .ref a_sr])), (a_sr, .inl (k_sr, sn, .inl sf))] sz) [(a_ss, .inr (1, [.int sw, .int sh, .ref a_sr])), (a_sr, .inl (k_sr, sn, .inl sf))] → va_S (va_A [(a_ss, .inr (1, [.int sw, .int sh, .ref a_sr])), (a_sr, .inl (k_sr, sn, .inl sf))] sz) s.heap H locs → W p l e { frames := 0, cells := 0, slots := 0, locals := 0 } s m (List.toArray [.ref a_ss]) below meth c H locs 0 0 (MQ below (va_Qv (fun (u : (Nat → Int32)) => F = u) (fun (u : (Nat → Int32)) (t : State) => va_P D vwCl [(a_ss, .inr (1, [.int sw, .int sh, .ref a_sr])), (a_sr, .inl (k_sr, sn, .inl u))] t.heap ∧ va_K D vwCl [(k_sr, .int)] t ∧ va_D (va_A [(a_ss, .inr (1, [.int sw, .int sh, .ref a_sr])), (a_sr, .inl (k_sr, sn, .inl sf))] sz) [(a_ss, .inr (1, [.int sw, .int sh, .ref a_sr])), (a_sr, .inl (k_sr, sn, .inl u))]) (va_A [(a_ss, .inr (1, [.int sw, .int sh, .ref a_sr])), (a_sr, .inl (k_sr, sn, .inl sf))] sz)) (List.toArray [.ref a_ss]) s 0 0 (va_A [(a_ss, .inr (1, [.int sw, .int sh, .ref a_sr])), (a_sr, .inl (k_sr, sn, .inl sf))] sz)) (F0 m 0 ls []) := by
    intro H locs hP hD hS
    refine lv_iconst (v := 0) hx hb dX1_whiten_0 (by decide) ?_
    refine lv_istore_n (lv' := [(1, .int 0), (0, .ref a_ss)]) hx hb dX1_whiten_1 rfl hl (by decide) rfl (fun ls hl => ?_)
    have af2 : ∀ (v1_2 : Int32) (f1_2 : Nat → Int32) (H : Heap) (locs : List Loc) (ls : Array Slot), (0 ≤ v1_2.toInt) → f_S_whiten_k2  (v1_2, f1_2) = F → va_P D vwCl [(a_ss, .inr (1, [.int sw, .int sh, .ref a_sr])), (a_sr, .inl (k_sr, sn, .inl f1_2))] H → va_D (va_A [(a_ss, .inr (1, [.int sw, .int sh, .ref a_sr])), (a_sr, .inl (k_sr, sn, .inl sf))] sz) [(a_ss, .inr (1, [.int sw, .int sh, .ref a_sr])), (a_sr, .inl (k_sr, sn, .inl f1_2))] → va_S (va_A [(a_ss, .inr (1, [.int sw, .int sh, .ref a_sr])), (a_sr, .inl (k_sr, sn, .inl sf))] sz) s.heap H locs → lv_has ls 2 [(1, .int v1_2), (0, .ref a_ss)] → W p l e { frames := 0, cells := 0, slots := 0, locals := 0 } s m (List.toArray [.ref a_ss]) below meth c H locs 0 0 (MQ below (va_Qv (fun (u : (Nat → Int32)) => F = u) (fun (u : (Nat → Int32)) (t : State) => va_P D vwCl [(a_ss, .inr (1, [.int sw, .int sh, .ref a_sr])), (a_sr, .inl (k_sr, sn, .inl u))] t.heap ∧ va_K D vwCl [(k_sr, .int)] t ∧ va_D (va_A [(a_ss, .inr (1, [.int sw, .int sh, .ref a_sr])), (a_sr, .inl (k_sr, sn, .inl sf))] sz) [(a_ss, .inr (1, [.int sw, .int sh, .ref a_sr])), (a_sr, .inl (k_sr, sn, .inl u))]) (va_A [(a_ss, .inr (1, [.int sw, .int sh, .ref a_sr])), (a_sr, .inl (k_sr, sn, .inl sf))] sz)) (List.toArray [.ref a_ss]) s 0 0 (va_A [(a_ss, .inr (1, [.int sw, .int sh, .ref a_sr])), (a_sr, .inl (k_sr, sn, .inl sf))] sz)) (F0 m 24 ls []) := by
      intro v1_2 f1_2 H locs ls h_v1_2 hF hP hD hS hl
      rw [f_S_whiten_k2] at hF
      exact W.vret hx hb hr (fun t ht hW => ⟨⟨f1_2, rfl, hF.symm, by rw [ht]; exact hP, va_K.moved hW.alike hK, hD⟩, hS.F ht⟩) hS.2.2 dX1_whiten_24
    have lp2 : ∀ (n9 : Nat) (v1_2 : Int32) (f1_2 : Nat → Int32) (H : Heap) (locs : List Loc) (ls : Array Slot), (0 ≤ v1_2.toInt) → ((nI sn).toInt - v1_2.toInt).toNat < n9 → f_S_whiten_k2  (f_S_whiten_L2 sn n9 (v1_2, f1_2)) = F → va_P D vwCl [(a_ss, .inr (1, [.int sw, .int sh, .ref a_sr])), (a_sr, .inl (k_sr, sn, .inl f1_2))] H → va_D (va_A [(a_ss, .inr (1, [.int sw, .int sh, .ref a_sr])), (a_sr, .inl (k_sr, sn, .inl sf))] sz) [(a_ss, .inr (1, [.int sw, .int sh, .ref a_sr])), (a_sr, .inl (k_sr, sn, .inl f1_2))] → va_S (va_A [(a_ss, .inr (1, [.int sw, .int sh, .ref a_sr])), (a_sr, .inl (k_sr, sn, .inl sf))] sz) s.heap H locs → lv_has ls 2 [(1, .int v1_2), (0, .ref a_ss)] → W p l e { frames := 0, cells := 0, slots := 0, locals := 0 } s m (List.toArray [.ref a_ss]) below meth c H locs 0 0 (MQ below (va_Qv (fun (u : (Nat → Int32)) => F = u) (fun (u : (Nat → Int32)) (t : State) => va_P D vwCl [(a_ss, .inr (1, [.int sw, .int sh, .ref a_sr])), (a_sr, .inl (k_sr, sn, .inl u))] t.heap ∧ va_K D vwCl [(k_sr, .int)] t ∧ va_D (va_A [(a_ss, .inr (1, [.int sw, .int sh, .ref a_sr])), (a_sr, .inl (k_sr, sn, .inl sf))] sz) [(a_ss, .inr (1, [.int sw, .int sh, .ref a_sr])), (a_sr, .inl (k_sr, sn, .inl u))]) (va_A [(a_ss, .inr (1, [.int sw, .int sh, .ref a_sr])), (a_sr, .inl (k_sr, sn, .inl sf))] sz)) (List.toArray [.ref a_ss]) s 0 0 (va_A [(a_ss, .inr (1, [.int sw, .int sh, .ref a_sr])), (a_sr, .inl (k_sr, sn, .inl sf))] sz)) (F0 m 2 ls []) := by
      intro n9
      induction n9 with
      | zero => intro v1_2 f1_2 H locs ls h_v1_2 hmu2; exact absurd hmu2 (Nat.not_lt_zero _)
      | succ n2 ih2 =>
        intro v1_2 f1_2 H locs ls h_v1_2 hmu2 hF hP hD hS hl
        rw [f_S_whiten_L2] at hF
        refine lv_iload_n hx hb dX1_whiten_2 rfl (lv_at hl 0 rfl) ?_
        refine lv_aload_n hx hb dX1_whiten_3 rfl (lv_at hl 1 rfl) ?_
        refine va_get (D := D) (ci := 1) (v := .ref a_sr) (C := RX1) (T := TX1) (N := 3) hx hb hta inX1 hown hK hP 0 rfl rfl 2 (by decide) (hta _ gw_49) (fun _ h9 => h9) rfl dX1_whiten_4 ?_
        refine va_alen hx hb hK hP 1 0 rfl rfl (v := nI sn) (rfl) dX1_whiten_7 ?_
        refine lv_icmp_ge (tgt := 24) hx hb dX1_whiten_8 (by decide) (fun c8 => ?_) (fun c8 => ?_)
        · rw [if_pos c8] at hF
          exact af2 v1_2 f1_2 _ _ ls (h_v1_2) hF hP hD hS (lv_sub hl [0, 1] rfl)
        · rw [if_neg c8] at hF
          refine lv_aload_n hx hb dX1_whiten_11 rfl (lv_at hl 1 rfl) ?_
          refine va_get (D := D) (ci := 1) (v := .ref a_sr) (C := RX1) (T := TX1) (N := 3) hx hb hta inX1 hown hK hP 0 rfl rfl 2 (by decide) (hta _ gw_49) (fun _ h9 => h9) rfl dX1_whiten_12 ?_
          refine lv_iload_n hx hb dX1_whiten_15 rfl (lv_at hl 0 rfl) ?_
          refine lv_iconst (v := 0) hx hb dX1_whiten_16 (by decide) ?_
          refine va_iast hx hb hK hP hD hS 1 0 rfl rfl (i := v1_2) (x := 0) (vi_lt h_v1_2 c8 (by have := hss.2.2.1; omega)) dX1_whiten_17 (fun H locs hP hD hS => ?_)
          have hP : va_P D vwCl [(a_ss, .inr (1, [.int sw, .int sh, .ref a_sr])), (a_sr, .inl (k_sr, sn, .inl (upd f1_2 v1_2.toNatClampNeg 0)))] H := hP
          have hD : va_D (va_A [(a_ss, .inr (1, [.int sw, .int sh, .ref a_sr])), (a_sr, .inl (k_sr, sn, .inl sf))] sz) [(a_ss, .inr (1, [.int sw, .int sh, .ref a_sr])), (a_sr, .inl (k_sr, sn, .inl (upd f1_2 v1_2.toNatClampNeg 0)))] := hD
          refine lv_iinc (v := v1_2 + 1) (lv' := [(1, .int (v1_2 + 1)), (0, .ref a_ss)]) hx hb dX1_whiten_18 hl (k := 0) rfl rfl (by decide) rfl (fun ls hl => ?_)
          refine lv_goto (tgt := 2) hx hb dX1_whiten_21 (by decide) ?_
          exact ih2 (v1_2 + 1) (upd f1_2 v1_2.toNatClampNeg 0) _ _ ls (cz h_v1_2 c8) (lt_lt (cu c8) hmu2) hF hP hD hS (lv_sub hl [0, 1] rfl)
    exact lp2 FU 0 sf _ _ ls (by decide) (fu_lt _ _) hF hP hD hS (lv_sub hl [0, 1] rfl)
  exact hgo _ _ hP hD hS

def f_S_blackRound_k5  : Int32 × Int32 → Int32
  | (v4_5, v3_5) => v3_5
def f_S_blackRound_L5 (sw : Int32) (sh : Int32) (sf : Nat → Int32) (px : Int32) (py : Int32) : Nat → Int32 × Int32 → Int32 × Int32
  | 0, σ => σ
  | n9 + 1, (v4_5, v3_5) => (if 8 ≤ v4_5 then (v4_5, v3_5) else (if (f_S_isBlack sw sh sf (px + (ts_rx v4_5.toNatClampNeg)) (py + (ts_ry v4_5.toNatClampNeg))) = 0 then ((f_S_blackRound_L5 sw sh sf px py n9) (v4_5 + 1, v3_5)) else ((f_S_blackRound_L5 sw sh sf px py n9) (v4_5 + 1, v3_5 ||| (1 <<< (v4_5 &&& 31))))))
def f_S_blackRound (sw : Int32) (sh : Int32) (sf : Nat → Int32) (px : Int32) (py : Int32) : Int32 := (f_S_blackRound_k5 (f_S_blackRound_L5 sw sh sf px py FU (0, 0)))
set_option maxHeartbeats 4000000 in
set_option maxRecDepth 100000 in
theorem c_S_blackRound (l : Launch) (D : va_G) (tX tY : Nat) (a_ss : Nat) (a_sr : Nat) (k_sr : ClassId) (sw : Int32) (sh : Int32) (sn : Nat) (sf : Nat → Int32) (px : Int32) (py : Int32) (hss : tsok sw sh sn) : Met l yX1_blackRound wX1_blackRound ({ frames := 2, cells := 0, slots := 0, locals := 44 }) (ro_P D tX tY [(k_sr, .int)] [(a_ss, .inr (1, [.int sw, .int sh, .ref a_sr])), (a_sr, .inl (k_sr, sn, .inl sf))] [.ref a_ss, .int px, .int py]) (k2_QcV (.int (f_S_blackRound sw sh sf px py))) 0 0 (fun _ => False) := by
  generalize hF : (f_S_blackRound sw sh sf px py) = F
  refine Met.ofW (cc := cX1_blackRound) (maxL := 5) (ret := (some .int)) (by decide) rfl ?_
  intro p e s m args below meth c s₁ B hml hv
  obtain ⟨rfl, hP, hK, hT, hN⟩ := hv
  have hx := B.exec
  have hb := B.bytes
  have hr := B.returns
  have hts := atoms_spec (ws := wX1_blackRound) B.pre
  have hta : ∀ w ∈ gw, w.before _ s = true := fun w h => hts w (List.mem_cons_of_mem _ h)
  have hown : s.vm.findClass RX1 = some m.cls := findClass_of_methodNamed B.named
  have hlocks := B.notSynchronized
  have hl := lv_entry [.ref a_ss, .int px, .int py] (n := 5) (Nat.le_of_ble_eq_true rfl)
  rw [lg_entry_eq]
  generalize (lg_sl [.ref a_ss, .int px, .int py] ++ List.replicate (5 - (lg_sl [.ref a_ss, .int px, .int py]).length) Slot.unset).toArray = ls at hl ⊢
  have hl : lv_has ls 5 [(0, .ref a_ss), (1, .int px), (2, .int py)] := hl
  rw [f_S_blackRound] at hF
  refine lv_iconst (v := 0) hx hb dX1_blackRound_0 (by decide) ?_
  refine lv_istore_n (lv' := [(3, .int 0), (0, .ref a_ss), (1, .int px), (2, .int py)]) hx hb dX1_blackRound_1 rfl hl (by decide) rfl (fun ls hl => ?_)
  refine lv_iconst (v := 0) hx hb dX1_blackRound_2 (by decide) ?_
  refine lv_istore (lv' := [(4, .int 0), (3, .int 0), (0, .ref a_ss), (1, .int px), (2, .int py)]) hx hb dX1_blackRound_3 hl (by decide) rfl (fun ls hl => ?_)
  have af5 : ∀ (v4_5 : Int32) (v3_5 : Int32) (ls : Array Slot), (0 ≤ v4_5.toInt) → f_S_blackRound_k5  (v4_5, v3_5) = F → lv_has ls 5 [(4, .int v4_5), (3, .int v3_5), (0, .ref a_ss), (1, .int px), (2, .int py)] → W p l e { frames := 2, cells := 0, slots := 0, locals := 44 } s m (List.toArray [.ref a_ss, .int px, .int py]) below meth c s.heap [] 0 0 (MQ below (k2_QcV (.int F)) (List.toArray [.ref a_ss, .int px, .int py]) s 0 0 (fun _ => False)) (F0 m 48 ls []) := by
    intro v4_5 v3_5 ls h_v4_5 hF hl
    rw [f_S_blackRound_k5] at hF
    refine lv_iload_n hx hb dX1_blackRound_48 rfl (lv_at hl 1 rfl) ?_
    exact W.iret (v := v3_5) hx hb hr (fun t ht _ => ⟨by rw [← hF], ht⟩) (fun _ h => nomatch h) dX1_blackRound_49
  have lp5 : ∀ (n9 : Nat) (v4_5 : Int32) (v3_5 : Int32) (ls : Array Slot), (0 ≤ v4_5.toInt) → ((8 : Int32).toInt - v4_5.toInt).toNat < n9 → f_S_blackRound_k5  (f_S_blackRound_L5 sw sh sf px py n9 (v4_5, v3_5)) = F → lv_has ls 5 [(4, .int v4_5), (3, .int v3_5), (0, .ref a_ss), (1, .int px), (2, .int py)] → W p l e { frames := 2, cells := 0, slots := 0, locals := 44 } s m (List.toArray [.ref a_ss, .int px, .int py]) below meth c s.heap [] 0 0 (MQ below (k2_QcV (.int F)) (List.toArray [.ref a_ss, .int px, .int py]) s 0 0 (fun _ => False)) (F0 m 5 ls []) := by
    intro n9
    induction n9 with
    | zero => intro v4_5 v3_5 ls h_v4_5 hmu5; exact absurd hmu5 (Nat.not_lt_zero _)
    | succ n5 ih5 =>
      intro v4_5 v3_5 ls h_v4_5 hmu5 hF hl
      rw [f_S_blackRound_L5] at hF
      refine lv_iload hx hb dX1_blackRound_5 (lv_at hl 0 rfl) ?_
      refine lv_bipush (v := 8) hx hb dX1_blackRound_7 (by decide) ?_
      refine lv_icmp_ge (tgt := 48) hx hb dX1_blackRound_9 (by decide) (fun c9 => ?_) (fun c9 => ?_)
      · rw [if_pos c9] at hF
        exact af5 v4_5 v3_5 ls (h_v4_5) hF (lv_sub hl [0, 1, 2, 3, 4] rfl)
      · rw [if_neg c9] at hF
        refine lv_aload_n hx hb dX1_blackRound_12 rfl (lv_at hl 2 rfl) ?_
        refine lv_iload_n hx hb dX1_blackRound_13 rfl (lv_at hl 3 rfl) ?_
        refine va_getsN hx hb hT.1 va_S.rf hown (va_Nw.use rfl (gn_169 hN)) (fun _ h9 => h9) dX1_blackRound_14 ?_
        refine lv_iload hx hb dX1_blackRound_17 (lv_at hl 0 rfl) ?_
        refine va_ti hx hb hT.2.1 va_S.rf (i := v4_5) (vi_8 h_v4_5 c9) rfl dX1_blackRound_19 ?_
        refine lv_iadd hx hb dX1_blackRound_20 ?_
        refine lv_iload_n hx hb dX1_blackRound_21 rfl (lv_at hl 4 rfl) ?_
        refine va_getsN hx hb hT.2.2.1 va_S.rf hown (va_Nw.use rfl (gn_171 hN)) (fun _ h9 => h9) dX1_blackRound_22 ?_
        refine lv_iload hx hb dX1_blackRound_25 (lv_at hl 0 rfl) ?_
        refine va_ti hx hb hT.2.2.2 va_S.rf (i := v4_5) (vi_8 h_v4_5 c9) rfl dX1_blackRound_27 ?_
        refine lv_iadd hx hb dX1_blackRound_28 ?_
        refine ro_go (va_runV (As := [.int (px + (ts_rx v4_5.toNatClampNeg)), .int (py + (ts_ry v4_5.toNatClampNeg))]) (rest := []) ⟨hx, hb, hml, hown, hts⟩ (c_S_isBlack l D tX tY a_ss a_sr k_sr sw sh sn sf (px + (ts_rx v4_5.toNatClampNeg)) (py + (ts_ry v4_5.toNatClampNeg)) (hss)) (cwV 2 hts (gi_4 gi_c gw_173 gw_158 gw_159 gw_3 gw_160) rfl rfl rfl (by decide +kernel) ⟨Nat.le_of_ble_eq_true rfl, Nat.le_of_ble_eq_true rfl⟩) ⟨ro_blind, va_recv hK hP (ci := 1) (q0 := 0) rfl rfl, ro_at hP hK hT hN va_S.rf [0, 1] [0] rfl rfl⟩ rfl rfl hl.1 rfl (lv_room (Nat.le_of_ble_eq_true rfl)) dX1_blackRound_29 ⟨Nat.le_of_ble_eq_true rfl, Nat.le_of_ble_eq_true rfl⟩) ?_
        refine lv_if_eq (tgt := 42) hx hb dX1_blackRound_32 (by decide) (fun c32 => ?_) (fun c32 => ?_)
        · rw [if_pos c32] at hF
          refine lv_iinc (v := v4_5 + 1) (lv' := [(4, .int (v4_5 + 1)), (3, .int v3_5), (0, .ref a_ss), (1, .int px), (2, .int py)]) hx hb dX1_blackRound_42 hl (k := 0) rfl rfl (by decide) rfl (fun ls hl => ?_)
          refine lv_goto (tgt := 5) hx hb dX1_blackRound_45 (by decide) ?_
          exact ih5 (v4_5 + 1) v3_5 ls (cz h_v4_5 c9) (lt_lt (cu c9) hmu5) hF (lv_sub hl [0, 1, 2, 3, 4] rfl)
        · rw [if_neg c32] at hF
          refine lv_iload_n hx hb dX1_blackRound_35 rfl (lv_at hl 1 rfl) ?_
          refine lv_iconst (v := 1) hx hb dX1_blackRound_36 (by decide) ?_
          refine lv_iload hx hb dX1_blackRound_37 (lv_at hl 0 rfl) ?_
          refine lv_ishl hx hb dX1_blackRound_39 ?_
          refine lv_ior hx hb dX1_blackRound_40 ?_
          refine lv_istore_n (lv' := [(3, .int (v3_5 ||| (1 <<< (v4_5 &&& 31)))), (4, .int v4_5), (0, .ref a_ss), (1, .int px), (2, .int py)]) hx hb dX1_blackRound_41 rfl hl (by decide) rfl (fun ls hl => ?_)
          refine lv_iinc (v := v4_5 + 1) (lv' := [(4, .int (v4_5 + 1)), (3, .int (v3_5 ||| (1 <<< (v4_5 &&& 31)))), (0, .ref a_ss), (1, .int px), (2, .int py)]) hx hb dX1_blackRound_42 hl (k := 1) rfl rfl (by decide) rfl (fun ls hl => ?_)
          refine lv_goto (tgt := 5) hx hb dX1_blackRound_45 (by decide) ?_
          exact ih5 (v4_5 + 1) (v3_5 ||| (1 <<< (v4_5 &&& 31))) ls (cz h_v4_5 c9) (lt_lt (cu c9) hmu5) hF (lv_sub hl [0, 1, 2, 3, 4] rfl)
  exact lp5 FU 0 0 ls (by decide) (fu_lt _ _) hF (lv_sub hl [0, 1, 2, 3, 4] rfl)

def f_S_copyFrom_k2  : Int32 × (Nat → Int32) → (Nat → Int32)
  | (v2_2, f1_2) => f1_2
def f_S_copyFrom_L2 (sn : Nat) (on : Nat) (of : Nat → Int32) : Nat → Int32 × (Nat → Int32) → Int32 × (Nat → Int32)
  | 0, σ => σ
  | n9 + 1, (v2_2, f1_2) => (if (nI sn) ≤ v2_2 then (v2_2, f1_2) else (if (nI on) ≤ v2_2 then (v2_2, f1_2) else ((f_S_copyFrom_L2 sn on of n9) (v2_2 + 1, upd f1_2 v2_2.toNatClampNeg (of v2_2.toNatClampNeg)))))
def f_S_copyFrom (sn : Nat) (sf : Nat → Int32) (on : Nat) (of : Nat → Int32) : (Nat → Int32) := (f_S_copyFrom_k2 (f_S_copyFrom_L2 sn on of FU (0, sf)))
set_option maxHeartbeats 4000000 in
set_option maxRecDepth 100000 in
theorem c_S_copyFrom (l : Launch) (D : va_G) (tX tY : Nat) (a_ss : Nat) (a_sr : Nat) (k_sr : ClassId) (sw : Int32) (sh : Int32) (sn : Nat) (sf : Nat → Int32) (a_os : Nat) (a_or : Nat) (k_or : ClassId) (ow : Int32) (oh : Int32) (on : Nat) (of : Nat → Int32) (sz : Nat) (hss : tsok sw sh sn) (hso : tsok ow oh on) : Met l yX1_copyFrom wX1_copyFrom ({ frames := 0, cells := 0, slots := 0, locals := 0 }) (mu_P D tX tY [(k_sr, .int), (k_or, .int)] [(a_ss, .inr (1, [.int sw, .int sh, .ref a_sr])), (a_sr, .inl (k_sr, sn, .inl sf)), (a_os, .inr (1, [.int ow, .int oh, .ref a_or])), (a_or, .inl (k_or, on, .inl of))] sz [.ref a_ss, .ref a_os]) (va_Qv (fun (u : (Nat → Int32)) => (f_S_copyFrom sn sf on of) = u) (fun (u : (Nat → Int32)) (t : State) => va_P D vwCl [(a_ss, .inr (1, [.int sw, .int sh, .ref a_sr])), (a_sr, .inl (k_sr, sn, .inl u)), (a_os, .inr (1, [.int ow, .int oh, .ref a_or])), (a_or, .inl (k_or, on, .inl of))] t.heap ∧ va_K D vwCl [(k_sr, .int), (k_or, .int)] t ∧ va_D (va_A [(a_ss, .inr (1, [.int sw, .int sh, .ref a_sr])), (a_sr, .inl (k_sr, sn, .inl sf)), (a_os, .inr (1, [.int ow, .int oh, .ref a_or])), (a_or, .inl (k_or, on, .inl of))] sz) [(a_ss, .inr (1, [.int sw, .int sh, .ref a_sr])), (a_sr, .inl (k_sr, sn, .inl u)), (a_os, .inr (1, [.int ow, .int oh, .ref a_or])), (a_or, .inl (k_or, on, .inl of))]) (va_A [(a_ss, .inr (1, [.int sw, .int sh, .ref a_sr])), (a_sr, .inl (k_sr, sn, .inl sf)), (a_os, .inr (1, [.int ow, .int oh, .ref a_or])), (a_or, .inl (k_or, on, .inl of))] sz)) 0 0 (va_A [(a_ss, .inr (1, [.int sw, .int sh, .ref a_sr])), (a_sr, .inl (k_sr, sn, .inl sf)), (a_os, .inr (1, [.int ow, .int oh, .ref a_or])), (a_or, .inl (k_or, on, .inl of))] sz) := by
  generalize hF : (f_S_copyFrom sn sf on of) = F
  refine Met.ofW (cc := cX1_copyFrom) (maxL := 3) (ret := none) (by decide) rfl ?_
  intro p e s m args below meth c s₁ B hml hv
  obtain ⟨rfl, hsz, hP, hK, hD0, hT, hN⟩ := hv
  have hx := B.exec
  have hb := B.bytes
  have hr := B.returns
  have hts := atoms_spec (ws := wX1_copyFrom) B.pre
  have hta : ∀ w ∈ gw, w.before _ s = true := fun w h => hts w (List.mem_cons_of_mem _ h)
  have hown : s.vm.findClass RX1 = some m.cls := findClass_of_methodNamed B.named
  have hlocks := B.notSynchronized
  have hD : va_D (va_A [(a_ss, .inr (1, [.int sw, .int sh, .ref a_sr])), (a_sr, .inl (k_sr, sn, .inl sf)), (a_os, .inr (1, [.int ow, .int oh, .ref a_or])), (a_or, .inl (k_or, on, .inl of))] sz) [(a_ss, .inr (1, [.int sw, .int sh, .ref a_sr])), (a_sr, .inl (k_sr, sn, .inl sf)), (a_os, .inr (1, [.int ow, .int oh, .ref a_or])), (a_or, .inl (k_or, on, .inl of))] := hD0.self
  have hA : ∀ q : Nat, s.heap.size ≤ q → (va_A [(a_ss, .inr (1, [.int sw, .int sh, .ref a_sr])), (a_sr, .inl (k_sr, sn, .inl sf)), (a_os, .inr (1, [.int ow, .int oh, .ref a_or])), (a_or, .inl (k_or, on, .inl of))] sz) q := fun q h => Or.inr (hsz ▸ h)
  have hS : va_S (va_A [(a_ss, .inr (1, [.int sw, .int sh, .ref a_sr])), (a_sr, .inl (k_sr, sn, .inl sf)), (a_os, .inr (1, [.int ow, .int oh, .ref a_or])), (a_or, .inl (k_or, on, .inl of))] sz) s.heap s.heap [] := va_S.rf
  have hl := lv_entry [.ref a_ss, .ref a_os] (n := 3) (Nat.le_of_ble_eq_true rfl)
  rw [lg_entry_eq]
  generalize (lg_sl [.ref a_ss, .ref a_os] ++ List.replicate (3 - (lg_sl [.ref a_ss, .ref a_os]).length) Slot.unset).toArray = ls at hl ⊢
  have hl : lv_has ls 3 [(0, .ref a_ss), (1, .ref a_os)] := hl
  rw [f_S_copyFrom] at hF
  have hgo : ∀ (H : Heap) (locs : List Loc), va_P D vwCl [(a_ss, .inr (1, [.int sw, .int sh, .ref a_sr])), (a_sr, .inl (k_sr, sn, .inl sf)), (a_os, .inr (1, [.int ow, .int oh, .ref a_or])), (a_or, .inl (k_or, on, .inl of))] H → va_D (va_A [(a_ss, .inr (1, [.int sw, .int sh, .ref a_sr])), (a_sr, .inl (k_sr, sn, .inl sf)), (a_os, .inr (1, [.int ow, .int oh, .ref a_or])), (a_or, .inl (k_or, on, .inl of))] sz) [(a_ss, .inr (1, [.int sw, .int sh, .ref a_sr])), (a_sr, .inl (k_sr, sn, .inl sf)), (a_os, .inr (1, [.int ow, .int oh, .ref a_or])), (a_or, .inl (k_or, on, .inl of))] → va_S (va_A [(a_ss, .inr (1, [.int sw, .int sh, .ref a_sr])), (a_sr, .inl (k_sr, sn, .inl sf)), (a_os, .inr (1, [.int ow, .int oh, .ref a_or])), (a_or, .inl (k_or, on, .inl of))] sz) s.heap H locs → W p l e { frames := 0, cells := 0, slots := 0, locals := 0 } s m (List.toArray [.ref a_ss, .ref a_os]) below meth c H locs 0 0 (MQ below (va_Qv (fun (u : (Nat → Int32)) => F = u) (fun (u : (Nat → Int32)) (t : State) => va_P D vwCl [(a_ss, .inr (1, [.int sw, .int sh, .ref a_sr])), (a_sr, .inl (k_sr, sn, .inl u)), (a_os, .inr (1, [.int ow, .int oh, .ref a_or])), (a_or, .inl (k_or, on, .inl of))] t.heap ∧ va_K D vwCl [(k_sr, .int), (k_or, .int)] t ∧ va_D (va_A [(a_ss, .inr (1, [.int sw, .int sh, .ref a_sr])), (a_sr, .inl (k_sr, sn, .inl sf)), (a_os, .inr (1, [.int ow, .int oh, .ref a_or])), (a_or, .inl (k_or, on, .inl of))] sz) [(a_ss, .inr (1, [.int sw, .int sh, .ref a_sr])), (a_sr, .inl (k_sr, sn, .inl u)), (a_os, .inr (1, [.int ow, .int oh, .ref a_or])), (a_or, .inl (k_or, on, .inl of))]) (va_A [(a_ss, .inr (1, [.int sw, .int sh, .ref a_sr])), (a_sr, .inl (k_sr, sn, .inl sf)), (a_os, .inr (1, [.int ow, .int oh, .ref a_or])), (a_or, .inl (k_or, on, .inl of))] sz)) (List.toArray [.ref a_ss, .ref a_os]) s 0 0 (va_A [(a_ss, .inr (1, [.int sw, .int sh, .ref a_sr])), (a_sr, .inl (k_sr, sn, .inl sf)), (a_os, .inr (1, [.int ow, .int oh, .ref a_or])), (a_or, .inl (k_or, on, .inl of))] sz)) (F0 m 0 ls []) := by
    intro H locs hP hD hS
    refine lv_iconst (v := 0) hx hb dX1_copyFrom_0 (by decide) ?_
    refine lv_istore_n (lv' := [(2, .int 0), (0, .ref a_ss), (1, .ref a_os)]) hx hb dX1_copyFrom_1 rfl hl (by decide) rfl (fun ls hl => ?_)
    have af2 : ∀ (v2_2 : Int32) (f1_2 : Nat → Int32) (H : Heap) (locs : List Loc) (ls : Array Slot), (0 ≤ v2_2.toInt) → f_S_copyFrom_k2  (v2_2, f1_2) = F → va_P D vwCl [(a_ss, .inr (1, [.int sw, .int sh, .ref a_sr])), (a_sr, .inl (k_sr, sn, .inl f1_2)), (a_os, .inr (1, [.int ow, .int oh, .ref a_or])), (a_or, .inl (k_or, on, .inl of))] H → va_D (va_A [(a_ss, .inr (1, [.int sw, .int sh, .ref a_sr])), (a_sr, .inl (k_sr, sn, .inl sf)), (a_os, .inr (1, [.int ow, .int oh, .ref a_or])), (a_or, .inl (k_or, on, .inl of))] sz) [(a_ss, .inr (1, [.int sw, .int sh, .ref a_sr])), (a_sr, .inl (k_sr, sn, .inl f1_2)), (a_os, .inr (1, [.int ow, .int oh, .ref a_or])), (a_or, .inl (k_or, on, .inl of))] → va_S (va_A [(a_ss, .inr (1, [.int sw, .int sh, .ref a_sr])), (a_sr, .inl (k_sr, sn, .inl sf)), (a_os, .inr (1, [.int ow, .int oh, .ref a_or])), (a_or, .inl (k_or, on, .inl of))] sz) s.heap H locs → lv_has ls 3 [(2, .int v2_2), (0, .ref a_ss), (1, .ref a_os)] → W p l e { frames := 0, cells := 0, slots := 0, locals := 0 } s m (List.toArray [.ref a_ss, .ref a_os]) below meth c H locs 0 0 (MQ below (va_Qv (fun (u : (Nat → Int32)) => F = u) (fun (u : (Nat → Int32)) (t : State) => va_P D vwCl [(a_ss, .inr (1, [.int sw, .int sh, .ref a_sr])), (a_sr, .inl (k_sr, sn, .inl u)), (a_os, .inr (1, [.int ow, .int oh, .ref a_or])), (a_or, .inl (k_or, on, .inl of))] t.heap ∧ va_K D vwCl [(k_sr, .int), (k_or, .int)] t ∧ va_D (va_A [(a_ss, .inr (1, [.int sw, .int sh, .ref a_sr])), (a_sr, .inl (k_sr, sn, .inl sf)), (a_os, .inr (1, [.int ow, .int oh, .ref a_or])), (a_or, .inl (k_or, on, .inl of))] sz) [(a_ss, .inr (1, [.int sw, .int sh, .ref a_sr])), (a_sr, .inl (k_sr, sn, .inl u)), (a_os, .inr (1, [.int ow, .int oh, .ref a_or])), (a_or, .inl (k_or, on, .inl of))]) (va_A [(a_ss, .inr (1, [.int sw, .int sh, .ref a_sr])), (a_sr, .inl (k_sr, sn, .inl sf)), (a_os, .inr (1, [.int ow, .int oh, .ref a_or])), (a_or, .inl (k_or, on, .inl of))] sz)) (List.toArray [.ref a_ss, .ref a_os]) s 0 0 (va_A [(a_ss, .inr (1, [.int sw, .int sh, .ref a_sr])), (a_sr, .inl (k_sr, sn, .inl sf)), (a_os, .inr (1, [.int ow, .int oh, .ref a_or])), (a_or, .inl (k_or, on, .inl of))] sz)) (F0 m 38 ls []) := by
      intro v2_2 f1_2 H locs ls h_v2_2 hF hP hD hS hl
      rw [f_S_copyFrom_k2] at hF
      exact W.vret hx hb hr (fun t ht hW => ⟨⟨f1_2, rfl, hF.symm, by rw [ht]; exact hP, va_K.moved hW.alike hK, hD⟩, hS.F ht⟩) hS.2.2 dX1_copyFrom_38
    have lp2 : ∀ (n9 : Nat) (v2_2 : Int32) (f1_2 : Nat → Int32) (H : Heap) (locs : List Loc) (ls : Array Slot), (0 ≤ v2_2.toInt) → ((nI sn).toInt - v2_2.toInt).toNat < n9 → f_S_copyFrom_k2  (f_S_copyFrom_L2 sn on of n9 (v2_2, f1_2)) = F → va_P D vwCl [(a_ss, .inr (1, [.int sw, .int sh, .ref a_sr])), (a_sr, .inl (k_sr, sn, .inl f1_2)), (a_os, .inr (1, [.int ow, .int oh, .ref a_or])), (a_or, .inl (k_or, on, .inl of))] H → va_D (va_A [(a_ss, .inr (1, [.int sw, .int sh, .ref a_sr])), (a_sr, .inl (k_sr, sn, .inl sf)), (a_os, .inr (1, [.int ow, .int oh, .ref a_or])), (a_or, .inl (k_or, on, .inl of))] sz) [(a_ss, .inr (1, [.int sw, .int sh, .ref a_sr])), (a_sr, .inl (k_sr, sn, .inl f1_2)), (a_os, .inr (1, [.int ow, .int oh, .ref a_or])), (a_or, .inl (k_or, on, .inl of))] → va_S (va_A [(a_ss, .inr (1, [.int sw, .int sh, .ref a_sr])), (a_sr, .inl (k_sr, sn, .inl sf)), (a_os, .inr (1, [.int ow, .int oh, .ref a_or])), (a_or, .inl (k_or, on, .inl of))] sz) s.heap H locs → lv_has ls 3 [(2, .int v2_2), (0, .ref a_ss), (1, .ref a_os)] → W p l e { frames := 0, cells := 0, slots := 0, locals := 0 } s m (List.toArray [.ref a_ss, .ref a_os]) below meth c H locs 0 0 (MQ below (va_Qv (fun (u : (Nat → Int32)) => F = u) (fun (u : (Nat → Int32)) (t : State) => va_P D vwCl [(a_ss, .inr (1, [.int sw, .int sh, .ref a_sr])), (a_sr, .inl (k_sr, sn, .inl u)), (a_os, .inr (1, [.int ow, .int oh, .ref a_or])), (a_or, .inl (k_or, on, .inl of))] t.heap ∧ va_K D vwCl [(k_sr, .int), (k_or, .int)] t ∧ va_D (va_A [(a_ss, .inr (1, [.int sw, .int sh, .ref a_sr])), (a_sr, .inl (k_sr, sn, .inl sf)), (a_os, .inr (1, [.int ow, .int oh, .ref a_or])), (a_or, .inl (k_or, on, .inl of))] sz) [(a_ss, .inr (1, [.int sw, .int sh, .ref a_sr])), (a_sr, .inl (k_sr, sn, .inl u)), (a_os, .inr (1, [.int ow, .int oh, .ref a_or])), (a_or, .inl (k_or, on, .inl of))]) (va_A [(a_ss, .inr (1, [.int sw, .int sh, .ref a_sr])), (a_sr, .inl (k_sr, sn, .inl sf)), (a_os, .inr (1, [.int ow, .int oh, .ref a_or])), (a_or, .inl (k_or, on, .inl of))] sz)) (List.toArray [.ref a_ss, .ref a_os]) s 0 0 (va_A [(a_ss, .inr (1, [.int sw, .int sh, .ref a_sr])), (a_sr, .inl (k_sr, sn, .inl sf)), (a_os, .inr (1, [.int ow, .int oh, .ref a_or])), (a_or, .inl (k_or, on, .inl of))] sz)) (F0 m 2 ls []) := by
      intro n9
      induction n9 with
      | zero => intro v2_2 f1_2 H locs ls h_v2_2 hmu2; exact absurd hmu2 (Nat.not_lt_zero _)
      | succ n2 ih2 =>
        intro v2_2 f1_2 H locs ls h_v2_2 hmu2 hF hP hD hS hl
        rw [f_S_copyFrom_L2] at hF
        refine lv_iload_n hx hb dX1_copyFrom_2 rfl (lv_at hl 0 rfl) ?_
        refine lv_aload_n hx hb dX1_copyFrom_3 rfl (lv_at hl 1 rfl) ?_
        refine va_get (D := D) (ci := 1) (v := .ref a_sr) (C := RX1) (T := TX1) (N := 3) hx hb hta inX1 hown hK hP 0 rfl rfl 2 (by decide) (hta _ gw_49) (fun _ h9 => h9) rfl dX1_copyFrom_4 ?_
        refine va_alen hx hb hK hP 1 0 rfl rfl (v := nI sn) (rfl) dX1_copyFrom_7 ?_
        refine lv_icmp_ge (tgt := 38) hx hb dX1_copyFrom_8 (by decide) (fun c8 => ?_) (fun c8 => ?_)
        · rw [if_pos c8] at hF
          exact af2 v2_2 f1_2 _ _ ls (h_v2_2) hF hP hD hS (lv_sub hl [0, 1, 2] rfl)
        · rw [if_neg c8] at hF
          refine lv_iload_n hx hb dX1_copyFrom_11 rfl (lv_at hl 0 rfl) ?_
          refine lv_aload_n hx hb dX1_copyFrom_12 rfl (lv_at hl 2 rfl) ?_
          refine va_get (D := D) (ci := 1) (v := .ref a_or) (C := RX1) (T := TX1) (N := 3) hx hb hta inX1 hown hK hP 2 rfl rfl 2 (by decide) (hta _ gw_49) (fun _ h9 => h9) rfl dX1_copyFrom_13 ?_
          refine va_alen hx hb hK hP 3 1 rfl rfl (v := nI on) (rfl) dX1_copyFrom_16 ?_
          refine lv_icmp_ge (tgt := 38) hx hb dX1_copyFrom_17 (by decide) (fun c17 => ?_) (fun c17 => ?_)
          · rw [if_pos c17] at hF
            exact af2 v2_2 f1_2 _ _ ls (h_v2_2) hF hP hD hS (lv_sub hl [0, 1, 2] rfl)
          · rw [if_neg c17] at hF
            refine lv_aload_n hx hb dX1_copyFrom_20 rfl (lv_at hl 1 rfl) ?_
            refine va_get (D := D) (ci := 1) (v := .ref a_sr) (C := RX1) (T := TX1) (N := 3) hx hb hta inX1 hown hK hP 0 rfl rfl 2 (by decide) (hta _ gw_49) (fun _ h9 => h9) rfl dX1_copyFrom_21 ?_
            refine lv_iload_n hx hb dX1_copyFrom_24 rfl (lv_at hl 0 rfl) ?_
            refine lv_aload_n hx hb dX1_copyFrom_25 rfl (lv_at hl 2 rfl) ?_
            refine va_get (D := D) (ci := 1) (v := .ref a_or) (C := RX1) (T := TX1) (N := 3) hx hb hta inX1 hown hK hP 2 rfl rfl 2 (by decide) (hta _ gw_49) (fun _ h9 => h9) rfl dX1_copyFrom_26 ?_
            refine lv_iload_n hx hb dX1_copyFrom_29 rfl (lv_at hl 0 rfl) ?_
            refine va_iald hx hb hK hP 3 1 rfl rfl (i := v2_2) (vi_lt h_v2_2 c17 (by have := hso.2.2.1; omega)) dX1_copyFrom_30 ?_
            refine va_iast hx hb hK hP hD hS 1 0 rfl rfl (i := v2_2) (x := of v2_2.toNatClampNeg) (vi_lt h_v2_2 c8 (by have := hss.2.2.1; omega)) dX1_copyFrom_31 (fun H locs hP hD hS => ?_)
            have hP : va_P D vwCl [(a_ss, .inr (1, [.int sw, .int sh, .ref a_sr])), (a_sr, .inl (k_sr, sn, .inl (upd f1_2 v2_2.toNatClampNeg (of v2_2.toNatClampNeg)))), (a_os, .inr (1, [.int ow, .int oh, .ref a_or])), (a_or, .inl (k_or, on, .inl of))] H := hP
            have hD : va_D (va_A [(a_ss, .inr (1, [.int sw, .int sh, .ref a_sr])), (a_sr, .inl (k_sr, sn, .inl sf)), (a_os, .inr (1, [.int ow, .int oh, .ref a_or])), (a_or, .inl (k_or, on, .inl of))] sz) [(a_ss, .inr (1, [.int sw, .int sh, .ref a_sr])), (a_sr, .inl (k_sr, sn, .inl (upd f1_2 v2_2.toNatClampNeg (of v2_2.toNatClampNeg)))), (a_os, .inr (1, [.int ow, .int oh, .ref a_or])), (a_or, .inl (k_or, on, .inl of))] := hD
            refine lv_iinc (v := v2_2 + 1) (lv' := [(2, .int (v2_2 + 1)), (0, .ref a_ss), (1, .ref a_os)]) hx hb dX1_copyFrom_32 hl (k := 0) rfl rfl (by decide) rfl (fun ls hl => ?_)
            refine lv_goto (tgt := 2) hx hb dX1_copyFrom_35 (by decide) ?_
            exact ih2 (v2_2 + 1) (upd f1_2 v2_2.toNatClampNeg (of v2_2.toNatClampNeg)) _ _ ls (cz h_v2_2 c8) (lt_lt (cu c8) hmu2) hF hP hD hS (lv_sub hl [0, 1, 2] rfl)
    exact lp2 FU 0 sf _ _ ls (by decide) (fu_lt _ _) hF hP hD hS (lv_sub hl [0, 1, 2] rfl)
  exact hgo _ _ hP hD hS

def f_S_blackCount_k4  : Int32 × Int32 → Int32
  | (v2_4, v1_4) => v1_4
def f_S_blackCount_L4 (sn : Nat) (sf : Nat → Int32) : Nat → Int32 × Int32 → Int32 × Int32
  | 0, σ => σ
  | n9 + 1, (v2_4, v1_4) => (if (nI sn) ≤ v2_4 then (v2_4, v1_4) else ((f_S_blackCount_L4 sn sf n9) (v2_4 + 1, v1_4 + (f_bitCount (sf v2_4.toNatClampNeg)))))
def f_S_blackCount (sn : Nat) (sf : Nat → Int32) : Int32 := (f_S_blackCount_k4 (f_S_blackCount_L4 sn sf FU (0, 0)))
set_option maxHeartbeats 4000000 in
set_option maxRecDepth 100000 in
theorem c_S_blackCount (l : Launch) (D : va_G) (tX tY : Nat) (a_ss : Nat) (a_sr : Nat) (k_sr : ClassId) (sw : Int32) (sh : Int32) (sn : Nat) (sf : Nat → Int32) (hss : tsok sw sh sn) : Met l yX1_blackCount wX1_blackCount ({ frames := 1, cells := 0, slots := 0, locals := 20 }) (ro_P D tX tY [(k_sr, .int)] [(a_ss, .inr (1, [.int sw, .int sh, .ref a_sr])), (a_sr, .inl (k_sr, sn, .inl sf))] [.ref a_ss]) (k2_QcV (.int (f_S_blackCount sn sf))) 0 0 (fun _ => False) := by
  generalize hF : (f_S_blackCount sn sf) = F
  refine Met.ofW (cc := cX1_blackCount) (maxL := 3) (ret := (some .int)) (by decide) rfl ?_
  intro p e s m args below meth c s₁ B hml hv
  obtain ⟨rfl, hP, hK, hT, hN⟩ := hv
  have hx := B.exec
  have hb := B.bytes
  have hr := B.returns
  have hts := atoms_spec (ws := wX1_blackCount) B.pre
  have hta : ∀ w ∈ gw, w.before _ s = true := fun w h => hts w (List.mem_cons_of_mem _ h)
  have hown : s.vm.findClass RX1 = some m.cls := findClass_of_methodNamed B.named
  have hlocks := B.notSynchronized
  have hl := lv_entry [.ref a_ss] (n := 3) (Nat.le_of_ble_eq_true rfl)
  rw [lg_entry_eq]
  generalize (lg_sl [.ref a_ss] ++ List.replicate (3 - (lg_sl [.ref a_ss]).length) Slot.unset).toArray = ls at hl ⊢
  have hl : lv_has ls 3 [(0, .ref a_ss)] := hl
  rw [f_S_blackCount] at hF
  refine lv_iconst (v := 0) hx hb dX1_blackCount_0 (by decide) ?_
  refine lv_istore_n (lv' := [(1, .int 0), (0, .ref a_ss)]) hx hb dX1_blackCount_1 rfl hl (by decide) rfl (fun ls hl => ?_)
  refine lv_iconst (v := 0) hx hb dX1_blackCount_2 (by decide) ?_
  refine lv_istore_n (lv' := [(2, .int 0), (1, .int 0), (0, .ref a_ss)]) hx hb dX1_blackCount_3 rfl hl (by decide) rfl (fun ls hl => ?_)
  have af4 : ∀ (v2_4 : Int32) (v1_4 : Int32) (ls : Array Slot), (0 ≤ v2_4.toInt) → f_S_blackCount_k4  (v2_4, v1_4) = F → lv_has ls 3 [(2, .int v2_4), (1, .int v1_4), (0, .ref a_ss)] → W p l e { frames := 1, cells := 0, slots := 0, locals := 20 } s m (List.toArray [.ref a_ss]) below meth c s.heap [] 0 0 (MQ below (k2_QcV (.int F)) (List.toArray [.ref a_ss]) s 0 0 (fun _ => False)) (F0 m 31 ls []) := by
    intro v2_4 v1_4 ls h_v2_4 hF hl
    rw [f_S_blackCount_k4] at hF
    refine lv_iload_n hx hb dX1_blackCount_31 rfl (lv_at hl 1 rfl) ?_
    exact W.iret (v := v1_4) hx hb hr (fun t ht _ => ⟨by rw [← hF], ht⟩) (fun _ h => nomatch h) dX1_blackCount_32
  have lp4 : ∀ (n9 : Nat) (v2_4 : Int32) (v1_4 : Int32) (ls : Array Slot), (0 ≤ v2_4.toInt) → ((nI sn).toInt - v2_4.toInt).toNat < n9 → f_S_blackCount_k4  (f_S_blackCount_L4 sn sf n9 (v2_4, v1_4)) = F → lv_has ls 3 [(2, .int v2_4), (1, .int v1_4), (0, .ref a_ss)] → W p l e { frames := 1, cells := 0, slots := 0, locals := 20 } s m (List.toArray [.ref a_ss]) below meth c s.heap [] 0 0 (MQ below (k2_QcV (.int F)) (List.toArray [.ref a_ss]) s 0 0 (fun _ => False)) (F0 m 4 ls []) := by
    intro n9
    induction n9 with
    | zero => intro v2_4 v1_4 ls h_v2_4 hmu4; exact absurd hmu4 (Nat.not_lt_zero _)
    | succ n4 ih4 =>
      intro v2_4 v1_4 ls h_v2_4 hmu4 hF hl
      rw [f_S_blackCount_L4] at hF
      refine lv_iload_n hx hb dX1_blackCount_4 rfl (lv_at hl 0 rfl) ?_
      refine lv_aload_n hx hb dX1_blackCount_5 rfl (lv_at hl 2 rfl) ?_
      refine va_get (D := D) (ci := 1) (v := .ref a_sr) (C := RX1) (T := TX1) (N := 3) hx hb hta inX1 hown hK hP 0 rfl rfl 2 (by decide) (hta _ gw_49) (fun _ h9 => h9) rfl dX1_blackCount_6 ?_
      refine va_alen hx hb hK hP 1 0 rfl rfl (v := nI sn) (rfl) dX1_blackCount_9 ?_
      refine lv_icmp_ge (tgt := 31) hx hb dX1_blackCount_10 (by decide) (fun c10 => ?_) (fun c10 => ?_)
      · rw [if_pos c10] at hF
        exact af4 v2_4 v1_4 ls (h_v2_4) hF (lv_sub hl [0, 1, 2] rfl)
      · rw [if_neg c10] at hF
        refine lv_iload_n hx hb dX1_blackCount_13 rfl (lv_at hl 1 rfl) ?_
        refine lv_aload_n hx hb dX1_blackCount_14 rfl (lv_at hl 2 rfl) ?_
        refine va_get (D := D) (ci := 1) (v := .ref a_sr) (C := RX1) (T := TX1) (N := 3) hx hb hta inX1 hown hK hP 0 rfl rfl 2 (by decide) (hta _ gw_49) (fun _ h9 => h9) rfl dX1_blackCount_15 ?_
        refine lv_iload_n hx hb dX1_blackCount_18 rfl (lv_at hl 0 rfl) ?_
        refine va_iald hx hb hK hP 1 0 rfl rfl (i := v2_4) (vi_lt h_v2_4 c10 (by have := hss.2.2.1; omega)) dX1_blackCount_19 ?_
        refine ro_go (va_runS (As := [.int (sf v2_4.toNatClampNeg)]) (rest := [.int v1_4]) ⟨hx, hb, hml, hown, hts⟩ (c_bitCount l D tX tY (sf v2_4.toNatClampNeg)) (va_cwS 1 hts (gi_3 gi_c gw_321 gw_181 gw_12 gw_182) rfl rfl rfl (by decide +kernel) ⟨Nat.le_of_ble_eq_true rfl, Nat.le_of_ble_eq_true rfl⟩) ⟨ro_blind, ro_at hP hK hT hN va_S.rf [] [] rfl rfl⟩ rfl rfl hl.1 rfl (lv_room (Nat.le_of_ble_eq_true rfl)) dX1_blackCount_20 ⟨Nat.le_of_ble_eq_true rfl, Nat.le_of_ble_eq_true rfl⟩) ?_
        refine lv_iadd hx hb dX1_blackCount_23 ?_
        refine lv_istore_n (lv' := [(1, .int (v1_4 + (f_bitCount (sf v2_4.toNatClampNeg)))), (2, .int v2_4), (0, .ref a_ss)]) hx hb dX1_blackCount_24 rfl hl (by decide) rfl (fun ls hl => ?_)
        refine lv_iinc (v := v2_4 + 1) (lv' := [(2, .int (v2_4 + 1)), (1, .int (v1_4 + (f_bitCount (sf v2_4.toNatClampNeg)))), (0, .ref a_ss)]) hx hb dX1_blackCount_25 hl (k := 1) rfl rfl (by decide) rfl (fun ls hl => ?_)
        refine lv_goto (tgt := 4) hx hb dX1_blackCount_28 (by decide) ?_
        exact ih4 (v2_4 + 1) (v1_4 + (f_bitCount (sf v2_4.toNatClampNeg))) ls (cz h_v2_4 c10) (lt_lt (cu c10) hmu4) hF (lv_sub hl [0, 1, 2] rfl)
  exact lp4 FU 0 0 ls (by decide) (fu_lt _ _) hF (lv_sub hl [0, 1, 2] rfl)

def f_S_linksAt_k24  : Int32 × Int32 → Int32
  | (v5_24, v4_24) => v4_24
def f_S_linksAt_L24 (rnd : Int32) : Nat → Int32 × Int32 → Int32 × Int32
  | 0, σ => σ
  | n9 + 1, (v5_24, v4_24) => (if 8 ≤ v5_24 then (v5_24, v4_24) else (if (v5_24 &&& 1) = 0 then (if (f_hasBit rnd v5_24) = 0 then ((f_S_linksAt_L24 rnd n9) (v5_24 + 1, v4_24)) else ((f_S_linksAt_L24 rnd n9) (v5_24 + 1, v4_24 ||| (1 <<< (v5_24 &&& 31))))) else (if (f_hasBit rnd (v5_24 - 1)) = 0 then (if (f_hasBit rnd (v5_24 + 1)) = 0 then (if (f_hasBit rnd v5_24) = 0 then ((f_S_linksAt_L24 rnd n9) (v5_24 + 1, v4_24)) else ((f_S_linksAt_L24 rnd n9) (v5_24 + 1, v4_24 ||| (1 <<< (v5_24 &&& 31))))) else (if (f_hasBit rnd v5_24) = 0 then ((f_S_linksAt_L24 rnd n9) (v5_24 + 1, v4_24)) else ((f_S_linksAt_L24 rnd n9) (v5_24 + 1, v4_24)))) else (if (f_hasBit rnd v5_24) = 0 then ((f_S_linksAt_L24 rnd n9) (v5_24 + 1, v4_24)) else ((f_S_linksAt_L24 rnd n9) (v5_24 + 1, v4_24))))))
def f_S_linksAt_t17 (rnd : Int32) : Int32 := (f_S_linksAt_k24 (f_S_linksAt_L24 rnd FU (0, 0)))
def f_S_linksAt (sw : Int32) (sh : Int32) (sf : Nat → Int32) (px : Int32) (py : Int32) : Int32 := (if (f_S_isBlack sw sh sf px py) = 0 then 0 else (f_S_linksAt_t17 (f_S_blackRound sw sh sf px py)))
set_option maxHeartbeats 4000000 in
set_option maxRecDepth 100000 in
theorem c_S_linksAt (l : Launch) (D : va_G) (tX tY : Nat) (a_ss : Nat) (a_sr : Nat) (k_sr : ClassId) (sw : Int32) (sh : Int32) (sn : Nat) (sf : Nat → Int32) (px : Int32) (py : Int32) (hss : tsok sw sh sn) : Met l yX1_linksAt wX1_linksAt ({ frames := 3, cells := 0, slots := 0, locals := 68 }) (ro_P D tX tY [(k_sr, .int)] [(a_ss, .inr (1, [.int sw, .int sh, .ref a_sr])), (a_sr, .inl (k_sr, sn, .inl sf))] [.ref a_ss, .int px, .int py]) (k2_QcV (.int (f_S_linksAt sw sh sf px py))) 0 0 (fun _ => False) := by
  generalize hF : (f_S_linksAt sw sh sf px py) = F
  refine Met.ofW (cc := cX1_linksAt) (maxL := 8) (ret := (some .int)) (by decide) rfl ?_
  intro p e s m args below meth c s₁ B hml hv
  obtain ⟨rfl, hP, hK, hT, hN⟩ := hv
  have hx := B.exec
  have hb := B.bytes
  have hr := B.returns
  have hts := atoms_spec (ws := wX1_linksAt) B.pre
  have hta : ∀ w ∈ gw, w.before _ s = true := fun w h => hts w (List.mem_cons_of_mem _ h)
  have hown : s.vm.findClass RX1 = some m.cls := findClass_of_methodNamed B.named
  have hlocks := B.notSynchronized
  have hl := lv_entry [.ref a_ss, .int px, .int py] (n := 8) (Nat.le_of_ble_eq_true rfl)
  rw [lg_entry_eq]
  generalize (lg_sl [.ref a_ss, .int px, .int py] ++ List.replicate (8 - (lg_sl [.ref a_ss, .int px, .int py]).length) Slot.unset).toArray = ls at hl ⊢
  have hl : lv_has ls 8 [(0, .ref a_ss), (1, .int px), (2, .int py)] := hl
  rw [f_S_linksAt] at hF
  refine lv_aload_n hx hb dX1_linksAt_0 rfl (lv_at hl 0 rfl) ?_
  refine lv_iload_n hx hb dX1_linksAt_1 rfl (lv_at hl 1 rfl) ?_
  refine lv_iload_n hx hb dX1_linksAt_2 rfl (lv_at hl 2 rfl) ?_
  refine ro_go (va_runV (As := [.int px, .int py]) (rest := []) ⟨hx, hb, hml, hown, hts⟩ (c_S_isBlack l D tX tY a_ss a_sr k_sr sw sh sn sf px py (hss)) (cwV 2 hts (gi_4 gi_c gw_173 gw_158 gw_159 gw_3 gw_160) rfl rfl rfl (by decide +kernel) ⟨Nat.le_of_ble_eq_true rfl, Nat.le_of_ble_eq_true rfl⟩) ⟨ro_blind, va_recv hK hP (ci := 1) (q0 := 0) rfl rfl, ro_at hP hK hT hN va_S.rf [0, 1] [0] rfl rfl⟩ rfl rfl hl.1 rfl (lv_room (Nat.le_of_ble_eq_true rfl)) dX1_linksAt_3 ⟨Nat.le_of_ble_eq_true rfl, Nat.le_of_ble_eq_true rfl⟩) ?_
  refine lv_if_ne (tgt := 11) hx hb dX1_linksAt_6 (by decide) (fun c6 => ?_) (fun c6 => ?_)
  · rw [if_neg c6] at hF
    refine lv_aload_n hx hb dX1_linksAt_11 rfl (lv_at hl 0 rfl) ?_
    refine lv_iload_n hx hb dX1_linksAt_12 rfl (lv_at hl 1 rfl) ?_
    refine lv_iload_n hx hb dX1_linksAt_13 rfl (lv_at hl 2 rfl) ?_
    refine ro_go (va_runV (As := [.int px, .int py]) (rest := []) ⟨hx, hb, hml, hown, hts⟩ (c_S_blackRound l D tX tY a_ss a_sr k_sr sw sh sn sf px py (hss)) (cwV 2 hts (gi_4 gi_c gw_216 gw_166 gw_167 gw_3 gw_168) rfl rfl rfl (by decide +kernel) ⟨Nat.le_of_ble_eq_true rfl, Nat.le_of_ble_eq_true rfl⟩) ⟨ro_blind, va_recv hK hP (ci := 1) (q0 := 0) rfl rfl, ro_at hP hK hT hN va_S.rf [0, 1] [0] rfl rfl⟩ rfl rfl hl.1 rfl (lv_room (Nat.le_of_ble_eq_true rfl)) dX1_linksAt_14 ⟨Nat.le_of_ble_eq_true rfl, Nat.le_of_ble_eq_true rfl⟩) ?_
    refine lv_topi (fun rnd e_rnd => ?_)
    have e_rnd : rnd = (f_S_blackRound sw sh sf px py) := e_rnd
    rw [← e_rnd] at hF
    rw [f_S_linksAt_t17] at hF
    refine lv_istore_n (lv' := [(3, .int rnd), (0, .ref a_ss), (1, .int px), (2, .int py)]) hx hb dX1_linksAt_17 rfl hl (by decide) rfl (fun ls hl => ?_)
    refine lv_iconst (v := 0) hx hb dX1_linksAt_18 (by decide) ?_
    refine lv_istore (lv' := [(4, .int 0), (3, .int rnd), (0, .ref a_ss), (1, .int px), (2, .int py)]) hx hb dX1_linksAt_19 hl (by decide) rfl (fun ls hl => ?_)
    refine lv_iconst (v := 0) hx hb dX1_linksAt_21 (by decide) ?_
    refine lv_istore (lv' := [(5, .int 0), (4, .int 0), (3, .int rnd), (0, .ref a_ss), (1, .int px), (2, .int py)]) hx hb dX1_linksAt_22 hl (by decide) rfl (fun ls hl => ?_)
    have af24 : ∀ (v5_24 : Int32) (v4_24 : Int32) (ls : Array Slot), f_S_linksAt_k24  (v5_24, v4_24) = F → lv_has ls 8 [(5, .int v5_24), (4, .int v4_24), (3, .int rnd), (0, .ref a_ss), (1, .int px), (2, .int py)] → W p l e { frames := 3, cells := 0, slots := 0, locals := 68 } s m (List.toArray [.ref a_ss, .int px, .int py]) below meth c s.heap [] 0 0 (MQ below (k2_QcV (.int F)) (List.toArray [.ref a_ss, .int px, .int py]) s 0 0 (fun _ => False)) (F0 m 108 ls []) := by
      intro v5_24 v4_24 ls hF hl
      rw [f_S_linksAt_k24] at hF
      refine lv_iload hx hb dX1_linksAt_108 (lv_at hl 1 rfl) ?_
      exact W.iret (v := v4_24) hx hb hr (fun t ht _ => ⟨by rw [← hF], ht⟩) (fun _ h => nomatch h) dX1_linksAt_110
    have lp24 : ∀ (n9 : Nat) (v5_24 : Int32) (v4_24 : Int32) (ls : Array Slot), ((8 : Int32).toInt - v5_24.toInt).toNat < n9 → f_S_linksAt_k24  (f_S_linksAt_L24 rnd n9 (v5_24, v4_24)) = F → lv_has ls 8 [(5, .int v5_24), (4, .int v4_24), (3, .int rnd), (0, .ref a_ss), (1, .int px), (2, .int py)] → W p l e { frames := 3, cells := 0, slots := 0, locals := 68 } s m (List.toArray [.ref a_ss, .int px, .int py]) below meth c s.heap [] 0 0 (MQ below (k2_QcV (.int F)) (List.toArray [.ref a_ss, .int px, .int py]) s 0 0 (fun _ => False)) (F0 m 24 ls []) := by
      intro n9
      induction n9 with
      | zero => intro v5_24 v4_24 ls hmu24; exact absurd hmu24 (Nat.not_lt_zero _)
      | succ n24 ih24 =>
        intro v5_24 v4_24 ls hmu24 hF hl
        rw [f_S_linksAt_L24] at hF
        refine lv_iload hx hb dX1_linksAt_24 (lv_at hl 0 rfl) ?_
        refine lv_bipush (v := 8) hx hb dX1_linksAt_26 (by decide) ?_
        refine lv_icmp_ge (tgt := 108) hx hb dX1_linksAt_28 (by decide) (fun c28 => ?_) (fun c28 => ?_)
        · rw [if_pos c28] at hF
          exact af24 v5_24 v4_24 ls hF (lv_sub hl [0, 1, 2, 3, 4, 5] rfl)
        · rw [if_neg c28] at hF
          refine lv_iload hx hb dX1_linksAt_31 (lv_at hl 0 rfl) ?_
          refine lv_iconst (v := 1) hx hb dX1_linksAt_33 (by decide) ?_
          refine lv_iand hx hb dX1_linksAt_34 ?_
          refine lv_if_eq (tgt := 42) hx hb dX1_linksAt_35 (by decide) (fun c35 => ?_) (fun c35 => ?_)
          · rw [if_pos c35] at hF
            refine lv_iconst (v := 0) hx hb dX1_linksAt_42 (by decide) ?_
            refine lv_istore (lv' := [(6, .int 0), (5, .int v5_24), (4, .int v4_24), (3, .int rnd), (0, .ref a_ss), (1, .int px), (2, .int py)]) hx hb dX1_linksAt_43 hl (by decide) rfl (fun ls hl => ?_)
            refine lv_iload hx hb dX1_linksAt_45 (lv_at hl 0 rfl) ?_
            refine lv_if_eq (tgt := 76) hx hb dX1_linksAt_47 (by decide) (fun _ => ?_) (fun c9 => absurd c9 (by decide))
            refine lv_iconst (v := 0) hx hb dX1_linksAt_76 (by decide) ?_
            refine lv_istore (lv' := [(7, .int 0), (6, .int 0), (5, .int v5_24), (4, .int v4_24), (3, .int rnd), (0, .ref a_ss), (1, .int px), (2, .int py)]) hx hb dX1_linksAt_77 hl (by decide) rfl (fun ls hl => ?_)
            refine lv_iload_n hx hb dX1_linksAt_79 rfl (lv_at hl 4 rfl) ?_
            refine lv_iload hx hb dX1_linksAt_80 (lv_at hl 2 rfl) ?_
            refine ro_go (va_runSN (As := [.int rnd, .int v5_24]) (rest := []) ⟨hx, hb, hml, hown, hts⟩ (c_hasBit l D tX tY rnd v5_24) ⟨va_cnB 2 hts (gi gw_176) rfl rfl rfl (gn_217 hN) (hta _ gw_1) (by decide +kernel) ⟨Nat.le_of_ble_eq_true rfl, Nat.le_of_ble_eq_true rfl⟩, hta _ gw_175, trivial⟩ ⟨ro_blind, ro_at hP hK hT hN va_S.rf [] [] rfl rfl⟩ rfl rfl hl.1 rfl (lv_room (Nat.le_of_ble_eq_true rfl)) dX1_linksAt_82 ⟨Nat.le_of_ble_eq_true rfl, Nat.le_of_ble_eq_true rfl⟩) ?_
            refine lv_if_eq (tgt := 102) hx hb dX1_linksAt_85 (by decide) (fun c85 => ?_) (fun c85 => ?_)
            · rw [if_pos c85] at hF
              refine lv_iinc (v := v5_24 + 1) (lv' := [(5, .int (v5_24 + 1)), (7, .int 0), (6, .int 0), (4, .int v4_24), (3, .int rnd), (0, .ref a_ss), (1, .int px), (2, .int py)]) hx hb dX1_linksAt_102 hl (k := 2) rfl rfl (by decide) rfl (fun ls hl => ?_)
              refine lv_goto (tgt := 24) hx hb dX1_linksAt_105 (by decide) ?_
              exact ih24 (v5_24 + 1) v4_24 ls (lt_lt (cu c28) hmu24) hF (lv_sub hl [0, 3, 4, 5, 6, 7] rfl)
            · rw [if_neg c85] at hF
              refine lv_iload hx hb dX1_linksAt_88 (lv_at hl 0 rfl) ?_
              refine lv_if_ne (tgt := 102) hx hb dX1_linksAt_90 (by decide) (fun c9 => absurd c9 (by decide)) (fun _ => ?_)
              refine lv_iload hx hb dX1_linksAt_93 (lv_at hl 3 rfl) ?_
              refine lv_iconst (v := 1) hx hb dX1_linksAt_95 (by decide) ?_
              refine lv_iload hx hb dX1_linksAt_96 (lv_at hl 2 rfl) ?_
              refine lv_ishl hx hb dX1_linksAt_98 ?_
              refine lv_ior hx hb dX1_linksAt_99 ?_
              refine lv_istore (lv' := [(4, .int (v4_24 ||| (1 <<< (v5_24 &&& 31)))), (7, .int 0), (6, .int 0), (5, .int v5_24), (3, .int rnd), (0, .ref a_ss), (1, .int px), (2, .int py)]) hx hb dX1_linksAt_100 hl (by decide) rfl (fun ls hl => ?_)
              refine lv_iinc (v := v5_24 + 1) (lv' := [(5, .int (v5_24 + 1)), (4, .int (v4_24 ||| (1 <<< (v5_24 &&& 31)))), (7, .int 0), (6, .int 0), (3, .int rnd), (0, .ref a_ss), (1, .int px), (2, .int py)]) hx hb dX1_linksAt_102 hl (k := 3) rfl rfl (by decide) rfl (fun ls hl => ?_)
              refine lv_goto (tgt := 24) hx hb dX1_linksAt_105 (by decide) ?_
              exact ih24 (v5_24 + 1) (v4_24 ||| (1 <<< (v5_24 &&& 31))) ls (lt_lt (cu c28) hmu24) hF (lv_sub hl [0, 1, 4, 5, 6, 7] rfl)
          · rw [if_neg c35] at hF
            refine lv_iconst (v := 1) hx hb dX1_linksAt_38 (by decide) ?_
            refine lv_goto (tgt := 43) hx hb dX1_linksAt_39 (by decide) ?_
            refine lv_istore (lv' := [(6, .int 1), (5, .int v5_24), (4, .int v4_24), (3, .int rnd), (0, .ref a_ss), (1, .int px), (2, .int py)]) hx hb dX1_linksAt_43 hl (by decide) rfl (fun ls hl => ?_)
            refine lv_iload hx hb dX1_linksAt_45 (lv_at hl 0 rfl) ?_
            refine lv_if_eq (tgt := 76) hx hb dX1_linksAt_47 (by decide) (fun c9 => absurd c9 (by decide)) (fun _ => ?_)
            refine lv_iload_n hx hb dX1_linksAt_50 rfl (lv_at hl 3 rfl) ?_
            refine lv_iload hx hb dX1_linksAt_51 (lv_at hl 1 rfl) ?_
            refine lv_iconst (v := 1) hx hb dX1_linksAt_53 (by decide) ?_
            refine lv_isub hx hb dX1_linksAt_54 ?_
            refine ro_go (va_runSN (As := [.int rnd, .int (v5_24 - 1)]) (rest := []) ⟨hx, hb, hml, hown, hts⟩ (c_hasBit l D tX tY rnd (v5_24 - 1)) ⟨va_cnB 2 hts (gi gw_176) rfl rfl rfl (gn_217 hN) (hta _ gw_1) (by decide +kernel) ⟨Nat.le_of_ble_eq_true rfl, Nat.le_of_ble_eq_true rfl⟩, hta _ gw_175, trivial⟩ ⟨ro_blind, ro_at hP hK hT hN va_S.rf [] [] rfl rfl⟩ rfl rfl hl.1 rfl (lv_room (Nat.le_of_ble_eq_true rfl)) dX1_linksAt_55 ⟨Nat.le_of_ble_eq_true rfl, Nat.le_of_ble_eq_true rfl⟩) ?_
            refine lv_if_ne (tgt := 72) hx hb dX1_linksAt_58 (by decide) (fun c58 => ?_) (fun c58 => ?_)
            · rw [if_neg c58] at hF
              refine lv_iconst (v := 1) hx hb dX1_linksAt_72 (by decide) ?_
              refine lv_goto (tgt := 77) hx hb dX1_linksAt_73 (by decide) ?_
              refine lv_istore (lv' := [(7, .int 1), (6, .int 1), (5, .int v5_24), (4, .int v4_24), (3, .int rnd), (0, .ref a_ss), (1, .int px), (2, .int py)]) hx hb dX1_linksAt_77 hl (by decide) rfl (fun ls hl => ?_)
              refine lv_iload_n hx hb dX1_linksAt_79 rfl (lv_at hl 4 rfl) ?_
              refine lv_iload hx hb dX1_linksAt_80 (lv_at hl 2 rfl) ?_
              refine ro_go (va_runSN (As := [.int rnd, .int v5_24]) (rest := []) ⟨hx, hb, hml, hown, hts⟩ (c_hasBit l D tX tY rnd v5_24) ⟨va_cnB 2 hts (gi gw_176) rfl rfl rfl (gn_217 hN) (hta _ gw_1) (by decide +kernel) ⟨Nat.le_of_ble_eq_true rfl, Nat.le_of_ble_eq_true rfl⟩, hta _ gw_175, trivial⟩ ⟨ro_blind, ro_at hP hK hT hN va_S.rf [] [] rfl rfl⟩ rfl rfl hl.1 rfl (lv_room (Nat.le_of_ble_eq_true rfl)) dX1_linksAt_82 ⟨Nat.le_of_ble_eq_true rfl, Nat.le_of_ble_eq_true rfl⟩) ?_
              refine lv_if_eq (tgt := 102) hx hb dX1_linksAt_85 (by decide) (fun c85 => ?_) (fun c85 => ?_)
              · rw [if_pos c85] at hF
                refine lv_iinc (v := v5_24 + 1) (lv' := [(5, .int (v5_24 + 1)), (7, .int 1), (6, .int 1), (4, .int v4_24), (3, .int rnd), (0, .ref a_ss), (1, .int px), (2, .int py)]) hx hb dX1_linksAt_102 hl (k := 2) rfl rfl (by decide) rfl (fun ls hl => ?_)
                refine lv_goto (tgt := 24) hx hb dX1_linksAt_105 (by decide) ?_
                exact ih24 (v5_24 + 1) v4_24 ls (lt_lt (cu c28) hmu24) hF (lv_sub hl [0, 3, 4, 5, 6, 7] rfl)
              · rw [if_neg c85] at hF
                refine lv_iload hx hb dX1_linksAt_88 (lv_at hl 0 rfl) ?_
                refine lv_if_ne (tgt := 102) hx hb dX1_linksAt_90 (by decide) (fun _ => ?_) (fun c9 => absurd c9 (by decide))
                refine lv_iinc (v := v5_24 + 1) (lv' := [(5, .int (v5_24 + 1)), (7, .int 1), (6, .int 1), (4, .int v4_24), (3, .int rnd), (0, .ref a_ss), (1, .int px), (2, .int py)]) hx hb dX1_linksAt_102 hl (k := 2) rfl rfl (by decide) rfl (fun ls hl => ?_)
                refine lv_goto (tgt := 24) hx hb dX1_linksAt_105 (by decide) ?_
                exact ih24 (v5_24 + 1) v4_24 ls (lt_lt (cu c28) hmu24) hF (lv_sub hl [0, 3, 4, 5, 6, 7] rfl)
            · rw [if_pos c58] at hF
              refine lv_iload_n hx hb dX1_linksAt_61 rfl (lv_at hl 3 rfl) ?_
              refine lv_iload hx hb dX1_linksAt_62 (lv_at hl 1 rfl) ?_
              refine lv_iconst (v := 1) hx hb dX1_linksAt_64 (by decide) ?_
              refine lv_iadd hx hb dX1_linksAt_65 ?_
              refine ro_go (va_runSN (As := [.int rnd, .int (v5_24 + 1)]) (rest := []) ⟨hx, hb, hml, hown, hts⟩ (c_hasBit l D tX tY rnd (v5_24 + 1)) ⟨va_cnB 2 hts (gi gw_176) rfl rfl rfl (gn_217 hN) (hta _ gw_1) (by decide +kernel) ⟨Nat.le_of_ble_eq_true rfl, Nat.le_of_ble_eq_true rfl⟩, hta _ gw_175, trivial⟩ ⟨ro_blind, ro_at hP hK hT hN va_S.rf [] [] rfl rfl⟩ rfl rfl hl.1 rfl (lv_room (Nat.le_of_ble_eq_true rfl)) dX1_linksAt_66 ⟨Nat.le_of_ble_eq_true rfl, Nat.le_of_ble_eq_true rfl⟩) ?_
              refine lv_if_eq (tgt := 76) hx hb dX1_linksAt_69 (by decide) (fun c69 => ?_) (fun c69 => ?_)
              · rw [if_pos c69] at hF
                refine lv_iconst (v := 0) hx hb dX1_linksAt_76 (by decide) ?_
                refine lv_istore (lv' := [(7, .int 0), (6, .int 1), (5, .int v5_24), (4, .int v4_24), (3, .int rnd), (0, .ref a_ss), (1, .int px), (2, .int py)]) hx hb dX1_linksAt_77 hl (by decide) rfl (fun ls hl => ?_)
                refine lv_iload_n hx hb dX1_linksAt_79 rfl (lv_at hl 4 rfl) ?_
                refine lv_iload hx hb dX1_linksAt_80 (lv_at hl 2 rfl) ?_
                refine ro_go (va_runSN (As := [.int rnd, .int v5_24]) (rest := []) ⟨hx, hb, hml, hown, hts⟩ (c_hasBit l D tX tY rnd v5_24) ⟨va_cnB 2 hts (gi gw_176) rfl rfl rfl (gn_217 hN) (hta _ gw_1) (by decide +kernel) ⟨Nat.le_of_ble_eq_true rfl, Nat.le_of_ble_eq_true rfl⟩, hta _ gw_175, trivial⟩ ⟨ro_blind, ro_at hP hK hT hN va_S.rf [] [] rfl rfl⟩ rfl rfl hl.1 rfl (lv_room (Nat.le_of_ble_eq_true rfl)) dX1_linksAt_82 ⟨Nat.le_of_ble_eq_true rfl, Nat.le_of_ble_eq_true rfl⟩) ?_
                refine lv_if_eq (tgt := 102) hx hb dX1_linksAt_85 (by decide) (fun c85 => ?_) (fun c85 => ?_)
                · rw [if_pos c85] at hF
                  refine lv_iinc (v := v5_24 + 1) (lv' := [(5, .int (v5_24 + 1)), (7, .int 0), (6, .int 1), (4, .int v4_24), (3, .int rnd), (0, .ref a_ss), (1, .int px), (2, .int py)]) hx hb dX1_linksAt_102 hl (k := 2) rfl rfl (by decide) rfl (fun ls hl => ?_)
                  refine lv_goto (tgt := 24) hx hb dX1_linksAt_105 (by decide) ?_
                  exact ih24 (v5_24 + 1) v4_24 ls (lt_lt (cu c28) hmu24) hF (lv_sub hl [0, 3, 4, 5, 6, 7] rfl)
                · rw [if_neg c85] at hF
                  refine lv_iload hx hb dX1_linksAt_88 (lv_at hl 0 rfl) ?_
                  refine lv_if_ne (tgt := 102) hx hb dX1_linksAt_90 (by decide) (fun c9 => absurd c9 (by decide)) (fun _ => ?_)
                  refine lv_iload hx hb dX1_linksAt_93 (lv_at hl 3 rfl) ?_
                  refine lv_iconst (v := 1) hx hb dX1_linksAt_95 (by decide) ?_
                  refine lv_iload hx hb dX1_linksAt_96 (lv_at hl 2 rfl) ?_
                  refine lv_ishl hx hb dX1_linksAt_98 ?_
                  refine lv_ior hx hb dX1_linksAt_99 ?_
                  refine lv_istore (lv' := [(4, .int (v4_24 ||| (1 <<< (v5_24 &&& 31)))), (7, .int 0), (6, .int 1), (5, .int v5_24), (3, .int rnd), (0, .ref a_ss), (1, .int px), (2, .int py)]) hx hb dX1_linksAt_100 hl (by decide) rfl (fun ls hl => ?_)
                  refine lv_iinc (v := v5_24 + 1) (lv' := [(5, .int (v5_24 + 1)), (4, .int (v4_24 ||| (1 <<< (v5_24 &&& 31)))), (7, .int 0), (6, .int 1), (3, .int rnd), (0, .ref a_ss), (1, .int px), (2, .int py)]) hx hb dX1_linksAt_102 hl (k := 3) rfl rfl (by decide) rfl (fun ls hl => ?_)
                  refine lv_goto (tgt := 24) hx hb dX1_linksAt_105 (by decide) ?_
                  exact ih24 (v5_24 + 1) (v4_24 ||| (1 <<< (v5_24 &&& 31))) ls (lt_lt (cu c28) hmu24) hF (lv_sub hl [0, 1, 4, 5, 6, 7] rfl)
              · rw [if_neg c69] at hF
                refine lv_iconst (v := 1) hx hb dX1_linksAt_72 (by decide) ?_
                refine lv_goto (tgt := 77) hx hb dX1_linksAt_73 (by decide) ?_
                refine lv_istore (lv' := [(7, .int 1), (6, .int 1), (5, .int v5_24), (4, .int v4_24), (3, .int rnd), (0, .ref a_ss), (1, .int px), (2, .int py)]) hx hb dX1_linksAt_77 hl (by decide) rfl (fun ls hl => ?_)
                refine lv_iload_n hx hb dX1_linksAt_79 rfl (lv_at hl 4 rfl) ?_
                refine lv_iload hx hb dX1_linksAt_80 (lv_at hl 2 rfl) ?_
                refine ro_go (va_runSN (As := [.int rnd, .int v5_24]) (rest := []) ⟨hx, hb, hml, hown, hts⟩ (c_hasBit l D tX tY rnd v5_24) ⟨va_cnB 2 hts (gi gw_176) rfl rfl rfl (gn_217 hN) (hta _ gw_1) (by decide +kernel) ⟨Nat.le_of_ble_eq_true rfl, Nat.le_of_ble_eq_true rfl⟩, hta _ gw_175, trivial⟩ ⟨ro_blind, ro_at hP hK hT hN va_S.rf [] [] rfl rfl⟩ rfl rfl hl.1 rfl (lv_room (Nat.le_of_ble_eq_true rfl)) dX1_linksAt_82 ⟨Nat.le_of_ble_eq_true rfl, Nat.le_of_ble_eq_true rfl⟩) ?_
                refine lv_if_eq (tgt := 102) hx hb dX1_linksAt_85 (by decide) (fun c85 => ?_) (fun c85 => ?_)
                · rw [if_pos c85] at hF
                  refine lv_iinc (v := v5_24 + 1) (lv' := [(5, .int (v5_24 + 1)), (7, .int 1), (6, .int 1), (4, .int v4_24), (3, .int rnd), (0, .ref a_ss), (1, .int px), (2, .int py)]) hx hb dX1_linksAt_102 hl (k := 2) rfl rfl (by decide) rfl (fun ls hl => ?_)
                  refine lv_goto (tgt := 24) hx hb dX1_linksAt_105 (by decide) ?_
                  exact ih24 (v5_24 + 1) v4_24 ls (lt_lt (cu c28) hmu24) hF (lv_sub hl [0, 3, 4, 5, 6, 7] rfl)
                · rw [if_neg c85] at hF
                  refine lv_iload hx hb dX1_linksAt_88 (lv_at hl 0 rfl) ?_
                  refine lv_if_ne (tgt := 102) hx hb dX1_linksAt_90 (by decide) (fun _ => ?_) (fun c9 => absurd c9 (by decide))
                  refine lv_iinc (v := v5_24 + 1) (lv' := [(5, .int (v5_24 + 1)), (7, .int 1), (6, .int 1), (4, .int v4_24), (3, .int rnd), (0, .ref a_ss), (1, .int px), (2, .int py)]) hx hb dX1_linksAt_102 hl (k := 2) rfl rfl (by decide) rfl (fun ls hl => ?_)
                  refine lv_goto (tgt := 24) hx hb dX1_linksAt_105 (by decide) ?_
                  exact ih24 (v5_24 + 1) v4_24 ls (lt_lt (cu c28) hmu24) hF (lv_sub hl [0, 3, 4, 5, 6, 7] rfl)
    exact lp24 FU 0 0 ls (fu_lt _ _) hF (lv_sub hl [0, 1, 2, 3, 4, 5] rfl)
  · rw [if_pos c6] at hF
    refine lv_iconst (v := 0) hx hb dX1_linksAt_9 (by decide) ?_
    exact W.iret (v := 0) hx hb hr (fun t ht _ => ⟨by rw [← hF], ht⟩) (fun _ h => nomatch h) dX1_linksAt_10

def f_S_nearestWhite2_k49  : Int32 × Int32 → Int64
  | (v5_49, v4_49) => v4_49.toInt64
def f_S_nearestWhite2_k60 (v5_49 : Int32) (rc49 : (Int32 × Int32) → (Int32 × Int32)) : Int32 × Int32 → Int32 × Int32
  | (v6_60, v4_60) => (rc49 (v5_49 + 1, v4_60))
def f_S_nearestWhite2_L60 (sw : Int32) (sh : Int32) (sf : Nat → Int32) (px : Int32) (py : Int32) (edge : Int32) (v5_49 : Int32) : Nat → Int32 × Int32 → Int32 × Int32
  | 0, σ => σ
  | n9 + 1, (v6_60, v4_60) => (if edge ≤ v6_60 then (v6_60, v4_60) else (if (f_S_isBlack sw sh sf (px + v6_60) (py + v5_49)) = 0 then ((f_S_nearestWhite2_L60 sw sh sf px py edge v5_49 n9) (v6_60 + 1, mn v4_60 ((v6_60 * v6_60) + (v5_49 * v5_49)))) else ((f_S_nearestWhite2_L60 sw sh sf px py edge v5_49 n9) (v6_60 + 1, v4_60))))
def f_S_nearestWhite2_L49 (sw : Int32) (sh : Int32) (sf : Nat → Int32) (px : Int32) (py : Int32) (edge : Int32) : Nat → Int32 × Int32 → Int32 × Int32
  | 0, σ => σ
  | n9 + 1, (v5_49, v4_49) => (if edge ≤ v5_49 then (v5_49, v4_49) else (f_S_nearestWhite2_k60 v5_49 (f_S_nearestWhite2_L49 sw sh sf px py edge n9) (f_S_nearestWhite2_L60 sw sh sf px py edge v5_49 FU (1 - edge, v4_49))))
def f_S_nearestWhite2_t38 (sw : Int32) (sh : Int32) (sf : Nat → Int32) (px : Int32) (py : Int32) (edge : Int32) : Int64 := (f_S_nearestWhite2_k49 (f_S_nearestWhite2_L49 sw sh sf px py edge FU (1 - edge, edge * edge)))
def f_S_nearestWhite2 (sw : Int32) (sh : Int32) (sf : Nat → Int32) (px : Int32) (py : Int32) : Int64 := (if (f_S_isBlack sw sh sf px py) = 0 then 0 else (f_S_nearestWhite2_t38 sw sh sf px py (mn (mn (px + 1) (sw - px)) (mn (py + 1) (sh - py)))))
set_option maxHeartbeats 4000000 in
set_option maxRecDepth 100000 in
theorem c_S_nearestWhite2 (l : Launch) (D : va_G) (tX tY : Nat) (a_ss : Nat) (a_sr : Nat) (k_sr : ClassId) (sw : Int32) (sh : Int32) (sn : Nat) (sf : Nat → Int32) (px : Int32) (py : Int32) (hss : tsok sw sh sn) : Met l yX1_nearestWhite2 wX1_nearestWhite2 ({ frames := 2, cells := 0, slots := 0, locals := 44 }) (ro_P D tX tY [(k_sr, .int)] [(a_ss, .inr (1, [.int sw, .int sh, .ref a_sr])), (a_sr, .inl (k_sr, sn, .inl sf))] [.ref a_ss, .int px, .int py]) (k2_QcV (.long (f_S_nearestWhite2 sw sh sf px py))) 0 0 (fun _ => False) := by
  generalize hF : (f_S_nearestWhite2 sw sh sf px py) = F
  refine Met.ofW (cc := cX1_nearestWhite2) (maxL := 7) (ret := (some .long)) (by decide) rfl ?_
  intro p e s m args below meth c s₁ B hml hv
  obtain ⟨rfl, hP, hK, hT, hN⟩ := hv
  have hx := B.exec
  have hb := B.bytes
  have hr := B.returns
  have hts := atoms_spec (ws := wX1_nearestWhite2) B.pre
  have hta : ∀ w ∈ gw, w.before _ s = true := fun w h => hts w (List.mem_cons_of_mem _ h)
  have hown : s.vm.findClass RX1 = some m.cls := findClass_of_methodNamed B.named
  have hlocks := B.notSynchronized
  have hl := lv_entry [.ref a_ss, .int px, .int py] (n := 7) (Nat.le_of_ble_eq_true rfl)
  rw [lg_entry_eq]
  generalize (lg_sl [.ref a_ss, .int px, .int py] ++ List.replicate (7 - (lg_sl [.ref a_ss, .int px, .int py]).length) Slot.unset).toArray = ls at hl ⊢
  have hl : lv_has ls 7 [(0, .ref a_ss), (1, .int px), (2, .int py)] := hl
  rw [f_S_nearestWhite2] at hF
  refine lv_aload_n hx hb dX1_nearestWhite2_0 rfl (lv_at hl 0 rfl) ?_
  refine lv_iload_n hx hb dX1_nearestWhite2_1 rfl (lv_at hl 1 rfl) ?_
  refine lv_iload_n hx hb dX1_nearestWhite2_2 rfl (lv_at hl 2 rfl) ?_
  refine ro_go (va_runV (As := [.int px, .int py]) (rest := []) ⟨hx, hb, hml, hown, hts⟩ (c_S_isBlack l D tX tY a_ss a_sr k_sr sw sh sn sf px py (hss)) (cwV 2 hts (gi_4 gi_c gw_173 gw_158 gw_159 gw_3 gw_160) rfl rfl rfl (by decide +kernel) ⟨Nat.le_of_ble_eq_true rfl, Nat.le_of_ble_eq_true rfl⟩) ⟨ro_blind, va_recv hK hP (ci := 1) (q0 := 0) rfl rfl, ro_at hP hK hT hN va_S.rf [0, 1] [0] rfl rfl⟩ rfl rfl hl.1 rfl (lv_room (Nat.le_of_ble_eq_true rfl)) dX1_nearestWhite2_3 ⟨Nat.le_of_ble_eq_true rfl, Nat.le_of_ble_eq_true rfl⟩) ?_
  refine lv_if_ne (tgt := 11) hx hb dX1_nearestWhite2_6 (by decide) (fun c6 => ?_) (fun c6 => ?_)
  · rw [if_neg c6] at hF
    refine lv_iload_n hx hb dX1_nearestWhite2_11 rfl (lv_at hl 1 rfl) ?_
    refine lv_iconst (v := 1) hx hb dX1_nearestWhite2_12 (by decide) ?_
    refine lv_iadd hx hb dX1_nearestWhite2_13 ?_
    refine lv_aload_n hx hb dX1_nearestWhite2_14 rfl (lv_at hl 0 rfl) ?_
    refine va_get (D := D) (ci := 1) (v := .int sw) (C := RX1) (T := TX1) (N := 3) hx hb hta inX1 hown hK hP 0 rfl rfl 0 (by decide) (hta _ gw_39) (fun _ h9 => h9) rfl dX1_nearestWhite2_15 ?_
    refine lv_iload_n hx hb dX1_nearestWhite2_18 rfl (lv_at hl 1 rfl) ?_
    refine lv_isub hx hb dX1_nearestWhite2_19 ?_
    refine va_mmin hx hb (hml.trans hl.1.symm) hown (hta _ gw_548) (hta _ gw_27) (hta _ gw_2) (hta _ gw_28) (Nat.le_of_ble_eq_true rfl) (Nat.le_of_ble_eq_true rfl) (Nat.le_of_ble_eq_true rfl) (Nat.le_of_ble_eq_true rfl) dX1_nearestWhite2_20 ?_
    refine lv_iload_n hx hb dX1_nearestWhite2_23 rfl (lv_at hl 2 rfl) ?_
    refine lv_iconst (v := 1) hx hb dX1_nearestWhite2_24 (by decide) ?_
    refine lv_iadd hx hb dX1_nearestWhite2_25 ?_
    refine lv_aload_n hx hb dX1_nearestWhite2_26 rfl (lv_at hl 0 rfl) ?_
    refine va_get (D := D) (ci := 1) (v := .int sh) (C := RX1) (T := TX1) (N := 3) hx hb hta inX1 hown hK hP 0 rfl rfl 1 (by decide) (hta _ gw_44) (fun _ h9 => h9) rfl dX1_nearestWhite2_27 ?_
    refine lv_iload_n hx hb dX1_nearestWhite2_30 rfl (lv_at hl 2 rfl) ?_
    refine lv_isub hx hb dX1_nearestWhite2_31 ?_
    refine va_mmin hx hb (hml.trans hl.1.symm) hown (hta _ gw_548) (hta _ gw_27) (hta _ gw_2) (hta _ gw_28) (Nat.le_of_ble_eq_true rfl) (Nat.le_of_ble_eq_true rfl) (Nat.le_of_ble_eq_true rfl) (Nat.le_of_ble_eq_true rfl) dX1_nearestWhite2_32 ?_
    refine va_mmin hx hb (hml.trans hl.1.symm) hown (hta _ gw_548) (hta _ gw_27) (hta _ gw_2) (hta _ gw_28) (Nat.le_of_ble_eq_true rfl) (Nat.le_of_ble_eq_true rfl) (Nat.le_of_ble_eq_true rfl) (Nat.le_of_ble_eq_true rfl) dX1_nearestWhite2_35 ?_
    refine lv_topi (fun edge e_edge => ?_)
    have e_edge : edge = mn (mn (px + 1) (sw - px)) (mn (py + 1) (sh - py)) := e_edge
    rw [← e_edge] at hF
    rw [f_S_nearestWhite2_t38] at hF
    refine lv_istore_n (lv' := [(3, .int edge), (0, .ref a_ss), (1, .int px), (2, .int py)]) hx hb dX1_nearestWhite2_38 rfl hl (by decide) rfl (fun ls hl => ?_)
    refine lv_iload_n hx hb dX1_nearestWhite2_39 rfl (lv_at hl 0 rfl) ?_
    refine lv_iload_n hx hb dX1_nearestWhite2_40 rfl (lv_at hl 0 rfl) ?_
    refine lv_imul hx hb dX1_nearestWhite2_41 ?_
    refine lv_istore (lv' := [(4, .int (edge * edge)), (3, .int edge), (0, .ref a_ss), (1, .int px), (2, .int py)]) hx hb dX1_nearestWhite2_42 hl (by decide) rfl (fun ls hl => ?_)
    refine lv_iconst (v := 1) hx hb dX1_nearestWhite2_44 (by decide) ?_
    refine lv_iload_n hx hb dX1_nearestWhite2_45 rfl (lv_at hl 1 rfl) ?_
    refine lv_isub hx hb dX1_nearestWhite2_46 ?_
    refine lv_istore (lv' := [(5, .int (1 - edge)), (4, .int (edge * edge)), (3, .int edge), (0, .ref a_ss), (1, .int px), (2, .int py)]) hx hb dX1_nearestWhite2_47 hl (by decide) rfl (fun ls hl => ?_)
    have af49 : ∀ (v5_49 : Int32) (v4_49 : Int32) (ls : Array Slot), f_S_nearestWhite2_k49  (v5_49, v4_49) = F → lv_has ls 7 [(5, .int v5_49), (4, .int v4_49), (3, .int edge), (0, .ref a_ss), (1, .int px), (2, .int py)] → W p l e { frames := 2, cells := 0, slots := 0, locals := 44 } s m (List.toArray [.ref a_ss, .int px, .int py]) below meth c s.heap [] 0 0 (MQ below (k2_QcV (.long F)) (List.toArray [.ref a_ss, .int px, .int py]) s 0 0 (fun _ => False)) (F0 m 111 ls []) := by
      intro v5_49 v4_49 ls hF hl
      rw [f_S_nearestWhite2_k49] at hF
      refine lv_iload hx hb dX1_nearestWhite2_111 (lv_at hl 1 rfl) ?_
      refine lv_i2l hx hb dX1_nearestWhite2_113 rfl ?_
      exact W.lret (v := v4_49.toInt64) hx hb hr (fun t ht _ => ⟨by rw [← hF], ht⟩) (fun _ h => nomatch h) dX1_nearestWhite2_114
    have lp49 : ∀ (n9 : Nat) (v5_49 : Int32) (v4_49 : Int32) (ls : Array Slot), (edge.toInt - v5_49.toInt).toNat < n9 → f_S_nearestWhite2_k49  (f_S_nearestWhite2_L49 sw sh sf px py edge n9 (v5_49, v4_49)) = F → lv_has ls 7 [(5, .int v5_49), (4, .int v4_49), (3, .int edge), (0, .ref a_ss), (1, .int px), (2, .int py)] → W p l e { frames := 2, cells := 0, slots := 0, locals := 44 } s m (List.toArray [.ref a_ss, .int px, .int py]) below meth c s.heap [] 0 0 (MQ below (k2_QcV (.long F)) (List.toArray [.ref a_ss, .int px, .int py]) s 0 0 (fun _ => False)) (F0 m 49 ls []) := by
      intro n9
      induction n9 with
      | zero => intro v5_49 v4_49 ls hmu49; exact absurd hmu49 (Nat.not_lt_zero _)
      | succ n49 ih49 =>
        intro v5_49 v4_49 ls hmu49 hF hl
        rw [f_S_nearestWhite2_L49] at hF
        refine lv_iload hx hb dX1_nearestWhite2_49 (lv_at hl 0 rfl) ?_
        refine lv_iload_n hx hb dX1_nearestWhite2_51 rfl (lv_at hl 2 rfl) ?_
        refine lv_icmp_ge (tgt := 111) hx hb dX1_nearestWhite2_52 (by decide) (fun c52 => ?_) (fun c52 => ?_)
        · rw [if_pos c52] at hF
          exact af49 v5_49 v4_49 ls hF (lv_sub hl [0, 1, 2, 3, 4, 5] rfl)
        · rw [if_neg c52] at hF
          refine lv_iconst (v := 1) hx hb dX1_nearestWhite2_55 (by decide) ?_
          refine lv_iload_n hx hb dX1_nearestWhite2_56 rfl (lv_at hl 2 rfl) ?_
          refine lv_isub hx hb dX1_nearestWhite2_57 ?_
          refine lv_istore (lv' := [(6, .int (1 - edge)), (5, .int v5_49), (4, .int v4_49), (3, .int edge), (0, .ref a_ss), (1, .int px), (2, .int py)]) hx hb dX1_nearestWhite2_58 hl (by decide) rfl (fun ls hl => ?_)
          have af60 : ∀ (v6_60 : Int32) (v4_60 : Int32) (ls : Array Slot), f_S_nearestWhite2_k49  (f_S_nearestWhite2_k60 v5_49 (f_S_nearestWhite2_L49 sw sh sf px py edge n49) (v6_60, v4_60)) = F → lv_has ls 7 [(6, .int v6_60), (5, .int v5_49), (4, .int v4_60), (3, .int edge), (0, .ref a_ss), (1, .int px), (2, .int py)] → W p l e { frames := 2, cells := 0, slots := 0, locals := 44 } s m (List.toArray [.ref a_ss, .int px, .int py]) below meth c s.heap [] 0 0 (MQ below (k2_QcV (.long F)) (List.toArray [.ref a_ss, .int px, .int py]) s 0 0 (fun _ => False)) (F0 m 105 ls []) := by
            intro v6_60 v4_60 ls hF hl
            rw [f_S_nearestWhite2_k60] at hF
            refine lv_iinc (v := v5_49 + 1) (lv' := [(5, .int (v5_49 + 1)), (6, .int v6_60), (4, .int v4_60), (3, .int edge), (0, .ref a_ss), (1, .int px), (2, .int py)]) hx hb dX1_nearestWhite2_105 hl (k := 1) rfl rfl (by decide) rfl (fun ls hl => ?_)
            refine lv_goto (tgt := 49) hx hb dX1_nearestWhite2_108 (by decide) ?_
            exact ih49 (v5_49 + 1) v4_60 ls (lt_lt (cu c52) hmu49) hF (lv_sub hl [0, 2, 3, 4, 5, 6] rfl)
          have lp60 : ∀ (n9 : Nat) (v6_60 : Int32) (v4_60 : Int32) (ls : Array Slot), (edge.toInt - v6_60.toInt).toNat < n9 → f_S_nearestWhite2_k49  (f_S_nearestWhite2_k60 v5_49 (f_S_nearestWhite2_L49 sw sh sf px py edge n49) (f_S_nearestWhite2_L60 sw sh sf px py edge v5_49 n9 (v6_60, v4_60))) = F → lv_has ls 7 [(6, .int v6_60), (5, .int v5_49), (4, .int v4_60), (3, .int edge), (0, .ref a_ss), (1, .int px), (2, .int py)] → W p l e { frames := 2, cells := 0, slots := 0, locals := 44 } s m (List.toArray [.ref a_ss, .int px, .int py]) below meth c s.heap [] 0 0 (MQ below (k2_QcV (.long F)) (List.toArray [.ref a_ss, .int px, .int py]) s 0 0 (fun _ => False)) (F0 m 60 ls []) := by
            intro n9
            induction n9 with
            | zero => intro v6_60 v4_60 ls hmu60; exact absurd hmu60 (Nat.not_lt_zero _)
            | succ n60 ih60 =>
              intro v6_60 v4_60 ls hmu60 hF hl
              rw [f_S_nearestWhite2_L60] at hF
              refine lv_iload hx hb dX1_nearestWhite2_60 (lv_at hl 0 rfl) ?_
              refine lv_iload_n hx hb dX1_nearestWhite2_62 rfl (lv_at hl 3 rfl) ?_
              refine lv_icmp_ge (tgt := 105) hx hb dX1_nearestWhite2_63 (by decide) (fun c63 => ?_) (fun c63 => ?_)
              · rw [if_pos c63] at hF
                exact af60 v6_60 v4_60 ls hF (lv_sub hl [0, 1, 2, 3, 4, 5, 6] rfl)
              · rw [if_neg c63] at hF
                refine lv_aload_n hx hb dX1_nearestWhite2_66 rfl (lv_at hl 4 rfl) ?_
                refine lv_iload_n hx hb dX1_nearestWhite2_67 rfl (lv_at hl 5 rfl) ?_
                refine lv_iload hx hb dX1_nearestWhite2_68 (lv_at hl 0 rfl) ?_
                refine lv_iadd hx hb dX1_nearestWhite2_70 ?_
                refine lv_iload_n hx hb dX1_nearestWhite2_71 rfl (lv_at hl 6 rfl) ?_
                refine lv_iload hx hb dX1_nearestWhite2_72 (lv_at hl 1 rfl) ?_
                refine lv_iadd hx hb dX1_nearestWhite2_74 ?_
                refine ro_go (va_runV (As := [.int (px + v6_60), .int (py + v5_49)]) (rest := []) ⟨hx, hb, hml, hown, hts⟩ (c_S_isBlack l D tX tY a_ss a_sr k_sr sw sh sn sf (px + v6_60) (py + v5_49) (hss)) (cwV 2 hts (gi_4 gi_c gw_173 gw_158 gw_159 gw_3 gw_160) rfl rfl rfl (by decide +kernel) ⟨Nat.le_of_ble_eq_true rfl, Nat.le_of_ble_eq_true rfl⟩) ⟨ro_blind, va_recv hK hP (ci := 1) (q0 := 0) rfl rfl, ro_at hP hK hT hN va_S.rf [0, 1] [0] rfl rfl⟩ rfl rfl hl.1 rfl (lv_room (Nat.le_of_ble_eq_true rfl)) dX1_nearestWhite2_75 ⟨Nat.le_of_ble_eq_true rfl, Nat.le_of_ble_eq_true rfl⟩) ?_
                refine lv_if_ne (tgt := 99) hx hb dX1_nearestWhite2_78 (by decide) (fun c78 => ?_) (fun c78 => ?_)
                · rw [if_neg c78] at hF
                  refine lv_iinc (v := v6_60 + 1) (lv' := [(6, .int (v6_60 + 1)), (5, .int v5_49), (4, .int v4_60), (3, .int edge), (0, .ref a_ss), (1, .int px), (2, .int py)]) hx hb dX1_nearestWhite2_99 hl (k := 0) rfl rfl (by decide) rfl (fun ls hl => ?_)
                  refine lv_goto (tgt := 60) hx hb dX1_nearestWhite2_102 (by decide) ?_
                  exact ih60 (v6_60 + 1) v4_60 ls (lt_lt (cu c63) hmu60) hF (lv_sub hl [0, 1, 2, 3, 4, 5, 6] rfl)
                · rw [if_pos c78] at hF
                  refine lv_iload hx hb dX1_nearestWhite2_81 (lv_at hl 2 rfl) ?_
                  refine lv_iload hx hb dX1_nearestWhite2_83 (lv_at hl 0 rfl) ?_
                  refine lv_iload hx hb dX1_nearestWhite2_85 (lv_at hl 0 rfl) ?_
                  refine lv_imul hx hb dX1_nearestWhite2_87 ?_
                  refine lv_iload hx hb dX1_nearestWhite2_88 (lv_at hl 1 rfl) ?_
                  refine lv_iload hx hb dX1_nearestWhite2_90 (lv_at hl 1 rfl) ?_
                  refine lv_imul hx hb dX1_nearestWhite2_92 ?_
                  refine lv_iadd hx hb dX1_nearestWhite2_93 ?_
                  refine va_mmin hx hb (hml.trans hl.1.symm) hown (hta _ gw_548) (hta _ gw_27) (hta _ gw_2) (hta _ gw_28) (Nat.le_of_ble_eq_true rfl) (Nat.le_of_ble_eq_true rfl) (Nat.le_of_ble_eq_true rfl) (Nat.le_of_ble_eq_true rfl) dX1_nearestWhite2_94 ?_
                  refine lv_istore (lv' := [(4, .int (mn v4_60 ((v6_60 * v6_60) + (v5_49 * v5_49)))), (6, .int v6_60), (5, .int v5_49), (3, .int edge), (0, .ref a_ss), (1, .int px), (2, .int py)]) hx hb dX1_nearestWhite2_97 hl (by decide) rfl (fun ls hl => ?_)
                  refine lv_iinc (v := v6_60 + 1) (lv' := [(6, .int (v6_60 + 1)), (4, .int (mn v4_60 ((v6_60 * v6_60) + (v5_49 * v5_49)))), (5, .int v5_49), (3, .int edge), (0, .ref a_ss), (1, .int px), (2, .int py)]) hx hb dX1_nearestWhite2_99 hl (k := 1) rfl rfl (by decide) rfl (fun ls hl => ?_)
                  refine lv_goto (tgt := 60) hx hb dX1_nearestWhite2_102 (by decide) ?_
                  exact ih60 (v6_60 + 1) (mn v4_60 ((v6_60 * v6_60) + (v5_49 * v5_49))) ls (lt_lt (cu c63) hmu60) hF (lv_sub hl [0, 2, 1, 3, 4, 5, 6] rfl)
          exact lp60 FU (1 - edge) v4_49 ls (fu_lt _ _) hF (lv_sub hl [0, 1, 2, 3, 4, 5, 6] rfl)
    exact lp49 FU (1 - edge) (edge * edge) ls (fu_lt _ _) hF (lv_sub hl [0, 1, 2, 3, 4, 5] rfl)
  · rw [if_pos c6] at hF
    refine lv_lconst (v := 0) hx hb dX1_nearestWhite2_9 (by decide) ?_
    exact W.lret (v := 0) hx hb hr (fun t ht _ => ⟨by rw [← hF], ht⟩) (fun _ h => nomatch h) dX1_nearestWhite2_10

theorem rc_st {r : Int32} (h : 0 ≤ r.toInt ∧ r.toInt ≤ 24) (c : ¬ (24 : Int32) ≤ r) : 0 ≤ (r + 1).toInt ∧ (r + 1).toInt ≤ 24 := by
  have h24 : (24 : Int32).toInt = 24 := by decide
  have c' : r.toInt < 24 := by rw [i_le, h24] at c; omega
  rw [inc_toInt c]; omega
theorem rc_dec {r i : Int32} (h : 0 ≤ r.toInt ∧ r.toInt ≤ 24) (c : ¬ r < i) : (r.toInt + 1 - (i + 1).toInt).toNat < (r.toInt + 1 - i.toInt).toNat := by
  have hi := i_bd i
  have c' : i.toInt ≤ r.toInt := by rw [i_lt] at c; omega
  have e : (i + 1).toInt = i.toInt + 1 := by rw [i_add (by rw [i_1]; omega) (by rw [i_1]; omega), i_1]
  rw [e]; omega
theorem rc_fu (b i : Int32) : (b.toInt + 1 - i.toInt).toNat < FU := by
  have h1 := i_bd b
  have h2 := i_bd i
  unfold FU
  omega
def f_S_whitenDisc_k36  : Int32 × (Nat → Int32) → (Nat → Int32)
  | (v6_36, f1_36) => f1_36
def f_S_whitenDisc_k48 (v6_36 : Int32) (rc36 : (Int32 × (Nat → Int32)) → (Int32 × (Nat → Int32))) : Int32 × (Nat → Int32) → Int32 × (Nat → Int32)
  | (v7_48, f1_48) => (rc36 (v6_36 + 1, f1_48))
def f_S_whitenDisc_q1 (v7_48 : Int32) (rc48 : (Int32 × (Nat → Int32)) → (Int32 × (Nat → Int32))) : (Nat → Int32) → Int32 × (Nat → Int32)
  | g1 => (rc48 (v7_48 + 1, g1))
def f_S_whitenDisc_L48 (sw : Int32) (sh : Int32) (px : Int32) (py : Int32) (pr : Int64) (v5_3 : Int32) (v6_36 : Int32) : Nat → Int32 × (Nat → Int32) → Int32 × (Nat → Int32)
  | 0, σ => σ
  | n9 + 1, (v7_48, f1_48) => (if v5_3 < v7_48 then (v7_48, f1_48) else (if 0 ≤ (lg_cmp (((v7_48 * v7_48) + (v6_36 * v6_36)).toInt64) pr) then ((f_S_whitenDisc_L48 sw sh px py pr v5_3 v6_36 n9) (v7_48 + 1, f1_48)) else (f_S_whitenDisc_q1 v7_48 (f_S_whitenDisc_L48 sw sh px py pr v5_3 v6_36 n9) (f_S_paint sw sh f1_48 (px + v7_48) (py + v6_36) 0))))
def f_S_whitenDisc_L36 (sw : Int32) (sh : Int32) (px : Int32) (py : Int32) (pr : Int64) (v5_3 : Int32) : Nat → Int32 × (Nat → Int32) → Int32 × (Nat → Int32)
  | 0, σ => σ
  | n9 + 1, (v6_36, f1_36) => (if v5_3 < v6_36 then (v6_36, f1_36) else (f_S_whitenDisc_k48 v6_36 (f_S_whitenDisc_L36 sw sh px py pr v5_3 n9) (f_S_whitenDisc_L48 sw sh px py pr v5_3 v6_36 FU (-v5_3, f1_36))))
def f_S_whitenDisc_k3 (sw : Int32) (sh : Int32) (sf : Nat → Int32) (px : Int32) (py : Int32) (pr : Int64) : Int32 → (Nat → Int32)
  | v5_3 => (f_S_whitenDisc_k36 (f_S_whitenDisc_L36 sw sh px py pr v5_3 FU (-v5_3, sf)))
def f_S_whitenDisc_L3 (pr : Int64) : Nat → Int32 → Int32
  | 0, σ => σ
  | n9 + 1, v5_3 => (if 24 ≤ v5_3 then v5_3 else (if 0 ≤ (lg_cmp (((v5_3 + 1) * (v5_3 + 1)).toInt64) pr) then v5_3 else ((f_S_whitenDisc_L3 pr n9) (v5_3 + 1))))
def f_S_whitenDisc (sw : Int32) (sh : Int32) (sf : Nat → Int32) (px : Int32) (py : Int32) (pr : Int64) : (Nat → Int32) := (f_S_whitenDisc_k3 sw sh sf px py pr (f_S_whitenDisc_L3 pr FU 0))
set_option maxHeartbeats 4000000 in
set_option maxRecDepth 100000 in
theorem c_S_whitenDisc (l : Launch) (D : va_G) (tX tY : Nat) (a_ss : Nat) (a_sr : Nat) (k_sr : ClassId) (sw : Int32) (sh : Int32) (sn : Nat) (sf : Nat → Int32) (sz : Nat) (px : Int32) (py : Int32) (pr : Int64) (hss : tsok sw sh sn) : Met l yX1_whitenDisc wX1_whitenDisc ({ frames := 2, cells := 0, slots := 0, locals := 45 }) (mu_P D tX tY [(k_sr, .int)] [(a_ss, .inr (1, [.int sw, .int sh, .ref a_sr])), (a_sr, .inl (k_sr, sn, .inl sf))] sz [.ref a_ss, .int px, .int py, .long pr]) (va_Qv (fun (u : (Nat → Int32)) => (f_S_whitenDisc sw sh sf px py pr) = u) (fun (u : (Nat → Int32)) (t : State) => va_P D vwCl [(a_ss, .inr (1, [.int sw, .int sh, .ref a_sr])), (a_sr, .inl (k_sr, sn, .inl u))] t.heap ∧ va_K D vwCl [(k_sr, .int)] t ∧ va_D (va_A [(a_ss, .inr (1, [.int sw, .int sh, .ref a_sr])), (a_sr, .inl (k_sr, sn, .inl sf))] sz) [(a_ss, .inr (1, [.int sw, .int sh, .ref a_sr])), (a_sr, .inl (k_sr, sn, .inl u))]) (va_A [(a_ss, .inr (1, [.int sw, .int sh, .ref a_sr])), (a_sr, .inl (k_sr, sn, .inl sf))] sz)) 0 0 (va_A [(a_ss, .inr (1, [.int sw, .int sh, .ref a_sr])), (a_sr, .inl (k_sr, sn, .inl sf))] sz) := by
  generalize hF : (f_S_whitenDisc sw sh sf px py pr) = F
  refine Met.ofW (cc := cX1_whitenDisc) (maxL := 8) (ret := none) (by decide) rfl ?_
  intro p e s m args below meth c s₁ B hml hv
  obtain ⟨rfl, hsz, hP, hK, hD0, hT, hN⟩ := hv
  have hx := B.exec
  have hb := B.bytes
  have hr := B.returns
  have hts := atoms_spec (ws := wX1_whitenDisc) B.pre
  have hta : ∀ w ∈ gw, w.before _ s = true := fun w h => hts w (List.mem_cons_of_mem _ h)
  have hown : s.vm.findClass RX1 = some m.cls := findClass_of_methodNamed B.named
  have hlocks := B.notSynchronized
  have hD : va_D (va_A [(a_ss, .inr (1, [.int sw, .int sh, .ref a_sr])), (a_sr, .inl (k_sr, sn, .inl sf))] sz) [(a_ss, .inr (1, [.int sw, .int sh, .ref a_sr])), (a_sr, .inl (k_sr, sn, .inl sf))] := hD0.self
  have hA : ∀ q : Nat, s.heap.size ≤ q → (va_A [(a_ss, .inr (1, [.int sw, .int sh, .ref a_sr])), (a_sr, .inl (k_sr, sn, .inl sf))] sz) q := fun q h => Or.inr (hsz ▸ h)
  have hS : va_S (va_A [(a_ss, .inr (1, [.int sw, .int sh, .ref a_sr])), (a_sr, .inl (k_sr, sn, .inl sf))] sz) s.heap s.heap [] := va_S.rf
  have hl := lv_entry [.ref a_ss, .int px, .int py, .long pr] (n := 8) (Nat.le_of_ble_eq_true rfl)
  rw [lg_entry_eq]
  generalize (lg_sl [.ref a_ss, .int px, .int py, .long pr] ++ List.replicate (8 - (lg_sl [.ref a_ss, .int px, .int py, .long pr]).length) Slot.unset).toArray = ls at hl ⊢
  have hl : lv_has ls 8 [(0, .ref a_ss), (1, .int px), (2, .int py), (3, .long pr)] := hl
  rw [f_S_whitenDisc] at hF
  have hgo : ∀ (H : Heap) (locs : List Loc), va_P D vwCl [(a_ss, .inr (1, [.int sw, .int sh, .ref a_sr])), (a_sr, .inl (k_sr, sn, .inl sf))] H → va_D (va_A [(a_ss, .inr (1, [.int sw, .int sh, .ref a_sr])), (a_sr, .inl (k_sr, sn, .inl sf))] sz) [(a_ss, .inr (1, [.int sw, .int sh, .ref a_sr])), (a_sr, .inl (k_sr, sn, .inl sf))] → va_S (va_A [(a_ss, .inr (1, [.int sw, .int sh, .ref a_sr])), (a_sr, .inl (k_sr, sn, .inl sf))] sz) s.heap H locs → W p l e { frames := 2, cells := 0, slots := 0, locals := 45 } s m (List.toArray [.ref a_ss, .int px, .int py, .long pr]) below meth c H locs 0 0 (MQ below (va_Qv (fun (u : (Nat → Int32)) => F = u) (fun (u : (Nat → Int32)) (t : State) => va_P D vwCl [(a_ss, .inr (1, [.int sw, .int sh, .ref a_sr])), (a_sr, .inl (k_sr, sn, .inl u))] t.heap ∧ va_K D vwCl [(k_sr, .int)] t ∧ va_D (va_A [(a_ss, .inr (1, [.int sw, .int sh, .ref a_sr])), (a_sr, .inl (k_sr, sn, .inl sf))] sz) [(a_ss, .inr (1, [.int sw, .int sh, .ref a_sr])), (a_sr, .inl (k_sr, sn, .inl u))]) (va_A [(a_ss, .inr (1, [.int sw, .int sh, .ref a_sr])), (a_sr, .inl (k_sr, sn, .inl sf))] sz)) (List.toArray [.ref a_ss, .int px, .int py, .long pr]) s 0 0 (va_A [(a_ss, .inr (1, [.int sw, .int sh, .ref a_sr])), (a_sr, .inl (k_sr, sn, .inl sf))] sz)) (F0 m 0 ls []) := by
    intro H locs hP hD hS
    refine lv_iconst (v := 0) hx hb dX1_whitenDisc_0 (by decide) ?_
    refine lv_istore (lv' := [(5, .int 0), (0, .ref a_ss), (1, .int px), (2, .int py), (3, .long pr)]) hx hb dX1_whitenDisc_1 hl (by decide) rfl (fun ls hl => ?_)
    have af3 : ∀ (v5_3 : Int32) (H : Heap) (locs : List Loc) (ls : Array Slot), (0 ≤ v5_3.toInt ∧ v5_3.toInt ≤ 24) → f_S_whitenDisc_k3 sw sh sf px py pr v5_3 = F → va_P D vwCl [(a_ss, .inr (1, [.int sw, .int sh, .ref a_sr])), (a_sr, .inl (k_sr, sn, .inl sf))] H → va_D (va_A [(a_ss, .inr (1, [.int sw, .int sh, .ref a_sr])), (a_sr, .inl (k_sr, sn, .inl sf))] sz) [(a_ss, .inr (1, [.int sw, .int sh, .ref a_sr])), (a_sr, .inl (k_sr, sn, .inl sf))] → va_S (va_A [(a_ss, .inr (1, [.int sw, .int sh, .ref a_sr])), (a_sr, .inl (k_sr, sn, .inl sf))] sz) s.heap H locs → lv_has ls 8 [(5, .int v5_3), (0, .ref a_ss), (1, .int px), (2, .int py), (3, .long pr)] → W p l e { frames := 2, cells := 0, slots := 0, locals := 45 } s m (List.toArray [.ref a_ss, .int px, .int py, .long pr]) below meth c H locs 0 0 (MQ below (va_Qv (fun (u : (Nat → Int32)) => F = u) (fun (u : (Nat → Int32)) (t : State) => va_P D vwCl [(a_ss, .inr (1, [.int sw, .int sh, .ref a_sr])), (a_sr, .inl (k_sr, sn, .inl u))] t.heap ∧ va_K D vwCl [(k_sr, .int)] t ∧ va_D (va_A [(a_ss, .inr (1, [.int sw, .int sh, .ref a_sr])), (a_sr, .inl (k_sr, sn, .inl sf))] sz) [(a_ss, .inr (1, [.int sw, .int sh, .ref a_sr])), (a_sr, .inl (k_sr, sn, .inl u))]) (va_A [(a_ss, .inr (1, [.int sw, .int sh, .ref a_sr])), (a_sr, .inl (k_sr, sn, .inl sf))] sz)) (List.toArray [.ref a_ss, .int px, .int py, .long pr]) s 0 0 (va_A [(a_ss, .inr (1, [.int sw, .int sh, .ref a_sr])), (a_sr, .inl (k_sr, sn, .inl sf))] sz)) (F0 m 31 ls []) := by
      intro v5_3 H locs ls h_r5 hF hP hD hS hl
      rw [f_S_whitenDisc_k3] at hF
      refine lv_iload hx hb dX1_whitenDisc_31 (lv_at hl 0 rfl) ?_
      refine lv_ineg hx hb dX1_whitenDisc_33 ?_
      refine lv_istore (lv' := [(6, .int (-v5_3)), (5, .int v5_3), (0, .ref a_ss), (1, .int px), (2, .int py), (3, .long pr)]) hx hb dX1_whitenDisc_34 hl (by decide) rfl (fun ls hl => ?_)
      have af36 : ∀ (v6_36 : Int32) (f1_36 : Nat → Int32) (H : Heap) (locs : List Loc) (ls : Array Slot), f_S_whitenDisc_k36  (v6_36, f1_36) = F → va_P D vwCl [(a_ss, .inr (1, [.int sw, .int sh, .ref a_sr])), (a_sr, .inl (k_sr, sn, .inl f1_36))] H → va_D (va_A [(a_ss, .inr (1, [.int sw, .int sh, .ref a_sr])), (a_sr, .inl (k_sr, sn, .inl sf))] sz) [(a_ss, .inr (1, [.int sw, .int sh, .ref a_sr])), (a_sr, .inl (k_sr, sn, .inl f1_36))] → va_S (va_A [(a_ss, .inr (1, [.int sw, .int sh, .ref a_sr])), (a_sr, .inl (k_sr, sn, .inl sf))] sz) s.heap H locs → lv_has ls 8 [(6, .int v6_36), (5, .int v5_3), (0, .ref a_ss), (1, .int px), (2, .int py), (3, .long pr)] → W p l e { frames := 2, cells := 0, slots := 0, locals := 45 } s m (List.toArray [.ref a_ss, .int px, .int py, .long pr]) below meth c H locs 0 0 (MQ below (va_Qv (fun (u : (Nat → Int32)) => F = u) (fun (u : (Nat → Int32)) (t : State) => va_P D vwCl [(a_ss, .inr (1, [.int sw, .int sh, .ref a_sr])), (a_sr, .inl (k_sr, sn, .inl u))] t.heap ∧ va_K D vwCl [(k_sr, .int)] t ∧ va_D (va_A [(a_ss, .inr (1, [.int sw, .int sh, .ref a_sr])), (a_sr, .inl (k_sr, sn, .inl sf))] sz) [(a_ss, .inr (1, [.int sw, .int sh, .ref a_sr])), (a_sr, .inl (k_sr, sn, .inl u))]) (va_A [(a_ss, .inr (1, [.int sw, .int sh, .ref a_sr])), (a_sr, .inl (k_sr, sn, .inl sf))] sz)) (List.toArray [.ref a_ss, .int px, .int py, .long pr]) s 0 0 (va_A [(a_ss, .inr (1, [.int sw, .int sh, .ref a_sr])), (a_sr, .inl (k_sr, sn, .inl sf))] sz)) (F0 m 97 ls []) := by
        intro v6_36 f1_36 H locs ls hF hP hD hS hl
        rw [f_S_whitenDisc_k36] at hF
        exact W.vret hx hb hr (fun t ht hW => ⟨⟨f1_36, rfl, hF.symm, by rw [ht]; exact hP, va_K.moved hW.alike hK, hD⟩, hS.F ht⟩) hS.2.2 dX1_whitenDisc_97
      have lp36 : ∀ (n9 : Nat) (v6_36 : Int32) (f1_36 : Nat → Int32) (H : Heap) (locs : List Loc) (ls : Array Slot), (v5_3.toInt + 1 - v6_36.toInt).toNat < n9 → f_S_whitenDisc_k36  (f_S_whitenDisc_L36 sw sh px py pr v5_3 n9 (v6_36, f1_36)) = F → va_P D vwCl [(a_ss, .inr (1, [.int sw, .int sh, .ref a_sr])), (a_sr, .inl (k_sr, sn, .inl f1_36))] H → va_D (va_A [(a_ss, .inr (1, [.int sw, .int sh, .ref a_sr])), (a_sr, .inl (k_sr, sn, .inl sf))] sz) [(a_ss, .inr (1, [.int sw, .int sh, .ref a_sr])), (a_sr, .inl (k_sr, sn, .inl f1_36))] → va_S (va_A [(a_ss, .inr (1, [.int sw, .int sh, .ref a_sr])), (a_sr, .inl (k_sr, sn, .inl sf))] sz) s.heap H locs → lv_has ls 8 [(6, .int v6_36), (5, .int v5_3), (0, .ref a_ss), (1, .int px), (2, .int py), (3, .long pr)] → W p l e { frames := 2, cells := 0, slots := 0, locals := 45 } s m (List.toArray [.ref a_ss, .int px, .int py, .long pr]) below meth c H locs 0 0 (MQ below (va_Qv (fun (u : (Nat → Int32)) => F = u) (fun (u : (Nat → Int32)) (t : State) => va_P D vwCl [(a_ss, .inr (1, [.int sw, .int sh, .ref a_sr])), (a_sr, .inl (k_sr, sn, .inl u))] t.heap ∧ va_K D vwCl [(k_sr, .int)] t ∧ va_D (va_A [(a_ss, .inr (1, [.int sw, .int sh, .ref a_sr])), (a_sr, .inl (k_sr, sn, .inl sf))] sz) [(a_ss, .inr (1, [.int sw, .int sh, .ref a_sr])), (a_sr, .inl (k_sr, sn, .inl u))]) (va_A [(a_ss, .inr (1, [.int sw, .int sh, .ref a_sr])), (a_sr, .inl (k_sr, sn, .inl sf))] sz)) (List.toArray [.ref a_ss, .int px, .int py, .long pr]) s 0 0 (va_A [(a_ss, .inr (1, [.int sw, .int sh, .ref a_sr])), (a_sr, .inl (k_sr, sn, .inl sf))] sz)) (F0 m 36 ls []) := by
        intro n9
        induction n9 with
        | zero => intro v6_36 f1_36 H locs ls hmu36; exact absurd hmu36 (Nat.not_lt_zero _)
        | succ n36 ih36 =>
          intro v6_36 f1_36 H locs ls hmu36 hF hP hD hS hl
          rw [f_S_whitenDisc_L36] at hF
          refine lv_iload hx hb dX1_whitenDisc_36 (lv_at hl 0 rfl) ?_
          refine lv_iload hx hb dX1_whitenDisc_38 (lv_at hl 1 rfl) ?_
          refine lv_icmp_gt (tgt := 97) hx hb dX1_whitenDisc_40 (by decide) (fun c40 => ?_) (fun c40 => ?_)
          · rw [if_pos c40] at hF
            exact af36 v6_36 f1_36 _ _ ls hF hP hD hS (lv_sub hl [0, 1, 2, 3, 4, 5] rfl)
          · rw [if_neg c40] at hF
            refine lv_iload hx hb dX1_whitenDisc_43 (lv_at hl 1 rfl) ?_
            refine lv_ineg hx hb dX1_whitenDisc_45 ?_
            refine lv_istore (lv' := [(7, .int (-v5_3)), (6, .int v6_36), (5, .int v5_3), (0, .ref a_ss), (1, .int px), (2, .int py), (3, .long pr)]) hx hb dX1_whitenDisc_46 hl (by decide) rfl (fun ls hl => ?_)
            have af48 : ∀ (v7_48 : Int32) (f1_48 : Nat → Int32) (H : Heap) (locs : List Loc) (ls : Array Slot), f_S_whitenDisc_k36  (f_S_whitenDisc_k48 v6_36 (f_S_whitenDisc_L36 sw sh px py pr v5_3 n36) (v7_48, f1_48)) = F → va_P D vwCl [(a_ss, .inr (1, [.int sw, .int sh, .ref a_sr])), (a_sr, .inl (k_sr, sn, .inl f1_48))] H → va_D (va_A [(a_ss, .inr (1, [.int sw, .int sh, .ref a_sr])), (a_sr, .inl (k_sr, sn, .inl sf))] sz) [(a_ss, .inr (1, [.int sw, .int sh, .ref a_sr])), (a_sr, .inl (k_sr, sn, .inl f1_48))] → va_S (va_A [(a_ss, .inr (1, [.int sw, .int sh, .ref a_sr])), (a_sr, .inl (k_sr, sn, .inl sf))] sz) s.heap H locs → lv_has ls 8 [(7, .int v7_48), (6, .int v6_36), (5, .int v5_3), (0, .ref a_ss), (1, .int px), (2, .int py), (3, .long pr)] → W p l e { frames := 2, cells := 0, slots := 0, locals := 45 } s m (List.toArray [.ref a_ss, .int px, .int py, .long pr]) below meth c H locs 0 0 (MQ below (va_Qv (fun (u : (Nat → Int32)) => F = u) (fun (u : (Nat → Int32)) (t : State) => va_P D vwCl [(a_ss, .inr (1, [.int sw, .int sh, .ref a_sr])), (a_sr, .inl (k_sr, sn, .inl u))] t.heap ∧ va_K D vwCl [(k_sr, .int)] t ∧ va_D (va_A [(a_ss, .inr (1, [.int sw, .int sh, .ref a_sr])), (a_sr, .inl (k_sr, sn, .inl sf))] sz) [(a_ss, .inr (1, [.int sw, .int sh, .ref a_sr])), (a_sr, .inl (k_sr, sn, .inl u))]) (va_A [(a_ss, .inr (1, [.int sw, .int sh, .ref a_sr])), (a_sr, .inl (k_sr, sn, .inl sf))] sz)) (List.toArray [.ref a_ss, .int px, .int py, .long pr]) s 0 0 (va_A [(a_ss, .inr (1, [.int sw, .int sh, .ref a_sr])), (a_sr, .inl (k_sr, sn, .inl sf))] sz)) (F0 m 91 ls []) := by
              intro v7_48 f1_48 H locs ls hF hP hD hS hl
              rw [f_S_whitenDisc_k48] at hF
              refine lv_iinc (v := v6_36 + 1) (lv' := [(6, .int (v6_36 + 1)), (7, .int v7_48), (5, .int v5_3), (0, .ref a_ss), (1, .int px), (2, .int py), (3, .long pr)]) hx hb dX1_whitenDisc_91 hl (k := 1) rfl rfl (by decide) rfl (fun ls hl => ?_)
              refine lv_goto (tgt := 36) hx hb dX1_whitenDisc_94 (by decide) ?_
              exact ih36 (v6_36 + 1) f1_48 _ _ ls (lt_lt (rc_dec h_r5 c40) hmu36) hF hP hD hS (lv_sub hl [0, 2, 3, 4, 5, 6] rfl)
            have lp48 : ∀ (n9 : Nat) (v7_48 : Int32) (f1_48 : Nat → Int32) (H : Heap) (locs : List Loc) (ls : Array Slot), (v5_3.toInt + 1 - v7_48.toInt).toNat < n9 → f_S_whitenDisc_k36  (f_S_whitenDisc_k48 v6_36 (f_S_whitenDisc_L36 sw sh px py pr v5_3 n36) (f_S_whitenDisc_L48 sw sh px py pr v5_3 v6_36 n9 (v7_48, f1_48))) = F → va_P D vwCl [(a_ss, .inr (1, [.int sw, .int sh, .ref a_sr])), (a_sr, .inl (k_sr, sn, .inl f1_48))] H → va_D (va_A [(a_ss, .inr (1, [.int sw, .int sh, .ref a_sr])), (a_sr, .inl (k_sr, sn, .inl sf))] sz) [(a_ss, .inr (1, [.int sw, .int sh, .ref a_sr])), (a_sr, .inl (k_sr, sn, .inl f1_48))] → va_S (va_A [(a_ss, .inr (1, [.int sw, .int sh, .ref a_sr])), (a_sr, .inl (k_sr, sn, .inl sf))] sz) s.heap H locs → lv_has ls 8 [(7, .int v7_48), (6, .int v6_36), (5, .int v5_3), (0, .ref a_ss), (1, .int px), (2, .int py), (3, .long pr)] → W p l e { frames := 2, cells := 0, slots := 0, locals := 45 } s m (List.toArray [.ref a_ss, .int px, .int py, .long pr]) below meth c H locs 0 0 (MQ below (va_Qv (fun (u : (Nat → Int32)) => F = u) (fun (u : (Nat → Int32)) (t : State) => va_P D vwCl [(a_ss, .inr (1, [.int sw, .int sh, .ref a_sr])), (a_sr, .inl (k_sr, sn, .inl u))] t.heap ∧ va_K D vwCl [(k_sr, .int)] t ∧ va_D (va_A [(a_ss, .inr (1, [.int sw, .int sh, .ref a_sr])), (a_sr, .inl (k_sr, sn, .inl sf))] sz) [(a_ss, .inr (1, [.int sw, .int sh, .ref a_sr])), (a_sr, .inl (k_sr, sn, .inl u))]) (va_A [(a_ss, .inr (1, [.int sw, .int sh, .ref a_sr])), (a_sr, .inl (k_sr, sn, .inl sf))] sz)) (List.toArray [.ref a_ss, .int px, .int py, .long pr]) s 0 0 (va_A [(a_ss, .inr (1, [.int sw, .int sh, .ref a_sr])), (a_sr, .inl (k_sr, sn, .inl sf))] sz)) (F0 m 48 ls []) := by
              intro n9
              induction n9 with
              | zero => intro v7_48 f1_48 H locs ls hmu48; exact absurd hmu48 (Nat.not_lt_zero _)
              | succ n48 ih48 =>
                intro v7_48 f1_48 H locs ls hmu48 hF hP hD hS hl
                rw [f_S_whitenDisc_L48] at hF
                refine lv_iload hx hb dX1_whitenDisc_48 (lv_at hl 0 rfl) ?_
                refine lv_iload hx hb dX1_whitenDisc_50 (lv_at hl 2 rfl) ?_
                refine lv_icmp_gt (tgt := 91) hx hb dX1_whitenDisc_52 (by decide) (fun c52 => ?_) (fun c52 => ?_)
                · rw [if_pos c52] at hF
                  exact af48 v7_48 f1_48 _ _ ls hF hP hD hS (lv_sub hl [0, 1, 2, 3, 4, 5, 6] rfl)
                · rw [if_neg c52] at hF
                  refine lv_iload hx hb dX1_whitenDisc_55 (lv_at hl 0 rfl) ?_
                  refine lv_iload hx hb dX1_whitenDisc_57 (lv_at hl 0 rfl) ?_
                  refine lv_imul hx hb dX1_whitenDisc_59 ?_
                  refine lv_iload hx hb dX1_whitenDisc_60 (lv_at hl 1 rfl) ?_
                  refine lv_iload hx hb dX1_whitenDisc_62 (lv_at hl 1 rfl) ?_
                  refine lv_imul hx hb dX1_whitenDisc_64 ?_
                  refine lv_iadd hx hb dX1_whitenDisc_65 ?_
                  refine lv_i2l hx hb dX1_whitenDisc_66 rfl ?_
                  refine lv_lload_n hx hb dX1_whitenDisc_67 rfl (lv_at hl 6 rfl) ?_
                  refine W.lcmp hx hb dX1_whitenDisc_68 ?_
                  refine lv_if_ge (tgt := 85) hx hb dX1_whitenDisc_69 (by decide) (fun c69 => ?_) (fun c69 => ?_)
                  · rw [if_pos c69] at hF
                    refine lv_iinc (v := v7_48 + 1) (lv' := [(7, .int (v7_48 + 1)), (6, .int v6_36), (5, .int v5_3), (0, .ref a_ss), (1, .int px), (2, .int py), (3, .long pr)]) hx hb dX1_whitenDisc_85 hl (k := 0) rfl rfl (by decide) rfl (fun ls hl => ?_)
                    refine lv_goto (tgt := 48) hx hb dX1_whitenDisc_88 (by decide) ?_
                    exact ih48 (v7_48 + 1) f1_48 _ _ ls (lt_lt (rc_dec h_r5 c52) hmu48) hF hP hD hS (lv_sub hl [0, 1, 2, 3, 4, 5, 6] rfl)
                  · rw [if_neg c69] at hF
                    refine lv_aload_n hx hb dX1_whitenDisc_72 rfl (lv_at hl 3 rfl) ?_
                    refine lv_iload_n hx hb dX1_whitenDisc_73 rfl (lv_at hl 4 rfl) ?_
                    refine lv_iload hx hb dX1_whitenDisc_74 (lv_at hl 0 rfl) ?_
                    refine lv_iadd hx hb dX1_whitenDisc_76 ?_
                    refine lv_iload_n hx hb dX1_whitenDisc_77 rfl (lv_at hl 5 rfl) ?_
                    refine lv_iload hx hb dX1_whitenDisc_78 (lv_at hl 1 rfl) ?_
                    refine lv_iadd hx hb dX1_whitenDisc_80 ?_
                    refine lv_iconst (v := 0) hx hb dX1_whitenDisc_81 (by decide) ?_
                    have hPc := hP.sub (ws' := [(a_ss, .inr (1, [.int sw, .int sh, .ref a_sr])), (a_sr, .inl (k_sr, sn, .inl f1_48))]) [0, 1] rfl
                    have hDc := hD.sub (ws' := [(a_ss, .inr (1, [.int sw, .int sh, .ref a_sr])), (a_sr, .inl (k_sr, sn, .inl f1_48))]) [0, 1] (by decide) rfl
                    have hKc := hK.sub (tys' := [(k_sr, .int)]) [0] rfl
                    have hFc := va_free (wc := [(a_ss, .inr (1, [.int sw, .int sh, .ref a_sr])), (a_sr, .inl (k_sr, sn, .inl f1_48))]) hD hS hA [0, 1] rfl
                    refine va_callv (va_runV (As := [.int (px + v7_48), .int (py + v6_36), .int 0]) (rest := []) ⟨hx, hb, hml, hown, hts⟩ (c_S_paint l D tX tY a_ss a_sr k_sr sw sh sn f1_48 H.size (px + v7_48) (py + v6_36) 0 (hss)) (cwV 3 hts (gi_4 gi_c gw_601 gw_199 gw_200 gw_3 gw_201) rfl rfl rfl (by decide +kernel) ⟨Nat.le_of_ble_eq_true rfl, Nat.le_of_ble_eq_true rfl⟩) ⟨mu_blind, va_recv hKc hPc (ci := 1) (q0 := 0) rfl rfl, mu_at hPc hKc hDc hT hN hS hFc⟩ rfl rfl hl.1 rfl (lv_room (Nat.le_of_ble_eq_true rfl)) dX1_whitenDisc_82 ⟨Nat.le_of_ble_eq_true rfl, Nat.le_of_ble_eq_true rfl⟩) hS (fun q _ h => hFc q h) hFc (fun u t H1 locs ht hvm hw hB hz1 hk1 hS => ?_)
                    obtain ⟨g1, rfl⟩ : ∃ z, z = u := ⟨_, rfl⟩
                    obtain ⟨hP1, hK1, hD1⟩ := hB
                    rw [ht] at hP1
                    obtain ⟨hP, hD⟩ := va_join (wr := []) (w1 := [(a_ss, .inr (1, [.int sw, .int sh, .ref a_sr])), (a_sr, .inl (k_sr, sn, .inl g1))]) hP hD [0, 1] [] rfl rfl (by decide) (by decide) hk1 hFc hP1 hD1
                    generalize H1 = H at hP hS ⊢
                    have hP := hP.sub (ws' := [(a_ss, .inr (1, [.int sw, .int sh, .ref a_sr])), (a_sr, .inl (k_sr, sn, .inl g1))]) [0, 1] rfl
                    have hD := hD.sub (ws' := [(a_ss, .inr (1, [.int sw, .int sh, .ref a_sr])), (a_sr, .inl (k_sr, sn, .inl g1))]) [0, 1] (by decide) rfl
                    rw [hw] at hF
                    rw [f_S_whitenDisc_q1] at hF
                    refine lv_iinc (v := v7_48 + 1) (lv' := [(7, .int (v7_48 + 1)), (6, .int v6_36), (5, .int v5_3), (0, .ref a_ss), (1, .int px), (2, .int py), (3, .long pr)]) hx hb dX1_whitenDisc_85 hl (k := 0) rfl rfl (by decide) rfl (fun ls hl => ?_)
                    refine lv_goto (tgt := 48) hx hb dX1_whitenDisc_88 (by decide) ?_
                    exact ih48 (v7_48 + 1) g1 _ _ ls (lt_lt (rc_dec h_r5 c52) hmu48) hF hP hD hS (lv_sub hl [0, 1, 2, 3, 4, 5, 6] rfl)
            exact lp48 FU (-v5_3) f1_36 _ _ ls (rc_fu _ _) hF hP hD hS (lv_sub hl [0, 1, 2, 3, 4, 5, 6] rfl)
      exact lp36 FU (-v5_3) sf _ _ ls (rc_fu _ _) hF hP hD hS (lv_sub hl [0, 1, 2, 3, 4, 5] rfl)
    have lp3 : ∀ (n9 : Nat) (v5_3 : Int32) (H : Heap) (locs : List Loc) (ls : Array Slot), (0 ≤ v5_3.toInt ∧ v5_3.toInt ≤ 24) → ((24 : Int32).toInt - v5_3.toInt).toNat < n9 → f_S_whitenDisc_k3 sw sh sf px py pr (f_S_whitenDisc_L3 pr n9 v5_3) = F → va_P D vwCl [(a_ss, .inr (1, [.int sw, .int sh, .ref a_sr])), (a_sr, .inl (k_sr, sn, .inl sf))] H → va_D (va_A [(a_ss, .inr (1, [.int sw, .int sh, .ref a_sr])), (a_sr, .inl (k_sr, sn, .inl sf))] sz) [(a_ss, .inr (1, [.int sw, .int sh, .ref a_sr])), (a_sr, .inl (k_sr, sn, .inl sf))] → va_S (va_A [(a_ss, .inr (1, [.int sw, .int sh, .ref a_sr])), (a_sr, .inl (k_sr, sn, .inl sf))] sz) s.heap H locs → lv_has ls 8 [(5, .int v5_3), (0, .ref a_ss), (1, .int px), (2, .int py), (3, .long pr)] → W p l e { frames := 2, cells := 0, slots := 0, locals := 45 } s m (List.toArray [.ref a_ss, .int px, .int py, .long pr]) below meth c H locs 0 0 (MQ below (va_Qv (fun (u : (Nat → Int32)) => F = u) (fun (u : (Nat → Int32)) (t : State) => va_P D vwCl [(a_ss, .inr (1, [.int sw, .int sh, .ref a_sr])), (a_sr, .inl (k_sr, sn, .inl u))] t.heap ∧ va_K D vwCl [(k_sr, .int)] t ∧ va_D (va_A [(a_ss, .inr (1, [.int sw, .int sh, .ref a_sr])), (a_sr, .inl (k_sr, sn, .inl sf))] sz) [(a_ss, .inr (1, [.int sw, .int sh, .ref a_sr])), (a_sr, .inl (k_sr, sn, .inl u))]) (va_A [(a_ss, .inr (1, [.int sw, .int sh, .ref a_sr])), (a_sr, .inl (k_sr, sn, .inl sf))] sz)) (List.toArray [.ref a_ss, .int px, .int py, .long pr]) s 0 0 (va_A [(a_ss, .inr (1, [.int sw, .int sh, .ref a_sr])), (a_sr, .inl (k_sr, sn, .inl sf))] sz)) (F0 m 3 ls []) := by
      intro n9
      induction n9 with
      | zero => intro v5_3 H locs ls h_r5 hmu3; exact absurd hmu3 (Nat.not_lt_zero _)
      | succ n3 ih3 =>
        intro v5_3 H locs ls h_r5 hmu3 hF hP hD hS hl
        rw [f_S_whitenDisc_L3] at hF
        refine lv_iload hx hb dX1_whitenDisc_3 (lv_at hl 0 rfl) ?_
        refine lv_bipush (v := 24) hx hb dX1_whitenDisc_5 (by decide) ?_
        refine lv_icmp_ge (tgt := 31) hx hb dX1_whitenDisc_7 (by decide) (fun c7 => ?_) (fun c7 => ?_)
        · rw [if_pos c7] at hF
          exact af3 v5_3 _ _ ls (h_r5) hF hP hD hS (lv_sub hl [0, 1, 2, 3, 4] rfl)
        · rw [if_neg c7] at hF
          refine lv_iload hx hb dX1_whitenDisc_10 (lv_at hl 0 rfl) ?_
          refine lv_iconst (v := 1) hx hb dX1_whitenDisc_12 (by decide) ?_
          refine lv_iadd hx hb dX1_whitenDisc_13 ?_
          refine lv_iload hx hb dX1_whitenDisc_14 (lv_at hl 0 rfl) ?_
          refine lv_iconst (v := 1) hx hb dX1_whitenDisc_16 (by decide) ?_
          refine lv_iadd hx hb dX1_whitenDisc_17 ?_
          refine lv_imul hx hb dX1_whitenDisc_18 ?_
          refine lv_i2l hx hb dX1_whitenDisc_19 rfl ?_
          refine lv_lload_n hx hb dX1_whitenDisc_20 rfl (lv_at hl 4 rfl) ?_
          refine W.lcmp hx hb dX1_whitenDisc_21 ?_
          refine lv_if_ge (tgt := 31) hx hb dX1_whitenDisc_22 (by decide) (fun c22 => ?_) (fun c22 => ?_)
          · rw [if_pos c22] at hF
            exact af3 v5_3 _ _ ls (h_r5) hF hP hD hS (lv_sub hl [0, 1, 2, 3, 4] rfl)
          · rw [if_neg c22] at hF
            refine lv_iinc (v := v5_3 + 1) (lv' := [(5, .int (v5_3 + 1)), (0, .ref a_ss), (1, .int px), (2, .int py), (3, .long pr)]) hx hb dX1_whitenDisc_25 hl (k := 0) rfl rfl (by decide) rfl (fun ls hl => ?_)
            refine lv_goto (tgt := 3) hx hb dX1_whitenDisc_28 (by decide) ?_
            exact ih3 (v5_3 + 1) _ _ ls (rc_st h_r5 c7) (lt_lt (cu c7) hmu3) hF hP hD hS (lv_sub hl [0, 1, 2, 3, 4] rfl)
    exact lp3 FU 0 _ _ ls (by decide) (fu_lt _ _) hF hP hD hS (lv_sub hl [0, 1, 2, 3, 4] rfl)
  exact hgo _ _ hP hD hS
