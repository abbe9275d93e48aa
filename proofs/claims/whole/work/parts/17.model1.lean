def f_M_in (px : Int32) (py : Int32) (pz : Int32) : Int32 := (if px < py then 0 else (if pz < px then 0 else 1))
set_option maxHeartbeats 4000000 in
set_option maxRecDepth 100000 in
theorem c_M_in (l : Launch) (D : va_G) (tX tY : Nat) (px : Int32) (py : Int32) (pz : Int32) : Met l yX5_in wX5_in ({ frames := 0, cells := 0, slots := 0, locals := 0 }) (ro_P D tX tY [] [] [.int px, .int py, .int pz]) (k2_QcV (.int (f_M_in px py pz))) 0 0 (fun _ => False) := by
  generalize hF : (f_M_in px py pz) = F
  refine Met.ofW (cc := cX5_in) (maxL := 3) (ret := (some .boolean)) (by decide) rfl ?_
  intro p e s m args below meth c s₁ B hml hv
  obtain ⟨rfl, hP, hK, hT, hN⟩ := hv
  have hx := B.exec
  have hb := B.bytes
  have hr := B.returns
  have hts := atoms_spec (ws := wX5_in) B.pre
  have hta : ∀ w ∈ gw, w.before _ s = true := fun w h => hts w (List.mem_cons_of_mem _ h)
  have hown : s.vm.findClass RX5 = some m.cls := findClass_of_methodNamed B.named
  have hlocks := B.notSynchronized
  have hl := lv_entry [.int px, .int py, .int pz] (n := 3) (Nat.le_of_ble_eq_true rfl)
  rw [lg_entry_eq]
  generalize (lg_sl [.int px, .int py, .int pz] ++ List.replicate (3 - (lg_sl [.int px, .int py, .int pz]).length) Slot.unset).toArray = ls at hl ⊢
  have hl : lv_has ls 3 [(0, .int px), (1, .int py), (2, .int pz)] := hl
  rw [f_M_in] at hF
  have hZ : (if px < py then True else (if pz < px then True else True)) := by simp
  refine lv_iload_n hx hb dX5_in_0 rfl (lv_at hl 0 rfl) ?_
  refine lv_iload_n hx hb dX5_in_1 rfl (lv_at hl 1 rfl) ?_
  refine lv_icmp_lt (tgt := 14) hx hb dX5_in_2 (by decide) (fun c2 => ?_) (fun c2 => ?_)
  · rw [if_pos c2] at hF hZ
    refine lv_iconst (v := 0) hx hb dX5_in_14 (by decide) ?_
    exact W.zret (v := 0) hx hb hr rfl (fun t ht _ => ⟨by rw [← hF], ht⟩) (fun _ h => nomatch h) dX5_in_15
  · rw [if_neg c2] at hF hZ
    refine lv_iload_n hx hb dX5_in_5 rfl (lv_at hl 0 rfl) ?_
    refine lv_iload_n hx hb dX5_in_6 rfl (lv_at hl 2 rfl) ?_
    refine lv_icmp_gt (tgt := 14) hx hb dX5_in_7 (by decide) (fun c7 => ?_) (fun c7 => ?_)
    · rw [if_pos c7] at hF hZ
      refine lv_iconst (v := 0) hx hb dX5_in_14 (by decide) ?_
      exact W.zret (v := 0) hx hb hr rfl (fun t ht _ => ⟨by rw [← hF], ht⟩) (fun _ h => nomatch h) dX5_in_15
    · rw [if_neg c7] at hF hZ
      refine lv_iconst (v := 1) hx hb dX5_in_10 (by decide) ?_
      refine lv_goto (tgt := 15) hx hb dX5_in_11 (by decide) ?_
      exact W.zret (v := 1) hx hb hr rfl (fun t ht _ => ⟨by rw [← hF], ht⟩) (fun _ h => nomatch h) dX5_in_15

def f_M_thrown (mcd : Int32) : Int32 := mcd
set_option maxHeartbeats 4000000 in
set_option maxRecDepth 100000 in
theorem c_M_thrown (l : Launch) (D : va_G) (tX tY : Nat) (a_m : Nat) (a_mp : Nat) (k_mp : ClassId) (a_ml : Nat) (k_ml : ClassId) (a_mc : Nat) (k_mc : ClassId) (a_mb : Nat) (k_mb : ClassId) (a_mg : Nat) (k_mg : ClassId) (a_mq : Nat) (k_mq : ClassId) (a_mo : Nat) (k_mo : ClassId) (a_me : Nat) (k_me : ClassId) (a_mv : Nat) (k_mv : ClassId) (a_my : Nat) (k_my : ClassId) (mcd : Int32) (mw : Int32) (mh : Int32) (mwd : Int32) (mpf : Nat → Int32) (mlf : Nat → Int32) (mth : Int32) (mcf : Nat → Int32) (mbf : Nat → Int32) (mkn : Int32) (mst : Int32) (mgf : Nat → Int32) (mqf : Nat → Int32) (mus : Int32) (mof : Nat → Int32) (mef : Nat → Int32) (mcu : Int32) (mvf : Nat → Int32) (myf : Nat → Int32) : Met l yX5_thrown wX5_thrown ({ frames := 0, cells := 0, slots := 0, locals := 0 }) (ro_P D tX tY [(k_mp, .boolean), (k_ml, .boolean), (k_mc, .boolean), (k_mb, .int), (k_mg, .int), (k_mq, .int), (k_mo, .boolean), (k_me, .boolean), (k_mv, .int), (k_my, .int)] [(a_m, .inr (5, [.int mcd, .int mw, .int mh, .int mwd, .ref a_mp, .ref a_ml, .int mth, .ref a_mc, .ref a_mb, .int mkn, .int mst, .ref a_mg, .ref a_mq, .int mus, .ref a_mo, .ref a_me, .int mcu, .ref a_mv, .ref a_my])), (a_mp, .inl (k_mp, 676, .inl mpf)), (a_ml, .inl (k_ml, 676, .inl mlf)), (a_mc, .inl (k_mc, 676, .inl mcf)), (a_mb, .inl (k_mb, 676, .inl mbf)), (a_mg, .inl (k_mg, 3000, .inl mgf)), (a_mq, .inl (k_mq, 9000, .inl mqf)), (a_mo, .inl (k_mo, 5408, .inl mof)), (a_me, .inl (k_me, 676, .inl mef)), (a_mv, .inl (k_mv, 3000, .inl mvf)), (a_my, .inl (k_my, 3000, .inl myf))] [.ref a_m]) (k2_QcV (.int (f_M_thrown mcd))) 0 0 (fun _ => False) := by
  generalize hF : (f_M_thrown mcd) = F
  refine Met.ofW (cc := cX5_thrown) (maxL := 1) (ret := (some .int)) (by decide) rfl ?_
  intro p e s m args below meth c s₁ B hml hv
  obtain ⟨rfl, hP, hK, hT, hN⟩ := hv
  have hx := B.exec
  have hb := B.bytes
  have hr := B.returns
  have hts := atoms_spec (ws := wX5_thrown) B.pre
  have hta : ∀ w ∈ gw, w.before _ s = true := fun w h => hts w (List.mem_cons_of_mem _ h)
  have hown : s.vm.findClass RX5 = some m.cls := findClass_of_methodNamed B.named
  have hlocks := B.notSynchronized
  have hl := lv_entry [.ref a_m] (n := 1) (Nat.le_of_ble_eq_true rfl)
  rw [lg_entry_eq]
  generalize (lg_sl [.ref a_m] ++ List.replicate (1 - (lg_sl [.ref a_m]).length) Slot.unset).toArray = ls at hl ⊢
  have hl : lv_has ls 1 [(0, .ref a_m)] := hl
  rw [f_M_thrown] at hF
  have hZ : True := trivial
  refine lv_aload_n hx hb dX5_thrown_0 rfl (lv_at hl 0 rfl) ?_
  refine va_get (D := D) (ci := 5) (v := .int mcd) (C := RX5) (T := TX5) (N := 19) hx hb hta inX5 hown hK hP 0 rfl rfl 0 (by decide) (hta _ gw_608) (fun _ h9 => h9) rfl dX5_thrown_1 ?_
  exact W.iret (v := mcd) hx hb hr (fun t ht _ => ⟨by rw [← hF], ht⟩) (fun _ h => nomatch h) dX5_thrown_4

def f_M_area (mh : Int32) (mwd : Int32) : Int32 := mwd * (mh + 2)
set_option maxHeartbeats 4000000 in
set_option maxRecDepth 100000 in
theorem c_M_area (l : Launch) (D : va_G) (tX tY : Nat) (a_m : Nat) (a_mp : Nat) (k_mp : ClassId) (a_ml : Nat) (k_ml : ClassId) (a_mc : Nat) (k_mc : ClassId) (a_mb : Nat) (k_mb : ClassId) (a_mg : Nat) (k_mg : ClassId) (a_mq : Nat) (k_mq : ClassId) (a_mo : Nat) (k_mo : ClassId) (a_me : Nat) (k_me : ClassId) (a_mv : Nat) (k_mv : ClassId) (a_my : Nat) (k_my : ClassId) (mcd : Int32) (mw : Int32) (mh : Int32) (mwd : Int32) (mpf : Nat → Int32) (mlf : Nat → Int32) (mth : Int32) (mcf : Nat → Int32) (mbf : Nat → Int32) (mkn : Int32) (mst : Int32) (mgf : Nat → Int32) (mqf : Nat → Int32) (mus : Int32) (mof : Nat → Int32) (mef : Nat → Int32) (mcu : Int32) (mvf : Nat → Int32) (myf : Nat → Int32) : Met l yX5_area wX5_area ({ frames := 0, cells := 0, slots := 0, locals := 0 }) (ro_P D tX tY [(k_mp, .boolean), (k_ml, .boolean), (k_mc, .boolean), (k_mb, .int), (k_mg, .int), (k_mq, .int), (k_mo, .boolean), (k_me, .boolean), (k_mv, .int), (k_my, .int)] [(a_m, .inr (5, [.int mcd, .int mw, .int mh, .int mwd, .ref a_mp, .ref a_ml, .int mth, .ref a_mc, .ref a_mb, .int mkn, .int mst, .ref a_mg, .ref a_mq, .int mus, .ref a_mo, .ref a_me, .int mcu, .ref a_mv, .ref a_my])), (a_mp, .inl (k_mp, 676, .inl mpf)), (a_ml, .inl (k_ml, 676, .inl mlf)), (a_mc, .inl (k_mc, 676, .inl mcf)), (a_mb, .inl (k_mb, 676, .inl mbf)), (a_mg, .inl (k_mg, 3000, .inl mgf)), (a_mq, .inl (k_mq, 9000, .inl mqf)), (a_mo, .inl (k_mo, 5408, .inl mof)), (a_me, .inl (k_me, 676, .inl mef)), (a_mv, .inl (k_mv, 3000, .inl mvf)), (a_my, .inl (k_my, 3000, .inl myf))] [.ref a_m]) (k2_QcV (.int (f_M_area mh mwd))) 0 0 (fun _ => False) := by
  generalize hF : (f_M_area mh mwd) = F
  refine Met.ofW (cc := cX5_area) (maxL := 1) (ret := (some .int)) (by decide) rfl ?_
  intro p e s m args below meth c s₁ B hml hv
  obtain ⟨rfl, hP, hK, hT, hN⟩ := hv
  have hx := B.exec
  have hb := B.bytes
  have hr := B.returns
  have hts := atoms_spec (ws := wX5_area) B.pre
  have hta : ∀ w ∈ gw, w.before _ s = true := fun w h => hts w (List.mem_cons_of_mem _ h)
  have hown : s.vm.findClass RX5 = some m.cls := findClass_of_methodNamed B.named
  have hlocks := B.notSynchronized
  have hl := lv_entry [.ref a_m] (n := 1) (Nat.le_of_ble_eq_true rfl)
  rw [lg_entry_eq]
  generalize (lg_sl [.ref a_m] ++ List.replicate (1 - (lg_sl [.ref a_m]).length) Slot.unset).toArray = ls at hl ⊢
  have hl : lv_has ls 1 [(0, .ref a_m)] := hl
  rw [f_M_area] at hF
  have hZ : True := trivial
  refine lv_aload_n hx hb dX5_area_0 rfl (lv_at hl 0 rfl) ?_
  refine va_get (D := D) (ci := 5) (v := .int mwd) (C := RX5) (T := TX5) (N := 19) hx hb hta inX5 hown hK hP 0 rfl rfl 3 (by decide) (hta _ gw_611) (fun _ h9 => h9) rfl dX5_area_1 ?_
  refine lv_aload_n hx hb dX5_area_4 rfl (lv_at hl 0 rfl) ?_
  refine va_get (D := D) (ci := 5) (v := .int mh) (C := RX5) (T := TX5) (N := 19) hx hb hta inX5 hown hK hP 0 rfl rfl 2 (by decide) (hta _ gw_610) (fun _ h9 => h9) rfl dX5_area_5 ?_
  refine lv_iconst (v := 2) hx hb dX5_area_8 (by decide) ?_
  refine lv_iadd hx hb dX5_area_9 ?_
  refine lv_imul hx hb dX5_area_10 ?_
  exact W.iret (v := mwd * (mh + 2)) hx hb hr (fun t ht _ => ⟨by rw [← hF], ht⟩) (fun _ h => nomatch h) dX5_area_11

def f_M_placeOf (mwd : Int32) (px : Int32) (py : Int32) : Int32 := (((py + 1) * mwd) + px) + 1
set_option maxHeartbeats 4000000 in
set_option maxRecDepth 100000 in
theorem c_M_placeOf (l : Launch) (D : va_G) (tX tY : Nat) (a_m : Nat) (a_mp : Nat) (k_mp : ClassId) (a_ml : Nat) (k_ml : ClassId) (a_mc : Nat) (k_mc : ClassId) (a_mb : Nat) (k_mb : ClassId) (a_mg : Nat) (k_mg : ClassId) (a_mq : Nat) (k_mq : ClassId) (a_mo : Nat) (k_mo : ClassId) (a_me : Nat) (k_me : ClassId) (a_mv : Nat) (k_mv : ClassId) (a_my : Nat) (k_my : ClassId) (mcd : Int32) (mw : Int32) (mh : Int32) (mwd : Int32) (mpf : Nat → Int32) (mlf : Nat → Int32) (mth : Int32) (mcf : Nat → Int32) (mbf : Nat → Int32) (mkn : Int32) (mst : Int32) (mgf : Nat → Int32) (mqf : Nat → Int32) (mus : Int32) (mof : Nat → Int32) (mef : Nat → Int32) (mcu : Int32) (mvf : Nat → Int32) (myf : Nat → Int32) (px : Int32) (py : Int32) : Met l yX5_placeOf wX5_placeOf ({ frames := 0, cells := 0, slots := 0, locals := 0 }) (ro_P D tX tY [(k_mp, .boolean), (k_ml, .boolean), (k_mc, .boolean), (k_mb, .int), (k_mg, .int), (k_mq, .int), (k_mo, .boolean), (k_me, .boolean), (k_mv, .int), (k_my, .int)] [(a_m, .inr (5, [.int mcd, .int mw, .int mh, .int mwd, .ref a_mp, .ref a_ml, .int mth, .ref a_mc, .ref a_mb, .int mkn, .int mst, .ref a_mg, .ref a_mq, .int mus, .ref a_mo, .ref a_me, .int mcu, .ref a_mv, .ref a_my])), (a_mp, .inl (k_mp, 676, .inl mpf)), (a_ml, .inl (k_ml, 676, .inl mlf)), (a_mc, .inl (k_mc, 676, .inl mcf)), (a_mb, .inl (k_mb, 676, .inl mbf)), (a_mg, .inl (k_mg, 3000, .inl mgf)), (a_mq, .inl (k_mq, 9000, .inl mqf)), (a_mo, .inl (k_mo, 5408, .inl mof)), (a_me, .inl (k_me, 676, .inl mef)), (a_mv, .inl (k_mv, 3000, .inl mvf)), (a_my, .inl (k_my, 3000, .inl myf))] [.ref a_m, .int px, .int py]) (k2_QcV (.int (f_M_placeOf mwd px py))) 0 0 (fun _ => False) := by
  generalize hF : (f_M_placeOf mwd px py) = F
  refine Met.ofW (cc := cX5_placeOf) (maxL := 3) (ret := (some .int)) (by decide) rfl ?_
  intro p e s m args below meth c s₁ B hml hv
  obtain ⟨rfl, hP, hK, hT, hN⟩ := hv
  have hx := B.exec
  have hb := B.bytes
  have hr := B.returns
  have hts := atoms_spec (ws := wX5_placeOf) B.pre
  have hta : ∀ w ∈ gw, w.before _ s = true := fun w h => hts w (List.mem_cons_of_mem _ h)
  have hown : s.vm.findClass RX5 = some m.cls := findClass_of_methodNamed B.named
  have hlocks := B.notSynchronized
  have hl := lv_entry [.ref a_m, .int px, .int py] (n := 3) (Nat.le_of_ble_eq_true rfl)
  rw [lg_entry_eq]
  generalize (lg_sl [.ref a_m, .int px, .int py] ++ List.replicate (3 - (lg_sl [.ref a_m, .int px, .int py]).length) Slot.unset).toArray = ls at hl ⊢
  have hl : lv_has ls 3 [(0, .ref a_m), (1, .int px), (2, .int py)] := hl
  rw [f_M_placeOf] at hF
  have hZ : True := trivial
  refine lv_iload_n hx hb dX5_placeOf_0 rfl (lv_at hl 2 rfl) ?_
  refine lv_iconst (v := 1) hx hb dX5_placeOf_1 (by decide) ?_
  refine lv_iadd hx hb dX5_placeOf_2 ?_
  refine lv_aload_n hx hb dX5_placeOf_3 rfl (lv_at hl 0 rfl) ?_
  refine va_get (D := D) (ci := 5) (v := .int mwd) (C := RX5) (T := TX5) (N := 19) hx hb hta inX5 hown hK hP 0 rfl rfl 3 (by decide) (hta _ gw_611) (fun _ h9 => h9) rfl dX5_placeOf_4 ?_
  refine lv_imul hx hb dX5_placeOf_7 ?_
  refine lv_iload_n hx hb dX5_placeOf_8 rfl (lv_at hl 1 rfl) ?_
  refine lv_iadd hx hb dX5_placeOf_9 ?_
  refine lv_iconst (v := 1) hx hb dX5_placeOf_10 (by decide) ?_
  refine lv_iadd hx hb dX5_placeOf_11 ?_
  exact W.iret (v := (((py + 1) * mwd) + px) + 1) hx hb hr (fun t ht _ => ⟨by rw [← hF], ht⟩) (fun _ h => nomatch h) dX5_placeOf_12

def f_M_isPlace (mw : Int32) (mh : Int32) (px : Int32) (py : Int32) : Int32 := (if (f_M_in px 0 (mw - 1)) = 0 then 0 else (if (f_M_in py 0 (mh - 1)) = 0 then 0 else 1))
set_option maxHeartbeats 4000000 in
set_option maxRecDepth 100000 in
theorem c_M_isPlace (l : Launch) (D : va_G) (tX tY : Nat) (a_m : Nat) (a_mp : Nat) (k_mp : ClassId) (a_ml : Nat) (k_ml : ClassId) (a_mc : Nat) (k_mc : ClassId) (a_mb : Nat) (k_mb : ClassId) (a_mg : Nat) (k_mg : ClassId) (a_mq : Nat) (k_mq : ClassId) (a_mo : Nat) (k_mo : ClassId) (a_me : Nat) (k_me : ClassId) (a_mv : Nat) (k_mv : ClassId) (a_my : Nat) (k_my : ClassId) (mcd : Int32) (mw : Int32) (mh : Int32) (mwd : Int32) (mpf : Nat → Int32) (mlf : Nat → Int32) (mth : Int32) (mcf : Nat → Int32) (mbf : Nat → Int32) (mkn : Int32) (mst : Int32) (mgf : Nat → Int32) (mqf : Nat → Int32) (mus : Int32) (mof : Nat → Int32) (mef : Nat → Int32) (mcu : Int32) (mvf : Nat → Int32) (myf : Nat → Int32) (px : Int32) (py : Int32) : Met l yX5_isPlace wX5_isPlace ({ frames := 1, cells := 0, slots := 0, locals := 22 }) (ro_P D tX tY [(k_mp, .boolean), (k_ml, .boolean), (k_mc, .boolean), (k_mb, .int), (k_mg, .int), (k_mq, .int), (k_mo, .boolean), (k_me, .boolean), (k_mv, .int), (k_my, .int)] [(a_m, .inr (5, [.int mcd, .int mw, .int mh, .int mwd, .ref a_mp, .ref a_ml, .int mth, .ref a_mc, .ref a_mb, .int mkn, .int mst, .ref a_mg, .ref a_mq, .int mus, .ref a_mo, .ref a_me, .int mcu, .ref a_mv, .ref a_my])), (a_mp, .inl (k_mp, 676, .inl mpf)), (a_ml, .inl (k_ml, 676, .inl mlf)), (a_mc, .inl (k_mc, 676, .inl mcf)), (a_mb, .inl (k_mb, 676, .inl mbf)), (a_mg, .inl (k_mg, 3000, .inl mgf)), (a_mq, .inl (k_mq, 9000, .inl mqf)), (a_mo, .inl (k_mo, 5408, .inl mof)), (a_me, .inl (k_me, 676, .inl mef)), (a_mv, .inl (k_mv, 3000, .inl mvf)), (a_my, .inl (k_my, 3000, .inl myf))] [.ref a_m, .int px, .int py]) (k2_QcV (.int (f_M_isPlace mw mh px py))) 0 0 (fun _ => False) := by
  generalize hF : (f_M_isPlace mw mh px py) = F
  refine Met.ofW (cc := cX5_isPlace) (maxL := 3) (ret := (some .boolean)) (by decide) rfl ?_
  intro p e s m args below meth c s₁ B hml hv
  obtain ⟨rfl, hP, hK, hT, hN⟩ := hv
  have hx := B.exec
  have hb := B.bytes
  have hr := B.returns
  have hts := atoms_spec (ws := wX5_isPlace) B.pre
  have hta : ∀ w ∈ gw, w.before _ s = true := fun w h => hts w (List.mem_cons_of_mem _ h)
  have hown : s.vm.findClass RX5 = some m.cls := findClass_of_methodNamed B.named
  have hlocks := B.notSynchronized
  have hl := lv_entry [.ref a_m, .int px, .int py] (n := 3) (Nat.le_of_ble_eq_true rfl)
  rw [lg_entry_eq]
  generalize (lg_sl [.ref a_m, .int px, .int py] ++ List.replicate (3 - (lg_sl [.ref a_m, .int px, .int py]).length) Slot.unset).toArray = ls at hl ⊢
  have hl : lv_has ls 3 [(0, .ref a_m), (1, .int px), (2, .int py)] := hl
  rw [f_M_isPlace] at hF
  have hZ : (if (f_M_in px 0 (mw - 1)) = 0 then True else (if (f_M_in py 0 (mh - 1)) = 0 then True else True)) := by simp
  refine lv_iload_n hx hb dX5_isPlace_0 rfl (lv_at hl 1 rfl) ?_
  refine lv_iconst (v := 0) hx hb dX5_isPlace_1 (by decide) ?_
  refine lv_aload_n hx hb dX5_isPlace_2 rfl (lv_at hl 0 rfl) ?_
  refine va_get (D := D) (ci := 5) (v := .int mw) (C := RX5) (T := TX5) (N := 19) hx hb hta inX5 hown hK hP 0 rfl rfl 1 (by decide) (hta _ gw_609) (fun _ h9 => h9) rfl dX5_isPlace_3 ?_
  refine lv_iconst (v := 1) hx hb dX5_isPlace_6 (by decide) ?_
  refine lv_isub hx hb dX5_isPlace_7 ?_
  refine ro_go (va_runS (As := [.int px, .int 0, .int (mw - 1)]) (rest := []) ⟨hx, hb, hml, hown, hts⟩ (c_M_in l D tX tY px 0 (mw - 1)) (va_cwS 3 hts (gi_3 gi_c gw_707 gw_708 gw_7 gw_709) rfl rfl rfl (by decide +kernel) ⟨Nat.le_of_ble_eq_true rfl, Nat.le_of_ble_eq_true rfl⟩) ⟨ro_blind, ro_at hP hK hT hN va_S.rf [] [] rfl rfl⟩ rfl rfl hl.1 rfl (lv_room (Nat.le_of_ble_eq_true rfl)) dX5_isPlace_8 ⟨Nat.le_of_ble_eq_true rfl, Nat.le_of_ble_eq_true rfl⟩) ?_
  refine lv_if_eq (tgt := 32) hx hb dX5_isPlace_11 (by decide) (fun c11 => ?_) (fun c11 => ?_)
  · rw [if_pos c11] at hF hZ
    refine lv_iconst (v := 0) hx hb dX5_isPlace_32 (by decide) ?_
    exact W.zret (v := 0) hx hb hr rfl (fun t ht _ => ⟨by rw [← hF], ht⟩) (fun _ h => nomatch h) dX5_isPlace_33
  · rw [if_neg c11] at hF hZ
    refine lv_iload_n hx hb dX5_isPlace_14 rfl (lv_at hl 2 rfl) ?_
    refine lv_iconst (v := 0) hx hb dX5_isPlace_15 (by decide) ?_
    refine lv_aload_n hx hb dX5_isPlace_16 rfl (lv_at hl 0 rfl) ?_
    refine va_get (D := D) (ci := 5) (v := .int mh) (C := RX5) (T := TX5) (N := 19) hx hb hta inX5 hown hK hP 0 rfl rfl 2 (by decide) (hta _ gw_610) (fun _ h9 => h9) rfl dX5_isPlace_17 ?_
    refine lv_iconst (v := 1) hx hb dX5_isPlace_20 (by decide) ?_
    refine lv_isub hx hb dX5_isPlace_21 ?_
    refine ro_go (va_runS (As := [.int py, .int 0, .int (mh - 1)]) (rest := []) ⟨hx, hb, hml, hown, hts⟩ (c_M_in l D tX tY py 0 (mh - 1)) (va_cwS 3 hts (gi_3 gi_c gw_707 gw_708 gw_7 gw_709) rfl rfl rfl (by decide +kernel) ⟨Nat.le_of_ble_eq_true rfl, Nat.le_of_ble_eq_true rfl⟩) ⟨ro_blind, ro_at hP hK hT hN va_S.rf [] [] rfl rfl⟩ rfl rfl hl.1 rfl (lv_room (Nat.le_of_ble_eq_true rfl)) dX5_isPlace_22 ⟨Nat.le_of_ble_eq_true rfl, Nat.le_of_ble_eq_true rfl⟩) ?_
    refine lv_if_eq (tgt := 32) hx hb dX5_isPlace_25 (by decide) (fun c25 => ?_) (fun c25 => ?_)
    · rw [if_pos c25] at hF hZ
      refine lv_iconst (v := 0) hx hb dX5_isPlace_32 (by decide) ?_
      exact W.zret (v := 0) hx hb hr rfl (fun t ht _ => ⟨by rw [← hF], ht⟩) (fun _ h => nomatch h) dX5_isPlace_33
    · rw [if_neg c25] at hF hZ
      refine lv_iconst (v := 1) hx hb dX5_isPlace_28 (by decide) ?_
      refine lv_goto (tgt := 33) hx hb dX5_isPlace_29 (by decide) ?_
      exact W.zret (v := 1) hx hb hr rfl (fun t ht _ => ⟨by rw [← hF], ht⟩) (fun _ h => nomatch h) dX5_isPlace_33

def f_M_near (mwd : Int32) (px : Int32) (py : Int32) : Int32 := (if (py - py / 4 * 4) = 0 then (if py = 2 then (px + (0 * mwd)) + 0 else (if py = 6 then (px + (0 * mwd)) + 0 else (if py = 7 then (px + ((-1) * mwd)) + 0 else (if 2 ≤ py then (px + (1 * mwd)) + 0 else (px + ((-1) * mwd)) + 0)))) else (if 4 ≤ py then (if py = 2 then (px + (0 * mwd)) + (-1) else (if py = 6 then (px + (0 * mwd)) + (-1) else (if py = 7 then (px + ((-1) * mwd)) + (-1) else (if 2 ≤ py then (px + (1 * mwd)) + (-1) else (px + ((-1) * mwd)) + (-1))))) else (if py = 2 then (px + (0 * mwd)) + 1 else (if py = 6 then (px + (0 * mwd)) + 1 else (if py = 7 then (px + ((-1) * mwd)) + 1 else (if 2 ≤ py then (px + (1 * mwd)) + 1 else (px + ((-1) * mwd)) + 1))))))
set_option maxHeartbeats 4000000 in
set_option maxRecDepth 100000 in
theorem c_M_near (l : Launch) (D : va_G) (tX tY : Nat) (a_m : Nat) (a_mp : Nat) (k_mp : ClassId) (a_ml : Nat) (k_ml : ClassId) (a_mc : Nat) (k_mc : ClassId) (a_mb : Nat) (k_mb : ClassId) (a_mg : Nat) (k_mg : ClassId) (a_mq : Nat) (k_mq : ClassId) (a_mo : Nat) (k_mo : ClassId) (a_me : Nat) (k_me : ClassId) (a_mv : Nat) (k_mv : ClassId) (a_my : Nat) (k_my : ClassId) (mcd : Int32) (mw : Int32) (mh : Int32) (mwd : Int32) (mpf : Nat → Int32) (mlf : Nat → Int32) (mth : Int32) (mcf : Nat → Int32) (mbf : Nat → Int32) (mkn : Int32) (mst : Int32) (mgf : Nat → Int32) (mqf : Nat → Int32) (mus : Int32) (mof : Nat → Int32) (mef : Nat → Int32) (mcu : Int32) (mvf : Nat → Int32) (myf : Nat → Int32) (px : Int32) (py : Int32) : Met l yX5_near wX5_near ({ frames := 0, cells := 0, slots := 0, locals := 0 }) (ro_P D tX tY [(k_mp, .boolean), (k_ml, .boolean), (k_mc, .boolean), (k_mb, .int), (k_mg, .int), (k_mq, .int), (k_mo, .boolean), (k_me, .boolean), (k_mv, .int), (k_my, .int)] [(a_m, .inr (5, [.int mcd, .int mw, .int mh, .int mwd, .ref a_mp, .ref a_ml, .int mth, .ref a_mc, .ref a_mb, .int mkn, .int mst, .ref a_mg, .ref a_mq, .int mus, .ref a_mo, .ref a_me, .int mcu, .ref a_mv, .ref a_my])), (a_mp, .inl (k_mp, 676, .inl mpf)), (a_ml, .inl (k_ml, 676, .inl mlf)), (a_mc, .inl (k_mc, 676, .inl mcf)), (a_mb, .inl (k_mb, 676, .inl mbf)), (a_mg, .inl (k_mg, 3000, .inl mgf)), (a_mq, .inl (k_mq, 9000, .inl mqf)), (a_mo, .inl (k_mo, 5408, .inl mof)), (a_me, .inl (k_me, 676, .inl mef)), (a_mv, .inl (k_mv, 3000, .inl mvf)), (a_my, .inl (k_my, 3000, .inl myf))] [.ref a_m, .int px, .int py]) (k2_QcV (.int (f_M_near mwd px py))) 0 0 (fun _ => False) := by
  generalize hF : (f_M_near mwd px py) = F
  refine Met.ofW (cc := cX5_near) (maxL := 5) (ret := (some .int)) (by decide) rfl ?_
  intro p e s m args below meth c s₁ B hml hv
  obtain ⟨rfl, hP, hK, hT, hN⟩ := hv
  have hx := B.exec
  have hb := B.bytes
  have hr := B.returns
  have hts := atoms_spec (ws := wX5_near) B.pre
  have hta : ∀ w ∈ gw, w.before _ s = true := fun w h => hts w (List.mem_cons_of_mem _ h)
  have hown : s.vm.findClass RX5 = some m.cls := findClass_of_methodNamed B.named
  have hlocks := B.notSynchronized
  have hl := lv_entry [.ref a_m, .int px, .int py] (n := 5) (Nat.le_of_ble_eq_true rfl)
  rw [lg_entry_eq]
  generalize (lg_sl [.ref a_m, .int px, .int py] ++ List.replicate (5 - (lg_sl [.ref a_m, .int px, .int py]).length) Slot.unset).toArray = ls at hl ⊢
  have hl : lv_has ls 5 [(0, .ref a_m), (1, .int px), (2, .int py)] := hl
  rw [f_M_near] at hF
  have hZ : (if (py - py / 4 * 4) = 0 then (if py = 2 then True else (if py = 6 then True else (if py = 7 then True else (if 2 ≤ py then True else True)))) else (if 4 ≤ py then (if py = 2 then True else (if py = 6 then True else (if py = 7 then True else (if 2 ≤ py then True else True)))) else (if py = 2 then True else (if py = 6 then True else (if py = 7 then True else (if 2 ≤ py then True else True)))))) := by simp
  refine lv_iload_n hx hb dX5_near_0 rfl (lv_at hl 2 rfl) ?_
  refine lv_iconst (v := 4) hx hb dX5_near_1 (by decide) ?_
  refine lv_irem hx hb dX5_near_2 (by decide) ?_
  refine lv_if_ne (tgt := 10) hx hb dX5_near_3 (by decide) (fun c3 => ?_) (fun c3 => ?_)
  · rw [if_neg c3] at hF hZ
    refine lv_iload_n hx hb dX5_near_10 rfl (lv_at hl 2 rfl) ?_
    refine lv_iconst (v := 4) hx hb dX5_near_11 (by decide) ?_
    refine lv_icmp_ge (tgt := 19) hx hb dX5_near_12 (by decide) (fun c12 => ?_) (fun c12 => ?_)
    · rw [if_pos c12] at hF hZ
      refine lv_iconst (v := (-1)) hx hb dX5_near_19 (by decide) ?_
      refine lv_istore_n (lv' := [(3, .int (-1)), (0, .ref a_m), (1, .int px), (2, .int py)]) hx hb dX5_near_20 rfl hl (by decide) rfl (fun ls hl => ?_)
      refine lv_iload_n hx hb dX5_near_21 rfl (lv_at hl 3 rfl) ?_
      refine lv_iconst (v := 2) hx hb dX5_near_22 (by decide) ?_
      refine lv_icmp_eq (tgt := 32) hx hb dX5_near_23 (by decide) (fun c23 => ?_) (fun c23 => ?_)
      · rw [if_pos c23] at hF hZ
        refine lv_iconst (v := 0) hx hb dX5_near_32 (by decide) ?_
        refine lv_goto (tgt := 52) hx hb dX5_near_33 (by decide) ?_
        refine lv_istore (lv' := [(4, .int 0), (3, .int (-1)), (0, .ref a_m), (1, .int px), (2, .int py)]) hx hb dX5_near_52 hl (by decide) rfl (fun ls hl => ?_)
        refine lv_iload_n hx hb dX5_near_54 rfl (lv_at hl 3 rfl) ?_
        refine lv_iload hx hb dX5_near_55 (lv_at hl 0 rfl) ?_
        refine lv_aload_n hx hb dX5_near_57 rfl (lv_at hl 2 rfl) ?_
        refine va_get (D := D) (ci := 5) (v := .int mwd) (C := RX5) (T := TX5) (N := 19) hx hb hta inX5 hown hK hP 0 rfl rfl 3 (by decide) (hta _ gw_611) (fun _ h9 => h9) rfl dX5_near_58 ?_
        refine lv_imul hx hb dX5_near_61 ?_
        refine lv_iadd hx hb dX5_near_62 ?_
        refine lv_iload_n hx hb dX5_near_63 rfl (lv_at hl 1 rfl) ?_
        refine lv_iadd hx hb dX5_near_64 ?_
        exact W.iret (v := (px + (0 * mwd)) + (-1)) hx hb hr (fun t ht _ => ⟨by rw [← hF], ht⟩) (fun _ h => nomatch h) dX5_near_65
      · rw [if_neg c23] at hF hZ
        refine lv_iload_n hx hb dX5_near_26 rfl (lv_at hl 3 rfl) ?_
        refine lv_bipush (v := 6) hx hb dX5_near_27 (by decide) ?_
        refine lv_icmp_ne (tgt := 36) hx hb dX5_near_29 (by decide) (fun c29 => ?_) (fun c29 => ?_)
        · rw [if_neg c29] at hF hZ
          refine lv_iload_n hx hb dX5_near_36 rfl (lv_at hl 3 rfl) ?_
          refine lv_bipush (v := 7) hx hb dX5_near_37 (by decide) ?_
          refine lv_icmp_eq (tgt := 47) hx hb dX5_near_39 (by decide) (fun c39 => ?_) (fun c39 => ?_)
          · rw [if_pos c39] at hF hZ
            refine lv_iconst (v := (-1)) hx hb dX5_near_47 (by decide) ?_
            refine lv_goto (tgt := 52) hx hb dX5_near_48 (by decide) ?_
            refine lv_istore (lv' := [(4, .int (-1)), (3, .int (-1)), (0, .ref a_m), (1, .int px), (2, .int py)]) hx hb dX5_near_52 hl (by decide) rfl (fun ls hl => ?_)
            refine lv_iload_n hx hb dX5_near_54 rfl (lv_at hl 3 rfl) ?_
            refine lv_iload hx hb dX5_near_55 (lv_at hl 0 rfl) ?_
            refine lv_aload_n hx hb dX5_near_57 rfl (lv_at hl 2 rfl) ?_
            refine va_get (D := D) (ci := 5) (v := .int mwd) (C := RX5) (T := TX5) (N := 19) hx hb hta inX5 hown hK hP 0 rfl rfl 3 (by decide) (hta _ gw_611) (fun _ h9 => h9) rfl dX5_near_58 ?_
            refine lv_imul hx hb dX5_near_61 ?_
            refine lv_iadd hx hb dX5_near_62 ?_
            refine lv_iload_n hx hb dX5_near_63 rfl (lv_at hl 1 rfl) ?_
            refine lv_iadd hx hb dX5_near_64 ?_
            exact W.iret (v := (px + ((-1) * mwd)) + (-1)) hx hb hr (fun t ht _ => ⟨by rw [← hF], ht⟩) (fun _ h => nomatch h) dX5_near_65
          · rw [if_neg c39] at hF hZ
            refine lv_iload_n hx hb dX5_near_42 rfl (lv_at hl 3 rfl) ?_
            refine lv_iconst (v := 2) hx hb dX5_near_43 (by decide) ?_
            refine lv_icmp_ge (tgt := 51) hx hb dX5_near_44 (by decide) (fun c44 => ?_) (fun c44 => ?_)
            · rw [if_pos c44] at hF hZ
              refine lv_iconst (v := 1) hx hb dX5_near_51 (by decide) ?_
              refine lv_istore (lv' := [(4, .int 1), (3, .int (-1)), (0, .ref a_m), (1, .int px), (2, .int py)]) hx hb dX5_near_52 hl (by decide) rfl (fun ls hl => ?_)
              refine lv_iload_n hx hb dX5_near_54 rfl (lv_at hl 3 rfl) ?_
              refine lv_iload hx hb dX5_near_55 (lv_at hl 0 rfl) ?_
              refine lv_aload_n hx hb dX5_near_57 rfl (lv_at hl 2 rfl) ?_
              refine va_get (D := D) (ci := 5) (v := .int mwd) (C := RX5) (T := TX5) (N := 19) hx hb hta inX5 hown hK hP 0 rfl rfl 3 (by decide) (hta _ gw_611) (fun _ h9 => h9) rfl dX5_near_58 ?_
              refine lv_imul hx hb dX5_near_61 ?_
              refine lv_iadd hx hb dX5_near_62 ?_
              refine lv_iload_n hx hb dX5_near_63 rfl (lv_at hl 1 rfl) ?_
              refine lv_iadd hx hb dX5_near_64 ?_
              exact W.iret (v := (px + (1 * mwd)) + (-1)) hx hb hr (fun t ht _ => ⟨by rw [← hF], ht⟩) (fun _ h => nomatch h) dX5_near_65
            · rw [if_neg c44] at hF hZ
              refine lv_iconst (v := (-1)) hx hb dX5_near_47 (by decide) ?_
              refine lv_goto (tgt := 52) hx hb dX5_near_48 (by decide) ?_
              refine lv_istore (lv' := [(4, .int (-1)), (3, .int (-1)), (0, .ref a_m), (1, .int px), (2, .int py)]) hx hb dX5_near_52 hl (by decide) rfl (fun ls hl => ?_)
              refine lv_iload_n hx hb dX5_near_54 rfl (lv_at hl 3 rfl) ?_
              refine lv_iload hx hb dX5_near_55 (lv_at hl 0 rfl) ?_
              refine lv_aload_n hx hb dX5_near_57 rfl (lv_at hl 2 rfl) ?_
              refine va_get (D := D) (ci := 5) (v := .int mwd) (C := RX5) (T := TX5) (N := 19) hx hb hta inX5 hown hK hP 0 rfl rfl 3 (by decide) (hta _ gw_611) (fun _ h9 => h9) rfl dX5_near_58 ?_
              refine lv_imul hx hb dX5_near_61 ?_
              refine lv_iadd hx hb dX5_near_62 ?_
              refine lv_iload_n hx hb dX5_near_63 rfl (lv_at hl 1 rfl) ?_
              refine lv_iadd hx hb dX5_near_64 ?_
              exact W.iret (v := (px + ((-1) * mwd)) + (-1)) hx hb hr (fun t ht _ => ⟨by rw [← hF], ht⟩) (fun _ h => nomatch h) dX5_near_65
        · rw [if_pos c29] at hF hZ
          refine lv_iconst (v := 0) hx hb dX5_near_32 (by decide) ?_
          refine lv_goto (tgt := 52) hx hb dX5_near_33 (by decide) ?_
          refine lv_istore (lv' := [(4, .int 0), (3, .int (-1)), (0, .ref a_m), (1, .int px), (2, .int py)]) hx hb dX5_near_52 hl (by decide) rfl (fun ls hl => ?_)
          refine lv_iload_n hx hb dX5_near_54 rfl (lv_at hl 3 rfl) ?_
          refine lv_iload hx hb dX5_near_55 (lv_at hl 0 rfl) ?_
          refine lv_aload_n hx hb dX5_near_57 rfl (lv_at hl 2 rfl) ?_
          refine va_get (D := D) (ci := 5) (v := .int mwd) (C := RX5) (T := TX5) (N := 19) hx hb hta inX5 hown hK hP 0 rfl rfl 3 (by decide) (hta _ gw_611) (fun _ h9 => h9) rfl dX5_near_58 ?_
          refine lv_imul hx hb dX5_near_61 ?_
          refine lv_iadd hx hb dX5_near_62 ?_
          refine lv_iload_n hx hb dX5_near_63 rfl (lv_at hl 1 rfl) ?_
          refine lv_iadd hx hb dX5_near_64 ?_
          exact W.iret (v := (px + (0 * mwd)) + (-1)) hx hb hr (fun t ht _ => ⟨by rw [← hF], ht⟩) (fun _ h => nomatch h) dX5_near_65
    · rw [if_neg c12] at hF hZ
      refine lv_iconst (v := 1) hx hb dX5_near_15 (by decide) ?_
      refine lv_goto (tgt := 20) hx hb dX5_near_16 (by decide) ?_
      refine lv_istore_n (lv' := [(3, .int 1), (0, .ref a_m), (1, .int px), (2, .int py)]) hx hb dX5_near_20 rfl hl (by decide) rfl (fun ls hl => ?_)
      refine lv_iload_n hx hb dX5_near_21 rfl (lv_at hl 3 rfl) ?_
      refine lv_iconst (v := 2) hx hb dX5_near_22 (by decide) ?_
      refine lv_icmp_eq (tgt := 32) hx hb dX5_near_23 (by decide) (fun c23 => ?_) (fun c23 => ?_)
      · rw [if_pos c23] at hF hZ
        refine lv_iconst (v := 0) hx hb dX5_near_32 (by decide) ?_
        refine lv_goto (tgt := 52) hx hb dX5_near_33 (by decide) ?_
        refine lv_istore (lv' := [(4, .int 0), (3, .int 1), (0, .ref a_m), (1, .int px), (2, .int py)]) hx hb dX5_near_52 hl (by decide) rfl (fun ls hl => ?_)
        refine lv_iload_n hx hb dX5_near_54 rfl (lv_at hl 3 rfl) ?_
        refine lv_iload hx hb dX5_near_55 (lv_at hl 0 rfl) ?_
        refine lv_aload_n hx hb dX5_near_57 rfl (lv_at hl 2 rfl) ?_
        refine va_get (D := D) (ci := 5) (v := .int mwd) (C := RX5) (T := TX5) (N := 19) hx hb hta inX5 hown hK hP 0 rfl rfl 3 (by decide) (hta _ gw_611) (fun _ h9 => h9) rfl dX5_near_58 ?_
        refine lv_imul hx hb dX5_near_61 ?_
        refine lv_iadd hx hb dX5_near_62 ?_
        refine lv_iload_n hx hb dX5_near_63 rfl (lv_at hl 1 rfl) ?_
        refine lv_iadd hx hb dX5_near_64 ?_
        exact W.iret (v := (px + (0 * mwd)) + 1) hx hb hr (fun t ht _ => ⟨by rw [← hF], ht⟩) (fun _ h => nomatch h) dX5_near_65
      · rw [if_neg c23] at hF hZ
        refine lv_iload_n hx hb dX5_near_26 rfl (lv_at hl 3 rfl) ?_
        refine lv_bipush (v := 6) hx hb dX5_near_27 (by decide) ?_
        refine lv_icmp_ne (tgt := 36) hx hb dX5_near_29 (by decide) (fun c29 => ?_) (fun c29 => ?_)
        · rw [if_neg c29] at hF hZ
          refine lv_iload_n hx hb dX5_near_36 rfl (lv_at hl 3 rfl) ?_
          refine lv_bipush (v := 7) hx hb dX5_near_37 (by decide) ?_
          refine lv_icmp_eq (tgt := 47) hx hb dX5_near_39 (by decide) (fun c39 => ?_) (fun c39 => ?_)
          · rw [if_pos c39] at hF hZ
            refine lv_iconst (v := (-1)) hx hb dX5_near_47 (by decide) ?_
            refine lv_goto (tgt := 52) hx hb dX5_near_48 (by decide) ?_
            refine lv_istore (lv' := [(4, .int (-1)), (3, .int 1), (0, .ref a_m), (1, .int px), (2, .int py)]) hx hb dX5_near_52 hl (by decide) rfl (fun ls hl => ?_)
            refine lv_iload_n hx hb dX5_near_54 rfl (lv_at hl 3 rfl) ?_
            refine lv_iload hx hb dX5_near_55 (lv_at hl 0 rfl) ?_
            refine lv_aload_n hx hb dX5_near_57 rfl (lv_at hl 2 rfl) ?_
            refine va_get (D := D) (ci := 5) (v := .int mwd) (C := RX5) (T := TX5) (N := 19) hx hb hta inX5 hown hK hP 0 rfl rfl 3 (by decide) (hta _ gw_611) (fun _ h9 => h9) rfl dX5_near_58 ?_
            refine lv_imul hx hb dX5_near_61 ?_
            refine lv_iadd hx hb dX5_near_62 ?_
            refine lv_iload_n hx hb dX5_near_63 rfl (lv_at hl 1 rfl) ?_
            refine lv_iadd hx hb dX5_near_64 ?_
            exact W.iret (v := (px + ((-1) * mwd)) + 1) hx hb hr (fun t ht _ => ⟨by rw [← hF], ht⟩) (fun _ h => nomatch h) dX5_near_65
          · rw [if_neg c39] at hF hZ
            refine lv_iload_n hx hb dX5_near_42 rfl (lv_at hl 3 rfl) ?_
            refine lv_iconst (v := 2) hx hb dX5_near_43 (by decide) ?_
            refine lv_icmp_ge (tgt := 51) hx hb dX5_near_44 (by decide) (fun c44 => ?_) (fun c44 => ?_)
            · rw [if_pos c44] at hF hZ
              refine lv_iconst (v := 1) hx hb dX5_near_51 (by decide) ?_
              refine lv_istore (lv' := [(4, .int 1), (3, .int 1), (0, .ref a_m), (1, .int px), (2, .int py)]) hx hb dX5_near_52 hl (by decide) rfl (fun ls hl => ?_)
              refine lv_iload_n hx hb dX5_near_54 rfl (lv_at hl 3 rfl) ?_
              refine lv_iload hx hb dX5_near_55 (lv_at hl 0 rfl) ?_
              refine lv_aload_n hx hb dX5_near_57 rfl (lv_at hl 2 rfl) ?_
              refine va_get (D := D) (ci := 5) (v := .int mwd) (C := RX5) (T := TX5) (N := 19) hx hb hta inX5 hown hK hP 0 rfl rfl 3 (by decide) (hta _ gw_611) (fun _ h9 => h9) rfl dX5_near_58 ?_
              refine lv_imul hx hb dX5_near_61 ?_
              refine lv_iadd hx hb dX5_near_62 ?_
              refine lv_iload_n hx hb dX5_near_63 rfl (lv_at hl 1 rfl) ?_
              refine lv_iadd hx hb dX5_near_64 ?_
              exact W.iret (v := (px + (1 * mwd)) + 1) hx hb hr (fun t ht _ => ⟨by rw [← hF], ht⟩) (fun _ h => nomatch h) dX5_near_65
            · rw [if_neg c44] at hF hZ
              refine lv_iconst (v := (-1)) hx hb dX5_near_47 (by decide) ?_
              refine lv_goto (tgt := 52) hx hb dX5_near_48 (by decide) ?_
              refine lv_istore (lv' := [(4, .int (-1)), (3, .int 1), (0, .ref a_m), (1, .int px), (2, .int py)]) hx hb dX5_near_52 hl (by decide) rfl (fun ls hl => ?_)
              refine lv_iload_n hx hb dX5_near_54 rfl (lv_at hl 3 rfl) ?_
              refine lv_iload hx hb dX5_near_55 (lv_at hl 0 rfl) ?_
              refine lv_aload_n hx hb dX5_near_57 rfl (lv_at hl 2 rfl) ?_
              refine va_get (D := D) (ci := 5) (v := .int mwd) (C := RX5) (T := TX5) (N := 19) hx hb hta inX5 hown hK hP 0 rfl rfl 3 (by decide) (hta _ gw_611) (fun _ h9 => h9) rfl dX5_near_58 ?_
              refine lv_imul hx hb dX5_near_61 ?_
              refine lv_iadd hx hb dX5_near_62 ?_
              refine lv_iload_n hx hb dX5_near_63 rfl (lv_at hl 1 rfl) ?_
              refine lv_iadd hx hb dX5_near_64 ?_
              exact W.iret (v := (px + ((-1) * mwd)) + 1) hx hb hr (fun t ht _ => ⟨by rw [← hF], ht⟩) (fun _ h => nomatch h) dX5_near_65
        · rw [if_pos c29] at hF hZ
          refine lv_iconst (v := 0) hx hb dX5_near_32 (by decide) ?_
          refine lv_goto (tgt := 52) hx hb dX5_near_33 (by decide) ?_
          refine lv_istore (lv' := [(4, .int 0), (3, .int 1), (0, .ref a_m), (1, .int px), (2, .int py)]) hx hb dX5_near_52 hl (by decide) rfl (fun ls hl => ?_)
          refine lv_iload_n hx hb dX5_near_54 rfl (lv_at hl 3 rfl) ?_
          refine lv_iload hx hb dX5_near_55 (lv_at hl 0 rfl) ?_
          refine lv_aload_n hx hb dX5_near_57 rfl (lv_at hl 2 rfl) ?_
          refine va_get (D := D) (ci := 5) (v := .int mwd) (C := RX5) (T := TX5) (N := 19) hx hb hta inX5 hown hK hP 0 rfl rfl 3 (by decide) (hta _ gw_611) (fun _ h9 => h9) rfl dX5_near_58 ?_
          refine lv_imul hx hb dX5_near_61 ?_
          refine lv_iadd hx hb dX5_near_62 ?_
          refine lv_iload_n hx hb dX5_near_63 rfl (lv_at hl 1 rfl) ?_
          refine lv_iadd hx hb dX5_near_64 ?_
          exact W.iret (v := (px + (0 * mwd)) + 1) hx hb hr (fun t ht _ => ⟨by rw [← hF], ht⟩) (fun _ h => nomatch h) dX5_near_65
  · rw [if_pos c3] at hF hZ
    refine lv_iconst (v := 0) hx hb dX5_near_6 (by decide) ?_
    refine lv_goto (tgt := 20) hx hb dX5_near_7 (by decide) ?_
    refine lv_istore_n (lv' := [(3, .int 0), (0, .ref a_m), (1, .int px), (2, .int py)]) hx hb dX5_near_20 rfl hl (by decide) rfl (fun ls hl => ?_)
    refine lv_iload_n hx hb dX5_near_21 rfl (lv_at hl 3 rfl) ?_
    refine lv_iconst (v := 2) hx hb dX5_near_22 (by decide) ?_
    refine lv_icmp_eq (tgt := 32) hx hb dX5_near_23 (by decide) (fun c23 => ?_) (fun c23 => ?_)
    · rw [if_pos c23] at hF hZ
      refine lv_iconst (v := 0) hx hb dX5_near_32 (by decide) ?_
      refine lv_goto (tgt := 52) hx hb dX5_near_33 (by decide) ?_
      refine lv_istore (lv' := [(4, .int 0), (3, .int 0), (0, .ref a_m), (1, .int px), (2, .int py)]) hx hb dX5_near_52 hl (by decide) rfl (fun ls hl => ?_)
      refine lv_iload_n hx hb dX5_near_54 rfl (lv_at hl 3 rfl) ?_
      refine lv_iload hx hb dX5_near_55 (lv_at hl 0 rfl) ?_
      refine lv_aload_n hx hb dX5_near_57 rfl (lv_at hl 2 rfl) ?_
      refine va_get (D := D) (ci := 5) (v := .int mwd) (C := RX5) (T := TX5) (N := 19) hx hb hta inX5 hown hK hP 0 rfl rfl 3 (by decide) (hta _ gw_611) (fun _ h9 => h9) rfl dX5_near_58 ?_
      refine lv_imul hx hb dX5_near_61 ?_
      refine lv_iadd hx hb dX5_near_62 ?_
      refine lv_iload_n hx hb dX5_near_63 rfl (lv_at hl 1 rfl) ?_
      refine lv_iadd hx hb dX5_near_64 ?_
      exact W.iret (v := (px + (0 * mwd)) + 0) hx hb hr (fun t ht _ => ⟨by rw [← hF], ht⟩) (fun _ h => nomatch h) dX5_near_65
    · rw [if_neg c23] at hF hZ
      refine lv_iload_n hx hb dX5_near_26 rfl (lv_at hl 3 rfl) ?_
      refine lv_bipush (v := 6) hx hb dX5_near_27 (by decide) ?_
      refine lv_icmp_ne (tgt := 36) hx hb dX5_near_29 (by decide) (fun c29 => ?_) (fun c29 => ?_)
      · rw [if_neg c29] at hF hZ
        refine lv_iload_n hx hb dX5_near_36 rfl (lv_at hl 3 rfl) ?_
        refine lv_bipush (v := 7) hx hb dX5_near_37 (by decide) ?_
        refine lv_icmp_eq (tgt := 47) hx hb dX5_near_39 (by decide) (fun c39 => ?_) (fun c39 => ?_)
        · rw [if_pos c39] at hF hZ
          refine lv_iconst (v := (-1)) hx hb dX5_near_47 (by decide) ?_
          refine lv_goto (tgt := 52) hx hb dX5_near_48 (by decide) ?_
          refine lv_istore (lv' := [(4, .int (-1)), (3, .int 0), (0, .ref a_m), (1, .int px), (2, .int py)]) hx hb dX5_near_52 hl (by decide) rfl (fun ls hl => ?_)
          refine lv_iload_n hx hb dX5_near_54 rfl (lv_at hl 3 rfl) ?_
          refine lv_iload hx hb dX5_near_55 (lv_at hl 0 rfl) ?_
          refine lv_aload_n hx hb dX5_near_57 rfl (lv_at hl 2 rfl) ?_
          refine va_get (D := D) (ci := 5) (v := .int mwd) (C := RX5) (T := TX5) (N := 19) hx hb hta inX5 hown hK hP 0 rfl rfl 3 (by decide) (hta _ gw_611) (fun _ h9 => h9) rfl dX5_near_58 ?_
          refine lv_imul hx hb dX5_near_61 ?_
          refine lv_iadd hx hb dX5_near_62 ?_
          refine lv_iload_n hx hb dX5_near_63 rfl (lv_at hl 1 rfl) ?_
          refine lv_iadd hx hb dX5_near_64 ?_
          exact W.iret (v := (px + ((-1) * mwd)) + 0) hx hb hr (fun t ht _ => ⟨by rw [← hF], ht⟩) (fun _ h => nomatch h) dX5_near_65
        · rw [if_neg c39] at hF hZ
          refine lv_iload_n hx hb dX5_near_42 rfl (lv_at hl 3 rfl) ?_
          refine lv_iconst (v := 2) hx hb dX5_near_43 (by decide) ?_
          refine lv_icmp_ge (tgt := 51) hx hb dX5_near_44 (by decide) (fun c44 => ?_) (fun c44 => ?_)
          · rw [if_pos c44] at hF hZ
            refine lv_iconst (v := 1) hx hb dX5_near_51 (by decide) ?_
            refine lv_istore (lv' := [(4, .int 1), (3, .int 0), (0, .ref a_m), (1, .int px), (2, .int py)]) hx hb dX5_near_52 hl (by decide) rfl (fun ls hl => ?_)
            refine lv_iload_n hx hb dX5_near_54 rfl (lv_at hl 3 rfl) ?_
            refine lv_iload hx hb dX5_near_55 (lv_at hl 0 rfl) ?_
            refine lv_aload_n hx hb dX5_near_57 rfl (lv_at hl 2 rfl) ?_
            refine va_get (D := D) (ci := 5) (v := .int mwd) (C := RX5) (T := TX5) (N := 19) hx hb hta inX5 hown hK hP 0 rfl rfl 3 (by decide) (hta _ gw_611) (fun _ h9 => h9) rfl dX5_near_58 ?_
            refine lv_imul hx hb dX5_near_61 ?_
            refine lv_iadd hx hb dX5_near_62 ?_
            refine lv_iload_n hx hb dX5_near_63 rfl (lv_at hl 1 rfl) ?_
            refine lv_iadd hx hb dX5_near_64 ?_
            exact W.iret (v := (px + (1 * mwd)) + 0) hx hb hr (fun t ht _ => ⟨by rw [← hF], ht⟩) (fun _ h => nomatch h) dX5_near_65
          · rw [if_neg c44] at hF hZ
            refine lv_iconst (v := (-1)) hx hb dX5_near_47 (by decide) ?_
            refine lv_goto (tgt := 52) hx hb dX5_near_48 (by decide) ?_
            refine lv_istore (lv' := [(4, .int (-1)), (3, .int 0), (0, .ref a_m), (1, .int px), (2, .int py)]) hx hb dX5_near_52 hl (by decide) rfl (fun ls hl => ?_)
            refine lv_iload_n hx hb dX5_near_54 rfl (lv_at hl 3 rfl) ?_
            refine lv_iload hx hb dX5_near_55 (lv_at hl 0 rfl) ?_
            refine lv_aload_n hx hb dX5_near_57 rfl (lv_at hl 2 rfl) ?_
            refine va_get (D := D) (ci := 5) (v := .int mwd) (C := RX5) (T := TX5) (N := 19) hx hb hta inX5 hown hK hP 0 rfl rfl 3 (by decide) (hta _ gw_611) (fun _ h9 => h9) rfl dX5_near_58 ?_
            refine lv_imul hx hb dX5_near_61 ?_
            refine lv_iadd hx hb dX5_near_62 ?_
            refine lv_iload_n hx hb dX5_near_63 rfl (lv_at hl 1 rfl) ?_
            refine lv_iadd hx hb dX5_near_64 ?_
            exact W.iret (v := (px + ((-1) * mwd)) + 0) hx hb hr (fun t ht _ => ⟨by rw [← hF], ht⟩) (fun _ h => nomatch h) dX5_near_65
      · rw [if_pos c29] at hF hZ
        refine lv_iconst (v := 0) hx hb dX5_near_32 (by decide) ?_
        refine lv_goto (tgt := 52) hx hb dX5_near_33 (by decide) ?_
        refine lv_istore (lv' := [(4, .int 0), (3, .int 0), (0, .ref a_m), (1, .int px), (2, .int py)]) hx hb dX5_near_52 hl (by decide) rfl (fun ls hl => ?_)
        refine lv_iload_n hx hb dX5_near_54 rfl (lv_at hl 3 rfl) ?_
        refine lv_iload hx hb dX5_near_55 (lv_at hl 0 rfl) ?_
        refine lv_aload_n hx hb dX5_near_57 rfl (lv_at hl 2 rfl) ?_
        refine va_get (D := D) (ci := 5) (v := .int mwd) (C := RX5) (T := TX5) (N := 19) hx hb hta inX5 hown hK hP 0 rfl rfl 3 (by decide) (hta _ gw_611) (fun _ h9 => h9) rfl dX5_near_58 ?_
        refine lv_imul hx hb dX5_near_61 ?_
        refine lv_iadd hx hb dX5_near_62 ?_
        refine lv_iload_n hx hb dX5_near_63 rfl (lv_at hl 1 rfl) ?_
        refine lv_iadd hx hb dX5_near_64 ?_
        exact W.iret (v := (px + (0 * mwd)) + 0) hx hb hr (fun t ht _ => ⟨by rw [← hF], ht⟩) (fun _ h => nomatch h) dX5_near_65

def f_M_black (mwd : Int32) (mlf : Nat → Int32) (px : Int32) (py : Int32) : Int32 := mlf (f_M_near mwd px (py - py / 8 * 8)).toNatClampNeg
def z_M_black (mwd : Int32) (mlf : Nat → Int32) (px : Int32) (py : Int32) : Prop := ((vp_in (f_M_near mwd px (py - py / 8 * 8)) 676) ∧ ((isb (mlf (f_M_near mwd px (py - py / 8 * 8)).toNatClampNeg)) ∧ True))
set_option maxHeartbeats 4000000 in
set_option maxRecDepth 100000 in
theorem c_M_black (l : Launch) (D : va_G) (tX tY : Nat) (a_m : Nat) (a_mp : Nat) (k_mp : ClassId) (a_ml : Nat) (k_ml : ClassId) (a_mc : Nat) (k_mc : ClassId) (a_mb : Nat) (k_mb : ClassId) (a_mg : Nat) (k_mg : ClassId) (a_mq : Nat) (k_mq : ClassId) (a_mo : Nat) (k_mo : ClassId) (a_me : Nat) (k_me : ClassId) (a_mv : Nat) (k_mv : ClassId) (a_my : Nat) (k_my : ClassId) (mcd : Int32) (mw : Int32) (mh : Int32) (mwd : Int32) (mpf : Nat → Int32) (mlf : Nat → Int32) (mth : Int32) (mcf : Nat → Int32) (mbf : Nat → Int32) (mkn : Int32) (mst : Int32) (mgf : Nat → Int32) (mqf : Nat → Int32) (mus : Int32) (mof : Nat → Int32) (mef : Nat → Int32) (mcu : Int32) (mvf : Nat → Int32) (myf : Nat → Int32) (px : Int32) (py : Int32) (hZ : z_M_black mwd mlf px py) : Met l yX5_black wX5_black ({ frames := 1, cells := 0, slots := 0, locals := 24 }) (ro_P D tX tY [(k_mp, .boolean), (k_ml, .boolean), (k_mc, .boolean), (k_mb, .int), (k_mg, .int), (k_mq, .int), (k_mo, .boolean), (k_me, .boolean), (k_mv, .int), (k_my, .int)] [(a_m, .inr (5, [.int mcd, .int mw, .int mh, .int mwd, .ref a_mp, .ref a_ml, .int mth, .ref a_mc, .ref a_mb, .int mkn, .int mst, .ref a_mg, .ref a_mq, .int mus, .ref a_mo, .ref a_me, .int mcu, .ref a_mv, .ref a_my])), (a_mp, .inl (k_mp, 676, .inl mpf)), (a_ml, .inl (k_ml, 676, .inl mlf)), (a_mc, .inl (k_mc, 676, .inl mcf)), (a_mb, .inl (k_mb, 676, .inl mbf)), (a_mg, .inl (k_mg, 3000, .inl mgf)), (a_mq, .inl (k_mq, 9000, .inl mqf)), (a_mo, .inl (k_mo, 5408, .inl mof)), (a_me, .inl (k_me, 676, .inl mef)), (a_mv, .inl (k_mv, 3000, .inl mvf)), (a_my, .inl (k_my, 3000, .inl myf))] [.ref a_m, .int px, .int py]) (k2_QcV (.int (f_M_black mwd mlf px py))) 0 0 (fun _ => False) := by
  generalize hF : (f_M_black mwd mlf px py) = F
  refine Met.ofW (cc := cX5_black) (maxL := 3) (ret := (some .boolean)) (by decide) rfl ?_
  intro p e s m args below meth c s₁ B hml hv
  obtain ⟨rfl, hP, hK, hT, hN⟩ := hv
  have hx := B.exec
  have hb := B.bytes
  have hr := B.returns
  have hts := atoms_spec (ws := wX5_black) B.pre
  have hta : ∀ w ∈ gw, w.before _ s = true := fun w h => hts w (List.mem_cons_of_mem _ h)
  have hown : s.vm.findClass RX5 = some m.cls := findClass_of_methodNamed B.named
  have hlocks := B.notSynchronized
  have hl := lv_entry [.ref a_m, .int px, .int py] (n := 3) (Nat.le_of_ble_eq_true rfl)
  rw [lg_entry_eq]
  generalize (lg_sl [.ref a_m, .int px, .int py] ++ List.replicate (3 - (lg_sl [.ref a_m, .int px, .int py]).length) Slot.unset).toArray = ls at hl ⊢
  have hl : lv_has ls 3 [(0, .ref a_m), (1, .int px), (2, .int py)] := hl
  rw [f_M_black] at hF
  rw [z_M_black] at hZ
  refine lv_aload_n hx hb dX5_black_0 rfl (lv_at hl 0 rfl) ?_
  refine va_get (D := D) (ci := 5) (v := .ref a_ml) (C := RX5) (T := TX5) (N := 19) hx hb hta inX5 hown hK hP 0 rfl rfl 5 (by decide) (hta _ gw_613) (fun _ h9 => h9) rfl dX5_black_1 ?_
  refine lv_aload_n hx hb dX5_black_4 rfl (lv_at hl 0 rfl) ?_
  refine lv_iload_n hx hb dX5_black_5 rfl (lv_at hl 1 rfl) ?_
  refine lv_iload_n hx hb dX5_black_6 rfl (lv_at hl 2 rfl) ?_
  refine lv_bipush (v := 8) hx hb dX5_black_7 (by decide) ?_
  refine lv_irem hx hb dX5_black_9 (by decide) ?_
  refine ro_go (va_runV (As := [.int px, .int (py - py / 8 * 8)]) (rest := [.ref a_ml]) ⟨hx, hb, hml, hown, hts⟩ (c_M_near l D tX tY a_m a_mp k_mp a_ml k_ml a_mc k_mc a_mb k_mb a_mg k_mg a_mq k_mq a_mo k_mo a_me k_me a_mv k_mv a_my k_my mcd mw mh mwd mpf mlf mth mcf mbf mkn mst mgf mqf mus mof mef mcu mvf myf px (py - py / 8 * 8)) (cwV 2 hts (gi_4 gi_c gw_687 gw_689 gs_X5_near gw_7 gw_690) rfl rfl rfl (by decide +kernel) ⟨Nat.le_of_ble_eq_true rfl, Nat.le_of_ble_eq_true rfl⟩) ⟨ro_blind, va_recv hK hP (ci := 5) (q0 := 0) rfl rfl, ro_at hP hK hT hN va_S.rf [0, 1, 2, 3, 4, 5, 6, 7, 8, 9, 10] [0, 1, 2, 3, 4, 5, 6, 7, 8, 9] rfl rfl⟩ rfl rfl hl.1 rfl (lv_room (Nat.le_of_ble_eq_true rfl)) dX5_black_10 ⟨Nat.le_of_ble_eq_true rfl, Nat.le_of_ble_eq_true rfl⟩) ?_
  have o1 := hZ.1
  have hZ := hZ.2
  refine va_zald hx hb hK hP 2 1 rfl rfl (i := (f_M_near mwd px (py - py / 8 * 8))) o1 dX5_black_13 ?_
  have o2 := hZ.1
  have hZ := hZ.2
  exact W.zret (v := mlf (f_M_near mwd px (py - py / 8 * 8)).toNatClampNeg) hx hb hr (o2) (fun t ht _ => ⟨by rw [← hF], ht⟩) (fun _ h => nomatch h) dX5_black_14

def f_M_blackRound_k4  : Int32 × Int32 → Int32
  | (v3_4, v2_4) => v2_4
def f_M_blackRound_k4_z  : Int32 × Int32 → Prop
  | (v3_4, v2_4) => True
def f_M_blackRound_L4 (mwd : Int32) (mlf : Nat → Int32) (px : Int32) : Nat → Int32 × Int32 → Int32 × Int32
  | 0, σ => σ
  | n9 + 1, (v3_4, v2_4) => (if 8 ≤ v3_4 then (v3_4, v2_4) else (if (f_M_black mwd mlf px v3_4) = 0 then ((f_M_blackRound_L4 mwd mlf px n9) (v3_4 + 1, v2_4 + 0)) else ((f_M_blackRound_L4 mwd mlf px n9) (v3_4 + 1, v2_4 + 1))))
def f_M_blackRound_L4_z (mwd : Int32) (mlf : Nat → Int32) (px : Int32) : Nat → Int32 × Int32 → Prop
  | 0, _ => False
  | n9 + 1, (v3_4, v2_4) => (if 8 ≤ v3_4 then True else (((z_M_black mwd mlf px v3_4)) ∧ (if (f_M_black mwd mlf px v3_4) = 0 then ((f_M_blackRound_L4_z mwd mlf px n9) (v3_4 + 1, v2_4 + 0)) else ((f_M_blackRound_L4_z mwd mlf px n9) (v3_4 + 1, v2_4 + 1)))))
def f_M_blackRound (mwd : Int32) (mlf : Nat → Int32) (px : Int32) : Int32 := (f_M_blackRound_k4 (f_M_blackRound_L4 mwd mlf px FU (0, 0)))
def z_M_blackRound (mwd : Int32) (mlf : Nat → Int32) (px : Int32) : Prop := ((f_M_blackRound_L4_z mwd mlf px FU (0, 0)) ∧ (f_M_blackRound_k4_z (f_M_blackRound_L4 mwd mlf px FU (0, 0))))
set_option maxHeartbeats 4000000 in
set_option maxRecDepth 100000 in
theorem c_M_blackRound (l : Launch) (D : va_G) (tX tY : Nat) (a_m : Nat) (a_mp : Nat) (k_mp : ClassId) (a_ml : Nat) (k_ml : ClassId) (a_mc : Nat) (k_mc : ClassId) (a_mb : Nat) (k_mb : ClassId) (a_mg : Nat) (k_mg : ClassId) (a_mq : Nat) (k_mq : ClassId) (a_mo : Nat) (k_mo : ClassId) (a_me : Nat) (k_me : ClassId) (a_mv : Nat) (k_mv : ClassId) (a_my : Nat) (k_my : ClassId) (mcd : Int32) (mw : Int32) (mh : Int32) (mwd : Int32) (mpf : Nat → Int32) (mlf : Nat → Int32) (mth : Int32) (mcf : Nat → Int32) (mbf : Nat → Int32) (mkn : Int32) (mst : Int32) (mgf : Nat → Int32) (mqf : Nat → Int32) (mus : Int32) (mof : Nat → Int32) (mef : Nat → Int32) (mcu : Int32) (mvf : Nat → Int32) (myf : Nat → Int32) (px : Int32) (hZ : z_M_blackRound mwd mlf px) : Met l yX5_blackRound wX5_blackRound ({ frames := 2, cells := 0, slots := 0, locals := 46 }) (ro_P D tX tY [(k_mp, .boolean), (k_ml, .boolean), (k_mc, .boolean), (k_mb, .int), (k_mg, .int), (k_mq, .int), (k_mo, .boolean), (k_me, .boolean), (k_mv, .int), (k_my, .int)] [(a_m, .inr (5, [.int mcd, .int mw, .int mh, .int mwd, .ref a_mp, .ref a_ml, .int mth, .ref a_mc, .ref a_mb, .int mkn, .int mst, .ref a_mg, .ref a_mq, .int mus, .ref a_mo, .ref a_me, .int mcu, .ref a_mv, .ref a_my])), (a_mp, .inl (k_mp, 676, .inl mpf)), (a_ml, .inl (k_ml, 676, .inl mlf)), (a_mc, .inl (k_mc, 676, .inl mcf)), (a_mb, .inl (k_mb, 676, .inl mbf)), (a_mg, .inl (k_mg, 3000, .inl mgf)), (a_mq, .inl (k_mq, 9000, .inl mqf)), (a_mo, .inl (k_mo, 5408, .inl mof)), (a_me, .inl (k_me, 676, .inl mef)), (a_mv, .inl (k_mv, 3000, .inl mvf)), (a_my, .inl (k_my, 3000, .inl myf))] [.ref a_m, .int px]) (k2_QcV (.int (f_M_blackRound mwd mlf px))) 0 0 (fun _ => False) := by
  generalize hF : (f_M_blackRound mwd mlf px) = F
  refine Met.ofW (cc := cX5_blackRound) (maxL := 4) (ret := (some .int)) (by decide) rfl ?_
  intro p e s m args below meth c s₁ B hml hv
  obtain ⟨rfl, hP, hK, hT, hN⟩ := hv
  have hx := B.exec
  have hb := B.bytes
  have hr := B.returns
  have hts := atoms_spec (ws := wX5_blackRound) B.pre
  have hta : ∀ w ∈ gw, w.before _ s = true := fun w h => hts w (List.mem_cons_of_mem _ h)
  have hown : s.vm.findClass RX5 = some m.cls := findClass_of_methodNamed B.named
  have hlocks := B.notSynchronized
  have hl := lv_entry [.ref a_m, .int px] (n := 4) (Nat.le_of_ble_eq_true rfl)
  rw [lg_entry_eq]
  generalize (lg_sl [.ref a_m, .int px] ++ List.replicate (4 - (lg_sl [.ref a_m, .int px]).length) Slot.unset).toArray = ls at hl ⊢
  have hl : lv_has ls 4 [(0, .ref a_m), (1, .int px)] := hl
  rw [f_M_blackRound] at hF
  rw [z_M_blackRound] at hZ
  refine lv_iconst (v := 0) hx hb dX5_blackRound_0 (by decide) ?_
  refine lv_istore_n (lv' := [(2, .int 0), (0, .ref a_m), (1, .int px)]) hx hb dX5_blackRound_1 rfl hl (by decide) rfl (fun ls hl => ?_)
  refine lv_iconst (v := 0) hx hb dX5_blackRound_2 (by decide) ?_
  refine lv_istore_n (lv' := [(3, .int 0), (2, .int 0), (0, .ref a_m), (1, .int px)]) hx hb dX5_blackRound_3 rfl hl (by decide) rfl (fun ls hl => ?_)
  have af4 : ∀ (v3_4 : Int32) (v2_4 : Int32) (ls : Array Slot), f_M_blackRound_k4  (v3_4, v2_4) = F → f_M_blackRound_k4_z  (v3_4, v2_4) → lv_has ls 4 [(3, .int v3_4), (2, .int v2_4), (0, .ref a_m), (1, .int px)] → W p l e { frames := 2, cells := 0, slots := 0, locals := 46 } s m (List.toArray [.ref a_m, .int px]) below meth c s.heap [] 0 0 (MQ below (k2_QcV (.int F)) (List.toArray [.ref a_m, .int px]) s 0 0 (fun _ => False)) (F0 m 33 ls []) := by
    intro v3_4 v2_4 ls hF hZ hl
    rw [f_M_blackRound_k4] at hF
    rw [f_M_blackRound_k4_z] at hZ
    refine lv_iload_n hx hb dX5_blackRound_33 rfl (lv_at hl 1 rfl) ?_
    exact W.iret (v := v2_4) hx hb hr (fun t ht _ => ⟨by rw [← hF], ht⟩) (fun _ h => nomatch h) dX5_blackRound_34
  have lp4 : ∀ (n9 : Nat) (v3_4 : Int32) (v2_4 : Int32) (ls : Array Slot), f_M_blackRound_k4  (f_M_blackRound_L4 mwd mlf px n9 (v3_4, v2_4)) = F → f_M_blackRound_k4_z  (f_M_blackRound_L4 mwd mlf px n9 (v3_4, v2_4)) → f_M_blackRound_L4_z mwd mlf px n9 (v3_4, v2_4) → lv_has ls 4 [(3, .int v3_4), (2, .int v2_4), (0, .ref a_m), (1, .int px)] → W p l e { frames := 2, cells := 0, slots := 0, locals := 46 } s m (List.toArray [.ref a_m, .int px]) below meth c s.heap [] 0 0 (MQ below (k2_QcV (.int F)) (List.toArray [.ref a_m, .int px]) s 0 0 (fun _ => False)) (F0 m 4 ls []) := by
    intro n9
    induction n9 with
    | zero => intro v3_4 v2_4 ls hF hA4 hZ; exact hZ.elim
    | succ n4 ih4 =>
      intro v3_4 v2_4 ls hF hA4 hZ hl
      rw [f_M_blackRound_L4] at hF hA4
      rw [f_M_blackRound_L4_z] at hZ
      refine lv_iload_n hx hb dX5_blackRound_4 rfl (lv_at hl 0 rfl) ?_
      refine lv_bipush (v := 8) hx hb dX5_blackRound_5 (by decide) ?_
      refine lv_icmp_ge (tgt := 33) hx hb dX5_blackRound_7 (by decide) (fun c7 => ?_) (fun c7 => ?_)
      · rw [if_pos c7] at hF hA4 hZ
        exact af4 v3_4 v2_4 ls hF hA4 (lv_sub hl [0, 1, 2, 3] rfl)
      · rw [if_neg c7] at hF hA4 hZ
        refine lv_iload_n hx hb dX5_blackRound_10 rfl (lv_at hl 1 rfl) ?_
        refine lv_aload_n hx hb dX5_blackRound_11 rfl (lv_at hl 2 rfl) ?_
        refine lv_iload_n hx hb dX5_blackRound_12 rfl (lv_at hl 3 rfl) ?_
        refine lv_iload_n hx hb dX5_blackRound_13 rfl (lv_at hl 0 rfl) ?_
        have o1 := hZ.1
        have hZ := hZ.2
        refine ro_go (va_runV (As := [.int px, .int v3_4]) (rest := [.int v2_4]) ⟨hx, hb, hml, hown, hts⟩ (c_M_black l D tX tY a_m a_mp k_mp a_ml k_ml a_mc k_mc a_mb k_mb a_mg k_mg a_mq k_mq a_mo k_mo a_me k_me a_mv k_mv a_my k_my mcd mw mh mwd mpf mlf mth mcf mbf mkn mst mgf mqf mus mof mef mcu mvf myf px v3_4 o1) (cwV 2 hts (gi_4 gi_c gw_683 gw_685 gs_X5_black gw_7 gw_686) rfl rfl rfl (by decide +kernel) ⟨Nat.le_of_ble_eq_true rfl, Nat.le_of_ble_eq_true rfl⟩) ⟨ro_blind, va_recv hK hP (ci := 5) (q0 := 0) rfl rfl, ro_at hP hK hT hN va_S.rf [0, 1, 2, 3, 4, 5, 6, 7, 8, 9, 10] [0, 1, 2, 3, 4, 5, 6, 7, 8, 9] rfl rfl⟩ rfl rfl hl.1 rfl (lv_room (Nat.le_of_ble_eq_true rfl)) dX5_blackRound_14 ⟨Nat.le_of_ble_eq_true rfl, Nat.le_of_ble_eq_true rfl⟩) ?_
        refine lv_if_eq (tgt := 24) hx hb dX5_blackRound_17 (by decide) (fun c17 => ?_) (fun c17 => ?_)
        · rw [if_pos c17] at hF hA4 hZ
          refine lv_iconst (v := 0) hx hb dX5_blackRound_24 (by decide) ?_
          refine lv_iadd hx hb dX5_blackRound_25 ?_
          refine lv_istore_n (lv' := [(2, .int (v2_4 + 0)), (3, .int v3_4), (0, .ref a_m), (1, .int px)]) hx hb dX5_blackRound_26 rfl hl (by decide) rfl (fun ls hl => ?_)
          refine lv_iinc (v := v3_4 + 1) (lv' := [(3, .int (v3_4 + 1)), (2, .int (v2_4 + 0)), (0, .ref a_m), (1, .int px)]) hx hb dX5_blackRound_27 hl (k := 1) rfl rfl (by decide) rfl (fun ls hl => ?_)
          refine lv_goto (tgt := 4) hx hb dX5_blackRound_30 (by decide) ?_
          exact ih4 (v3_4 + 1) (v2_4 + 0) ls hF hA4 hZ (lv_sub hl [0, 1, 2, 3] rfl)
        · rw [if_neg c17] at hF hA4 hZ
          refine lv_iconst (v := 1) hx hb dX5_blackRound_20 (by decide) ?_
          refine lv_goto (tgt := 25) hx hb dX5_blackRound_21 (by decide) ?_
          refine lv_iadd hx hb dX5_blackRound_25 ?_
          refine lv_istore_n (lv' := [(2, .int (v2_4 + 1)), (3, .int v3_4), (0, .ref a_m), (1, .int px)]) hx hb dX5_blackRound_26 rfl hl (by decide) rfl (fun ls hl => ?_)
          refine lv_iinc (v := v3_4 + 1) (lv' := [(3, .int (v3_4 + 1)), (2, .int (v2_4 + 1)), (0, .ref a_m), (1, .int px)]) hx hb dX5_blackRound_27 hl (k := 1) rfl rfl (by decide) rfl (fun ls hl => ?_)
          refine lv_goto (tgt := 4) hx hb dX5_blackRound_30 (by decide) ?_
          exact ih4 (v3_4 + 1) (v2_4 + 1) ls hF hA4 hZ (lv_sub hl [0, 1, 2, 3] rfl)
  exact lp4 FU 0 0 ls hF hZ.2 hZ.1 (lv_sub hl [0, 1, 2, 3] rfl)

def f_M_isSimple_k4  : Int32 × Int32 → Int32
  | (v3_4, v2_4) => (if v2_4 = 1 then 1 else 0)
def f_M_isSimple_k4_z  : Int32 × Int32 → Prop
  | (v3_4, v2_4) => (if v2_4 = 1 then True else True)
def f_M_isSimple_L4 (mwd : Int32) (mlf : Nat → Int32) (px : Int32) : Nat → Int32 × Int32 → Int32 × Int32
  | 0, σ => σ
  | n9 + 1, (v3_4, v2_4) => (if 8 ≤ v3_4 then (v3_4, v2_4) else (if (f_M_black mwd mlf px v3_4) = 0 then (if (f_M_black mwd mlf px (v3_4 + 1)) = 0 then (if (f_M_black mwd mlf px (v3_4 + 2)) = 0 then ((f_M_isSimple_L4 mwd mlf px n9) (v3_4 + 2, v2_4 + 0)) else ((f_M_isSimple_L4 mwd mlf px n9) (v3_4 + 2, v2_4 + 1))) else ((f_M_isSimple_L4 mwd mlf px n9) (v3_4 + 2, v2_4 + 1))) else ((f_M_isSimple_L4 mwd mlf px n9) (v3_4 + 2, v2_4 + 0))))
def f_M_isSimple_L4_z (mwd : Int32) (mlf : Nat → Int32) (px : Int32) : Nat → Int32 × Int32 → Prop
  | 0, _ => False
  | n9 + 1, (v3_4, v2_4) => (if 8 ≤ v3_4 then True else (((z_M_black mwd mlf px v3_4)) ∧ (if (f_M_black mwd mlf px v3_4) = 0 then (((z_M_black mwd mlf px (v3_4 + 1))) ∧ (if (f_M_black mwd mlf px (v3_4 + 1)) = 0 then (((z_M_black mwd mlf px (v3_4 + 2))) ∧ (if (f_M_black mwd mlf px (v3_4 + 2)) = 0 then ((f_M_isSimple_L4_z mwd mlf px n9) (v3_4 + 2, v2_4 + 0)) else ((f_M_isSimple_L4_z mwd mlf px n9) (v3_4 + 2, v2_4 + 1)))) else ((f_M_isSimple_L4_z mwd mlf px n9) (v3_4 + 2, v2_4 + 1)))) else ((f_M_isSimple_L4_z mwd mlf px n9) (v3_4 + 2, v2_4 + 0)))))
def f_M_isSimple (mwd : Int32) (mlf : Nat → Int32) (px : Int32) : Int32 := (f_M_isSimple_k4 (f_M_isSimple_L4 mwd mlf px FU (0, 0)))
def z_M_isSimple (mwd : Int32) (mlf : Nat → Int32) (px : Int32) : Prop := ((f_M_isSimple_L4_z mwd mlf px FU (0, 0)) ∧ (f_M_isSimple_k4_z (f_M_isSimple_L4 mwd mlf px FU (0, 0))))
set_option maxHeartbeats 4000000 in
set_option maxRecDepth 100000 in
theorem c_M_isSimple (l : Launch) (D : va_G) (tX tY : Nat) (a_m : Nat) (a_mp : Nat) (k_mp : ClassId) (a_ml : Nat) (k_ml : ClassId) (a_mc : Nat) (k_mc : ClassId) (a_mb : Nat) (k_mb : ClassId) (a_mg : Nat) (k_mg : ClassId) (a_mq : Nat) (k_mq : ClassId) (a_mo : Nat) (k_mo : ClassId) (a_me : Nat) (k_me : ClassId) (a_mv : Nat) (k_mv : ClassId) (a_my : Nat) (k_my : ClassId) (mcd : Int32) (mw : Int32) (mh : Int32) (mwd : Int32) (mpf : Nat → Int32) (mlf : Nat → Int32) (mth : Int32) (mcf : Nat → Int32) (mbf : Nat → Int32) (mkn : Int32) (mst : Int32) (mgf : Nat → Int32) (mqf : Nat → Int32) (mus : Int32) (mof : Nat → Int32) (mef : Nat → Int32) (mcu : Int32) (mvf : Nat → Int32) (myf : Nat → Int32) (px : Int32) (hZ : z_M_isSimple mwd mlf px) : Met l yX5_isSimple wX5_isSimple ({ frames := 2, cells := 0, slots := 0, locals := 46 }) (ro_P D tX tY [(k_mp, .boolean), (k_ml, .boolean), (k_mc, .boolean), (k_mb, .int), (k_mg, .int), (k_mq, .int), (k_mo, .boolean), (k_me, .boolean), (k_mv, .int), (k_my, .int)] [(a_m, .inr (5, [.int mcd, .int mw, .int mh, .int mwd, .ref a_mp, .ref a_ml, .int mth, .ref a_mc, .ref a_mb, .int mkn, .int mst, .ref a_mg, .ref a_mq, .int mus, .ref a_mo, .ref a_me, .int mcu, .ref a_mv, .ref a_my])), (a_mp, .inl (k_mp, 676, .inl mpf)), (a_ml, .inl (k_ml, 676, .inl mlf)), (a_mc, .inl (k_mc, 676, .inl mcf)), (a_mb, .inl (k_mb, 676, .inl mbf)), (a_mg, .inl (k_mg, 3000, .inl mgf)), (a_mq, .inl (k_mq, 9000, .inl mqf)), (a_mo, .inl (k_mo, 5408, .inl mof)), (a_me, .inl (k_me, 676, .inl mef)), (a_mv, .inl (k_mv, 3000, .inl mvf)), (a_my, .inl (k_my, 3000, .inl myf))] [.ref a_m, .int px]) (k2_QcV (.int (f_M_isSimple mwd mlf px))) 0 0 (fun _ => False) := by
  generalize hF : (f_M_isSimple mwd mlf px) = F
  refine Met.ofW (cc := cX5_isSimple) (maxL := 4) (ret := (some .boolean)) (by decide) rfl ?_
  intro p e s m args below meth c s₁ B hml hv
  obtain ⟨rfl, hP, hK, hT, hN⟩ := hv
  have hx := B.exec
  have hb := B.bytes
  have hr := B.returns
  have hts := atoms_spec (ws := wX5_isSimple) B.pre
  have hta : ∀ w ∈ gw, w.before _ s = true := fun w h => hts w (List.mem_cons_of_mem _ h)
  have hown : s.vm.findClass RX5 = some m.cls := findClass_of_methodNamed B.named
  have hlocks := B.notSynchronized
  have hl := lv_entry [.ref a_m, .int px] (n := 4) (Nat.le_of_ble_eq_true rfl)
  rw [lg_entry_eq]
  generalize (lg_sl [.ref a_m, .int px] ++ List.replicate (4 - (lg_sl [.ref a_m, .int px]).length) Slot.unset).toArray = ls at hl ⊢
  have hl : lv_has ls 4 [(0, .ref a_m), (1, .int px)] := hl
  rw [f_M_isSimple] at hF
  rw [z_M_isSimple] at hZ
  refine lv_iconst (v := 0) hx hb dX5_isSimple_0 (by decide) ?_
  refine lv_istore_n (lv' := [(2, .int 0), (0, .ref a_m), (1, .int px)]) hx hb dX5_isSimple_1 rfl hl (by decide) rfl (fun ls hl => ?_)
  refine lv_iconst (v := 0) hx hb dX5_isSimple_2 (by decide) ?_
  refine lv_istore_n (lv' := [(3, .int 0), (2, .int 0), (0, .ref a_m), (1, .int px)]) hx hb dX5_isSimple_3 rfl hl (by decide) rfl (fun ls hl => ?_)
  have af4 : ∀ (v3_4 : Int32) (v2_4 : Int32) (ls : Array Slot), f_M_isSimple_k4  (v3_4, v2_4) = F → f_M_isSimple_k4_z  (v3_4, v2_4) → lv_has ls 4 [(3, .int v3_4), (2, .int v2_4), (0, .ref a_m), (1, .int px)] → W p l e { frames := 2, cells := 0, slots := 0, locals := 46 } s m (List.toArray [.ref a_m, .int px]) below meth c s.heap [] 0 0 (MQ below (k2_QcV (.int F)) (List.toArray [.ref a_m, .int px]) s 0 0 (fun _ => False)) (F0 m 55 ls []) := by
    intro v3_4 v2_4 ls hF hZ hl
    rw [f_M_isSimple_k4] at hF
    rw [f_M_isSimple_k4_z] at hZ
    refine lv_iload_n hx hb dX5_isSimple_55 rfl (lv_at hl 1 rfl) ?_
    refine lv_iconst (v := 1) hx hb dX5_isSimple_56 (by decide) ?_
    refine lv_icmp_ne (tgt := 64) hx hb dX5_isSimple_57 (by decide) (fun c57 => ?_) (fun c57 => ?_)
    · rw [if_neg c57] at hF hZ
      refine lv_iconst (v := 0) hx hb dX5_isSimple_64 (by decide) ?_
      exact W.zret (v := 0) hx hb hr rfl (fun t ht _ => ⟨by rw [← hF], ht⟩) (fun _ h => nomatch h) dX5_isSimple_65
    · rw [if_pos c57] at hF hZ
      refine lv_iconst (v := 1) hx hb dX5_isSimple_60 (by decide) ?_
      refine lv_goto (tgt := 65) hx hb dX5_isSimple_61 (by decide) ?_
      exact W.zret (v := 1) hx hb hr rfl (fun t ht _ => ⟨by rw [← hF], ht⟩) (fun _ h => nomatch h) dX5_isSimple_65
  have lp4 : ∀ (n9 : Nat) (v3_4 : Int32) (v2_4 : Int32) (ls : Array Slot), f_M_isSimple_k4  (f_M_isSimple_L4 mwd mlf px n9 (v3_4, v2_4)) = F → f_M_isSimple_k4_z  (f_M_isSimple_L4 mwd mlf px n9 (v3_4, v2_4)) → f_M_isSimple_L4_z mwd mlf px n9 (v3_4, v2_4) → lv_has ls 4 [(3, .int v3_4), (2, .int v2_4), (0, .ref a_m), (1, .int px)] → W p l e { frames := 2, cells := 0, slots := 0, locals := 46 } s m (List.toArray [.ref a_m, .int px]) below meth c s.heap [] 0 0 (MQ below (k2_QcV (.int F)) (List.toArray [.ref a_m, .int px]) s 0 0 (fun _ => False)) (F0 m 4 ls []) := by
    intro n9
    induction n9 with
    | zero => intro v3_4 v2_4 ls hF hA4 hZ; exact hZ.elim
    | succ n4 ih4 =>
      intro v3_4 v2_4 ls hF hA4 hZ hl
      rw [f_M_isSimple_L4] at hF hA4
      rw [f_M_isSimple_L4_z] at hZ
      refine lv_iload_n hx hb dX5_isSimple_4 rfl (lv_at hl 0 rfl) ?_
      refine lv_bipush (v := 8) hx hb dX5_isSimple_5 (by decide) ?_
      refine lv_icmp_ge (tgt := 55) hx hb dX5_isSimple_7 (by decide) (fun c7 => ?_) (fun c7 => ?_)
      · rw [if_pos c7] at hF hA4 hZ
        exact af4 v3_4 v2_4 ls hF hA4 (lv_sub hl [0, 1, 2, 3] rfl)
      · rw [if_neg c7] at hF hA4 hZ
        refine lv_iload_n hx hb dX5_isSimple_10 rfl (lv_at hl 1 rfl) ?_
        refine lv_aload_n hx hb dX5_isSimple_11 rfl (lv_at hl 2 rfl) ?_
        refine lv_iload_n hx hb dX5_isSimple_12 rfl (lv_at hl 3 rfl) ?_
        refine lv_iload_n hx hb dX5_isSimple_13 rfl (lv_at hl 0 rfl) ?_
        have o1 := hZ.1
        have hZ := hZ.2
        refine ro_go (va_runV (As := [.int px, .int v3_4]) (rest := [.int v2_4]) ⟨hx, hb, hml, hown, hts⟩ (c_M_black l D tX tY a_m a_mp k_mp a_ml k_ml a_mc k_mc a_mb k_mb a_mg k_mg a_mq k_mq a_mo k_mo a_me k_me a_mv k_mv a_my k_my mcd mw mh mwd mpf mlf mth mcf mbf mkn mst mgf mqf mus mof mef mcu mvf myf px v3_4 o1) (cwV 2 hts (gi_4 gi_c gw_683 gw_685 gs_X5_black gw_7 gw_686) rfl rfl rfl (by decide +kernel) ⟨Nat.le_of_ble_eq_true rfl, Nat.le_of_ble_eq_true rfl⟩) ⟨ro_blind, va_recv hK hP (ci := 5) (q0 := 0) rfl rfl, ro_at hP hK hT hN va_S.rf [0, 1, 2, 3, 4, 5, 6, 7, 8, 9, 10] [0, 1, 2, 3, 4, 5, 6, 7, 8, 9] rfl rfl⟩ rfl rfl hl.1 rfl (lv_room (Nat.le_of_ble_eq_true rfl)) dX5_isSimple_14 ⟨Nat.le_of_ble_eq_true rfl, Nat.le_of_ble_eq_true rfl⟩) ?_
        refine lv_if_ne (tgt := 46) hx hb dX5_isSimple_17 (by decide) (fun c17 => ?_) (fun c17 => ?_)
        · rw [if_neg c17] at hF hA4 hZ
          refine lv_iconst (v := 0) hx hb dX5_isSimple_46 (by decide) ?_
          refine lv_iadd hx hb dX5_isSimple_47 ?_
          refine lv_istore_n (lv' := [(2, .int (v2_4 + 0)), (3, .int v3_4), (0, .ref a_m), (1, .int px)]) hx hb dX5_isSimple_48 rfl hl (by decide) rfl (fun ls hl => ?_)
          refine lv_iinc (v := v3_4 + 2) (lv' := [(3, .int (v3_4 + 2)), (2, .int (v2_4 + 0)), (0, .ref a_m), (1, .int px)]) hx hb dX5_isSimple_49 hl (k := 1) rfl rfl (by decide) rfl (fun ls hl => ?_)
          refine lv_goto (tgt := 4) hx hb dX5_isSimple_52 (by decide) ?_
          exact ih4 (v3_4 + 2) (v2_4 + 0) ls hF hA4 hZ (lv_sub hl [0, 1, 2, 3] rfl)
        · rw [if_pos c17] at hF hA4 hZ
          refine lv_aload_n hx hb dX5_isSimple_20 rfl (lv_at hl 2 rfl) ?_
          refine lv_iload_n hx hb dX5_isSimple_21 rfl (lv_at hl 3 rfl) ?_
          refine lv_iload_n hx hb dX5_isSimple_22 rfl (lv_at hl 0 rfl) ?_
          refine lv_iconst (v := 1) hx hb dX5_isSimple_23 (by decide) ?_
          refine lv_iadd hx hb dX5_isSimple_24 ?_
          have o2 := hZ.1
          have hZ := hZ.2
          refine ro_go (va_runV (As := [.int px, .int (v3_4 + 1)]) (rest := [.int v2_4]) ⟨hx, hb, hml, hown, hts⟩ (c_M_black l D tX tY a_m a_mp k_mp a_ml k_ml a_mc k_mc a_mb k_mb a_mg k_mg a_mq k_mq a_mo k_mo a_me k_me a_mv k_mv a_my k_my mcd mw mh mwd mpf mlf mth mcf mbf mkn mst mgf mqf mus mof mef mcu mvf myf px (v3_4 + 1) o2) (cwV 2 hts (gi_4 gi_c gw_683 gw_685 gs_X5_black gw_7 gw_686) rfl rfl rfl (by decide +kernel) ⟨Nat.le_of_ble_eq_true rfl, Nat.le_of_ble_eq_true rfl⟩) ⟨ro_blind, va_recv hK hP (ci := 5) (q0 := 0) rfl rfl, ro_at hP hK hT hN va_S.rf [0, 1, 2, 3, 4, 5, 6, 7, 8, 9, 10] [0, 1, 2, 3, 4, 5, 6, 7, 8, 9] rfl rfl⟩ rfl rfl hl.1 rfl (lv_room (Nat.le_of_ble_eq_true rfl)) dX5_isSimple_25 ⟨Nat.le_of_ble_eq_true rfl, Nat.le_of_ble_eq_true rfl⟩) ?_
          refine lv_if_ne (tgt := 42) hx hb dX5_isSimple_28 (by decide) (fun c28 => ?_) (fun c28 => ?_)
          · rw [if_neg c28] at hF hA4 hZ
            refine lv_iconst (v := 1) hx hb dX5_isSimple_42 (by decide) ?_
            refine lv_goto (tgt := 47) hx hb dX5_isSimple_43 (by decide) ?_
            refine lv_iadd hx hb dX5_isSimple_47 ?_
            refine lv_istore_n (lv' := [(2, .int (v2_4 + 1)), (3, .int v3_4), (0, .ref a_m), (1, .int px)]) hx hb dX5_isSimple_48 rfl hl (by decide) rfl (fun ls hl => ?_)
            refine lv_iinc (v := v3_4 + 2) (lv' := [(3, .int (v3_4 + 2)), (2, .int (v2_4 + 1)), (0, .ref a_m), (1, .int px)]) hx hb dX5_isSimple_49 hl (k := 1) rfl rfl (by decide) rfl (fun ls hl => ?_)
            refine lv_goto (tgt := 4) hx hb dX5_isSimple_52 (by decide) ?_
            exact ih4 (v3_4 + 2) (v2_4 + 1) ls hF hA4 hZ (lv_sub hl [0, 1, 2, 3] rfl)
          · rw [if_pos c28] at hF hA4 hZ
            refine lv_aload_n hx hb dX5_isSimple_31 rfl (lv_at hl 2 rfl) ?_
            refine lv_iload_n hx hb dX5_isSimple_32 rfl (lv_at hl 3 rfl) ?_
            refine lv_iload_n hx hb dX5_isSimple_33 rfl (lv_at hl 0 rfl) ?_
            refine lv_iconst (v := 2) hx hb dX5_isSimple_34 (by decide) ?_
            refine lv_iadd hx hb dX5_isSimple_35 ?_
            have o3 := hZ.1
            have hZ := hZ.2
            refine ro_go (va_runV (As := [.int px, .int (v3_4 + 2)]) (rest := [.int v2_4]) ⟨hx, hb, hml, hown, hts⟩ (c_M_black l D tX tY a_m a_mp k_mp a_ml k_ml a_mc k_mc a_mb k_mb a_mg k_mg a_mq k_mq a_mo k_mo a_me k_me a_mv k_mv a_my k_my mcd mw mh mwd mpf mlf mth mcf mbf mkn mst mgf mqf mus mof mef mcu mvf myf px (v3_4 + 2) o3) (cwV 2 hts (gi_4 gi_c gw_683 gw_685 gs_X5_black gw_7 gw_686) rfl rfl rfl (by decide +kernel) ⟨Nat.le_of_ble_eq_true rfl, Nat.le_of_ble_eq_true rfl⟩) ⟨ro_blind, va_recv hK hP (ci := 5) (q0 := 0) rfl rfl, ro_at hP hK hT hN va_S.rf [0, 1, 2, 3, 4, 5, 6, 7, 8, 9, 10] [0, 1, 2, 3, 4, 5, 6, 7, 8, 9] rfl rfl⟩ rfl rfl hl.1 rfl (lv_room (Nat.le_of_ble_eq_true rfl)) dX5_isSimple_36 ⟨Nat.le_of_ble_eq_true rfl, Nat.le_of_ble_eq_true rfl⟩) ?_
            refine lv_if_eq (tgt := 46) hx hb dX5_isSimple_39 (by decide) (fun c39 => ?_) (fun c39 => ?_)
            · rw [if_pos c39] at hF hA4 hZ
              refine lv_iconst (v := 0) hx hb dX5_isSimple_46 (by decide) ?_
              refine lv_iadd hx hb dX5_isSimple_47 ?_
              refine lv_istore_n (lv' := [(2, .int (v2_4 + 0)), (3, .int v3_4), (0, .ref a_m), (1, .int px)]) hx hb dX5_isSimple_48 rfl hl (by decide) rfl (fun ls hl => ?_)
              refine lv_iinc (v := v3_4 + 2) (lv' := [(3, .int (v3_4 + 2)), (2, .int (v2_4 + 0)), (0, .ref a_m), (1, .int px)]) hx hb dX5_isSimple_49 hl (k := 1) rfl rfl (by decide) rfl (fun ls hl => ?_)
              refine lv_goto (tgt := 4) hx hb dX5_isSimple_52 (by decide) ?_
              exact ih4 (v3_4 + 2) (v2_4 + 0) ls hF hA4 hZ (lv_sub hl [0, 1, 2, 3] rfl)
            · rw [if_neg c39] at hF hA4 hZ
              refine lv_iconst (v := 1) hx hb dX5_isSimple_42 (by decide) ?_
              refine lv_goto (tgt := 47) hx hb dX5_isSimple_43 (by decide) ?_
              refine lv_iadd hx hb dX5_isSimple_47 ?_
              refine lv_istore_n (lv' := [(2, .int (v2_4 + 1)), (3, .int v3_4), (0, .ref a_m), (1, .int px)]) hx hb dX5_isSimple_48 rfl hl (by decide) rfl (fun ls hl => ?_)
              refine lv_iinc (v := v3_4 + 2) (lv' := [(3, .int (v3_4 + 2)), (2, .int (v2_4 + 1)), (0, .ref a_m), (1, .int px)]) hx hb dX5_isSimple_49 hl (k := 1) rfl rfl (by decide) rfl (fun ls hl => ?_)
              refine lv_goto (tgt := 4) hx hb dX5_isSimple_52 (by decide) ?_
              exact ih4 (v3_4 + 2) (v2_4 + 1) ls hF hA4 hZ (lv_sub hl [0, 1, 2, 3] rfl)
  exact lp4 FU 0 0 ls hF hZ.2 hZ.1 (lv_sub hl [0, 1, 2, 3] rfl)

def f_M_mayGo (mwd : Int32) (mlf : Nat → Int32) (px : Int32) : Int32 := (if (mlf px.toNatClampNeg) = 0 then 0 else (if (f_M_blackRound mwd mlf px) = 1 then 0 else (if (f_M_isSimple mwd mlf px) = 0 then 0 else 1)))
def z_M_mayGo (mwd : Int32) (mlf : Nat → Int32) (px : Int32) : Prop := ((vp_in px 676) ∧ (if (mlf px.toNatClampNeg) = 0 then True else (((z_M_blackRound mwd mlf px)) ∧ (if (f_M_blackRound mwd mlf px) = 1 then True else (((z_M_isSimple mwd mlf px)) ∧ (if (f_M_isSimple mwd mlf px) = 0 then True else True))))))
set_option maxHeartbeats 4000000 in
set_option maxRecDepth 100000 in
theorem c_M_mayGo (l : Launch) (D : va_G) (tX tY : Nat) (a_m : Nat) (a_mp : Nat) (k_mp : ClassId) (a_ml : Nat) (k_ml : ClassId) (a_mc : Nat) (k_mc : ClassId) (a_mb : Nat) (k_mb : ClassId) (a_mg : Nat) (k_mg : ClassId) (a_mq : Nat) (k_mq : ClassId) (a_mo : Nat) (k_mo : ClassId) (a_me : Nat) (k_me : ClassId) (a_mv : Nat) (k_mv : ClassId) (a_my : Nat) (k_my : ClassId) (mcd : Int32) (mw : Int32) (mh : Int32) (mwd : Int32) (mpf : Nat → Int32) (mlf : Nat → Int32) (mth : Int32) (mcf : Nat → Int32) (mbf : Nat → Int32) (mkn : Int32) (mst : Int32) (mgf : Nat → Int32) (mqf : Nat → Int32) (mus : Int32) (mof : Nat → Int32) (mef : Nat → Int32) (mcu : Int32) (mvf : Nat → Int32) (myf : Nat → Int32) (px : Int32) (hZ : z_M_mayGo mwd mlf px) : Met l yX5_mayGo wX5_mayGo ({ frames := 3, cells := 0, slots := 0, locals := 69 }) (ro_P D tX tY [(k_mp, .boolean), (k_ml, .boolean), (k_mc, .boolean), (k_mb, .int), (k_mg, .int), (k_mq, .int), (k_mo, .boolean), (k_me, .boolean), (k_mv, .int), (k_my, .int)] [(a_m, .inr (5, [.int mcd, .int mw, .int mh, .int mwd, .ref a_mp, .ref a_ml, .int mth, .ref a_mc, .ref a_mb, .int mkn, .int mst, .ref a_mg, .ref a_mq, .int mus, .ref a_mo, .ref a_me, .int mcu, .ref a_mv, .ref a_my])), (a_mp, .inl (k_mp, 676, .inl mpf)), (a_ml, .inl (k_ml, 676, .inl mlf)), (a_mc, .inl (k_mc, 676, .inl mcf)), (a_mb, .inl (k_mb, 676, .inl mbf)), (a_mg, .inl (k_mg, 3000, .inl mgf)), (a_mq, .inl (k_mq, 9000, .inl mqf)), (a_mo, .inl (k_mo, 5408, .inl mof)), (a_me, .inl (k_me, 676, .inl mef)), (a_mv, .inl (k_mv, 3000, .inl mvf)), (a_my, .inl (k_my, 3000, .inl myf))] [.ref a_m, .int px]) (k2_QcV (.int (f_M_mayGo mwd mlf px))) 0 0 (fun _ => False) := by
  generalize hF : (f_M_mayGo mwd mlf px) = F
  refine Met.ofW (cc := cX5_mayGo) (maxL := 2) (ret := (some .boolean)) (by decide) rfl ?_
  intro p e s m args below meth c s₁ B hml hv
  obtain ⟨rfl, hP, hK, hT, hN⟩ := hv
  have hx := B.exec
  have hb := B.bytes
  have hr := B.returns
  have hts := atoms_spec (ws := wX5_mayGo) B.pre
  have hta : ∀ w ∈ gw, w.before _ s = true := fun w h => hts w (List.mem_cons_of_mem _ h)
  have hown : s.vm.findClass RX5 = some m.cls := findClass_of_methodNamed B.named
  have hlocks := B.notSynchronized
  have hl := lv_entry [.ref a_m, .int px] (n := 2) (Nat.le_of_ble_eq_true rfl)
  rw [lg_entry_eq]
  generalize (lg_sl [.ref a_m, .int px] ++ List.replicate (2 - (lg_sl [.ref a_m, .int px]).length) Slot.unset).toArray = ls at hl ⊢
  have hl : lv_has ls 2 [(0, .ref a_m), (1, .int px)] := hl
  rw [f_M_mayGo] at hF
  rw [z_M_mayGo] at hZ
  refine lv_aload_n hx hb dX5_mayGo_0 rfl (lv_at hl 0 rfl) ?_
  refine va_get (D := D) (ci := 5) (v := .ref a_ml) (C := RX5) (T := TX5) (N := 19) hx hb hta inX5 hown hK hP 0 rfl rfl 5 (by decide) (hta _ gw_613) (fun _ h9 => h9) rfl dX5_mayGo_1 ?_
  refine lv_iload_n hx hb dX5_mayGo_4 rfl (lv_at hl 1 rfl) ?_
  have o1 := hZ.1
  have hZ := hZ.2
  refine va_zald hx hb hK hP 2 1 rfl rfl (i := px) o1 dX5_mayGo_5 ?_
  refine lv_if_eq (tgt := 30) hx hb dX5_mayGo_6 (by decide) (fun c6 => ?_) (fun c6 => ?_)
  · rw [if_pos c6] at hF hZ
    refine lv_iconst (v := 0) hx hb dX5_mayGo_30 (by decide) ?_
    exact W.zret (v := 0) hx hb hr rfl (fun t ht _ => ⟨by rw [← hF], ht⟩) (fun _ h => nomatch h) dX5_mayGo_31
  · rw [if_neg c6] at hF hZ
    refine lv_aload_n hx hb dX5_mayGo_9 rfl (lv_at hl 0 rfl) ?_
    refine lv_iload_n hx hb dX5_mayGo_10 rfl (lv_at hl 1 rfl) ?_
    have o2 := hZ.1
    have hZ := hZ.2
    refine ro_go (va_runV (As := [.int px]) (rest := []) ⟨hx, hb, hml, hown, hts⟩ (c_M_blackRound l D tX tY a_m a_mp k_mp a_ml k_ml a_mc k_mc a_mb k_mb a_mg k_mg a_mq k_mq a_mo k_mo a_me k_me a_mv k_mv a_my k_my mcd mw mh mwd mpf mlf mth mcf mbf mkn mst mgf mqf mus mof mef mcu mvf myf px o2) (cwV 1 hts (gi_4 gi_c gw_695 gw_697 gs_X5_blackRound gw_7 gw_698) rfl rfl rfl (by decide +kernel) ⟨Nat.le_of_ble_eq_true rfl, Nat.le_of_ble_eq_true rfl⟩) ⟨ro_blind, va_recv hK hP (ci := 5) (q0 := 0) rfl rfl, ro_at hP hK hT hN va_S.rf [0, 1, 2, 3, 4, 5, 6, 7, 8, 9, 10] [0, 1, 2, 3, 4, 5, 6, 7, 8, 9] rfl rfl⟩ rfl rfl hl.1 rfl (lv_room (Nat.le_of_ble_eq_true rfl)) dX5_mayGo_11 ⟨Nat.le_of_ble_eq_true rfl, Nat.le_of_ble_eq_true rfl⟩) ?_
    refine lv_iconst (v := 1) hx hb dX5_mayGo_14 (by decide) ?_
    refine lv_icmp_eq (tgt := 30) hx hb dX5_mayGo_15 (by decide) (fun c15 => ?_) (fun c15 => ?_)
    · rw [if_pos c15] at hF hZ
      refine lv_iconst (v := 0) hx hb dX5_mayGo_30 (by decide) ?_
      exact W.zret (v := 0) hx hb hr rfl (fun t ht _ => ⟨by rw [← hF], ht⟩) (fun _ h => nomatch h) dX5_mayGo_31
    · rw [if_neg c15] at hF hZ
      refine lv_aload_n hx hb dX5_mayGo_18 rfl (lv_at hl 0 rfl) ?_
      refine lv_iload_n hx hb dX5_mayGo_19 rfl (lv_at hl 1 rfl) ?_
      have o3 := hZ.1
      have hZ := hZ.2
      refine ro_go (va_runV (As := [.int px]) (rest := []) ⟨hx, hb, hml, hown, hts⟩ (c_M_isSimple l D tX tY a_m a_mp k_mp a_ml k_ml a_mc k_mc a_mb k_mb a_mg k_mg a_mq k_mq a_mo k_mo a_me k_me a_mv k_mv a_my k_my mcd mw mh mwd mpf mlf mth mcf mbf mkn mst mgf mqf mus mof mef mcu mvf myf px o3) (cwV 1 hts (gi_4 gi_c gw_699 gw_701 gs_X5_isSimple gw_7 gw_702) rfl rfl rfl (by decide +kernel) ⟨Nat.le_of_ble_eq_true rfl, Nat.le_of_ble_eq_true rfl⟩) ⟨ro_blind, va_recv hK hP (ci := 5) (q0 := 0) rfl rfl, ro_at hP hK hT hN va_S.rf [0, 1, 2, 3, 4, 5, 6, 7, 8, 9, 10] [0, 1, 2, 3, 4, 5, 6, 7, 8, 9] rfl rfl⟩ rfl rfl hl.1 rfl (lv_room (Nat.le_of_ble_eq_true rfl)) dX5_mayGo_20 ⟨Nat.le_of_ble_eq_true rfl, Nat.le_of_ble_eq_true rfl⟩) ?_
      refine lv_if_eq (tgt := 30) hx hb dX5_mayGo_23 (by decide) (fun c23 => ?_) (fun c23 => ?_)
      · rw [if_pos c23] at hF hZ
        refine lv_iconst (v := 0) hx hb dX5_mayGo_30 (by decide) ?_
        exact W.zret (v := 0) hx hb hr rfl (fun t ht _ => ⟨by rw [← hF], ht⟩) (fun _ h => nomatch h) dX5_mayGo_31
      · rw [if_neg c23] at hF hZ
        refine lv_iconst (v := 1) hx hb dX5_mayGo_26 (by decide) ?_
        refine lv_goto (tgt := 31) hx hb dX5_mayGo_27 (by decide) ?_
        exact W.zret (v := 1) hx hb hr rfl (fun t ht _ => ⟨by rw [← hF], ht⟩) (fun _ h => nomatch h) dX5_mayGo_31

def f_M_half_k67 (f3_2 : Nat → Int32) : Int32 × Int32 × (Nat → Int32) → Int32 × (Nat → Int32) × (Nat → Int32)
  | (v4_67, v3_67, f2_67) => (v3_67, f3_2, f2_67)
def f_M_half_k67_z  : Int32 × Int32 × (Nat → Int32) → Prop
  | (v4_67, v3_67, f2_67) => True
def f_M_half_L67 (mh : Int32) (mwd : Int32) (f3_2 : Nat → Int32) : Nat → Int32 × Int32 × (Nat → Int32) → Int32 × Int32 × (Nat → Int32)
  | 0, σ => σ
  | n9 + 1, (v4_67, v3_67, f2_67) => (if (f_M_area mh mwd) ≤ v4_67 then (v4_67, v3_67, f2_67) else (if (f3_2 v4_67.toNatClampNeg) = 0 then ((f_M_half_L67 mh mwd f3_2 n9) (v4_67 + 1, v3_67, f2_67)) else (if (f_M_mayGo mwd f2_67 v4_67) = 0 then ((f_M_half_L67 mh mwd f3_2 n9) (v4_67 + 1, v3_67, f2_67)) else ((f_M_half_L67 mh mwd f3_2 n9) (v4_67 + 1, v3_67 + 1, upd f2_67 v4_67.toNatClampNeg (nb 0))))))
def f_M_half_L67_z (mh : Int32) (mwd : Int32) (f3_2 : Nat → Int32) : Nat → Int32 × Int32 × (Nat → Int32) → Prop
  | 0, _ => False
  | n9 + 1, (v4_67, v3_67, f2_67) => (if (f_M_area mh mwd) ≤ v4_67 then True else ((vp_in v4_67 676) ∧ (if (f3_2 v4_67.toNatClampNeg) = 0 then ((f_M_half_L67_z mh mwd f3_2 n9) (v4_67 + 1, v3_67, f2_67)) else (((z_M_mayGo mwd f2_67 v4_67)) ∧ (if (f_M_mayGo mwd f2_67 v4_67) = 0 then ((f_M_half_L67_z mh mwd f3_2 n9) (v4_67 + 1, v3_67, f2_67)) else ((vp_in v4_67 676) ∧ ((f_M_half_L67_z mh mwd f3_2 n9) (v4_67 + 1, v3_67 + 1, upd f2_67 v4_67.toNatClampNeg (nb 0)))))))))
def f_M_half_k2 (mh : Int32) (mwd : Int32) (mlf : Nat → Int32) : Int32 × (Nat → Int32) → Int32 × (Nat → Int32) × (Nat → Int32)
  | (v3_2, f3_2) => (f_M_half_k67 f3_2 (f_M_half_L67 mh mwd f3_2 FU (0, 0, mlf)))
def f_M_half_k2_z (mh : Int32) (mwd : Int32) (mlf : Nat → Int32) : Int32 × (Nat → Int32) → Prop
  | (v3_2, f3_2) => ((f_M_half_L67_z mh mwd f3_2 FU (0, 0, mlf)) ∧ (f_M_half_k67_z (f_M_half_L67 mh mwd f3_2 FU (0, 0, mlf))))
def f_M_half_L2 (mh : Int32) (mwd : Int32) (mlf : Nat → Int32) (px : Int32) (py : Int32) : Nat → Int32 × (Nat → Int32) → Int32 × (Nat → Int32)
  | 0, σ => σ
  | n9 + 1, (v3_2, f3_2) => (if (f_M_area mh mwd) ≤ v3_2 then (v3_2, f3_2) else (if (mlf v3_2.toNatClampNeg) = 0 then ((f_M_half_L2 mh mwd mlf px py n9) (v3_2 + 1, upd f3_2 v3_2.toNatClampNeg (nb 0))) else (if (f_M_black mwd mlf v3_2 px) = 0 then (if (f_M_mayGo mwd mlf v3_2) = 0 then ((f_M_half_L2 mh mwd mlf px py n9) (v3_2 + 1, upd f3_2 v3_2.toNatClampNeg (nb 0))) else ((f_M_half_L2 mh mwd mlf px py n9) (v3_2 + 1, upd f3_2 v3_2.toNatClampNeg (nb 1)))) else (if (f_M_black mwd mlf v3_2 py) = 0 then (if (f_M_mayGo mwd mlf v3_2) = 0 then ((f_M_half_L2 mh mwd mlf px py n9) (v3_2 + 1, upd f3_2 v3_2.toNatClampNeg (nb 0))) else ((f_M_half_L2 mh mwd mlf px py n9) (v3_2 + 1, upd f3_2 v3_2.toNatClampNeg (nb 1)))) else ((f_M_half_L2 mh mwd mlf px py n9) (v3_2 + 1, upd f3_2 v3_2.toNatClampNeg (nb 0)))))))
def f_M_half_L2_z (mh : Int32) (mwd : Int32) (mlf : Nat → Int32) (px : Int32) (py : Int32) : Nat → Int32 × (Nat → Int32) → Prop
  | 0, _ => False
  | n9 + 1, (v3_2, f3_2) => (if (f_M_area mh mwd) ≤ v3_2 then True else ((vp_in v3_2 676) ∧ (if (mlf v3_2.toNatClampNeg) = 0 then ((vp_in v3_2 676) ∧ ((f_M_half_L2_z mh mwd mlf px py n9) (v3_2 + 1, upd f3_2 v3_2.toNatClampNeg (nb 0)))) else (((z_M_black mwd mlf v3_2 px)) ∧ (if (f_M_black mwd mlf v3_2 px) = 0 then (((z_M_mayGo mwd mlf v3_2)) ∧ (if (f_M_mayGo mwd mlf v3_2) = 0 then ((vp_in v3_2 676) ∧ ((f_M_half_L2_z mh mwd mlf px py n9) (v3_2 + 1, upd f3_2 v3_2.toNatClampNeg (nb 0)))) else ((vp_in v3_2 676) ∧ ((f_M_half_L2_z mh mwd mlf px py n9) (v3_2 + 1, upd f3_2 v3_2.toNatClampNeg (nb 1)))))) else (((z_M_black mwd mlf v3_2 py)) ∧ (if (f_M_black mwd mlf v3_2 py) = 0 then (((z_M_mayGo mwd mlf v3_2)) ∧ (if (f_M_mayGo mwd mlf v3_2) = 0 then ((vp_in v3_2 676) ∧ ((f_M_half_L2_z mh mwd mlf px py n9) (v3_2 + 1, upd f3_2 v3_2.toNatClampNeg (nb 0)))) else ((vp_in v3_2 676) ∧ ((f_M_half_L2_z mh mwd mlf px py n9) (v3_2 + 1, upd f3_2 v3_2.toNatClampNeg (nb 1)))))) else ((vp_in v3_2 676) ∧ ((f_M_half_L2_z mh mwd mlf px py n9) (v3_2 + 1, upd f3_2 v3_2.toNatClampNeg (nb 0)))))))))))
def f_M_half (mh : Int32) (mwd : Int32) (mlf : Nat → Int32) (mcf : Nat → Int32) (px : Int32) (py : Int32) : Int32 × (Nat → Int32) × (Nat → Int32) := (f_M_half_k2 mh mwd mlf (f_M_half_L2 mh mwd mlf px py FU (0, mcf)))
def z_M_half (mh : Int32) (mwd : Int32) (mlf : Nat → Int32) (mcf : Nat → Int32) (px : Int32) (py : Int32) : Prop := ((f_M_half_L2_z mh mwd mlf px py FU (0, mcf)) ∧ (f_M_half_k2_z mh mwd mlf (f_M_half_L2 mh mwd mlf px py FU (0, mcf))))
set_option maxHeartbeats 4000000 in
set_option maxRecDepth 100000 in
theorem c_M_half (l : Launch) (D : va_G) (tX tY : Nat) (a_m : Nat) (a_mp : Nat) (k_mp : ClassId) (a_ml : Nat) (k_ml : ClassId) (a_mc : Nat) (k_mc : ClassId) (a_mb : Nat) (k_mb : ClassId) (a_mg : Nat) (k_mg : ClassId) (a_mq : Nat) (k_mq : ClassId) (a_mo : Nat) (k_mo : ClassId) (a_me : Nat) (k_me : ClassId) (a_mv : Nat) (k_mv : ClassId) (a_my : Nat) (k_my : ClassId) (mcd : Int32) (mw : Int32) (mh : Int32) (mwd : Int32) (mpf : Nat → Int32) (mlf : Nat → Int32) (mth : Int32) (mcf : Nat → Int32) (mbf : Nat → Int32) (mkn : Int32) (mst : Int32) (mgf : Nat → Int32) (mqf : Nat → Int32) (mus : Int32) (mof : Nat → Int32) (mef : Nat → Int32) (mcu : Int32) (mvf : Nat → Int32) (myf : Nat → Int32) (sz : Nat) (px : Int32) (py : Int32) (hZ : z_M_half mh mwd mlf mcf px py) : Met l yX5_half wX5_half ({ frames := 4, cells := 0, slots := 0, locals := 90 }) (mu_P D tX tY [(k_mp, .boolean), (k_ml, .boolean), (k_mc, .boolean), (k_mb, .int), (k_mg, .int), (k_mq, .int), (k_mo, .boolean), (k_me, .boolean), (k_mv, .int), (k_my, .int)] [(a_m, .inr (5, [.int mcd, .int mw, .int mh, .int mwd, .ref a_mp, .ref a_ml, .int mth, .ref a_mc, .ref a_mb, .int mkn, .int mst, .ref a_mg, .ref a_mq, .int mus, .ref a_mo, .ref a_me, .int mcu, .ref a_mv, .ref a_my])), (a_mp, .inl (k_mp, 676, .inl mpf)), (a_ml, .inl (k_ml, 676, .inl mlf)), (a_mc, .inl (k_mc, 676, .inl mcf)), (a_mb, .inl (k_mb, 676, .inl mbf)), (a_mg, .inl (k_mg, 3000, .inl mgf)), (a_mq, .inl (k_mq, 9000, .inl mqf)), (a_mo, .inl (k_mo, 5408, .inl mof)), (a_me, .inl (k_me, 676, .inl mef)), (a_mv, .inl (k_mv, 3000, .inl mvf)), (a_my, .inl (k_my, 3000, .inl myf))] sz [.ref a_m, .int px, .int py]) (va_Qi (fun (r : Int32) (u : (Nat → Int32) × (Nat → Int32)) => (f_M_half mh mwd mlf mcf px py) = (r, u)) (fun (u : (Nat → Int32) × (Nat → Int32)) (t : State) => va_P D vwCl [(a_m, .inr (5, [.int mcd, .int mw, .int mh, .int mwd, .ref a_mp, .ref a_ml, .int mth, .ref a_mc, .ref a_mb, .int mkn, .int mst, .ref a_mg, .ref a_mq, .int mus, .ref a_mo, .ref a_me, .int mcu, .ref a_mv, .ref a_my])), (a_mp, .inl (k_mp, 676, .inl mpf)), (a_ml, .inl (k_ml, 676, .inl u.2)), (a_mc, .inl (k_mc, 676, .inl u.1)), (a_mb, .inl (k_mb, 676, .inl mbf)), (a_mg, .inl (k_mg, 3000, .inl mgf)), (a_mq, .inl (k_mq, 9000, .inl mqf)), (a_mo, .inl (k_mo, 5408, .inl mof)), (a_me, .inl (k_me, 676, .inl mef)), (a_mv, .inl (k_mv, 3000, .inl mvf)), (a_my, .inl (k_my, 3000, .inl myf))] t.heap ∧ va_K D vwCl [(k_mp, .boolean), (k_ml, .boolean), (k_mc, .boolean), (k_mb, .int), (k_mg, .int), (k_mq, .int), (k_mo, .boolean), (k_me, .boolean), (k_mv, .int), (k_my, .int)] t ∧ va_D (va_A [(a_m, .inr (5, [.int mcd, .int mw, .int mh, .int mwd, .ref a_mp, .ref a_ml, .int mth, .ref a_mc, .ref a_mb, .int mkn, .int mst, .ref a_mg, .ref a_mq, .int mus, .ref a_mo, .ref a_me, .int mcu, .ref a_mv, .ref a_my])), (a_mp, .inl (k_mp, 676, .inl mpf)), (a_ml, .inl (k_ml, 676, .inl mlf)), (a_mc, .inl (k_mc, 676, .inl mcf)), (a_mb, .inl (k_mb, 676, .inl mbf)), (a_mg, .inl (k_mg, 3000, .inl mgf)), (a_mq, .inl (k_mq, 9000, .inl mqf)), (a_mo, .inl (k_mo, 5408, .inl mof)), (a_me, .inl (k_me, 676, .inl mef)), (a_mv, .inl (k_mv, 3000, .inl mvf)), (a_my, .inl (k_my, 3000, .inl myf))] sz) [(a_m, .inr (5, [.int mcd, .int mw, .int mh, .int mwd, .ref a_mp, .ref a_ml, .int mth, .ref a_mc, .ref a_mb, .int mkn, .int mst, .ref a_mg, .ref a_mq, .int mus, .ref a_mo, .ref a_me, .int mcu, .ref a_mv, .ref a_my])), (a_mp, .inl (k_mp, 676, .inl mpf)), (a_ml, .inl (k_ml, 676, .inl u.2)), (a_mc, .inl (k_mc, 676, .inl u.1)), (a_mb, .inl (k_mb, 676, .inl mbf)), (a_mg, .inl (k_mg, 3000, .inl mgf)), (a_mq, .inl (k_mq, 9000, .inl mqf)), (a_mo, .inl (k_mo, 5408, .inl mof)), (a_me, .inl (k_me, 676, .inl mef)), (a_mv, .inl (k_mv, 3000, .inl mvf)), (a_my, .inl (k_my, 3000, .inl myf))]) (va_A [(a_m, .inr (5, [.int mcd, .int mw, .int mh, .int mwd, .ref a_mp, .ref a_ml, .int mth, .ref a_mc, .ref a_mb, .int mkn, .int mst, .ref a_mg, .ref a_mq, .int mus, .ref a_mo, .ref a_me, .int mcu, .ref a_mv, .ref a_my])), (a_mp, .inl (k_mp, 676, .inl mpf)), (a_ml, .inl (k_ml, 676, .inl mlf)), (a_mc, .inl (k_mc, 676, .inl mcf)), (a_mb, .inl (k_mb, 676, .inl mbf)), (a_mg, .inl (k_mg, 3000, .inl mgf)), (a_mq, .inl (k_mq, 9000, .inl mqf)), (a_mo, .inl (k_mo, 5408, .inl mof)), (a_me, .inl (k_me, 676, .inl mef)), (a_mv, .inl (k_mv, 3000, .inl mvf)), (a_my, .inl (k_my, 3000, .inl myf))] sz)) 0 0 (va_A [(a_m, .inr (5, [.int mcd, .int mw, .int mh, .int mwd, .ref a_mp, .ref a_ml, .int mth, .ref a_mc, .ref a_mb, .int mkn, .int mst, .ref a_mg, .ref a_mq, .int mus, .ref a_mo, .ref a_me, .int mcu, .ref a_mv, .ref a_my])), (a_mp, .inl (k_mp, 676, .inl mpf)), (a_ml, .inl (k_ml, 676, .inl mlf)), (a_mc, .inl (k_mc, 676, .inl mcf)), (a_mb, .inl (k_mb, 676, .inl mbf)), (a_mg, .inl (k_mg, 3000, .inl mgf)), (a_mq, .inl (k_mq, 9000, .inl mqf)), (a_mo, .inl (k_mo, 5408, .inl mof)), (a_me, .inl (k_me, 676, .inl mef)), (a_mv, .inl (k_mv, 3000, .inl mvf)), (a_my, .inl (k_my, 3000, .inl myf))] sz) := by
  generalize hF : (f_M_half mh mwd mlf mcf px py) = F
  refine Met.ofW (cc := cX5_half) (maxL := 5) (ret := (some .int)) (by decide) rfl ?_
  intro p e s m args below meth c s₁ B hml hv
  obtain ⟨rfl, hsz, hP, hK, hD0, hT, hN⟩ := hv
  have hx := B.exec
  have hb := B.bytes
  have hr := B.returns
  have hts := atoms_spec (ws := wX5_half) B.pre
  have hta : ∀ w ∈ gw, w.before _ s = true := fun w h => hts w (List.mem_cons_of_mem _ h)
  have hown : s.vm.findClass RX5 = some m.cls := findClass_of_methodNamed B.named
  have hlocks := B.notSynchronized
  have hD : va_D (va_A [(a_m, .inr (5, [.int mcd, .int mw, .int mh, .int mwd, .ref a_mp, .ref a_ml, .int mth, .ref a_mc, .ref a_mb, .int mkn, .int mst, .ref a_mg, .ref a_mq, .int mus, .ref a_mo, .ref a_me, .int mcu, .ref a_mv, .ref a_my])), (a_mp, .inl (k_mp, 676, .inl mpf)), (a_ml, .inl (k_ml, 676, .inl mlf)), (a_mc, .inl (k_mc, 676, .inl mcf)), (a_mb, .inl (k_mb, 676, .inl mbf)), (a_mg, .inl (k_mg, 3000, .inl mgf)), (a_mq, .inl (k_mq, 9000, .inl mqf)), (a_mo, .inl (k_mo, 5408, .inl mof)), (a_me, .inl (k_me, 676, .inl mef)), (a_mv, .inl (k_mv, 3000, .inl mvf)), (a_my, .inl (k_my, 3000, .inl myf))] sz) [(a_m, .inr (5, [.int mcd, .int mw, .int mh, .int mwd, .ref a_mp, .ref a_ml, .int mth, .ref a_mc, .ref a_mb, .int mkn, .int mst, .ref a_mg, .ref a_mq, .int mus, .ref a_mo, .ref a_me, .int mcu, .ref a_mv, .ref a_my])), (a_mp, .inl (k_mp, 676, .inl mpf)), (a_ml, .inl (k_ml, 676, .inl mlf)), (a_mc, .inl (k_mc, 676, .inl mcf)), (a_mb, .inl (k_mb, 676, .inl mbf)), (a_mg, .inl (k_mg, 3000, .inl mgf)), (a_mq, .inl (k_mq, 9000, .inl mqf)), (a_mo, .inl (k_mo, 5408, .inl mof)), (a_me, .inl (k_me, 676, .inl mef)), (a_mv, .inl (k_mv, 3000, .inl mvf)), (a_my, .inl (k_my, 3000, .inl myf))] := hD0.self
  have hA : ∀ q : Nat, s.heap.size ≤ q → (va_A [(a_m, .inr (5, [.int mcd, .int mw, .int mh, .int mwd, .ref a_mp, .ref a_ml, .int mth, .ref a_mc, .ref a_mb, .int mkn, .int mst, .ref a_mg, .ref a_mq, .int mus, .ref a_mo, .ref a_me, .int mcu, .ref a_mv, .ref a_my])), (a_mp, .inl (k_mp, 676, .inl mpf)), (a_ml, .inl (k_ml, 676, .inl mlf)), (a_mc, .inl (k_mc, 676, .inl mcf)), (a_mb, .inl (k_mb, 676, .inl mbf)), (a_mg, .inl (k_mg, 3000, .inl mgf)), (a_mq, .inl (k_mq, 9000, .inl mqf)), (a_mo, .inl (k_mo, 5408, .inl mof)), (a_me, .inl (k_me, 676, .inl mef)), (a_mv, .inl (k_mv, 3000, .inl mvf)), (a_my, .inl (k_my, 3000, .inl myf))] sz) q := fun q h => Or.inr (hsz ▸ h)
  have hS : va_S (va_A [(a_m, .inr (5, [.int mcd, .int mw, .int mh, .int mwd, .ref a_mp, .ref a_ml, .int mth, .ref a_mc, .ref a_mb, .int mkn, .int mst, .ref a_mg, .ref a_mq, .int mus, .ref a_mo, .ref a_me, .int mcu, .ref a_mv, .ref a_my])), (a_mp, .inl (k_mp, 676, .inl mpf)), (a_ml, .inl (k_ml, 676, .inl mlf)), (a_mc, .inl (k_mc, 676, .inl mcf)), (a_mb, .inl (k_mb, 676, .inl mbf)), (a_mg, .inl (k_mg, 3000, .inl mgf)), (a_mq, .inl (k_mq, 9000, .inl mqf)), (a_mo, .inl (k_mo, 5408, .inl mof)), (a_me, .inl (k_me, 676, .inl mef)), (a_mv, .inl (k_mv, 3000, .inl mvf)), (a_my, .inl (k_my, 3000, .inl myf))] sz) s.heap s.heap [] := va_S.rf
  have hl := lv_entry [.ref a_m, .int px, .int py] (n := 5) (Nat.le_of_ble_eq_true rfl)
  rw [lg_entry_eq]
  generalize (lg_sl [.ref a_m, .int px, .int py] ++ List.replicate (5 - (lg_sl [.ref a_m, .int px, .int py]).length) Slot.unset).toArray = ls at hl ⊢
  have hl : lv_has ls 5 [(0, .ref a_m), (1, .int px), (2, .int py)] := hl
  rw [f_M_half] at hF
  rw [z_M_half] at hZ
  have hgo : ∀ (H : Heap) (locs : List Loc), va_P D vwCl [(a_m, .inr (5, [.int mcd, .int mw, .int mh, .int mwd, .ref a_mp, .ref a_ml, .int mth, .ref a_mc, .ref a_mb, .int mkn, .int mst, .ref a_mg, .ref a_mq, .int mus, .ref a_mo, .ref a_me, .int mcu, .ref a_mv, .ref a_my])), (a_mp, .inl (k_mp, 676, .inl mpf)), (a_ml, .inl (k_ml, 676, .inl mlf)), (a_mc, .inl (k_mc, 676, .inl mcf)), (a_mb, .inl (k_mb, 676, .inl mbf)), (a_mg, .inl (k_mg, 3000, .inl mgf)), (a_mq, .inl (k_mq, 9000, .inl mqf)), (a_mo, .inl (k_mo, 5408, .inl mof)), (a_me, .inl (k_me, 676, .inl mef)), (a_mv, .inl (k_mv, 3000, .inl mvf)), (a_my, .inl (k_my, 3000, .inl myf))] H → va_D (va_A [(a_m, .inr (5, [.int mcd, .int mw, .int mh, .int mwd, .ref a_mp, .ref a_ml, .int mth, .ref a_mc, .ref a_mb, .int mkn, .int mst, .ref a_mg, .ref a_mq, .int mus, .ref a_mo, .ref a_me, .int mcu, .ref a_mv, .ref a_my])), (a_mp, .inl (k_mp, 676, .inl mpf)), (a_ml, .inl (k_ml, 676, .inl mlf)), (a_mc, .inl (k_mc, 676, .inl mcf)), (a_mb, .inl (k_mb, 676, .inl mbf)), (a_mg, .inl (k_mg, 3000, .inl mgf)), (a_mq, .inl (k_mq, 9000, .inl mqf)), (a_mo, .inl (k_mo, 5408, .inl mof)), (a_me, .inl (k_me, 676, .inl mef)), (a_mv, .inl (k_mv, 3000, .inl mvf)), (a_my, .inl (k_my, 3000, .inl myf))] sz) [(a_m, .inr (5, [.int mcd, .int mw, .int mh, .int mwd, .ref a_mp, .ref a_ml, .int mth, .ref a_mc, .ref a_mb, .int mkn, .int mst, .ref a_mg, .ref a_mq, .int mus, .ref a_mo, .ref a_me, .int mcu, .ref a_mv, .ref a_my])), (a_mp, .inl (k_mp, 676, .inl mpf)), (a_ml, .inl (k_ml, 676, .inl mlf)), (a_mc, .inl (k_mc, 676, .inl mcf)), (a_mb, .inl (k_mb, 676, .inl mbf)), (a_mg, .inl (k_mg, 3000, .inl mgf)), (a_mq, .inl (k_mq, 9000, .inl mqf)), (a_mo, .inl (k_mo, 5408, .inl mof)), (a_me, .inl (k_me, 676, .inl mef)), (a_mv, .inl (k_mv, 3000, .inl mvf)), (a_my, .inl (k_my, 3000, .inl myf))] → va_S (va_A [(a_m, .inr (5, [.int mcd, .int mw, .int mh, .int mwd, .ref a_mp, .ref a_ml, .int mth, .ref a_mc, .ref a_mb, .int mkn, .int mst, .ref a_mg, .ref a_mq, .int mus, .ref a_mo, .ref a_me, .int mcu, .ref a_mv, .ref a_my])), (a_mp, .inl (k_mp, 676, .inl mpf)), (a_ml, .inl (k_ml, 676, .inl mlf)), (a_mc, .inl (k_mc, 676, .inl mcf)), (a_mb, .inl (k_mb, 676, .inl mbf)), (a_mg, .inl (k_mg, 3000, .inl mgf)), (a_mq, .inl (k_mq, 9000, .inl mqf)), (a_mo, .inl (k_mo, 5408, .inl mof)), (a_me, .inl (k_me, 676, .inl mef)), (a_mv, .inl (k_mv, 3000, .inl mvf)), (a_my, .inl (k_my, 3000, .inl myf))] sz) s.heap H locs → W p l e { frames := 4, cells := 0, slots := 0, locals := 90 } s m (List.toArray [.ref a_m, .int px, .int py]) below meth c H locs 0 0 (MQ below (va_Qi (fun (r : Int32) (u : (Nat → Int32) × (Nat → Int32)) => F = (r, u)) (fun (u : (Nat → Int32) × (Nat → Int32)) (t : State) => va_P D vwCl [(a_m, .inr (5, [.int mcd, .int mw, .int mh, .int mwd, .ref a_mp, .ref a_ml, .int mth, .ref a_mc, .ref a_mb, .int mkn, .int mst, .ref a_mg, .ref a_mq, .int mus, .ref a_mo, .ref a_me, .int mcu, .ref a_mv, .ref a_my])), (a_mp, .inl (k_mp, 676, .inl mpf)), (a_ml, .inl (k_ml, 676, .inl u.2)), (a_mc, .inl (k_mc, 676, .inl u.1)), (a_mb, .inl (k_mb, 676, .inl mbf)), (a_mg, .inl (k_mg, 3000, .inl mgf)), (a_mq, .inl (k_mq, 9000, .inl mqf)), (a_mo, .inl (k_mo, 5408, .inl mof)), (a_me, .inl (k_me, 676, .inl mef)), (a_mv, .inl (k_mv, 3000, .inl mvf)), (a_my, .inl (k_my, 3000, .inl myf))] t.heap ∧ va_K D vwCl [(k_mp, .boolean), (k_ml, .boolean), (k_mc, .boolean), (k_mb, .int), (k_mg, .int), (k_mq, .int), (k_mo, .boolean), (k_me, .boolean), (k_mv, .int), (k_my, .int)] t ∧ va_D (va_A [(a_m, .inr (5, [.int mcd, .int mw, .int mh, .int mwd, .ref a_mp, .ref a_ml, .int mth, .ref a_mc, .ref a_mb, .int mkn, .int mst, .ref a_mg, .ref a_mq, .int mus, .ref a_mo, .ref a_me, .int mcu, .ref a_mv, .ref a_my])), (a_mp, .inl (k_mp, 676, .inl mpf)), (a_ml, .inl (k_ml, 676, .inl mlf)), (a_mc, .inl (k_mc, 676, .inl mcf)), (a_mb, .inl (k_mb, 676, .inl mbf)), (a_mg, .inl (k_mg, 3000, .inl mgf)), (a_mq, .inl (k_mq, 9000, .inl mqf)), (a_mo, .inl (k_mo, 5408, .inl mof)), (a_me, .inl (k_me, 676, .inl mef)), (a_mv, .inl (k_mv, 3000, .inl mvf)), (a_my, .inl (k_my, 3000, .inl myf))] sz) [(a_m, .inr (5, [.int mcd, .int mw, .int mh, .int mwd, .ref a_mp, .ref a_ml, .int mth, .ref a_mc, .ref a_mb, .int mkn, .int mst, .ref a_mg, .ref a_mq, .int mus, .ref a_mo, .ref a_me, .int mcu, .ref a_mv, .ref a_my])), (a_mp, .inl (k_mp, 676, .inl mpf)), (a_ml, .inl (k_ml, 676, .inl u.2)), (a_mc, .inl (k_mc, 676, .inl u.1)), (a_mb, .inl (k_mb, 676, .inl mbf)), (a_mg, .inl (k_mg, 3000, .inl mgf)), (a_mq, .inl (k_mq, 9000, .inl mqf)), (a_mo, .inl (k_mo, 5408, .inl mof)), (a_me, .inl (k_me, 676, .inl mef)), (a_mv, .inl (k_mv, 3000, .inl mvf)), (a_my, .inl (k_my, 3000, .inl myf))]) (va_A [(a_m, .inr (5, [.int mcd, .int mw, .int mh, .int mwd, .ref a_mp, .ref a_ml, .int mth, .ref a_mc, .ref a_mb, .int mkn, .int mst, .ref a_mg, .ref a_mq, .int mus, .ref a_mo, .ref a_me, .int mcu, .ref a_mv, .ref a_my])), (a_mp, .inl (k_mp, 676, .inl mpf)), (a_ml, .inl (k_ml, 676, .inl mlf)), (a_mc, .inl (k_mc, 676, .inl mcf)), (a_mb, .inl (k_mb, 676, .inl mbf)), (a_mg, .inl (k_mg, 3000, .inl mgf)), (a_mq, .inl (k_mq, 9000, .inl mqf)), (a_mo, .inl (k_mo, 5408, .inl mof)), (a_me, .inl (k_me, 676, .inl mef)), (a_mv, .inl (k_mv, 3000, .inl mvf)), (a_my, .inl (k_my, 3000, .inl myf))] sz)) (List.toArray [.ref a_m, .int px, .int py]) s 0 0 (va_A [(a_m, .inr (5, [.int mcd, .int mw, .int mh, .int mwd, .ref a_mp, .ref a_ml, .int mth, .ref a_mc, .ref a_mb, .int mkn, .int mst, .ref a_mg, .ref a_mq, .int mus, .ref a_mo, .ref a_me, .int mcu, .ref a_mv, .ref a_my])), (a_mp, .inl (k_mp, 676, .inl mpf)), (a_ml, .inl (k_ml, 676, .inl mlf)), (a_mc, .inl (k_mc, 676, .inl mcf)), (a_mb, .inl (k_mb, 676, .inl mbf)), (a_mg, .inl (k_mg, 3000, .inl mgf)), (a_mq, .inl (k_mq, 9000, .inl mqf)), (a_mo, .inl (k_mo, 5408, .inl mof)), (a_me, .inl (k_me, 676, .inl mef)), (a_mv, .inl (k_mv, 3000, .inl mvf)), (a_my, .inl (k_my, 3000, .inl myf))] sz)) (F0 m 0 ls []) := by
    intro H locs hP hD hS
    refine lv_iconst (v := 0) hx hb dX5_half_0 (by decide) ?_
    refine lv_istore_n (lv' := [(3, .int 0), (0, .ref a_m), (1, .int px), (2, .int py)]) hx hb dX5_half_1 rfl hl (by decide) rfl (fun ls hl => ?_)
    have af2 : ∀ (v3_2 : Int32) (f3_2 : Nat → Int32) (H : Heap) (locs : List Loc) (ls : Array Slot), f_M_half_k2 mh mwd mlf (v3_2, f3_2) = F → f_M_half_k2_z mh mwd mlf (v3_2, f3_2) → va_P D vwCl [(a_m, .inr (5, [.int mcd, .int mw, .int mh, .int mwd, .ref a_mp, .ref a_ml, .int mth, .ref a_mc, .ref a_mb, .int mkn, .int mst, .ref a_mg, .ref a_mq, .int mus, .ref a_mo, .ref a_me, .int mcu, .ref a_mv, .ref a_my])), (a_mp, .inl (k_mp, 676, .inl mpf)), (a_ml, .inl (k_ml, 676, .inl mlf)), (a_mc, .inl (k_mc, 676, .inl f3_2)), (a_mb, .inl (k_mb, 676, .inl mbf)), (a_mg, .inl (k_mg, 3000, .inl mgf)), (a_mq, .inl (k_mq, 9000, .inl mqf)), (a_mo, .inl (k_mo, 5408, .inl mof)), (a_me, .inl (k_me, 676, .inl mef)), (a_mv, .inl (k_mv, 3000, .inl mvf)), (a_my, .inl (k_my, 3000, .inl myf))] H → va_D (va_A [(a_m, .inr (5, [.int mcd, .int mw, .int mh, .int mwd, .ref a_mp, .ref a_ml, .int mth, .ref a_mc, .ref a_mb, .int mkn, .int mst, .ref a_mg, .ref a_mq, .int mus, .ref a_mo, .ref a_me, .int mcu, .ref a_mv, .ref a_my])), (a_mp, .inl (k_mp, 676, .inl mpf)), (a_ml, .inl (k_ml, 676, .inl mlf)), (a_mc, .inl (k_mc, 676, .inl mcf)), (a_mb, .inl (k_mb, 676, .inl mbf)), (a_mg, .inl (k_mg, 3000, .inl mgf)), (a_mq, .inl (k_mq, 9000, .inl mqf)), (a_mo, .inl (k_mo, 5408, .inl mof)), (a_me, .inl (k_me, 676, .inl mef)), (a_mv, .inl (k_mv, 3000, .inl mvf)), (a_my, .inl (k_my, 3000, .inl myf))] sz) [(a_m, .inr (5, [.int mcd, .int mw, .int mh, .int mwd, .ref a_mp, .ref a_ml, .int mth, .ref a_mc, .ref a_mb, .int mkn, .int mst, .ref a_mg, .ref a_mq, .int mus, .ref a_mo, .ref a_me, .int mcu, .ref a_mv, .ref a_my])), (a_mp, .inl (k_mp, 676, .inl mpf)), (a_ml, .inl (k_ml, 676, .inl mlf)), (a_mc, .inl (k_mc, 676, .inl f3_2)), (a_mb, .inl (k_mb, 676, .inl mbf)), (a_mg, .inl (k_mg, 3000, .inl mgf)), (a_mq, .inl (k_mq, 9000, .inl mqf)), (a_mo, .inl (k_mo, 5408, .inl mof)), (a_me, .inl (k_me, 676, .inl mef)), (a_mv, .inl (k_mv, 3000, .inl mvf)), (a_my, .inl (k_my, 3000, .inl myf))] → va_S (va_A [(a_m, .inr (5, [.int mcd, .int mw, .int mh, .int mwd, .ref a_mp, .ref a_ml, .int mth, .ref a_mc, .ref a_mb, .int mkn, .int mst, .ref a_mg, .ref a_mq, .int mus, .ref a_mo, .ref a_me, .int mcu, .ref a_mv, .ref a_my])), (a_mp, .inl (k_mp, 676, .inl mpf)), (a_ml, .inl (k_ml, 676, .inl mlf)), (a_mc, .inl (k_mc, 676, .inl mcf)), (a_mb, .inl (k_mb, 676, .inl mbf)), (a_mg, .inl (k_mg, 3000, .inl mgf)), (a_mq, .inl (k_mq, 9000, .inl mqf)), (a_mo, .inl (k_mo, 5408, .inl mof)), (a_me, .inl (k_me, 676, .inl mef)), (a_mv, .inl (k_mv, 3000, .inl mvf)), (a_my, .inl (k_my, 3000, .inl myf))] sz) s.heap H locs → lv_has ls 5 [(3, .int v3_2), (0, .ref a_m), (1, .int px), (2, .int py)] → W p l e { frames := 4, cells := 0, slots := 0, locals := 90 } s m (List.toArray [.ref a_m, .int px, .int py]) below meth c H locs 0 0 (MQ below (va_Qi (fun (r : Int32) (u : (Nat → Int32) × (Nat → Int32)) => F = (r, u)) (fun (u : (Nat → Int32) × (Nat → Int32)) (t : State) => va_P D vwCl [(a_m, .inr (5, [.int mcd, .int mw, .int mh, .int mwd, .ref a_mp, .ref a_ml, .int mth, .ref a_mc, .ref a_mb, .int mkn, .int mst, .ref a_mg, .ref a_mq, .int mus, .ref a_mo, .ref a_me, .int mcu, .ref a_mv, .ref a_my])), (a_mp, .inl (k_mp, 676, .inl mpf)), (a_ml, .inl (k_ml, 676, .inl u.2)), (a_mc, .inl (k_mc, 676, .inl u.1)), (a_mb, .inl (k_mb, 676, .inl mbf)), (a_mg, .inl (k_mg, 3000, .inl mgf)), (a_mq, .inl (k_mq, 9000, .inl mqf)), (a_mo, .inl (k_mo, 5408, .inl mof)), (a_me, .inl (k_me, 676, .inl mef)), (a_mv, .inl (k_mv, 3000, .inl mvf)), (a_my, .inl (k_my, 3000, .inl myf))] t.heap ∧ va_K D vwCl [(k_mp, .boolean), (k_ml, .boolean), (k_mc, .boolean), (k_mb, .int), (k_mg, .int), (k_mq, .int), (k_mo, .boolean), (k_me, .boolean), (k_mv, .int), (k_my, .int)] t ∧ va_D (va_A [(a_m, .inr (5, [.int mcd, .int mw, .int mh, .int mwd, .ref a_mp, .ref a_ml, .int mth, .ref a_mc, .ref a_mb, .int mkn, .int mst, .ref a_mg, .ref a_mq, .int mus, .ref a_mo, .ref a_me, .int mcu, .ref a_mv, .ref a_my])), (a_mp, .inl (k_mp, 676, .inl mpf)), (a_ml, .inl (k_ml, 676, .inl mlf)), (a_mc, .inl (k_mc, 676, .inl mcf)), (a_mb, .inl (k_mb, 676, .inl mbf)), (a_mg, .inl (k_mg, 3000, .inl mgf)), (a_mq, .inl (k_mq, 9000, .inl mqf)), (a_mo, .inl (k_mo, 5408, .inl mof)), (a_me, .inl (k_me, 676, .inl mef)), (a_mv, .inl (k_mv, 3000, .inl mvf)), (a_my, .inl (k_my, 3000, .inl myf))] sz) [(a_m, .inr (5, [.int mcd, .int mw, .int mh, .int mwd, .ref a_mp, .ref a_ml, .int mth, .ref a_mc, .ref a_mb, .int mkn, .int mst, .ref a_mg, .ref a_mq, .int mus, .ref a_mo, .ref a_me, .int mcu, .ref a_mv, .ref a_my])), (a_mp, .inl (k_mp, 676, .inl mpf)), (a_ml, .inl (k_ml, 676, .inl u.2)), (a_mc, .inl (k_mc, 676, .inl u.1)), (a_mb, .inl (k_mb, 676, .inl mbf)), (a_mg, .inl (k_mg, 3000, .inl mgf)), (a_mq, .inl (k_mq, 9000, .inl mqf)), (a_mo, .inl (k_mo, 5408, .inl mof)), (a_me, .inl (k_me, 676, .inl mef)), (a_mv, .inl (k_mv, 3000, .inl mvf)), (a_my, .inl (k_my, 3000, .inl myf))]) (va_A [(a_m, .inr (5, [.int mcd, .int mw, .int mh, .int mwd, .ref a_mp, .ref a_ml, .int mth, .ref a_mc, .ref a_mb, .int mkn, .int mst, .ref a_mg, .ref a_mq, .int mus, .ref a_mo, .ref a_me, .int mcu, .ref a_mv, .ref a_my])), (a_mp, .inl (k_mp, 676, .inl mpf)), (a_ml, .inl (k_ml, 676, .inl mlf)), (a_mc, .inl (k_mc, 676, .inl mcf)), (a_mb, .inl (k_mb, 676, .inl mbf)), (a_mg, .inl (k_mg, 3000, .inl mgf)), (a_mq, .inl (k_mq, 9000, .inl mqf)), (a_mo, .inl (k_mo, 5408, .inl mof)), (a_me, .inl (k_me, 676, .inl mef)), (a_mv, .inl (k_mv, 3000, .inl mvf)), (a_my, .inl (k_my, 3000, .inl myf))] sz)) (List.toArray [.ref a_m, .int px, .int py]) s 0 0 (va_A [(a_m, .inr (5, [.int mcd, .int mw, .int mh, .int mwd, .ref a_mp, .ref a_ml, .int mth, .ref a_mc, .ref a_mb, .int mkn, .int mst, .ref a_mg, .ref a_mq, .int mus, .ref a_mo, .ref a_me, .int mcu, .ref a_mv, .ref a_my])), (a_mp, .inl (k_mp, 676, .inl mpf)), (a_ml, .inl (k_ml, 676, .inl mlf)), (a_mc, .inl (k_mc, 676, .inl mcf)), (a_mb, .inl (k_mb, 676, .inl mbf)), (a_mg, .inl (k_mg, 3000, .inl mgf)), (a_mq, .inl (k_mq, 9000, .inl mqf)), (a_mo, .inl (k_mo, 5408, .inl mof)), (a_me, .inl (k_me, 676, .inl mef)), (a_mv, .inl (k_mv, 3000, .inl mvf)), (a_my, .inl (k_my, 3000, .inl myf))] sz)) (F0 m 62 ls []) := by
      intro v3_2 f3_2 H locs ls hF hZ hP hD hS hl
      rw [f_M_half_k2] at hF
      rw [f_M_half_k2_z] at hZ
      refine lv_iconst (v := 0) hx hb dX5_half_62 (by decide) ?_
      refine lv_istore_n (lv' := [(3, .int 0), (0, .ref a_m), (1, .int px), (2, .int py)]) hx hb dX5_half_63 rfl hl (by decide) rfl (fun ls hl => ?_)
      refine lv_iconst (v := 0) hx hb dX5_half_64 (by decide) ?_
      refine lv_istore (lv' := [(4, .int 0), (3, .int 0), (0, .ref a_m), (1, .int px), (2, .int py)]) hx hb dX5_half_65 hl (by decide) rfl (fun ls hl => ?_)
      have af67 : ∀ (v4_67 : Int32) (v3_67 : Int32) (f2_67 : Nat → Int32) (H : Heap) (locs : List Loc) (ls : Array Slot), f_M_half_k67 f3_2 (v4_67, v3_67, f2_67) = F → f_M_half_k67_z  (v4_67, v3_67, f2_67) → va_P D vwCl [(a_m, .inr (5, [.int mcd, .int mw, .int mh, .int mwd, .ref a_mp, .ref a_ml, .int mth, .ref a_mc, .ref a_mb, .int mkn, .int mst, .ref a_mg, .ref a_mq, .int mus, .ref a_mo, .ref a_me, .int mcu, .ref a_mv, .ref a_my])), (a_mp, .inl (k_mp, 676, .inl mpf)), (a_ml, .inl (k_ml, 676, .inl f2_67)), (a_mc, .inl (k_mc, 676, .inl f3_2)), (a_mb, .inl (k_mb, 676, .inl mbf)), (a_mg, .inl (k_mg, 3000, .inl mgf)), (a_mq, .inl (k_mq, 9000, .inl mqf)), (a_mo, .inl (k_mo, 5408, .inl mof)), (a_me, .inl (k_me, 676, .inl mef)), (a_mv, .inl (k_mv, 3000, .inl mvf)), (a_my, .inl (k_my, 3000, .inl myf))] H → va_D (va_A [(a_m, .inr (5, [.int mcd, .int mw, .int mh, .int mwd, .ref a_mp, .ref a_ml, .int mth, .ref a_mc, .ref a_mb, .int mkn, .int mst, .ref a_mg, .ref a_mq, .int mus, .ref a_mo, .ref a_me, .int mcu, .ref a_mv, .ref a_my])), (a_mp, .inl (k_mp, 676, .inl mpf)), (a_ml, .inl (k_ml, 676, .inl mlf)), (a_mc, .inl (k_mc, 676, .inl mcf)), (a_mb, .inl (k_mb, 676, .inl mbf)), (a_mg, .inl (k_mg, 3000, .inl mgf)), (a_mq, .inl (k_mq, 9000, .inl mqf)), (a_mo, .inl (k_mo, 5408, .inl mof)), (a_me, .inl (k_me, 676, .inl mef)), (a_mv, .inl (k_mv, 3000, .inl mvf)), (a_my, .inl (k_my, 3000, .inl myf))] sz) [(a_m, .inr (5, [.int mcd, .int mw, .int mh, .int mwd, .ref a_mp, .ref a_ml, .int mth, .ref a_mc, .ref a_mb, .int mkn, .int mst, .ref a_mg, .ref a_mq, .int mus, .ref a_mo, .ref a_me, .int mcu, .ref a_mv, .ref a_my])), (a_mp, .inl (k_mp, 676, .inl mpf)), (a_ml, .inl (k_ml, 676, .inl f2_67)), (a_mc, .inl (k_mc, 676, .inl f3_2)), (a_mb, .inl (k_mb, 676, .inl mbf)), (a_mg, .inl (k_mg, 3000, .inl mgf)), (a_mq, .inl (k_mq, 9000, .inl mqf)), (a_mo, .inl (k_mo, 5408, .inl mof)), (a_me, .inl (k_me, 676, .inl mef)), (a_mv, .inl (k_mv, 3000, .inl mvf)), (a_my, .inl (k_my, 3000, .inl myf))] → va_S (va_A [(a_m, .inr (5, [.int mcd, .int mw, .int mh, .int mwd, .ref a_mp, .ref a_ml, .int mth, .ref a_mc, .ref a_mb, .int mkn, .int mst, .ref a_mg, .ref a_mq, .int mus, .ref a_mo, .ref a_me, .int mcu, .ref a_mv, .ref a_my])), (a_mp, .inl (k_mp, 676, .inl mpf)), (a_ml, .inl (k_ml, 676, .inl mlf)), (a_mc, .inl (k_mc, 676, .inl mcf)), (a_mb, .inl (k_mb, 676, .inl mbf)), (a_mg, .inl (k_mg, 3000, .inl mgf)), (a_mq, .inl (k_mq, 9000, .inl mqf)), (a_mo, .inl (k_mo, 5408, .inl mof)), (a_me, .inl (k_me, 676, .inl mef)), (a_mv, .inl (k_mv, 3000, .inl mvf)), (a_my, .inl (k_my, 3000, .inl myf))] sz) s.heap H locs → lv_has ls 5 [(4, .int v4_67), (3, .int v3_67), (0, .ref a_m), (1, .int px), (2, .int py)] → W p l e { frames := 4, cells := 0, slots := 0, locals := 90 } s m (List.toArray [.ref a_m, .int px, .int py]) below meth c H locs 0 0 (MQ below (va_Qi (fun (r : Int32) (u : (Nat → Int32) × (Nat → Int32)) => F = (r, u)) (fun (u : (Nat → Int32) × (Nat → Int32)) (t : State) => va_P D vwCl [(a_m, .inr (5, [.int mcd, .int mw, .int mh, .int mwd, .ref a_mp, .ref a_ml, .int mth, .ref a_mc, .ref a_mb, .int mkn, .int mst, .ref a_mg, .ref a_mq, .int mus, .ref a_mo, .ref a_me, .int mcu, .ref a_mv, .ref a_my])), (a_mp, .inl (k_mp, 676, .inl mpf)), (a_ml, .inl (k_ml, 676, .inl u.2)), (a_mc, .inl (k_mc, 676, .inl u.1)), (a_mb, .inl (k_mb, 676, .inl mbf)), (a_mg, .inl (k_mg, 3000, .inl mgf)), (a_mq, .inl (k_mq, 9000, .inl mqf)), (a_mo, .inl (k_mo, 5408, .inl mof)), (a_me, .inl (k_me, 676, .inl mef)), (a_mv, .inl (k_mv, 3000, .inl mvf)), (a_my, .inl (k_my, 3000, .inl myf))] t.heap ∧ va_K D vwCl [(k_mp, .boolean), (k_ml, .boolean), (k_mc, .boolean), (k_mb, .int), (k_mg, .int), (k_mq, .int), (k_mo, .boolean), (k_me, .boolean), (k_mv, .int), (k_my, .int)] t ∧ va_D (va_A [(a_m, .inr (5, [.int mcd, .int mw, .int mh, .int mwd, .ref a_mp, .ref a_ml, .int mth, .ref a_mc, .ref a_mb, .int mkn, .int mst, .ref a_mg, .ref a_mq, .int mus, .ref a_mo, .ref a_me, .int mcu, .ref a_mv, .ref a_my])), (a_mp, .inl (k_mp, 676, .inl mpf)), (a_ml, .inl (k_ml, 676, .inl mlf)), (a_mc, .inl (k_mc, 676, .inl mcf)), (a_mb, .inl (k_mb, 676, .inl mbf)), (a_mg, .inl (k_mg, 3000, .inl mgf)), (a_mq, .inl (k_mq, 9000, .inl mqf)), (a_mo, .inl (k_mo, 5408, .inl mof)), (a_me, .inl (k_me, 676, .inl mef)), (a_mv, .inl (k_mv, 3000, .inl mvf)), (a_my, .inl (k_my, 3000, .inl myf))] sz) [(a_m, .inr (5, [.int mcd, .int mw, .int mh, .int mwd, .ref a_mp, .ref a_ml, .int mth, .ref a_mc, .ref a_mb, .int mkn, .int mst, .ref a_mg, .ref a_mq, .int mus, .ref a_mo, .ref a_me, .int mcu, .ref a_mv, .ref a_my])), (a_mp, .inl (k_mp, 676, .inl mpf)), (a_ml, .inl (k_ml, 676, .inl u.2)), (a_mc, .inl (k_mc, 676, .inl u.1)), (a_mb, .inl (k_mb, 676, .inl mbf)), (a_mg, .inl (k_mg, 3000, .inl mgf)), (a_mq, .inl (k_mq, 9000, .inl mqf)), (a_mo, .inl (k_mo, 5408, .inl mof)), (a_me, .inl (k_me, 676, .inl mef)), (a_mv, .inl (k_mv, 3000, .inl mvf)), (a_my, .inl (k_my, 3000, .inl myf))]) (va_A [(a_m, .inr (5, [.int mcd, .int mw, .int mh, .int mwd, .ref a_mp, .ref a_ml, .int mth, .ref a_mc, .ref a_mb, .int mkn, .int mst, .ref a_mg, .ref a_mq, .int mus, .ref a_mo, .ref a_me, .int mcu, .ref a_mv, .ref a_my])), (a_mp, .inl (k_mp, 676, .inl mpf)), (a_ml, .inl (k_ml, 676, .inl mlf)), (a_mc, .inl (k_mc, 676, .inl mcf)), (a_mb, .inl (k_mb, 676, .inl mbf)), (a_mg, .inl (k_mg, 3000, .inl mgf)), (a_mq, .inl (k_mq, 9000, .inl mqf)), (a_mo, .inl (k_mo, 5408, .inl mof)), (a_me, .inl (k_me, 676, .inl mef)), (a_mv, .inl (k_mv, 3000, .inl mvf)), (a_my, .inl (k_my, 3000, .inl myf))] sz)) (List.toArray [.ref a_m, .int px, .int py]) s 0 0 (va_A [(a_m, .inr (5, [.int mcd, .int mw, .int mh, .int mwd, .ref a_mp, .ref a_ml, .int mth, .ref a_mc, .ref a_mb, .int mkn, .int mst, .ref a_mg, .ref a_mq, .int mus, .ref a_mo, .ref a_me, .int mcu, .ref a_mv, .ref a_my])), (a_mp, .inl (k_mp, 676, .inl mpf)), (a_ml, .inl (k_ml, 676, .inl mlf)), (a_mc, .inl (k_mc, 676, .inl mcf)), (a_mb, .inl (k_mb, 676, .inl mbf)), (a_mg, .inl (k_mg, 3000, .inl mgf)), (a_mq, .inl (k_mq, 9000, .inl mqf)), (a_mo, .inl (k_mo, 5408, .inl mof)), (a_me, .inl (k_me, 676, .inl mef)), (a_mv, .inl (k_mv, 3000, .inl mvf)), (a_my, .inl (k_my, 3000, .inl myf))] sz)) (F0 m 112 ls []) := by
        intro v4_67 v3_67 f2_67 H locs ls hF hZ hP hD hS hl
        rw [f_M_half_k67] at hF
        rw [f_M_half_k67_z] at hZ
        refine lv_iload_n hx hb dX5_half_112 rfl (lv_at hl 1 rfl) ?_
        exact W.iret (v := v3_67) hx hb hr (fun t ht hW => ⟨⟨v3_67, (f3_2, f2_67), rfl, hF.symm, by rw [ht]; exact hP, va_K.moved hW.alike hK, hD⟩, hS.F ht⟩) hS.2.2 dX5_half_113
      have lp67 : ∀ (n9 : Nat) (v4_67 : Int32) (v3_67 : Int32) (f2_67 : Nat → Int32) (H : Heap) (locs : List Loc) (ls : Array Slot), f_M_half_k67 f3_2 (f_M_half_L67 mh mwd f3_2 n9 (v4_67, v3_67, f2_67)) = F → f_M_half_k67_z  (f_M_half_L67 mh mwd f3_2 n9 (v4_67, v3_67, f2_67)) → f_M_half_L67_z mh mwd f3_2 n9 (v4_67, v3_67, f2_67) → va_P D vwCl [(a_m, .inr (5, [.int mcd, .int mw, .int mh, .int mwd, .ref a_mp, .ref a_ml, .int mth, .ref a_mc, .ref a_mb, .int mkn, .int mst, .ref a_mg, .ref a_mq, .int mus, .ref a_mo, .ref a_me, .int mcu, .ref a_mv, .ref a_my])), (a_mp, .inl (k_mp, 676, .inl mpf)), (a_ml, .inl (k_ml, 676, .inl f2_67)), (a_mc, .inl (k_mc, 676, .inl f3_2)), (a_mb, .inl (k_mb, 676, .inl mbf)), (a_mg, .inl (k_mg, 3000, .inl mgf)), (a_mq, .inl (k_mq, 9000, .inl mqf)), (a_mo, .inl (k_mo, 5408, .inl mof)), (a_me, .inl (k_me, 676, .inl mef)), (a_mv, .inl (k_mv, 3000, .inl mvf)), (a_my, .inl (k_my, 3000, .inl myf))] H → va_D (va_A [(a_m, .inr (5, [.int mcd, .int mw, .int mh, .int mwd, .ref a_mp, .ref a_ml, .int mth, .ref a_mc, .ref a_mb, .int mkn, .int mst, .ref a_mg, .ref a_mq, .int mus, .ref a_mo, .ref a_me, .int mcu, .ref a_mv, .ref a_my])), (a_mp, .inl (k_mp, 676, .inl mpf)), (a_ml, .inl (k_ml, 676, .inl mlf)), (a_mc, .inl (k_mc, 676, .inl mcf)), (a_mb, .inl (k_mb, 676, .inl mbf)), (a_mg, .inl (k_mg, 3000, .inl mgf)), (a_mq, .inl (k_mq, 9000, .inl mqf)), (a_mo, .inl (k_mo, 5408, .inl mof)), (a_me, .inl (k_me, 676, .inl mef)), (a_mv, .inl (k_mv, 3000, .inl mvf)), (a_my, .inl (k_my, 3000, .inl myf))] sz) [(a_m, .inr (5, [.int mcd, .int mw, .int mh, .int mwd, .ref a_mp, .ref a_ml, .int mth, .ref a_mc, .ref a_mb, .int mkn, .int mst, .ref a_mg, .ref a_mq, .int mus, .ref a_mo, .ref a_me, .int mcu, .ref a_mv, .ref a_my])), (a_mp, .inl (k_mp, 676, .inl mpf)), (a_ml, .inl (k_ml, 676, .inl f2_67)), (a_mc, .inl (k_mc, 676, .inl f3_2)), (a_mb, .inl (k_mb, 676, .inl mbf)), (a_mg, .inl (k_mg, 3000, .inl mgf)), (a_mq, .inl (k_mq, 9000, .inl mqf)), (a_mo, .inl (k_mo, 5408, .inl mof)), (a_me, .inl (k_me, 676, .inl mef)), (a_mv, .inl (k_mv, 3000, .inl mvf)), (a_my, .inl (k_my, 3000, .inl myf))] → va_S (va_A [(a_m, .inr (5, [.int mcd, .int mw, .int mh, .int mwd, .ref a_mp, .ref a_ml, .int mth, .ref a_mc, .ref a_mb, .int mkn, .int mst, .ref a_mg, .ref a_mq, .int mus, .ref a_mo, .ref a_me, .int mcu, .ref a_mv, .ref a_my])), (a_mp, .inl (k_mp, 676, .inl mpf)), (a_ml, .inl (k_ml, 676, .inl mlf)), (a_mc, .inl (k_mc, 676, .inl mcf)), (a_mb, .inl (k_mb, 676, .inl mbf)), (a_mg, .inl (k_mg, 3000, .inl mgf)), (a_mq, .inl (k_mq, 9000, .inl mqf)), (a_mo, .inl (k_mo, 5408, .inl mof)), (a_me, .inl (k_me, 676, .inl mef)), (a_mv, .inl (k_mv, 3000, .inl mvf)), (a_my, .inl (k_my, 3000, .inl myf))] sz) s.heap H locs → lv_has ls 5 [(4, .int v4_67), (3, .int v3_67), (0, .ref a_m), (1, .int px), (2, .int py)] → W p l e { frames := 4, cells := 0, slots := 0, locals := 90 } s m (List.toArray [.ref a_m, .int px, .int py]) below meth c H locs 0 0 (MQ below (va_Qi (fun (r : Int32) (u : (Nat → Int32) × (Nat → Int32)) => F = (r, u)) (fun (u : (Nat → Int32) × (Nat → Int32)) (t : State) => va_P D vwCl [(a_m, .inr (5, [.int mcd, .int mw, .int mh, .int mwd, .ref a_mp, .ref a_ml, .int mth, .ref a_mc, .ref a_mb, .int mkn, .int mst, .ref a_mg, .ref a_mq, .int mus, .ref a_mo, .ref a_me, .int mcu, .ref a_mv, .ref a_my])), (a_mp, .inl (k_mp, 676, .inl mpf)), (a_ml, .inl (k_ml, 676, .inl u.2)), (a_mc, .inl (k_mc, 676, .inl u.1)), (a_mb, .inl (k_mb, 676, .inl mbf)), (a_mg, .inl (k_mg, 3000, .inl mgf)), (a_mq, .inl (k_mq, 9000, .inl mqf)), (a_mo, .inl (k_mo, 5408, .inl mof)), (a_me, .inl (k_me, 676, .inl mef)), (a_mv, .inl (k_mv, 3000, .inl mvf)), (a_my, .inl (k_my, 3000, .inl myf))] t.heap ∧ va_K D vwCl [(k_mp, .boolean), (k_ml, .boolean), (k_mc, .boolean), (k_mb, .int), (k_mg, .int), (k_mq, .int), (k_mo, .boolean), (k_me, .boolean), (k_mv, .int), (k_my, .int)] t ∧ va_D (va_A [(a_m, .inr (5, [.int mcd, .int mw, .int mh, .int mwd, .ref a_mp, .ref a_ml, .int mth, .ref a_mc, .ref a_mb, .int mkn, .int mst, .ref a_mg, .ref a_mq, .int mus, .ref a_mo, .ref a_me, .int mcu, .ref a_mv, .ref a_my])), (a_mp, .inl (k_mp, 676, .inl mpf)), (a_ml, .inl (k_ml, 676, .inl mlf)), (a_mc, .inl (k_mc, 676, .inl mcf)), (a_mb, .inl (k_mb, 676, .inl mbf)), (a_mg, .inl (k_mg, 3000, .inl mgf)), (a_mq, .inl (k_mq, 9000, .inl mqf)), (a_mo, .inl (k_mo, 5408, .inl mof)), (a_me, .inl (k_me, 676, .inl mef)), (a_mv, .inl (k_mv, 3000, .inl mvf)), (a_my, .inl (k_my, 3000, .inl myf))] sz) [(a_m, .inr (5, [.int mcd, .int mw, .int mh, .int mwd, .ref a_mp, .ref a_ml, .int mth, .ref a_mc, .ref a_mb, .int mkn, .int mst, .ref a_mg, .ref a_mq, .int mus, .ref a_mo, .ref a_me, .int mcu, .ref a_mv, .ref a_my])), (a_mp, .inl (k_mp, 676, .inl mpf)), (a_ml, .inl (k_ml, 676, .inl u.2)), (a_mc, .inl (k_mc, 676, .inl u.1)), (a_mb, .inl (k_mb, 676, .inl mbf)), (a_mg, .inl (k_mg, 3000, .inl mgf)), (a_mq, .inl (k_mq, 9000, .inl mqf)), (a_mo, .inl (k_mo, 5408, .inl mof)), (a_me, .inl (k_me, 676, .inl mef)), (a_mv, .inl (k_mv, 3000, .inl mvf)), (a_my, .inl (k_my, 3000, .inl myf))]) (va_A [(a_m, .inr (5, [.int mcd, .int mw, .int mh, .int mwd, .ref a_mp, .ref a_ml, .int mth, .ref a_mc, .ref a_mb, .int mkn, .int mst, .ref a_mg, .ref a_mq, .int mus, .ref a_mo, .ref a_me, .int mcu, .ref a_mv, .ref a_my])), (a_mp, .inl (k_mp, 676, .inl mpf)), (a_ml, .inl (k_ml, 676, .inl mlf)), (a_mc, .inl (k_mc, 676, .inl mcf)), (a_mb, .inl (k_mb, 676, .inl mbf)), (a_mg, .inl (k_mg, 3000, .inl mgf)), (a_mq, .inl (k_mq, 9000, .inl mqf)), (a_mo, .inl (k_mo, 5408, .inl mof)), (a_me, .inl (k_me, 676, .inl mef)), (a_mv, .inl (k_mv, 3000, .inl mvf)), (a_my, .inl (k_my, 3000, .inl myf))] sz)) (List.toArray [.ref a_m, .int px, .int py]) s 0 0 (va_A [(a_m, .inr (5, [.int mcd, .int mw, .int mh, .int mwd, .ref a_mp, .ref a_ml, .int mth, .ref a_mc, .ref a_mb, .int mkn, .int mst, .ref a_mg, .ref a_mq, .int mus, .ref a_mo, .ref a_me, .int mcu, .ref a_mv, .ref a_my])), (a_mp, .inl (k_mp, 676, .inl mpf)), (a_ml, .inl (k_ml, 676, .inl mlf)), (a_mc, .inl (k_mc, 676, .inl mcf)), (a_mb, .inl (k_mb, 676, .inl mbf)), (a_mg, .inl (k_mg, 3000, .inl mgf)), (a_mq, .inl (k_mq, 9000, .inl mqf)), (a_mo, .inl (k_mo, 5408, .inl mof)), (a_me, .inl (k_me, 676, .inl mef)), (a_mv, .inl (k_mv, 3000, .inl mvf)), (a_my, .inl (k_my, 3000, .inl myf))] sz)) (F0 m 67 ls []) := by
        intro n9
        induction n9 with
        | zero => intro v4_67 v3_67 f2_67 H locs ls hF hA67 hZ; exact hZ.elim
        | succ n67 ih67 =>
          intro v4_67 v3_67 f2_67 H locs ls hF hA67 hZ hP hD hS hl
          rw [f_M_half_L67] at hF hA67
          rw [f_M_half_L67_z] at hZ
          refine lv_iload hx hb dX5_half_67 (lv_at hl 0 rfl) ?_
          refine lv_aload_n hx hb dX5_half_69 rfl (lv_at hl 2 rfl) ?_
          refine ro_go (va_runV (As := []) (rest := [.int v4_67]) ⟨hx, hb, hml, hown, hts⟩ (c_M_area l D tX tY a_m a_mp k_mp a_ml k_ml a_mc k_mc a_mb k_mb a_mg k_mg a_mq k_mq a_mo k_mo a_me k_me a_mv k_mv a_my k_my mcd mw mh mwd mpf f2_67 mth f3_2 mbf mkn mst mgf mqf mus mof mef mcu mvf myf) (cwV 0 hts (gi_4 gi_c gw_679 gw_681 gs_X5_area gw_7 gw_682) rfl rfl rfl (by decide +kernel) ⟨Nat.le_of_ble_eq_true rfl, Nat.le_of_ble_eq_true rfl⟩) ⟨ro_blind, va_recv hK hP (ci := 5) (q0 := 0) rfl rfl, ro_at hP hK hT hN hS [0, 1, 2, 3, 4, 5, 6, 7, 8, 9, 10] [0, 1, 2, 3, 4, 5, 6, 7, 8, 9] rfl rfl⟩ rfl rfl hl.1 rfl (lv_room (Nat.le_of_ble_eq_true rfl)) dX5_half_70 ⟨Nat.le_of_ble_eq_true rfl, Nat.le_of_ble_eq_true rfl⟩) ?_
          refine lv_icmp_ge (tgt := 112) hx hb dX5_half_73 (by decide) (fun c73 => ?_) (fun c73 => ?_)
          · rw [if_pos c73] at hF hA67 hZ
            exact af67 v4_67 v3_67 f2_67 _ _ ls hF hA67 hP hD hS (lv_sub hl [0, 1, 2, 3, 4] rfl)
          · rw [if_neg c73] at hF hA67 hZ
            refine lv_aload_n hx hb dX5_half_76 rfl (lv_at hl 2 rfl) ?_
            refine va_get (D := D) (ci := 5) (v := .ref a_mc) (C := RX5) (T := TX5) (N := 19) hx hb hta inX5 hown hK hP 0 rfl rfl 7 (by decide) (hta _ gw_615) (fun _ h9 => h9) rfl dX5_half_77 ?_
            refine lv_iload hx hb dX5_half_80 (lv_at hl 0 rfl) ?_
            have o1 := hZ.1
            have hZ := hZ.2
            refine va_zald hx hb hK hP 3 2 rfl rfl (i := v4_67) o1 dX5_half_82 ?_
            refine lv_if_eq (tgt := 106) hx hb dX5_half_83 (by decide) (fun c83 => ?_) (fun c83 => ?_)
            · rw [if_pos c83] at hF hA67 hZ
              refine lv_iinc (v := v4_67 + 1) (lv' := [(4, .int (v4_67 + 1)), (3, .int v3_67), (0, .ref a_m), (1, .int px), (2, .int py)]) hx hb dX5_half_106 hl (k := 0) rfl rfl (by decide) rfl (fun ls hl => ?_)
              refine lv_goto (tgt := 67) hx hb dX5_half_109 (by decide) ?_
              exact ih67 (v4_67 + 1) v3_67 f2_67 _ _ ls hF hA67 hZ hP hD hS (lv_sub hl [0, 1, 2, 3, 4] rfl)
            · rw [if_neg c83] at hF hA67 hZ
              refine lv_aload_n hx hb dX5_half_86 rfl (lv_at hl 2 rfl) ?_
              refine lv_iload hx hb dX5_half_87 (lv_at hl 0 rfl) ?_
              have o2 := hZ.1
              have hZ := hZ.2
              refine ro_go (va_runV (As := [.int v4_67]) (rest := []) ⟨hx, hb, hml, hown, hts⟩ (c_M_mayGo l D tX tY a_m a_mp k_mp a_ml k_ml a_mc k_mc a_mb k_mb a_mg k_mg a_mq k_mq a_mo k_mo a_me k_me a_mv k_mv a_my k_my mcd mw mh mwd mpf f2_67 mth f3_2 mbf mkn mst mgf mqf mus mof mef mcu mvf myf v4_67 o2) (cwV 1 hts (gi_4 gi_c gw_691 gw_693 gs_X5_mayGo gw_7 gw_694) rfl rfl rfl (by decide +kernel) ⟨Nat.le_of_ble_eq_true rfl, Nat.le_of_ble_eq_true rfl⟩) ⟨ro_blind, va_recv hK hP (ci := 5) (q0 := 0) rfl rfl, ro_at hP hK hT hN hS [0, 1, 2, 3, 4, 5, 6, 7, 8, 9, 10] [0, 1, 2, 3, 4, 5, 6, 7, 8, 9] rfl rfl⟩ rfl rfl hl.1 rfl (lv_room (Nat.le_of_ble_eq_true rfl)) dX5_half_89 ⟨Nat.le_of_ble_eq_true rfl, Nat.le_of_ble_eq_true rfl⟩) ?_
              refine lv_if_eq (tgt := 106) hx hb dX5_half_92 (by decide) (fun c92 => ?_) (fun c92 => ?_)
              · rw [if_pos c92] at hF hA67 hZ
                refine lv_iinc (v := v4_67 + 1) (lv' := [(4, .int (v4_67 + 1)), (3, .int v3_67), (0, .ref a_m), (1, .int px), (2, .int py)]) hx hb dX5_half_106 hl (k := 0) rfl rfl (by decide) rfl (fun ls hl => ?_)
                refine lv_goto (tgt := 67) hx hb dX5_half_109 (by decide) ?_
                exact ih67 (v4_67 + 1) v3_67 f2_67 _ _ ls hF hA67 hZ hP hD hS (lv_sub hl [0, 1, 2, 3, 4] rfl)
              · rw [if_neg c92] at hF hA67 hZ
                refine lv_aload_n hx hb dX5_half_95 rfl (lv_at hl 2 rfl) ?_
                refine va_get (D := D) (ci := 5) (v := .ref a_ml) (C := RX5) (T := TX5) (N := 19) hx hb hta inX5 hown hK hP 0 rfl rfl 5 (by decide) (hta _ gw_613) (fun _ h9 => h9) rfl dX5_half_96 ?_
                refine lv_iload hx hb dX5_half_99 (lv_at hl 0 rfl) ?_
                refine lv_iconst (v := 0) hx hb dX5_half_101 (by decide) ?_
                have o3 := hZ.1
                have hZ := hZ.2
                refine va_zast hx hb hK hP hD hS 2 1 rfl rfl (i := v4_67) (x := 0) o3 dX5_half_102 (fun H locs hP hD hS => ?_)
                have hP : va_P D vwCl [(a_m, .inr (5, [.int mcd, .int mw, .int mh, .int mwd, .ref a_mp, .ref a_ml, .int mth, .ref a_mc, .ref a_mb, .int mkn, .int mst, .ref a_mg, .ref a_mq, .int mus, .ref a_mo, .ref a_me, .int mcu, .ref a_mv, .ref a_my])), (a_mp, .inl (k_mp, 676, .inl mpf)), (a_ml, .inl (k_ml, 676, .inl (upd f2_67 v4_67.toNatClampNeg (nb 0)))), (a_mc, .inl (k_mc, 676, .inl f3_2)), (a_mb, .inl (k_mb, 676, .inl mbf)), (a_mg, .inl (k_mg, 3000, .inl mgf)), (a_mq, .inl (k_mq, 9000, .inl mqf)), (a_mo, .inl (k_mo, 5408, .inl mof)), (a_me, .inl (k_me, 676, .inl mef)), (a_mv, .inl (k_mv, 3000, .inl mvf)), (a_my, .inl (k_my, 3000, .inl myf))] H := hP
                have hD : va_D (va_A [(a_m, .inr (5, [.int mcd, .int mw, .int mh, .int mwd, .ref a_mp, .ref a_ml, .int mth, .ref a_mc, .ref a_mb, .int mkn, .int mst, .ref a_mg, .ref a_mq, .int mus, .ref a_mo, .ref a_me, .int mcu, .ref a_mv, .ref a_my])), (a_mp, .inl (k_mp, 676, .inl mpf)), (a_ml, .inl (k_ml, 676, .inl mlf)), (a_mc, .inl (k_mc, 676, .inl mcf)), (a_mb, .inl (k_mb, 676, .inl mbf)), (a_mg, .inl (k_mg, 3000, .inl mgf)), (a_mq, .inl (k_mq, 9000, .inl mqf)), (a_mo, .inl (k_mo, 5408, .inl mof)), (a_me, .inl (k_me, 676, .inl mef)), (a_mv, .inl (k_mv, 3000, .inl mvf)), (a_my, .inl (k_my, 3000, .inl myf))] sz) [(a_m, .inr (5, [.int mcd, .int mw, .int mh, .int mwd, .ref a_mp, .ref a_ml, .int mth, .ref a_mc, .ref a_mb, .int mkn, .int mst, .ref a_mg, .ref a_mq, .int mus, .ref a_mo, .ref a_me, .int mcu, .ref a_mv, .ref a_my])), (a_mp, .inl (k_mp, 676, .inl mpf)), (a_ml, .inl (k_ml, 676, .inl (upd f2_67 v4_67.toNatClampNeg (nb 0)))), (a_mc, .inl (k_mc, 676, .inl f3_2)), (a_mb, .inl (k_mb, 676, .inl mbf)), (a_mg, .inl (k_mg, 3000, .inl mgf)), (a_mq, .inl (k_mq, 9000, .inl mqf)), (a_mo, .inl (k_mo, 5408, .inl mof)), (a_me, .inl (k_me, 676, .inl mef)), (a_mv, .inl (k_mv, 3000, .inl mvf)), (a_my, .inl (k_my, 3000, .inl myf))] := hD
                refine lv_iinc (v := v3_67 + 1) (lv' := [(3, .int (v3_67 + 1)), (4, .int v4_67), (0, .ref a_m), (1, .int px), (2, .int py)]) hx hb dX5_half_103 hl (k := 1) rfl rfl (by decide) rfl (fun ls hl => ?_)
                refine lv_iinc (v := v4_67 + 1) (lv' := [(4, .int (v4_67 + 1)), (3, .int (v3_67 + 1)), (0, .ref a_m), (1, .int px), (2, .int py)]) hx hb dX5_half_106 hl (k := 1) rfl rfl (by decide) rfl (fun ls hl => ?_)
                refine lv_goto (tgt := 67) hx hb dX5_half_109 (by decide) ?_
                exact ih67 (v4_67 + 1) (v3_67 + 1) (upd f2_67 v4_67.toNatClampNeg (nb 0)) _ _ ls hF hA67 hZ hP hD hS (lv_sub hl [0, 1, 2, 3, 4] rfl)
      exact lp67 FU 0 0 mlf _ _ ls hF hZ.2 hZ.1 hP hD hS (lv_sub hl [0, 1, 2, 3, 4] rfl)
    have lp2 : ∀ (n9 : Nat) (v3_2 : Int32) (f3_2 : Nat → Int32) (H : Heap) (locs : List Loc) (ls : Array Slot), f_M_half_k2 mh mwd mlf (f_M_half_L2 mh mwd mlf px py n9 (v3_2, f3_2)) = F → f_M_half_k2_z mh mwd mlf (f_M_half_L2 mh mwd mlf px py n9 (v3_2, f3_2)) → f_M_half_L2_z mh mwd mlf px py n9 (v3_2, f3_2) → va_P D vwCl [(a_m, .inr (5, [.int mcd, .int mw, .int mh, .int mwd, .ref a_mp, .ref a_ml, .int mth, .ref a_mc, .ref a_mb, .int mkn, .int mst, .ref a_mg, .ref a_mq, .int mus, .ref a_mo, .ref a_me, .int mcu, .ref a_mv, .ref a_my])), (a_mp, .inl (k_mp, 676, .inl mpf)), (a_ml, .inl (k_ml, 676, .inl mlf)), (a_mc, .inl (k_mc, 676, .inl f3_2)), (a_mb, .inl (k_mb, 676, .inl mbf)), (a_mg, .inl (k_mg, 3000, .inl mgf)), (a_mq, .inl (k_mq, 9000, .inl mqf)), (a_mo, .inl (k_mo, 5408, .inl mof)), (a_me, .inl (k_me, 676, .inl mef)), (a_mv, .inl (k_mv, 3000, .inl mvf)), (a_my, .inl (k_my, 3000, .inl myf))] H → va_D (va_A [(a_m, .inr (5, [.int mcd, .int mw, .int mh, .int mwd, .ref a_mp, .ref a_ml, .int mth, .ref a_mc, .ref a_mb, .int mkn, .int mst, .ref a_mg, .ref a_mq, .int mus, .ref a_mo, .ref a_me, .int mcu, .ref a_mv, .ref a_my])), (a_mp, .inl (k_mp, 676, .inl mpf)), (a_ml, .inl (k_ml, 676, .inl mlf)), (a_mc, .inl (k_mc, 676, .inl mcf)), (a_mb, .inl (k_mb, 676, .inl mbf)), (a_mg, .inl (k_mg, 3000, .inl mgf)), (a_mq, .inl (k_mq, 9000, .inl mqf)), (a_mo, .inl (k_mo, 5408, .inl mof)), (a_me, .inl (k_me, 676, .inl mef)), (a_mv, .inl (k_mv, 3000, .inl mvf)), (a_my, .inl (k_my, 3000, .inl myf))] sz) [(a_m, .inr (5, [.int mcd, .int mw, .int mh, .int mwd, .ref a_mp, .ref a_ml, .int mth, .ref a_mc, .ref a_mb, .int mkn, .int mst, .ref a_mg, .ref a_mq, .int mus, .ref a_mo, .ref a_me, .int mcu, .ref a_mv, .ref a_my])), (a_mp, .inl (k_mp, 676, .inl mpf)), (a_ml, .inl (k_ml, 676, .inl mlf)), (a_mc, .inl (k_mc, 676, .inl f3_2)), (a_mb, .inl (k_mb, 676, .inl mbf)), (a_mg, .inl (k_mg, 3000, .inl mgf)), (a_mq, .inl (k_mq, 9000, .inl mqf)), (a_mo, .inl (k_mo, 5408, .inl mof)), (a_me, .inl (k_me, 676, .inl mef)), (a_mv, .inl (k_mv, 3000, .inl mvf)), (a_my, .inl (k_my, 3000, .inl myf))] → va_S (va_A [(a_m, .inr (5, [.int mcd, .int mw, .int mh, .int mwd, .ref a_mp, .ref a_ml, .int mth, .ref a_mc, .ref a_mb, .int mkn, .int mst, .ref a_mg, .ref a_mq, .int mus, .ref a_mo, .ref a_me, .int mcu, .ref a_mv, .ref a_my])), (a_mp, .inl (k_mp, 676, .inl mpf)), (a_ml, .inl (k_ml, 676, .inl mlf)), (a_mc, .inl (k_mc, 676, .inl mcf)), (a_mb, .inl (k_mb, 676, .inl mbf)), (a_mg, .inl (k_mg, 3000, .inl mgf)), (a_mq, .inl (k_mq, 9000, .inl mqf)), (a_mo, .inl (k_mo, 5408, .inl mof)), (a_me, .inl (k_me, 676, .inl mef)), (a_mv, .inl (k_mv, 3000, .inl mvf)), (a_my, .inl (k_my, 3000, .inl myf))] sz) s.heap H locs → lv_has ls 5 [(3, .int v3_2), (0, .ref a_m), (1, .int px), (2, .int py)] → W p l e { frames := 4, cells := 0, slots := 0, locals := 90 } s m (List.toArray [.ref a_m, .int px, .int py]) below meth c H locs 0 0 (MQ below (va_Qi (fun (r : Int32) (u : (Nat → Int32) × (Nat → Int32)) => F = (r, u)) (fun (u : (Nat → Int32) × (Nat → Int32)) (t : State) => va_P D vwCl [(a_m, .inr (5, [.int mcd, .int mw, .int mh, .int mwd, .ref a_mp, .ref a_ml, .int mth, .ref a_mc, .ref a_mb, .int mkn, .int mst, .ref a_mg, .ref a_mq, .int mus, .ref a_mo, .ref a_me, .int mcu, .ref a_mv, .ref a_my])), (a_mp, .inl (k_mp, 676, .inl mpf)), (a_ml, .inl (k_ml, 676, .inl u.2)), (a_mc, .inl (k_mc, 676, .inl u.1)), (a_mb, .inl (k_mb, 676, .inl mbf)), (a_mg, .inl (k_mg, 3000, .inl mgf)), (a_mq, .inl (k_mq, 9000, .inl mqf)), (a_mo, .inl (k_mo, 5408, .inl mof)), (a_me, .inl (k_me, 676, .inl mef)), (a_mv, .inl (k_mv, 3000, .inl mvf)), (a_my, .inl (k_my, 3000, .inl myf))] t.heap ∧ va_K D vwCl [(k_mp, .boolean), (k_ml, .boolean), (k_mc, .boolean), (k_mb, .int), (k_mg, .int), (k_mq, .int), (k_mo, .boolean), (k_me, .boolean), (k_mv, .int), (k_my, .int)] t ∧ va_D (va_A [(a_m, .inr (5, [.int mcd, .int mw, .int mh, .int mwd, .ref a_mp, .ref a_ml, .int mth, .ref a_mc, .ref a_mb, .int mkn, .int mst, .ref a_mg, .ref a_mq, .int mus, .ref a_mo, .ref a_me, .int mcu, .ref a_mv, .ref a_my])), (a_mp, .inl (k_mp, 676, .inl mpf)), (a_ml, .inl (k_ml, 676, .inl mlf)), (a_mc, .inl (k_mc, 676, .inl mcf)), (a_mb, .inl (k_mb, 676, .inl mbf)), (a_mg, .inl (k_mg, 3000, .inl mgf)), (a_mq, .inl (k_mq, 9000, .inl mqf)), (a_mo, .inl (k_mo, 5408, .inl mof)), (a_me, .inl (k_me, 676, .inl mef)), (a_mv, .inl (k_mv, 3000, .inl mvf)), (a_my, .inl (k_my, 3000, .inl myf))] sz) [(a_m, .inr (5, [.int mcd, .int mw, .int mh, .int mwd, .ref a_mp, .ref a_ml, .int mth, .ref a_mc, .ref a_mb, .int mkn, .int mst, .ref a_mg, .ref a_mq, .int mus, .ref a_mo, .ref a_me, .int mcu, .ref a_mv, .ref a_my])), (a_mp, .inl (k_mp, 676, .inl mpf)), (a_ml, .inl (k_ml, 676, .inl u.2)), (a_mc, .inl (k_mc, 676, .inl u.1)), (a_mb, .inl (k_mb, 676, .inl mbf)), (a_mg, .inl (k_mg, 3000, .inl mgf)), (a_mq, .inl (k_mq, 9000, .inl mqf)), (a_mo, .inl (k_mo, 5408, .inl mof)), (a_me, .inl (k_me, 676, .inl mef)), (a_mv, .inl (k_mv, 3000, .inl mvf)), (a_my, .inl (k_my, 3000, .inl myf))]) (va_A [(a_m, .inr (5, [.int mcd, .int mw, .int mh, .int mwd, .ref a_mp, .ref a_ml, .int mth, .ref a_mc, .ref a_mb, .int mkn, .int mst, .ref a_mg, .ref a_mq, .int mus, .ref a_mo, .ref a_me, .int mcu, .ref a_mv, .ref a_my])), (a_mp, .inl (k_mp, 676, .inl mpf)), (a_ml, .inl (k_ml, 676, .inl mlf)), (a_mc, .inl (k_mc, 676, .inl mcf)), (a_mb, .inl (k_mb, 676, .inl mbf)), (a_mg, .inl (k_mg, 3000, .inl mgf)), (a_mq, .inl (k_mq, 9000, .inl mqf)), (a_mo, .inl (k_mo, 5408, .inl mof)), (a_me, .inl (k_me, 676, .inl mef)), (a_mv, .inl (k_mv, 3000, .inl mvf)), (a_my, .inl (k_my, 3000, .inl myf))] sz)) (List.toArray [.ref a_m, .int px, .int py]) s 0 0 (va_A [(a_m, .inr (5, [.int mcd, .int mw, .int mh, .int mwd, .ref a_mp, .ref a_ml, .int mth, .ref a_mc, .ref a_mb, .int mkn, .int mst, .ref a_mg, .ref a_mq, .int mus, .ref a_mo, .ref a_me, .int mcu, .ref a_mv, .ref a_my])), (a_mp, .inl (k_mp, 676, .inl mpf)), (a_ml, .inl (k_ml, 676, .inl mlf)), (a_mc, .inl (k_mc, 676, .inl mcf)), (a_mb, .inl (k_mb, 676, .inl mbf)), (a_mg, .inl (k_mg, 3000, .inl mgf)), (a_mq, .inl (k_mq, 9000, .inl mqf)), (a_mo, .inl (k_mo, 5408, .inl mof)), (a_me, .inl (k_me, 676, .inl mef)), (a_mv, .inl (k_mv, 3000, .inl mvf)), (a_my, .inl (k_my, 3000, .inl myf))] sz)) (F0 m 2 ls []) := by
      intro n9
      induction n9 with
      | zero => intro v3_2 f3_2 H locs ls hF hA2 hZ; exact hZ.elim
      | succ n2 ih2 =>
        intro v3_2 f3_2 H locs ls hF hA2 hZ hP hD hS hl
        rw [f_M_half_L2] at hF hA2
        rw [f_M_half_L2_z] at hZ
        refine lv_iload_n hx hb dX5_half_2 rfl (lv_at hl 0 rfl) ?_
        refine lv_aload_n hx hb dX5_half_3 rfl (lv_at hl 1 rfl) ?_
        refine ro_go (va_runV (As := []) (rest := [.int v3_2]) ⟨hx, hb, hml, hown, hts⟩ (c_M_area l D tX tY a_m a_mp k_mp a_ml k_ml a_mc k_mc a_mb k_mb a_mg k_mg a_mq k_mq a_mo k_mo a_me k_me a_mv k_mv a_my k_my mcd mw mh mwd mpf mlf mth f3_2 mbf mkn mst mgf mqf mus mof mef mcu mvf myf) (cwV 0 hts (gi_4 gi_c gw_679 gw_681 gs_X5_area gw_7 gw_682) rfl rfl rfl (by decide +kernel) ⟨Nat.le_of_ble_eq_true rfl, Nat.le_of_ble_eq_true rfl⟩) ⟨ro_blind, va_recv hK hP (ci := 5) (q0 := 0) rfl rfl, ro_at hP hK hT hN hS [0, 1, 2, 3, 4, 5, 6, 7, 8, 9, 10] [0, 1, 2, 3, 4, 5, 6, 7, 8, 9] rfl rfl⟩ rfl rfl hl.1 rfl (lv_room (Nat.le_of_ble_eq_true rfl)) dX5_half_4 ⟨Nat.le_of_ble_eq_true rfl, Nat.le_of_ble_eq_true rfl⟩) ?_
        refine lv_icmp_ge (tgt := 62) hx hb dX5_half_7 (by decide) (fun c7 => ?_) (fun c7 => ?_)
        · rw [if_pos c7] at hF hA2 hZ
          exact af2 v3_2 f3_2 _ _ ls hF hA2 hP hD hS (lv_sub hl [0, 1, 2, 3] rfl)
        · rw [if_neg c7] at hF hA2 hZ
          refine lv_aload_n hx hb dX5_half_10 rfl (lv_at hl 1 rfl) ?_
          refine va_get (D := D) (ci := 5) (v := .ref a_mc) (C := RX5) (T := TX5) (N := 19) hx hb hta inX5 hown hK hP 0 rfl rfl 7 (by decide) (hta _ gw_615) (fun _ h9 => h9) rfl dX5_half_11 ?_
          refine lv_iload_n hx hb dX5_half_14 rfl (lv_at hl 0 rfl) ?_
          refine lv_aload_n hx hb dX5_half_15 rfl (lv_at hl 1 rfl) ?_
          refine va_get (D := D) (ci := 5) (v := .ref a_ml) (C := RX5) (T := TX5) (N := 19) hx hb hta inX5 hown hK hP 0 rfl rfl 5 (by decide) (hta _ gw_613) (fun _ h9 => h9) rfl dX5_half_16 ?_
          refine lv_iload_n hx hb dX5_half_19 rfl (lv_at hl 0 rfl) ?_
          have o4 := hZ.1
          have hZ := hZ.2
          refine va_zald hx hb hK hP 2 1 rfl rfl (i := v3_2) o4 dX5_half_20 ?_
          refine lv_if_eq (tgt := 54) hx hb dX5_half_21 (by decide) (fun c21 => ?_) (fun c21 => ?_)
          · rw [if_pos c21] at hF hA2 hZ
            refine lv_iconst (v := 0) hx hb dX5_half_54 (by decide) ?_
            have o5 := hZ.1
            have hZ := hZ.2
            refine va_zast hx hb hK hP hD hS 3 2 rfl rfl (i := v3_2) (x := 0) o5 dX5_half_55 (fun H locs hP hD hS => ?_)
            have hP : va_P D vwCl [(a_m, .inr (5, [.int mcd, .int mw, .int mh, .int mwd, .ref a_mp, .ref a_ml, .int mth, .ref a_mc, .ref a_mb, .int mkn, .int mst, .ref a_mg, .ref a_mq, .int mus, .ref a_mo, .ref a_me, .int mcu, .ref a_mv, .ref a_my])), (a_mp, .inl (k_mp, 676, .inl mpf)), (a_ml, .inl (k_ml, 676, .inl mlf)), (a_mc, .inl (k_mc, 676, .inl (upd f3_2 v3_2.toNatClampNeg (nb 0)))), (a_mb, .inl (k_mb, 676, .inl mbf)), (a_mg, .inl (k_mg, 3000, .inl mgf)), (a_mq, .inl (k_mq, 9000, .inl mqf)), (a_mo, .inl (k_mo, 5408, .inl mof)), (a_me, .inl (k_me, 676, .inl mef)), (a_mv, .inl (k_mv, 3000, .inl mvf)), (a_my, .inl (k_my, 3000, .inl myf))] H := hP
            have hD : va_D (va_A [(a_m, .inr (5, [.int mcd, .int mw, .int mh, .int mwd, .ref a_mp, .ref a_ml, .int mth, .ref a_mc, .ref a_mb, .int mkn, .int mst, .ref a_mg, .ref a_mq, .int mus, .ref a_mo, .ref a_me, .int mcu, .ref a_mv, .ref a_my])), (a_mp, .inl (k_mp, 676, .inl mpf)), (a_ml, .inl (k_ml, 676, .inl mlf)), (a_mc, .inl (k_mc, 676, .inl mcf)), (a_mb, .inl (k_mb, 676, .inl mbf)), (a_mg, .inl (k_mg, 3000, .inl mgf)), (a_mq, .inl (k_mq, 9000, .inl mqf)), (a_mo, .inl (k_mo, 5408, .inl mof)), (a_me, .inl (k_me, 676, .inl mef)), (a_mv, .inl (k_mv, 3000, .inl mvf)), (a_my, .inl (k_my, 3000, .inl myf))] sz) [(a_m, .inr (5, [.int mcd, .int mw, .int mh, .int mwd, .ref a_mp, .ref a_ml, .int mth, .ref a_mc, .ref a_mb, .int mkn, .int mst, .ref a_mg, .ref a_mq, .int mus, .ref a_mo, .ref a_me, .int mcu, .ref a_mv, .ref a_my])), (a_mp, .inl (k_mp, 676, .inl mpf)), (a_ml, .inl (k_ml, 676, .inl mlf)), (a_mc, .inl (k_mc, 676, .inl (upd f3_2 v3_2.toNatClampNeg (nb 0)))), (a_mb, .inl (k_mb, 676, .inl mbf)), (a_mg, .inl (k_mg, 3000, .inl mgf)), (a_mq, .inl (k_mq, 9000, .inl mqf)), (a_mo, .inl (k_mo, 5408, .inl mof)), (a_me, .inl (k_me, 676, .inl mef)), (a_mv, .inl (k_mv, 3000, .inl mvf)), (a_my, .inl (k_my, 3000, .inl myf))] := hD
            refine lv_iinc (v := v3_2 + 1) (lv' := [(3, .int (v3_2 + 1)), (0, .ref a_m), (1, .int px), (2, .int py)]) hx hb dX5_half_56 hl (k := 0) rfl rfl (by decide) rfl (fun ls hl => ?_)
            refine lv_goto (tgt := 2) hx hb dX5_half_59 (by decide) ?_
            exact ih2 (v3_2 + 1) (upd f3_2 v3_2.toNatClampNeg (nb 0)) _ _ ls hF hA2 hZ hP hD hS (lv_sub hl [0, 1, 2, 3] rfl)
          · rw [if_neg c21] at hF hA2 hZ
            refine lv_aload_n hx hb dX5_half_24 rfl (lv_at hl 1 rfl) ?_
            refine lv_iload_n hx hb dX5_half_25 rfl (lv_at hl 0 rfl) ?_
            refine lv_iload_n hx hb dX5_half_26 rfl (lv_at hl 2 rfl) ?_
            have o6 := hZ.1
            have hZ := hZ.2
            refine ro_go (va_runV (As := [.int v3_2, .int px]) (rest := [.int v3_2, .ref a_mc]) ⟨hx, hb, hml, hown, hts⟩ (c_M_black l D tX tY a_m a_mp k_mp a_ml k_ml a_mc k_mc a_mb k_mb a_mg k_mg a_mq k_mq a_mo k_mo a_me k_me a_mv k_mv a_my k_my mcd mw mh mwd mpf mlf mth f3_2 mbf mkn mst mgf mqf mus mof mef mcu mvf myf v3_2 px o6) (cwV 2 hts (gi_4 gi_c gw_683 gw_685 gs_X5_black gw_7 gw_686) rfl rfl rfl (by decide +kernel) ⟨Nat.le_of_ble_eq_true rfl, Nat.le_of_ble_eq_true rfl⟩) ⟨ro_blind, va_recv hK hP (ci := 5) (q0 := 0) rfl rfl, ro_at hP hK hT hN hS [0, 1, 2, 3, 4, 5, 6, 7, 8, 9, 10] [0, 1, 2, 3, 4, 5, 6, 7, 8, 9] rfl rfl⟩ rfl rfl hl.1 rfl (lv_room (Nat.le_of_ble_eq_true rfl)) dX5_half_27 ⟨Nat.le_of_ble_eq_true rfl, Nat.le_of_ble_eq_true rfl⟩) ?_
            refine lv_if_eq (tgt := 42) hx hb dX5_half_30 (by decide) (fun c30 => ?_) (fun c30 => ?_)
            · rw [if_pos c30] at hF hA2 hZ
              refine lv_aload_n hx hb dX5_half_42 rfl (lv_at hl 1 rfl) ?_
              refine lv_iload_n hx hb dX5_half_43 rfl (lv_at hl 0 rfl) ?_
              have o7 := hZ.1
              have hZ := hZ.2
              refine ro_go (va_runV (As := [.int v3_2]) (rest := [.int v3_2, .ref a_mc]) ⟨hx, hb, hml, hown, hts⟩ (c_M_mayGo l D tX tY a_m a_mp k_mp a_ml k_ml a_mc k_mc a_mb k_mb a_mg k_mg a_mq k_mq a_mo k_mo a_me k_me a_mv k_mv a_my k_my mcd mw mh mwd mpf mlf mth f3_2 mbf mkn mst mgf mqf mus mof mef mcu mvf myf v3_2 o7) (cwV 1 hts (gi_4 gi_c gw_691 gw_693 gs_X5_mayGo gw_7 gw_694) rfl rfl rfl (by decide +kernel) ⟨Nat.le_of_ble_eq_true rfl, Nat.le_of_ble_eq_true rfl⟩) ⟨ro_blind, va_recv hK hP (ci := 5) (q0 := 0) rfl rfl, ro_at hP hK hT hN hS [0, 1, 2, 3, 4, 5, 6, 7, 8, 9, 10] [0, 1, 2, 3, 4, 5, 6, 7, 8, 9] rfl rfl⟩ rfl rfl hl.1 rfl (lv_room (Nat.le_of_ble_eq_true rfl)) dX5_half_44 ⟨Nat.le_of_ble_eq_true rfl, Nat.le_of_ble_eq_true rfl⟩) ?_
              refine lv_if_eq (tgt := 54) hx hb dX5_half_47 (by decide) (fun c47 => ?_) (fun c47 => ?_)
              · rw [if_pos c47] at hF hA2 hZ
                refine lv_iconst (v := 0) hx hb dX5_half_54 (by decide) ?_
                have o8 := hZ.1
                have hZ := hZ.2
                refine va_zast hx hb hK hP hD hS 3 2 rfl rfl (i := v3_2) (x := 0) o8 dX5_half_55 (fun H locs hP hD hS => ?_)
                have hP : va_P D vwCl [(a_m, .inr (5, [.int mcd, .int mw, .int mh, .int mwd, .ref a_mp, .ref a_ml, .int mth, .ref a_mc, .ref a_mb, .int mkn, .int mst, .ref a_mg, .ref a_mq, .int mus, .ref a_mo, .ref a_me, .int mcu, .ref a_mv, .ref a_my])), (a_mp, .inl (k_mp, 676, .inl mpf)), (a_ml, .inl (k_ml, 676, .inl mlf)), (a_mc, .inl (k_mc, 676, .inl (upd f3_2 v3_2.toNatClampNeg (nb 0)))), (a_mb, .inl (k_mb, 676, .inl mbf)), (a_mg, .inl (k_mg, 3000, .inl mgf)), (a_mq, .inl (k_mq, 9000, .inl mqf)), (a_mo, .inl (k_mo, 5408, .inl mof)), (a_me, .inl (k_me, 676, .inl mef)), (a_mv, .inl (k_mv, 3000, .inl mvf)), (a_my, .inl (k_my, 3000, .inl myf))] H := hP
                have hD : va_D (va_A [(a_m, .inr (5, [.int mcd, .int mw, .int mh, .int mwd, .ref a_mp, .ref a_ml, .int mth, .ref a_mc, .ref a_mb, .int mkn, .int mst, .ref a_mg, .ref a_mq, .int mus, .ref a_mo, .ref a_me, .int mcu, .ref a_mv, .ref a_my])), (a_mp, .inl (k_mp, 676, .inl mpf)), (a_ml, .inl (k_ml, 676, .inl mlf)), (a_mc, .inl (k_mc, 676, .inl mcf)), (a_mb, .inl (k_mb, 676, .inl mbf)), (a_mg, .inl (k_mg, 3000, .inl mgf)), (a_mq, .inl (k_mq, 9000, .inl mqf)), (a_mo, .inl (k_mo, 5408, .inl mof)), (a_me, .inl (k_me, 676, .inl mef)), (a_mv, .inl (k_mv, 3000, .inl mvf)), (a_my, .inl (k_my, 3000, .inl myf))] sz) [(a_m, .inr (5, [.int mcd, .int mw, .int mh, .int mwd, .ref a_mp, .ref a_ml, .int mth, .ref a_mc, .ref a_mb, .int mkn, .int mst, .ref a_mg, .ref a_mq, .int mus, .ref a_mo, .ref a_me, .int mcu, .ref a_mv, .ref a_my])), (a_mp, .inl (k_mp, 676, .inl mpf)), (a_ml, .inl (k_ml, 676, .inl mlf)), (a_mc, .inl (k_mc, 676, .inl (upd f3_2 v3_2.toNatClampNeg (nb 0)))), (a_mb, .inl (k_mb, 676, .inl mbf)), (a_mg, .inl (k_mg, 3000, .inl mgf)), (a_mq, .inl (k_mq, 9000, .inl mqf)), (a_mo, .inl (k_mo, 5408, .inl mof)), (a_me, .inl (k_me, 676, .inl mef)), (a_mv, .inl (k_mv, 3000, .inl mvf)), (a_my, .inl (k_my, 3000, .inl myf))] := hD
                refine lv_iinc (v := v3_2 + 1) (lv' := [(3, .int (v3_2 + 1)), (0, .ref a_m), (1, .int px), (2, .int py)]) hx hb dX5_half_56 hl (k := 0) rfl rfl (by decide) rfl (fun ls hl => ?_)
                refine lv_goto (tgt := 2) hx hb dX5_half_59 (by decide) ?_
                exact ih2 (v3_2 + 1) (upd f3_2 v3_2.toNatClampNeg (nb 0)) _ _ ls hF hA2 hZ hP hD hS (lv_sub hl [0, 1, 2, 3] rfl)
              · rw [if_neg c47] at hF hA2 hZ
                refine lv_iconst (v := 1) hx hb dX5_half_50 (by decide) ?_
                refine lv_goto (tgt := 55) hx hb dX5_half_51 (by decide) ?_
                have o9 := hZ.1
                have hZ := hZ.2
                refine va_zast hx hb hK hP hD hS 3 2 rfl rfl (i := v3_2) (x := 1) o9 dX5_half_55 (fun H locs hP hD hS => ?_)
                have hP : va_P D vwCl [(a_m, .inr (5, [.int mcd, .int mw, .int mh, .int mwd, .ref a_mp, .ref a_ml, .int mth, .ref a_mc, .ref a_mb, .int mkn, .int mst, .ref a_mg, .ref a_mq, .int mus, .ref a_mo, .ref a_me, .int mcu, .ref a_mv, .ref a_my])), (a_mp, .inl (k_mp, 676, .inl mpf)), (a_ml, .inl (k_ml, 676, .inl mlf)), (a_mc, .inl (k_mc, 676, .inl (upd f3_2 v3_2.toNatClampNeg (nb 1)))), (a_mb, .inl (k_mb, 676, .inl mbf)), (a_mg, .inl (k_mg, 3000, .inl mgf)), (a_mq, .inl (k_mq, 9000, .inl mqf)), (a_mo, .inl (k_mo, 5408, .inl mof)), (a_me, .inl (k_me, 676, .inl mef)), (a_mv, .inl (k_mv, 3000, .inl mvf)), (a_my, .inl (k_my, 3000, .inl myf))] H := hP
                have hD : va_D (va_A [(a_m, .inr (5, [.int mcd, .int mw, .int mh, .int mwd, .ref a_mp, .ref a_ml, .int mth, .ref a_mc, .ref a_mb, .int mkn, .int mst, .ref a_mg, .ref a_mq, .int mus, .ref a_mo, .ref a_me, .int mcu, .ref a_mv, .ref a_my])), (a_mp, .inl (k_mp, 676, .inl mpf)), (a_ml, .inl (k_ml, 676, .inl mlf)), (a_mc, .inl (k_mc, 676, .inl mcf)), (a_mb, .inl (k_mb, 676, .inl mbf)), (a_mg, .inl (k_mg, 3000, .inl mgf)), (a_mq, .inl (k_mq, 9000, .inl mqf)), (a_mo, .inl (k_mo, 5408, .inl mof)), (a_me, .inl (k_me, 676, .inl mef)), (a_mv, .inl (k_mv, 3000, .inl mvf)), (a_my, .inl (k_my, 3000, .inl myf))] sz) [(a_m, .inr (5, [.int mcd, .int mw, .int mh, .int mwd, .ref a_mp, .ref a_ml, .int mth, .ref a_mc, .ref a_mb, .int mkn, .int mst, .ref a_mg, .ref a_mq, .int mus, .ref a_mo, .ref a_me, .int mcu, .ref a_mv, .ref a_my])), (a_mp, .inl (k_mp, 676, .inl mpf)), (a_ml, .inl (k_ml, 676, .inl mlf)), (a_mc, .inl (k_mc, 676, .inl (upd f3_2 v3_2.toNatClampNeg (nb 1)))), (a_mb, .inl (k_mb, 676, .inl mbf)), (a_mg, .inl (k_mg, 3000, .inl mgf)), (a_mq, .inl (k_mq, 9000, .inl mqf)), (a_mo, .inl (k_mo, 5408, .inl mof)), (a_me, .inl (k_me, 676, .inl mef)), (a_mv, .inl (k_mv, 3000, .inl mvf)), (a_my, .inl (k_my, 3000, .inl myf))] := hD
                refine lv_iinc (v := v3_2 + 1) (lv' := [(3, .int (v3_2 + 1)), (0, .ref a_m), (1, .int px), (2, .int py)]) hx hb dX5_half_56 hl (k := 0) rfl rfl (by decide) rfl (fun ls hl => ?_)
                refine lv_goto (tgt := 2) hx hb dX5_half_59 (by decide) ?_
                exact ih2 (v3_2 + 1) (upd f3_2 v3_2.toNatClampNeg (nb 1)) _ _ ls hF hA2 hZ hP hD hS (lv_sub hl [0, 1, 2, 3] rfl)
            · rw [if_neg c30] at hF hA2 hZ
              refine lv_aload_n hx hb dX5_half_33 rfl (lv_at hl 1 rfl) ?_
              refine lv_iload_n hx hb dX5_half_34 rfl (lv_at hl 0 rfl) ?_
              refine lv_iload_n hx hb dX5_half_35 rfl (lv_at hl 3 rfl) ?_
              have o10 := hZ.1
              have hZ := hZ.2
              refine ro_go (va_runV (As := [.int v3_2, .int py]) (rest := [.int v3_2, .ref a_mc]) ⟨hx, hb, hml, hown, hts⟩ (c_M_black l D tX tY a_m a_mp k_mp a_ml k_ml a_mc k_mc a_mb k_mb a_mg k_mg a_mq k_mq a_mo k_mo a_me k_me a_mv k_mv a_my k_my mcd mw mh mwd mpf mlf mth f3_2 mbf mkn mst mgf mqf mus mof mef mcu mvf myf v3_2 py o10) (cwV 2 hts (gi_4 gi_c gw_683 gw_685 gs_X5_black gw_7 gw_686) rfl rfl rfl (by decide +kernel) ⟨Nat.le_of_ble_eq_true rfl, Nat.le_of_ble_eq_true rfl⟩) ⟨ro_blind, va_recv hK hP (ci := 5) (q0 := 0) rfl rfl, ro_at hP hK hT hN hS [0, 1, 2, 3, 4, 5, 6, 7, 8, 9, 10] [0, 1, 2, 3, 4, 5, 6, 7, 8, 9] rfl rfl⟩ rfl rfl hl.1 rfl (lv_room (Nat.le_of_ble_eq_true rfl)) dX5_half_36 ⟨Nat.le_of_ble_eq_true rfl, Nat.le_of_ble_eq_true rfl⟩) ?_
              refine lv_if_ne (tgt := 54) hx hb dX5_half_39 (by decide) (fun c39 => ?_) (fun c39 => ?_)
              · rw [if_neg c39] at hF hA2 hZ
                refine lv_iconst (v := 0) hx hb dX5_half_54 (by decide) ?_
                have o11 := hZ.1
                have hZ := hZ.2
                refine va_zast hx hb hK hP hD hS 3 2 rfl rfl (i := v3_2) (x := 0) o11 dX5_half_55 (fun H locs hP hD hS => ?_)
                have hP : va_P D vwCl [(a_m, .inr (5, [.int mcd, .int mw, .int mh, .int mwd, .ref a_mp, .ref a_ml, .int mth, .ref a_mc, .ref a_mb, .int mkn, .int mst, .ref a_mg, .ref a_mq, .int mus, .ref a_mo, .ref a_me, .int mcu, .ref a_mv, .ref a_my])), (a_mp, .inl (k_mp, 676, .inl mpf)), (a_ml, .inl (k_ml, 676, .inl mlf)), (a_mc, .inl (k_mc, 676, .inl (upd f3_2 v3_2.toNatClampNeg (nb 0)))), (a_mb, .inl (k_mb, 676, .inl mbf)), (a_mg, .inl (k_mg, 3000, .inl mgf)), (a_mq, .inl (k_mq, 9000, .inl mqf)), (a_mo, .inl (k_mo, 5408, .inl mof)), (a_me, .inl (k_me, 676, .inl mef)), (a_mv, .inl (k_mv, 3000, .inl mvf)), (a_my, .inl (k_my, 3000, .inl myf))] H := hP
                have hD : va_D (va_A [(a_m, .inr (5, [.int mcd, .int mw, .int mh, .int mwd, .ref a_mp, .ref a_ml, .int mth, .ref a_mc, .ref a_mb, .int mkn, .int mst, .ref a_mg, .ref a_mq, .int mus, .ref a_mo, .ref a_me, .int mcu, .ref a_mv, .ref a_my])), (a_mp, .inl (k_mp, 676, .inl mpf)), (a_ml, .inl (k_ml, 676, .inl mlf)), (a_mc, .inl (k_mc, 676, .inl mcf)), (a_mb, .inl (k_mb, 676, .inl mbf)), (a_mg, .inl (k_mg, 3000, .inl mgf)), (a_mq, .inl (k_mq, 9000, .inl mqf)), (a_mo, .inl (k_mo, 5408, .inl mof)), (a_me, .inl (k_me, 676, .inl mef)), (a_mv, .inl (k_mv, 3000, .inl mvf)), (a_my, .inl (k_my, 3000, .inl myf))] sz) [(a_m, .inr (5, [.int mcd, .int mw, .int mh, .int mwd, .ref a_mp, .ref a_ml, .int mth, .ref a_mc, .ref a_mb, .int mkn, .int mst, .ref a_mg, .ref a_mq, .int mus, .ref a_mo, .ref a_me, .int mcu, .ref a_mv, .ref a_my])), (a_mp, .inl (k_mp, 676, .inl mpf)), (a_ml, .inl (k_ml, 676, .inl mlf)), (a_mc, .inl (k_mc, 676, .inl (upd f3_2 v3_2.toNatClampNeg (nb 0)))), (a_mb, .inl (k_mb, 676, .inl mbf)), (a_mg, .inl (k_mg, 3000, .inl mgf)), (a_mq, .inl (k_mq, 9000, .inl mqf)), (a_mo, .inl (k_mo, 5408, .inl mof)), (a_me, .inl (k_me, 676, .inl mef)), (a_mv, .inl (k_mv, 3000, .inl mvf)), (a_my, .inl (k_my, 3000, .inl myf))] := hD
                refine lv_iinc (v := v3_2 + 1) (lv' := [(3, .int (v3_2 + 1)), (0, .ref a_m), (1, .int px), (2, .int py)]) hx hb dX5_half_56 hl (k := 0) rfl rfl (by decide) rfl (fun ls hl => ?_)
                refine lv_goto (tgt := 2) hx hb dX5_half_59 (by decide) ?_
                exact ih2 (v3_2 + 1) (upd f3_2 v3_2.toNatClampNeg (nb 0)) _ _ ls hF hA2 hZ hP hD hS (lv_sub hl [0, 1, 2, 3] rfl)
              · rw [if_pos c39] at hF hA2 hZ
                refine lv_aload_n hx hb dX5_half_42 rfl (lv_at hl 1 rfl) ?_
                refine lv_iload_n hx hb dX5_half_43 rfl (lv_at hl 0 rfl) ?_
                have o12 := hZ.1
                have hZ := hZ.2
                refine ro_go (va_runV (As := [.int v3_2]) (rest := [.int v3_2, .ref a_mc]) ⟨hx, hb, hml, hown, hts⟩ (c_M_mayGo l D tX tY a_m a_mp k_mp a_ml k_ml a_mc k_mc a_mb k_mb a_mg k_mg a_mq k_mq a_mo k_mo a_me k_me a_mv k_mv a_my k_my mcd mw mh mwd mpf mlf mth f3_2 mbf mkn mst mgf mqf mus mof mef mcu mvf myf v3_2 o12) (cwV 1 hts (gi_4 gi_c gw_691 gw_693 gs_X5_mayGo gw_7 gw_694) rfl rfl rfl (by decide +kernel) ⟨Nat.le_of_ble_eq_true rfl, Nat.le_of_ble_eq_true rfl⟩) ⟨ro_blind, va_recv hK hP (ci := 5) (q0 := 0) rfl rfl, ro_at hP hK hT hN hS [0, 1, 2, 3, 4, 5, 6, 7, 8, 9, 10] [0, 1, 2, 3, 4, 5, 6, 7, 8, 9] rfl rfl⟩ rfl rfl hl.1 rfl (lv_room (Nat.le_of_ble_eq_true rfl)) dX5_half_44 ⟨Nat.le_of_ble_eq_true rfl, Nat.le_of_ble_eq_true rfl⟩) ?_
                refine lv_if_eq (tgt := 54) hx hb dX5_half_47 (by decide) (fun c47 => ?_) (fun c47 => ?_)
                · rw [if_pos c47] at hF hA2 hZ
                  refine lv_iconst (v := 0) hx hb dX5_half_54 (by decide) ?_
                  have o13 := hZ.1
                  have hZ := hZ.2
                  refine va_zast hx hb hK hP hD hS 3 2 rfl rfl (i := v3_2) (x := 0) o13 dX5_half_55 (fun H locs hP hD hS => ?_)
                  have hP : va_P D vwCl [(a_m, .inr (5, [.int mcd, .int mw, .int mh, .int mwd, .ref a_mp, .ref a_ml, .int mth, .ref a_mc, .ref a_mb, .int mkn, .int mst, .ref a_mg, .ref a_mq, .int mus, .ref a_mo, .ref a_me, .int mcu, .ref a_mv, .ref a_my])), (a_mp, .inl (k_mp, 676, .inl mpf)), (a_ml, .inl (k_ml, 676, .inl mlf)), (a_mc, .inl (k_mc, 676, .inl (upd f3_2 v3_2.toNatClampNeg (nb 0)))), (a_mb, .inl (k_mb, 676, .inl mbf)), (a_mg, .inl (k_mg, 3000, .inl mgf)), (a_mq, .inl (k_mq, 9000, .inl mqf)), (a_mo, .inl (k_mo, 5408, .inl mof)), (a_me, .inl (k_me, 676, .inl mef)), (a_mv, .inl (k_mv, 3000, .inl mvf)), (a_my, .inl (k_my, 3000, .inl myf))] H := hP
                  have hD : va_D (va_A [(a_m, .inr (5, [.int mcd, .int mw, .int mh, .int mwd, .ref a_mp, .ref a_ml, .int mth, .ref a_mc, .ref a_mb, .int mkn, .int mst, .ref a_mg, .ref a_mq, .int mus, .ref a_mo, .ref a_me, .int mcu, .ref a_mv, .ref a_my])), (a_mp, .inl (k_mp, 676, .inl mpf)), (a_ml, .inl (k_ml, 676, .inl mlf)), (a_mc, .inl (k_mc, 676, .inl mcf)), (a_mb, .inl (k_mb, 676, .inl mbf)), (a_mg, .inl (k_mg, 3000, .inl mgf)), (a_mq, .inl (k_mq, 9000, .inl mqf)), (a_mo, .inl (k_mo, 5408, .inl mof)), (a_me, .inl (k_me, 676, .inl mef)), (a_mv, .inl (k_mv, 3000, .inl mvf)), (a_my, .inl (k_my, 3000, .inl myf))] sz) [(a_m, .inr (5, [.int mcd, .int mw, .int mh, .int mwd, .ref a_mp, .ref a_ml, .int mth, .ref a_mc, .ref a_mb, .int mkn, .int mst, .ref a_mg, .ref a_mq, .int mus, .ref a_mo, .ref a_me, .int mcu, .ref a_mv, .ref a_my])), (a_mp, .inl (k_mp, 676, .inl mpf)), (a_ml, .inl (k_ml, 676, .inl mlf)), (a_mc, .inl (k_mc, 676, .inl (upd f3_2 v3_2.toNatClampNeg (nb 0)))), (a_mb, .inl (k_mb, 676, .inl mbf)), (a_mg, .inl (k_mg, 3000, .inl mgf)), (a_mq, .inl (k_mq, 9000, .inl mqf)), (a_mo, .inl (k_mo, 5408, .inl mof)), (a_me, .inl (k_me, 676, .inl mef)), (a_mv, .inl (k_mv, 3000, .inl mvf)), (a_my, .inl (k_my, 3000, .inl myf))] := hD
                  refine lv_iinc (v := v3_2 + 1) (lv' := [(3, .int (v3_2 + 1)), (0, .ref a_m), (1, .int px), (2, .int py)]) hx hb dX5_half_56 hl (k := 0) rfl rfl (by decide) rfl (fun ls hl => ?_)
                  refine lv_goto (tgt := 2) hx hb dX5_half_59 (by decide) ?_
                  exact ih2 (v3_2 + 1) (upd f3_2 v3_2.toNatClampNeg (nb 0)) _ _ ls hF hA2 hZ hP hD hS (lv_sub hl [0, 1, 2, 3] rfl)
                · rw [if_neg c47] at hF hA2 hZ
                  refine lv_iconst (v := 1) hx hb dX5_half_50 (by decide) ?_
                  refine lv_goto (tgt := 55) hx hb dX5_half_51 (by decide) ?_
                  have o14 := hZ.1
                  have hZ := hZ.2
                  refine va_zast hx hb hK hP hD hS 3 2 rfl rfl (i := v3_2) (x := 1) o14 dX5_half_55 (fun H locs hP hD hS => ?_)
                  have hP : va_P D vwCl [(a_m, .inr (5, [.int mcd, .int mw, .int mh, .int mwd, .ref a_mp, .ref a_ml, .int mth, .ref a_mc, .ref a_mb, .int mkn, .int mst, .ref a_mg, .ref a_mq, .int mus, .ref a_mo, .ref a_me, .int mcu, .ref a_mv, .ref a_my])), (a_mp, .inl (k_mp, 676, .inl mpf)), (a_ml, .inl (k_ml, 676, .inl mlf)), (a_mc, .inl (k_mc, 676, .inl (upd f3_2 v3_2.toNatClampNeg (nb 1)))), (a_mb, .inl (k_mb, 676, .inl mbf)), (a_mg, .inl (k_mg, 3000, .inl mgf)), (a_mq, .inl (k_mq, 9000, .inl mqf)), (a_mo, .inl (k_mo, 5408, .inl mof)), (a_me, .inl (k_me, 676, .inl mef)), (a_mv, .inl (k_mv, 3000, .inl mvf)), (a_my, .inl (k_my, 3000, .inl myf))] H := hP
                  have hD : va_D (va_A [(a_m, .inr (5, [.int mcd, .int mw, .int mh, .int mwd, .ref a_mp, .ref a_ml, .int mth, .ref a_mc, .ref a_mb, .int mkn, .int mst, .ref a_mg, .ref a_mq, .int mus, .ref a_mo, .ref a_me, .int mcu, .ref a_mv, .ref a_my])), (a_mp, .inl (k_mp, 676, .inl mpf)), (a_ml, .inl (k_ml, 676, .inl mlf)), (a_mc, .inl (k_mc, 676, .inl mcf)), (a_mb, .inl (k_mb, 676, .inl mbf)), (a_mg, .inl (k_mg, 3000, .inl mgf)), (a_mq, .inl (k_mq, 9000, .inl mqf)), (a_mo, .inl (k_mo, 5408, .inl mof)), (a_me, .inl (k_me, 676, .inl mef)), (a_mv, .inl (k_mv, 3000, .inl mvf)), (a_my, .inl (k_my, 3000, .inl myf))] sz) [(a_m, .inr (5, [.int mcd, .int mw, .int mh, .int mwd, .ref a_mp, .ref a_ml, .int mth, .ref a_mc, .ref a_mb, .int mkn, .int mst, .ref a_mg, .ref a_mq, .int mus, .ref a_mo, .ref a_me, .int mcu, .ref a_mv, .ref a_my])), (a_mp, .inl (k_mp, 676, .inl mpf)), (a_ml, .inl (k_ml, 676, .inl mlf)), (a_mc, .inl (k_mc, 676, .inl (upd f3_2 v3_2.toNatClampNeg (nb 1)))), (a_mb, .inl (k_mb, 676, .inl mbf)), (a_mg, .inl (k_mg, 3000, .inl mgf)), (a_mq, .inl (k_mq, 9000, .inl mqf)), (a_mo, .inl (k_mo, 5408, .inl mof)), (a_me, .inl (k_me, 676, .inl mef)), (a_mv, .inl (k_mv, 3000, .inl mvf)), (a_my, .inl (k_my, 3000, .inl myf))] := hD
                  refine lv_iinc (v := v3_2 + 1) (lv' := [(3, .int (v3_2 + 1)), (0, .ref a_m), (1, .int px), (2, .int py)]) hx hb dX5_half_56 hl (k := 0) rfl rfl (by decide) rfl (fun ls hl => ?_)
                  refine lv_goto (tgt := 2) hx hb dX5_half_59 (by decide) ?_
                  exact ih2 (v3_2 + 1) (upd f3_2 v3_2.toNatClampNeg (nb 1)) _ _ ls hF hA2 hZ hP hD hS (lv_sub hl [0, 1, 2, 3] rfl)
    exact lp2 FU 0 mcf _ _ ls hF hZ.2 hZ.1 hP hD hS (lv_sub hl [0, 1, 2, 3] rfl)
  exact hgo _ _ hP hD hS

def f_M_thin_k9  : Int32 × Int32 × (Nat → Int32) × (Nat → Int32) → Int32 × Int32 × (Nat → Int32) × (Nat → Int32) × Int32 × Int32
  | (v2_9, v1_9, f2_9, f3_9) => (v1_9, 0, f2_9, f3_9, 1, 0)
def f_M_thin_k9_z  : Int32 × Int32 × (Nat → Int32) × (Nat → Int32) → Prop
  | (v2_9, v1_9, f2_9, f3_9) => True
def f_M_thin_q2 (v1_9 : Int32) (rc9 : (Int32 × Int32 × (Nat → Int32) × (Nat → Int32)) → (Int32 × Int32 × (Nat → Int32) × (Nat → Int32))) (r2 : Int32) : Int32 × (Nat → Int32) × (Nat → Int32) → Int32 × Int32 × (Nat → Int32) × (Nat → Int32)
  | (r6, g7, g8) => (if (r2 + r6) ≤ 0 then (rc9 (r2 + r6, v1_9 + 0, g8, g7)) else (rc9 (r2 + r6, v1_9 + 1, g8, g7)))
def f_M_thin_q2_z (v1_9 : Int32) (rz9 : (Int32 × Int32 × (Nat → Int32) × (Nat → Int32)) → Prop) (r2 : Int32) : Int32 × (Nat → Int32) × (Nat → Int32) → Prop
  | (r6, g7, g8) => (if (r2 + r6) ≤ 0 then (rz9 (r2 + r6, v1_9 + 0, g8, g7)) else (rz9 (r2 + r6, v1_9 + 1, g8, g7)))
def f_M_thin_q1 (mh : Int32) (mwd : Int32) (v1_9 : Int32) (rc9 : (Int32 × Int32 × (Nat → Int32) × (Nat → Int32)) → (Int32 × Int32 × (Nat → Int32) × (Nat → Int32))) : Int32 × (Nat → Int32) × (Nat → Int32) → Int32 × Int32 × (Nat → Int32) × (Nat → Int32)
  | (r2, g3, g4) => (f_M_thin_q2 v1_9 rc9 r2 (f_M_half mh mwd g4 g3 4 2))
def f_M_thin_q1_z (mh : Int32) (mwd : Int32) (v1_9 : Int32) (rz9 : (Int32 × Int32 × (Nat → Int32) × (Nat → Int32)) → Prop) : Int32 × (Nat → Int32) × (Nat → Int32) → Prop
  | (r2, g3, g4) => (((z_M_half mh mwd g4 g3 4 2)) ∧ (f_M_thin_q2_z v1_9 rz9 r2 (f_M_half mh mwd g4 g3 4 2)))
def f_M_thin_L9 (mh : Int32) (mwd : Int32) : Nat → Int32 × Int32 × (Nat → Int32) × (Nat → Int32) → Int32 × Int32 × (Nat → Int32) × (Nat → Int32)
  | 0, σ => σ
  | n9 + 1, (v2_9, v1_9, f2_9, f3_9) => (if v2_9 ≤ 0 then (v2_9, v1_9, f2_9, f3_9) else (f_M_thin_q1 mh mwd v1_9 (f_M_thin_L9 mh mwd n9) (f_M_half mh mwd f2_9 f3_9 0 6)))
def f_M_thin_L9_z (mh : Int32) (mwd : Int32) : Nat → Int32 × Int32 × (Nat → Int32) × (Nat → Int32) → Prop
  | 0, _ => False
  | n9 + 1, (v2_9, v1_9, f2_9, f3_9) => (if v2_9 ≤ 0 then True else (((z_M_half mh mwd f2_9 f3_9 0 6)) ∧ (f_M_thin_q1_z mh mwd v1_9 (f_M_thin_L9_z mh mwd n9) (f_M_half mh mwd f2_9 f3_9 0 6))))
def f_M_thin (mh : Int32) (mwd : Int32) (mlf : Nat → Int32) (mcf : Nat → Int32) : Int32 × Int32 × (Nat → Int32) × (Nat → Int32) × Int32 × Int32 := (f_M_thin_k9 (f_M_thin_L9 mh mwd FU (1, 0, mlf, mcf)))
def z_M_thin (mh : Int32) (mwd : Int32) (mlf : Nat → Int32) (mcf : Nat → Int32) : Prop := ((f_M_thin_L9_z mh mwd FU (1, 0, mlf, mcf)) ∧ (f_M_thin_k9_z (f_M_thin_L9 mh mwd FU (1, 0, mlf, mcf))))
set_option maxHeartbeats 4000000 in
set_option maxRecDepth 100000 in
theorem c_M_thin (l : Launch) (D : va_G) (tX tY : Nat) (a_m : Nat) (a_mp : Nat) (k_mp : ClassId) (a_ml : Nat) (k_ml : ClassId) (a_mc : Nat) (k_mc : ClassId) (a_mb : Nat) (k_mb : ClassId) (a_mg : Nat) (k_mg : ClassId) (a_mq : Nat) (k_mq : ClassId) (a_mo : Nat) (k_mo : ClassId) (a_me : Nat) (k_me : ClassId) (a_mv : Nat) (k_mv : ClassId) (a_my : Nat) (k_my : ClassId) (mcd : Int32) (mw : Int32) (mh : Int32) (mwd : Int32) (mpf : Nat → Int32) (mlf : Nat → Int32) (mth : Int32) (mcf : Nat → Int32) (mbf : Nat → Int32) (mkn : Int32) (mst : Int32) (mgf : Nat → Int32) (mqf : Nat → Int32) (mus : Int32) (mof : Nat → Int32) (mef : Nat → Int32) (mcu : Int32) (mvf : Nat → Int32) (myf : Nat → Int32) (sz : Nat) (hZ : z_M_thin mh mwd mlf mcf) : Met l yX5_thin wX5_thin ({ frames := 5, cells := 0, slots := 0, locals := 114 }) (mu_P D tX tY [(k_mp, .boolean), (k_ml, .boolean), (k_mc, .boolean), (k_mb, .int), (k_mg, .int), (k_mq, .int), (k_mo, .boolean), (k_me, .boolean), (k_mv, .int), (k_my, .int)] [(a_m, .inr (5, [.int mcd, .int mw, .int mh, .int mwd, .ref a_mp, .ref a_ml, .int mth, .ref a_mc, .ref a_mb, .int mkn, .int mst, .ref a_mg, .ref a_mq, .int mus, .ref a_mo, .ref a_me, .int mcu, .ref a_mv, .ref a_my])), (a_mp, .inl (k_mp, 676, .inl mpf)), (a_ml, .inl (k_ml, 676, .inl mlf)), (a_mc, .inl (k_mc, 676, .inl mcf)), (a_mb, .inl (k_mb, 676, .inl mbf)), (a_mg, .inl (k_mg, 3000, .inl mgf)), (a_mq, .inl (k_mq, 9000, .inl mqf)), (a_mo, .inl (k_mo, 5408, .inl mof)), (a_me, .inl (k_me, 676, .inl mef)), (a_mv, .inl (k_mv, 3000, .inl mvf)), (a_my, .inl (k_my, 3000, .inl myf))] sz [.ref a_m]) (va_Qi (fun (r : Int32) (u : Int32 × (Nat → Int32) × (Nat → Int32) × Int32 × Int32) => (f_M_thin mh mwd mlf mcf) = (r, u)) (fun (u : Int32 × (Nat → Int32) × (Nat → Int32) × Int32 × Int32) (t : State) => va_P D vwCl [(a_m, .inr (5, [.int u.1, .int mw, .int mh, .int mwd, .ref a_mp, .ref a_ml, .int u.2.2.2.1, .ref a_mc, .ref a_mb, .int u.2.2.2.2, .int mst, .ref a_mg, .ref a_mq, .int mus, .ref a_mo, .ref a_me, .int mcu, .ref a_mv, .ref a_my])), (a_mp, .inl (k_mp, 676, .inl mpf)), (a_ml, .inl (k_ml, 676, .inl u.2.1)), (a_mc, .inl (k_mc, 676, .inl u.2.2.1)), (a_mb, .inl (k_mb, 676, .inl mbf)), (a_mg, .inl (k_mg, 3000, .inl mgf)), (a_mq, .inl (k_mq, 9000, .inl mqf)), (a_mo, .inl (k_mo, 5408, .inl mof)), (a_me, .inl (k_me, 676, .inl mef)), (a_mv, .inl (k_mv, 3000, .inl mvf)), (a_my, .inl (k_my, 3000, .inl myf))] t.heap ∧ va_K D vwCl [(k_mp, .boolean), (k_ml, .boolean), (k_mc, .boolean), (k_mb, .int), (k_mg, .int), (k_mq, .int), (k_mo, .boolean), (k_me, .boolean), (k_mv, .int), (k_my, .int)] t ∧ va_D (va_A [(a_m, .inr (5, [.int mcd, .int mw, .int mh, .int mwd, .ref a_mp, .ref a_ml, .int mth, .ref a_mc, .ref a_mb, .int mkn, .int mst, .ref a_mg, .ref a_mq, .int mus, .ref a_mo, .ref a_me, .int mcu, .ref a_mv, .ref a_my])), (a_mp, .inl (k_mp, 676, .inl mpf)), (a_ml, .inl (k_ml, 676, .inl mlf)), (a_mc, .inl (k_mc, 676, .inl mcf)), (a_mb, .inl (k_mb, 676, .inl mbf)), (a_mg, .inl (k_mg, 3000, .inl mgf)), (a_mq, .inl (k_mq, 9000, .inl mqf)), (a_mo, .inl (k_mo, 5408, .inl mof)), (a_me, .inl (k_me, 676, .inl mef)), (a_mv, .inl (k_mv, 3000, .inl mvf)), (a_my, .inl (k_my, 3000, .inl myf))] sz) [(a_m, .inr (5, [.int u.1, .int mw, .int mh, .int mwd, .ref a_mp, .ref a_ml, .int u.2.2.2.1, .ref a_mc, .ref a_mb, .int u.2.2.2.2, .int mst, .ref a_mg, .ref a_mq, .int mus, .ref a_mo, .ref a_me, .int mcu, .ref a_mv, .ref a_my])), (a_mp, .inl (k_mp, 676, .inl mpf)), (a_ml, .inl (k_ml, 676, .inl u.2.1)), (a_mc, .inl (k_mc, 676, .inl u.2.2.1)), (a_mb, .inl (k_mb, 676, .inl mbf)), (a_mg, .inl (k_mg, 3000, .inl mgf)), (a_mq, .inl (k_mq, 9000, .inl mqf)), (a_mo, .inl (k_mo, 5408, .inl mof)), (a_me, .inl (k_me, 676, .inl mef)), (a_mv, .inl (k_mv, 3000, .inl mvf)), (a_my, .inl (k_my, 3000, .inl myf))]) (va_A [(a_m, .inr (5, [.int mcd, .int mw, .int mh, .int mwd, .ref a_mp, .ref a_ml, .int mth, .ref a_mc, .ref a_mb, .int mkn, .int mst, .ref a_mg, .ref a_mq, .int mus, .ref a_mo, .ref a_me, .int mcu, .ref a_mv, .ref a_my])), (a_mp, .inl (k_mp, 676, .inl mpf)), (a_ml, .inl (k_ml, 676, .inl mlf)), (a_mc, .inl (k_mc, 676, .inl mcf)), (a_mb, .inl (k_mb, 676, .inl mbf)), (a_mg, .inl (k_mg, 3000, .inl mgf)), (a_mq, .inl (k_mq, 9000, .inl mqf)), (a_mo, .inl (k_mo, 5408, .inl mof)), (a_me, .inl (k_me, 676, .inl mef)), (a_mv, .inl (k_mv, 3000, .inl mvf)), (a_my, .inl (k_my, 3000, .inl myf))] sz)) 0 0 (va_A [(a_m, .inr (5, [.int mcd, .int mw, .int mh, .int mwd, .ref a_mp, .ref a_ml, .int mth, .ref a_mc, .ref a_mb, .int mkn, .int mst, .ref a_mg, .ref a_mq, .int mus, .ref a_mo, .ref a_me, .int mcu, .ref a_mv, .ref a_my])), (a_mp, .inl (k_mp, 676, .inl mpf)), (a_ml, .inl (k_ml, 676, .inl mlf)), (a_mc, .inl (k_mc, 676, .inl mcf)), (a_mb, .inl (k_mb, 676, .inl mbf)), (a_mg, .inl (k_mg, 3000, .inl mgf)), (a_mq, .inl (k_mq, 9000, .inl mqf)), (a_mo, .inl (k_mo, 5408, .inl mof)), (a_me, .inl (k_me, 676, .inl mef)), (a_mv, .inl (k_mv, 3000, .inl mvf)), (a_my, .inl (k_my, 3000, .inl myf))] sz) := by
  generalize hF : (f_M_thin mh mwd mlf mcf) = F
  refine Met.ofW (cc := cX5_thin) (maxL := 3) (ret := (some .int)) (by decide) rfl ?_
  intro p e s m args below meth c s₁ B hml hv
  obtain ⟨rfl, hsz, hP, hK, hD0, hT, hN⟩ := hv
  have hx := B.exec
  have hb := B.bytes
  have hr := B.returns
  have hts := atoms_spec (ws := wX5_thin) B.pre
  have hta : ∀ w ∈ gw, w.before _ s = true := fun w h => hts w (List.mem_cons_of_mem _ h)
  have hown : s.vm.findClass RX5 = some m.cls := findClass_of_methodNamed B.named
  have hlocks := B.notSynchronized
  have hD : va_D (va_A [(a_m, .inr (5, [.int mcd, .int mw, .int mh, .int mwd, .ref a_mp, .ref a_ml, .int mth, .ref a_mc, .ref a_mb, .int mkn, .int mst, .ref a_mg, .ref a_mq, .int mus, .ref a_mo, .ref a_me, .int mcu, .ref a_mv, .ref a_my])), (a_mp, .inl (k_mp, 676, .inl mpf)), (a_ml, .inl (k_ml, 676, .inl mlf)), (a_mc, .inl (k_mc, 676, .inl mcf)), (a_mb, .inl (k_mb, 676, .inl mbf)), (a_mg, .inl (k_mg, 3000, .inl mgf)), (a_mq, .inl (k_mq, 9000, .inl mqf)), (a_mo, .inl (k_mo, 5408, .inl mof)), (a_me, .inl (k_me, 676, .inl mef)), (a_mv, .inl (k_mv, 3000, .inl mvf)), (a_my, .inl (k_my, 3000, .inl myf))] sz) [(a_m, .inr (5, [.int mcd, .int mw, .int mh, .int mwd, .ref a_mp, .ref a_ml, .int mth, .ref a_mc, .ref a_mb, .int mkn, .int mst, .ref a_mg, .ref a_mq, .int mus, .ref a_mo, .ref a_me, .int mcu, .ref a_mv, .ref a_my])), (a_mp, .inl (k_mp, 676, .inl mpf)), (a_ml, .inl (k_ml, 676, .inl mlf)), (a_mc, .inl (k_mc, 676, .inl mcf)), (a_mb, .inl (k_mb, 676, .inl mbf)), (a_mg, .inl (k_mg, 3000, .inl mgf)), (a_mq, .inl (k_mq, 9000, .inl mqf)), (a_mo, .inl (k_mo, 5408, .inl mof)), (a_me, .inl (k_me, 676, .inl mef)), (a_mv, .inl (k_mv, 3000, .inl mvf)), (a_my, .inl (k_my, 3000, .inl myf))] := hD0.self
  have hA : ∀ q : Nat, s.heap.size ≤ q → (va_A [(a_m, .inr (5, [.int mcd, .int mw, .int mh, .int mwd, .ref a_mp, .ref a_ml, .int mth, .ref a_mc, .ref a_mb, .int mkn, .int mst, .ref a_mg, .ref a_mq, .int mus, .ref a_mo, .ref a_me, .int mcu, .ref a_mv, .ref a_my])), (a_mp, .inl (k_mp, 676, .inl mpf)), (a_ml, .inl (k_ml, 676, .inl mlf)), (a_mc, .inl (k_mc, 676, .inl mcf)), (a_mb, .inl (k_mb, 676, .inl mbf)), (a_mg, .inl (k_mg, 3000, .inl mgf)), (a_mq, .inl (k_mq, 9000, .inl mqf)), (a_mo, .inl (k_mo, 5408, .inl mof)), (a_me, .inl (k_me, 676, .inl mef)), (a_mv, .inl (k_mv, 3000, .inl mvf)), (a_my, .inl (k_my, 3000, .inl myf))] sz) q := fun q h => Or.inr (hsz ▸ h)
  have hS : va_S (va_A [(a_m, .inr (5, [.int mcd, .int mw, .int mh, .int mwd, .ref a_mp, .ref a_ml, .int mth, .ref a_mc, .ref a_mb, .int mkn, .int mst, .ref a_mg, .ref a_mq, .int mus, .ref a_mo, .ref a_me, .int mcu, .ref a_mv, .ref a_my])), (a_mp, .inl (k_mp, 676, .inl mpf)), (a_ml, .inl (k_ml, 676, .inl mlf)), (a_mc, .inl (k_mc, 676, .inl mcf)), (a_mb, .inl (k_mb, 676, .inl mbf)), (a_mg, .inl (k_mg, 3000, .inl mgf)), (a_mq, .inl (k_mq, 9000, .inl mqf)), (a_mo, .inl (k_mo, 5408, .inl mof)), (a_me, .inl (k_me, 676, .inl mef)), (a_mv, .inl (k_mv, 3000, .inl mvf)), (a_my, .inl (k_my, 3000, .inl myf))] sz) s.heap s.heap [] := va_S.rf
  have hl := lv_entry [.ref a_m] (n := 3) (Nat.le_of_ble_eq_true rfl)
  rw [lg_entry_eq]
  generalize (lg_sl [.ref a_m] ++ List.replicate (3 - (lg_sl [.ref a_m]).length) Slot.unset).toArray = ls at hl ⊢
  have hl : lv_has ls 3 [(0, .ref a_m)] := hl
  rw [f_M_thin] at hF
  rw [z_M_thin] at hZ
  have hgo : ∀ (H : Heap) (locs : List Loc), va_P D vwCl [(a_m, .inr (5, [.int mcd, .int mw, .int mh, .int mwd, .ref a_mp, .ref a_ml, .int mth, .ref a_mc, .ref a_mb, .int mkn, .int mst, .ref a_mg, .ref a_mq, .int mus, .ref a_mo, .ref a_me, .int mcu, .ref a_mv, .ref a_my])), (a_mp, .inl (k_mp, 676, .inl mpf)), (a_ml, .inl (k_ml, 676, .inl mlf)), (a_mc, .inl (k_mc, 676, .inl mcf)), (a_mb, .inl (k_mb, 676, .inl mbf)), (a_mg, .inl (k_mg, 3000, .inl mgf)), (a_mq, .inl (k_mq, 9000, .inl mqf)), (a_mo, .inl (k_mo, 5408, .inl mof)), (a_me, .inl (k_me, 676, .inl mef)), (a_mv, .inl (k_mv, 3000, .inl mvf)), (a_my, .inl (k_my, 3000, .inl myf))] H → va_D (va_A [(a_m, .inr (5, [.int mcd, .int mw, .int mh, .int mwd, .ref a_mp, .ref a_ml, .int mth, .ref a_mc, .ref a_mb, .int mkn, .int mst, .ref a_mg, .ref a_mq, .int mus, .ref a_mo, .ref a_me, .int mcu, .ref a_mv, .ref a_my])), (a_mp, .inl (k_mp, 676, .inl mpf)), (a_ml, .inl (k_ml, 676, .inl mlf)), (a_mc, .inl (k_mc, 676, .inl mcf)), (a_mb, .inl (k_mb, 676, .inl mbf)), (a_mg, .inl (k_mg, 3000, .inl mgf)), (a_mq, .inl (k_mq, 9000, .inl mqf)), (a_mo, .inl (k_mo, 5408, .inl mof)), (a_me, .inl (k_me, 676, .inl mef)), (a_mv, .inl (k_mv, 3000, .inl mvf)), (a_my, .inl (k_my, 3000, .inl myf))] sz) [(a_m, .inr (5, [.int mcd, .int mw, .int mh, .int mwd, .ref a_mp, .ref a_ml, .int mth, .ref a_mc, .ref a_mb, .int mkn, .int mst, .ref a_mg, .ref a_mq, .int mus, .ref a_mo, .ref a_me, .int mcu, .ref a_mv, .ref a_my])), (a_mp, .inl (k_mp, 676, .inl mpf)), (a_ml, .inl (k_ml, 676, .inl mlf)), (a_mc, .inl (k_mc, 676, .inl mcf)), (a_mb, .inl (k_mb, 676, .inl mbf)), (a_mg, .inl (k_mg, 3000, .inl mgf)), (a_mq, .inl (k_mq, 9000, .inl mqf)), (a_mo, .inl (k_mo, 5408, .inl mof)), (a_me, .inl (k_me, 676, .inl mef)), (a_mv, .inl (k_mv, 3000, .inl mvf)), (a_my, .inl (k_my, 3000, .inl myf))] → va_S (va_A [(a_m, .inr (5, [.int mcd, .int mw, .int mh, .int mwd, .ref a_mp, .ref a_ml, .int mth, .ref a_mc, .ref a_mb, .int mkn, .int mst, .ref a_mg, .ref a_mq, .int mus, .ref a_mo, .ref a_me, .int mcu, .ref a_mv, .ref a_my])), (a_mp, .inl (k_mp, 676, .inl mpf)), (a_ml, .inl (k_ml, 676, .inl mlf)), (a_mc, .inl (k_mc, 676, .inl mcf)), (a_mb, .inl (k_mb, 676, .inl mbf)), (a_mg, .inl (k_mg, 3000, .inl mgf)), (a_mq, .inl (k_mq, 9000, .inl mqf)), (a_mo, .inl (k_mo, 5408, .inl mof)), (a_me, .inl (k_me, 676, .inl mef)), (a_mv, .inl (k_mv, 3000, .inl mvf)), (a_my, .inl (k_my, 3000, .inl myf))] sz) s.heap H locs → W p l e { frames := 5, cells := 0, slots := 0, locals := 114 } s m (List.toArray [.ref a_m]) below meth c H locs 0 0 (MQ below (va_Qi (fun (r : Int32) (u : Int32 × (Nat → Int32) × (Nat → Int32) × Int32 × Int32) => F = (r, u)) (fun (u : Int32 × (Nat → Int32) × (Nat → Int32) × Int32 × Int32) (t : State) => va_P D vwCl [(a_m, .inr (5, [.int u.1, .int mw, .int mh, .int mwd, .ref a_mp, .ref a_ml, .int u.2.2.2.1, .ref a_mc, .ref a_mb, .int u.2.2.2.2, .int mst, .ref a_mg, .ref a_mq, .int mus, .ref a_mo, .ref a_me, .int mcu, .ref a_mv, .ref a_my])), (a_mp, .inl (k_mp, 676, .inl mpf)), (a_ml, .inl (k_ml, 676, .inl u.2.1)), (a_mc, .inl (k_mc, 676, .inl u.2.2.1)), (a_mb, .inl (k_mb, 676, .inl mbf)), (a_mg, .inl (k_mg, 3000, .inl mgf)), (a_mq, .inl (k_mq, 9000, .inl mqf)), (a_mo, .inl (k_mo, 5408, .inl mof)), (a_me, .inl (k_me, 676, .inl mef)), (a_mv, .inl (k_mv, 3000, .inl mvf)), (a_my, .inl (k_my, 3000, .inl myf))] t.heap ∧ va_K D vwCl [(k_mp, .boolean), (k_ml, .boolean), (k_mc, .boolean), (k_mb, .int), (k_mg, .int), (k_mq, .int), (k_mo, .boolean), (k_me, .boolean), (k_mv, .int), (k_my, .int)] t ∧ va_D (va_A [(a_m, .inr (5, [.int mcd, .int mw, .int mh, .int mwd, .ref a_mp, .ref a_ml, .int mth, .ref a_mc, .ref a_mb, .int mkn, .int mst, .ref a_mg, .ref a_mq, .int mus, .ref a_mo, .ref a_me, .int mcu, .ref a_mv, .ref a_my])), (a_mp, .inl (k_mp, 676, .inl mpf)), (a_ml, .inl (k_ml, 676, .inl mlf)), (a_mc, .inl (k_mc, 676, .inl mcf)), (a_mb, .inl (k_mb, 676, .inl mbf)), (a_mg, .inl (k_mg, 3000, .inl mgf)), (a_mq, .inl (k_mq, 9000, .inl mqf)), (a_mo, .inl (k_mo, 5408, .inl mof)), (a_me, .inl (k_me, 676, .inl mef)), (a_mv, .inl (k_mv, 3000, .inl mvf)), (a_my, .inl (k_my, 3000, .inl myf))] sz) [(a_m, .inr (5, [.int u.1, .int mw, .int mh, .int mwd, .ref a_mp, .ref a_ml, .int u.2.2.2.1, .ref a_mc, .ref a_mb, .int u.2.2.2.2, .int mst, .ref a_mg, .ref a_mq, .int mus, .ref a_mo, .ref a_me, .int mcu, .ref a_mv, .ref a_my])), (a_mp, .inl (k_mp, 676, .inl mpf)), (a_ml, .inl (k_ml, 676, .inl u.2.1)), (a_mc, .inl (k_mc, 676, .inl u.2.2.1)), (a_mb, .inl (k_mb, 676, .inl mbf)), (a_mg, .inl (k_mg, 3000, .inl mgf)), (a_mq, .inl (k_mq, 9000, .inl mqf)), (a_mo, .inl (k_mo, 5408, .inl mof)), (a_me, .inl (k_me, 676, .inl mef)), (a_mv, .inl (k_mv, 3000, .inl mvf)), (a_my, .inl (k_my, 3000, .inl myf))]) (va_A [(a_m, .inr (5, [.int mcd, .int mw, .int mh, .int mwd, .ref a_mp, .ref a_ml, .int mth, .ref a_mc, .ref a_mb, .int mkn, .int mst, .ref a_mg, .ref a_mq, .int mus, .ref a_mo, .ref a_me, .int mcu, .ref a_mv, .ref a_my])), (a_mp, .inl (k_mp, 676, .inl mpf)), (a_ml, .inl (k_ml, 676, .inl mlf)), (a_mc, .inl (k_mc, 676, .inl mcf)), (a_mb, .inl (k_mb, 676, .inl mbf)), (a_mg, .inl (k_mg, 3000, .inl mgf)), (a_mq, .inl (k_mq, 9000, .inl mqf)), (a_mo, .inl (k_mo, 5408, .inl mof)), (a_me, .inl (k_me, 676, .inl mef)), (a_mv, .inl (k_mv, 3000, .inl mvf)), (a_my, .inl (k_my, 3000, .inl myf))] sz)) (List.toArray [.ref a_m]) s 0 0 (va_A [(a_m, .inr (5, [.int mcd, .int mw, .int mh, .int mwd, .ref a_mp, .ref a_ml, .int mth, .ref a_mc, .ref a_mb, .int mkn, .int mst, .ref a_mg, .ref a_mq, .int mus, .ref a_mo, .ref a_me, .int mcu, .ref a_mv, .ref a_my])), (a_mp, .inl (k_mp, 676, .inl mpf)), (a_ml, .inl (k_ml, 676, .inl mlf)), (a_mc, .inl (k_mc, 676, .inl mcf)), (a_mb, .inl (k_mb, 676, .inl mbf)), (a_mg, .inl (k_mg, 3000, .inl mgf)), (a_mq, .inl (k_mq, 9000, .inl mqf)), (a_mo, .inl (k_mo, 5408, .inl mof)), (a_me, .inl (k_me, 676, .inl mef)), (a_mv, .inl (k_mv, 3000, .inl mvf)), (a_my, .inl (k_my, 3000, .inl myf))] sz)) (F0 m 0 ls []) := by
    intro H locs hP hD hS
    refine lv_aload_n hx hb dX5_thin_0 rfl (lv_at hl 0 rfl) ?_
    refine lv_iconst (v := 0) hx hb dX5_thin_1 (by decide) ?_
    refine va_put (D := D) (ci := 5) (v := .int 0) (ty := .int) (C := RX5) (T := TX5) (N := 19) hx hb hta inX5 tyX5 tyX5_ok nmX5 hown hK hP hD hS 0 rfl rfl 0 (by decide) (hta _ gw_608) (fun _ h9 => h9) rfl (by decide +kernel) rfl rfl (Nat.le_of_ble_eq_true rfl) dX5_thin_2 (fun H locs hP hD hS => ?_)
    have hP : va_P D vwCl [(a_m, .inr (5, [.int 0, .int mw, .int mh, .int mwd, .ref a_mp, .ref a_ml, .int mth, .ref a_mc, .ref a_mb, .int mkn, .int mst, .ref a_mg, .ref a_mq, .int mus, .ref a_mo, .ref a_me, .int mcu, .ref a_mv, .ref a_my])), (a_mp, .inl (k_mp, 676, .inl mpf)), (a_ml, .inl (k_ml, 676, .inl mlf)), (a_mc, .inl (k_mc, 676, .inl mcf)), (a_mb, .inl (k_mb, 676, .inl mbf)), (a_mg, .inl (k_mg, 3000, .inl mgf)), (a_mq, .inl (k_mq, 9000, .inl mqf)), (a_mo, .inl (k_mo, 5408, .inl mof)), (a_me, .inl (k_me, 676, .inl mef)), (a_mv, .inl (k_mv, 3000, .inl mvf)), (a_my, .inl (k_my, 3000, .inl myf))] H := hP
    have hD : va_D (va_A [(a_m, .inr (5, [.int mcd, .int mw, .int mh, .int mwd, .ref a_mp, .ref a_ml, .int mth, .ref a_mc, .ref a_mb, .int mkn, .int mst, .ref a_mg, .ref a_mq, .int mus, .ref a_mo, .ref a_me, .int mcu, .ref a_mv, .ref a_my])), (a_mp, .inl (k_mp, 676, .inl mpf)), (a_ml, .inl (k_ml, 676, .inl mlf)), (a_mc, .inl (k_mc, 676, .inl mcf)), (a_mb, .inl (k_mb, 676, .inl mbf)), (a_mg, .inl (k_mg, 3000, .inl mgf)), (a_mq, .inl (k_mq, 9000, .inl mqf)), (a_mo, .inl (k_mo, 5408, .inl mof)), (a_me, .inl (k_me, 676, .inl mef)), (a_mv, .inl (k_mv, 3000, .inl mvf)), (a_my, .inl (k_my, 3000, .inl myf))] sz) [(a_m, .inr (5, [.int 0, .int mw, .int mh, .int mwd, .ref a_mp, .ref a_ml, .int mth, .ref a_mc, .ref a_mb, .int mkn, .int mst, .ref a_mg, .ref a_mq, .int mus, .ref a_mo, .ref a_me, .int mcu, .ref a_mv, .ref a_my])), (a_mp, .inl (k_mp, 676, .inl mpf)), (a_ml, .inl (k_ml, 676, .inl mlf)), (a_mc, .inl (k_mc, 676, .inl mcf)), (a_mb, .inl (k_mb, 676, .inl mbf)), (a_mg, .inl (k_mg, 3000, .inl mgf)), (a_mq, .inl (k_mq, 9000, .inl mqf)), (a_mo, .inl (k_mo, 5408, .inl mof)), (a_me, .inl (k_me, 676, .inl mef)), (a_mv, .inl (k_mv, 3000, .inl mvf)), (a_my, .inl (k_my, 3000, .inl myf))] := hD
    refine lv_iconst (v := 0) hx hb dX5_thin_5 (by decide) ?_
    refine lv_istore_n (lv' := [(1, .int 0), (0, .ref a_m)]) hx hb dX5_thin_6 rfl hl (by decide) rfl (fun ls hl => ?_)
    refine lv_iconst (v := 1) hx hb dX5_thin_7 (by decide) ?_
    refine lv_istore_n (lv' := [(2, .int 1), (1, .int 0), (0, .ref a_m)]) hx hb dX5_thin_8 rfl hl (by decide) rfl (fun ls hl => ?_)
    have af9 : ∀ (v2_9 : Int32) (v1_9 : Int32) (f2_9 : Nat → Int32) (f3_9 : Nat → Int32) (H : Heap) (locs : List Loc) (ls : Array Slot), f_M_thin_k9  (v2_9, v1_9, f2_9, f3_9) = F → f_M_thin_k9_z  (v2_9, v1_9, f2_9, f3_9) → va_P D vwCl [(a_m, .inr (5, [.int 0, .int mw, .int mh, .int mwd, .ref a_mp, .ref a_ml, .int mth, .ref a_mc, .ref a_mb, .int mkn, .int mst, .ref a_mg, .ref a_mq, .int mus, .ref a_mo, .ref a_me, .int mcu, .ref a_mv, .ref a_my])), (a_mp, .inl (k_mp, 676, .inl mpf)), (a_ml, .inl (k_ml, 676, .inl f2_9)), (a_mc, .inl (k_mc, 676, .inl f3_9)), (a_mb, .inl (k_mb, 676, .inl mbf)), (a_mg, .inl (k_mg, 3000, .inl mgf)), (a_mq, .inl (k_mq, 9000, .inl mqf)), (a_mo, .inl (k_mo, 5408, .inl mof)), (a_me, .inl (k_me, 676, .inl mef)), (a_mv, .inl (k_mv, 3000, .inl mvf)), (a_my, .inl (k_my, 3000, .inl myf))] H → va_D (va_A [(a_m, .inr (5, [.int mcd, .int mw, .int mh, .int mwd, .ref a_mp, .ref a_ml, .int mth, .ref a_mc, .ref a_mb, .int mkn, .int mst, .ref a_mg, .ref a_mq, .int mus, .ref a_mo, .ref a_me, .int mcu, .ref a_mv, .ref a_my])), (a_mp, .inl (k_mp, 676, .inl mpf)), (a_ml, .inl (k_ml, 676, .inl mlf)), (a_mc, .inl (k_mc, 676, .inl mcf)), (a_mb, .inl (k_mb, 676, .inl mbf)), (a_mg, .inl (k_mg, 3000, .inl mgf)), (a_mq, .inl (k_mq, 9000, .inl mqf)), (a_mo, .inl (k_mo, 5408, .inl mof)), (a_me, .inl (k_me, 676, .inl mef)), (a_mv, .inl (k_mv, 3000, .inl mvf)), (a_my, .inl (k_my, 3000, .inl myf))] sz) [(a_m, .inr (5, [.int 0, .int mw, .int mh, .int mwd, .ref a_mp, .ref a_ml, .int mth, .ref a_mc, .ref a_mb, .int mkn, .int mst, .ref a_mg, .ref a_mq, .int mus, .ref a_mo, .ref a_me, .int mcu, .ref a_mv, .ref a_my])), (a_mp, .inl (k_mp, 676, .inl mpf)), (a_ml, .inl (k_ml, 676, .inl f2_9)), (a_mc, .inl (k_mc, 676, .inl f3_9)), (a_mb, .inl (k_mb, 676, .inl mbf)), (a_mg, .inl (k_mg, 3000, .inl mgf)), (a_mq, .inl (k_mq, 9000, .inl mqf)), (a_mo, .inl (k_mo, 5408, .inl mof)), (a_me, .inl (k_me, 676, .inl mef)), (a_mv, .inl (k_mv, 3000, .inl mvf)), (a_my, .inl (k_my, 3000, .inl myf))] → va_S (va_A [(a_m, .inr (5, [.int mcd, .int mw, .int mh, .int mwd, .ref a_mp, .ref a_ml, .int mth, .ref a_mc, .ref a_mb, .int mkn, .int mst, .ref a_mg, .ref a_mq, .int mus, .ref a_mo, .ref a_me, .int mcu, .ref a_mv, .ref a_my])), (a_mp, .inl (k_mp, 676, .inl mpf)), (a_ml, .inl (k_ml, 676, .inl mlf)), (a_mc, .inl (k_mc, 676, .inl mcf)), (a_mb, .inl (k_mb, 676, .inl mbf)), (a_mg, .inl (k_mg, 3000, .inl mgf)), (a_mq, .inl (k_mq, 9000, .inl mqf)), (a_mo, .inl (k_mo, 5408, .inl mof)), (a_me, .inl (k_me, 676, .inl mef)), (a_mv, .inl (k_mv, 3000, .inl mvf)), (a_my, .inl (k_my, 3000, .inl myf))] sz) s.heap H locs → lv_has ls 3 [(2, .int v2_9), (1, .int v1_9), (0, .ref a_m)] → W p l e { frames := 5, cells := 0, slots := 0, locals := 114 } s m (List.toArray [.ref a_m]) below meth c H locs 0 0 (MQ below (va_Qi (fun (r : Int32) (u : Int32 × (Nat → Int32) × (Nat → Int32) × Int32 × Int32) => F = (r, u)) (fun (u : Int32 × (Nat → Int32) × (Nat → Int32) × Int32 × Int32) (t : State) => va_P D vwCl [(a_m, .inr (5, [.int u.1, .int mw, .int mh, .int mwd, .ref a_mp, .ref a_ml, .int u.2.2.2.1, .ref a_mc, .ref a_mb, .int u.2.2.2.2, .int mst, .ref a_mg, .ref a_mq, .int mus, .ref a_mo, .ref a_me, .int mcu, .ref a_mv, .ref a_my])), (a_mp, .inl (k_mp, 676, .inl mpf)), (a_ml, .inl (k_ml, 676, .inl u.2.1)), (a_mc, .inl (k_mc, 676, .inl u.2.2.1)), (a_mb, .inl (k_mb, 676, .inl mbf)), (a_mg, .inl (k_mg, 3000, .inl mgf)), (a_mq, .inl (k_mq, 9000, .inl mqf)), (a_mo, .inl (k_mo, 5408, .inl mof)), (a_me, .inl (k_me, 676, .inl mef)), (a_mv, .inl (k_mv, 3000, .inl mvf)), (a_my, .inl (k_my, 3000, .inl myf))] t.heap ∧ va_K D vwCl [(k_mp, .boolean), (k_ml, .boolean), (k_mc, .boolean), (k_mb, .int), (k_mg, .int), (k_mq, .int), (k_mo, .boolean), (k_me, .boolean), (k_mv, .int), (k_my, .int)] t ∧ va_D (va_A [(a_m, .inr (5, [.int mcd, .int mw, .int mh, .int mwd, .ref a_mp, .ref a_ml, .int mth, .ref a_mc, .ref a_mb, .int mkn, .int mst, .ref a_mg, .ref a_mq, .int mus, .ref a_mo, .ref a_me, .int mcu, .ref a_mv, .ref a_my])), (a_mp, .inl (k_mp, 676, .inl mpf)), (a_ml, .inl (k_ml, 676, .inl mlf)), (a_mc, .inl (k_mc, 676, .inl mcf)), (a_mb, .inl (k_mb, 676, .inl mbf)), (a_mg, .inl (k_mg, 3000, .inl mgf)), (a_mq, .inl (k_mq, 9000, .inl mqf)), (a_mo, .inl (k_mo, 5408, .inl mof)), (a_me, .inl (k_me, 676, .inl mef)), (a_mv, .inl (k_mv, 3000, .inl mvf)), (a_my, .inl (k_my, 3000, .inl myf))] sz) [(a_m, .inr (5, [.int u.1, .int mw, .int mh, .int mwd, .ref a_mp, .ref a_ml, .int u.2.2.2.1, .ref a_mc, .ref a_mb, .int u.2.2.2.2, .int mst, .ref a_mg, .ref a_mq, .int mus, .ref a_mo, .ref a_me, .int mcu, .ref a_mv, .ref a_my])), (a_mp, .inl (k_mp, 676, .inl mpf)), (a_ml, .inl (k_ml, 676, .inl u.2.1)), (a_mc, .inl (k_mc, 676, .inl u.2.2.1)), (a_mb, .inl (k_mb, 676, .inl mbf)), (a_mg, .inl (k_mg, 3000, .inl mgf)), (a_mq, .inl (k_mq, 9000, .inl mqf)), (a_mo, .inl (k_mo, 5408, .inl mof)), (a_me, .inl (k_me, 676, .inl mef)), (a_mv, .inl (k_mv, 3000, .inl mvf)), (a_my, .inl (k_my, 3000, .inl myf))]) (va_A [(a_m, .inr (5, [.int mcd, .int mw, .int mh, .int mwd, .ref a_mp, .ref a_ml, .int mth, .ref a_mc, .ref a_mb, .int mkn, .int mst, .ref a_mg, .ref a_mq, .int mus, .ref a_mo, .ref a_me, .int mcu, .ref a_mv, .ref a_my])), (a_mp, .inl (k_mp, 676, .inl mpf)), (a_ml, .inl (k_ml, 676, .inl mlf)), (a_mc, .inl (k_mc, 676, .inl mcf)), (a_mb, .inl (k_mb, 676, .inl mbf)), (a_mg, .inl (k_mg, 3000, .inl mgf)), (a_mq, .inl (k_mq, 9000, .inl mqf)), (a_mo, .inl (k_mo, 5408, .inl mof)), (a_me, .inl (k_me, 676, .inl mef)), (a_mv, .inl (k_mv, 3000, .inl mvf)), (a_my, .inl (k_my, 3000, .inl myf))] sz)) (List.toArray [.ref a_m]) s 0 0 (va_A [(a_m, .inr (5, [.int mcd, .int mw, .int mh, .int mwd, .ref a_mp, .ref a_ml, .int mth, .ref a_mc, .ref a_mb, .int mkn, .int mst, .ref a_mg, .ref a_mq, .int mus, .ref a_mo, .ref a_me, .int mcu, .ref a_mv, .ref a_my])), (a_mp, .inl (k_mp, 676, .inl mpf)), (a_ml, .inl (k_ml, 676, .inl mlf)), (a_mc, .inl (k_mc, 676, .inl mcf)), (a_mb, .inl (k_mb, 676, .inl mbf)), (a_mg, .inl (k_mg, 3000, .inl mgf)), (a_mq, .inl (k_mq, 9000, .inl mqf)), (a_mo, .inl (k_mo, 5408, .inl mof)), (a_me, .inl (k_me, 676, .inl mef)), (a_mv, .inl (k_mv, 3000, .inl mvf)), (a_my, .inl (k_my, 3000, .inl myf))] sz)) (F0 m 45 ls []) := by
      intro v2_9 v1_9 f2_9 f3_9 H locs ls hF hZ hP hD hS hl
      rw [f_M_thin_k9] at hF
      rw [f_M_thin_k9_z] at hZ
      refine lv_aload_n hx hb dX5_thin_45 rfl (lv_at hl 2 rfl) ?_
      refine lv_iconst (v := 1) hx hb dX5_thin_46 (by decide) ?_
      refine va_put (D := D) (ci := 5) (v := .int 1) (ty := .boolean) (C := RX5) (T := TX5) (N := 19) hx hb hta inX5 tyX5 tyX5_ok nmX5 hown hK hP hD hS 0 rfl rfl 6 (by decide) (hta _ gw_614) (fun _ h9 => h9) rfl (by decide +kernel) rfl rfl (Nat.le_of_ble_eq_true rfl) dX5_thin_47 (fun H locs hP hD hS => ?_)
      have hP : va_P D vwCl [(a_m, .inr (5, [.int 0, .int mw, .int mh, .int mwd, .ref a_mp, .ref a_ml, .int 1, .ref a_mc, .ref a_mb, .int mkn, .int mst, .ref a_mg, .ref a_mq, .int mus, .ref a_mo, .ref a_me, .int mcu, .ref a_mv, .ref a_my])), (a_mp, .inl (k_mp, 676, .inl mpf)), (a_ml, .inl (k_ml, 676, .inl f2_9)), (a_mc, .inl (k_mc, 676, .inl f3_9)), (a_mb, .inl (k_mb, 676, .inl mbf)), (a_mg, .inl (k_mg, 3000, .inl mgf)), (a_mq, .inl (k_mq, 9000, .inl mqf)), (a_mo, .inl (k_mo, 5408, .inl mof)), (a_me, .inl (k_me, 676, .inl mef)), (a_mv, .inl (k_mv, 3000, .inl mvf)), (a_my, .inl (k_my, 3000, .inl myf))] H := hP
      have hD : va_D (va_A [(a_m, .inr (5, [.int mcd, .int mw, .int mh, .int mwd, .ref a_mp, .ref a_ml, .int mth, .ref a_mc, .ref a_mb, .int mkn, .int mst, .ref a_mg, .ref a_mq, .int mus, .ref a_mo, .ref a_me, .int mcu, .ref a_mv, .ref a_my])), (a_mp, .inl (k_mp, 676, .inl mpf)), (a_ml, .inl (k_ml, 676, .inl mlf)), (a_mc, .inl (k_mc, 676, .inl mcf)), (a_mb, .inl (k_mb, 676, .inl mbf)), (a_mg, .inl (k_mg, 3000, .inl mgf)), (a_mq, .inl (k_mq, 9000, .inl mqf)), (a_mo, .inl (k_mo, 5408, .inl mof)), (a_me, .inl (k_me, 676, .inl mef)), (a_mv, .inl (k_mv, 3000, .inl mvf)), (a_my, .inl (k_my, 3000, .inl myf))] sz) [(a_m, .inr (5, [.int 0, .int mw, .int mh, .int mwd, .ref a_mp, .ref a_ml, .int 1, .ref a_mc, .ref a_mb, .int mkn, .int mst, .ref a_mg, .ref a_mq, .int mus, .ref a_mo, .ref a_me, .int mcu, .ref a_mv, .ref a_my])), (a_mp, .inl (k_mp, 676, .inl mpf)), (a_ml, .inl (k_ml, 676, .inl f2_9)), (a_mc, .inl (k_mc, 676, .inl f3_9)), (a_mb, .inl (k_mb, 676, .inl mbf)), (a_mg, .inl (k_mg, 3000, .inl mgf)), (a_mq, .inl (k_mq, 9000, .inl mqf)), (a_mo, .inl (k_mo, 5408, .inl mof)), (a_me, .inl (k_me, 676, .inl mef)), (a_mv, .inl (k_mv, 3000, .inl mvf)), (a_my, .inl (k_my, 3000, .inl myf))] := hD
      refine lv_aload_n hx hb dX5_thin_50 rfl (lv_at hl 2 rfl) ?_
      refine lv_iconst (v := 0) hx hb dX5_thin_51 (by decide) ?_
      refine va_put (D := D) (ci := 5) (v := .int 0) (ty := .boolean) (C := RX5) (T := TX5) (N := 19) hx hb hta inX5 tyX5 tyX5_ok nmX5 hown hK hP hD hS 0 rfl rfl 9 (by decide) (hta _ gw_617) (fun _ h9 => h9) rfl (by decide +kernel) rfl rfl (Nat.le_of_ble_eq_true rfl) dX5_thin_52 (fun H locs hP hD hS => ?_)
      have hP : va_P D vwCl [(a_m, .inr (5, [.int 0, .int mw, .int mh, .int mwd, .ref a_mp, .ref a_ml, .int 1, .ref a_mc, .ref a_mb, .int 0, .int mst, .ref a_mg, .ref a_mq, .int mus, .ref a_mo, .ref a_me, .int mcu, .ref a_mv, .ref a_my])), (a_mp, .inl (k_mp, 676, .inl mpf)), (a_ml, .inl (k_ml, 676, .inl f2_9)), (a_mc, .inl (k_mc, 676, .inl f3_9)), (a_mb, .inl (k_mb, 676, .inl mbf)), (a_mg, .inl (k_mg, 3000, .inl mgf)), (a_mq, .inl (k_mq, 9000, .inl mqf)), (a_mo, .inl (k_mo, 5408, .inl mof)), (a_me, .inl (k_me, 676, .inl mef)), (a_mv, .inl (k_mv, 3000, .inl mvf)), (a_my, .inl (k_my, 3000, .inl myf))] H := hP
      have hD : va_D (va_A [(a_m, .inr (5, [.int mcd, .int mw, .int mh, .int mwd, .ref a_mp, .ref a_ml, .int mth, .ref a_mc, .ref a_mb, .int mkn, .int mst, .ref a_mg, .ref a_mq, .int mus, .ref a_mo, .ref a_me, .int mcu, .ref a_mv, .ref a_my])), (a_mp, .inl (k_mp, 676, .inl mpf)), (a_ml, .inl (k_ml, 676, .inl mlf)), (a_mc, .inl (k_mc, 676, .inl mcf)), (a_mb, .inl (k_mb, 676, .inl mbf)), (a_mg, .inl (k_mg, 3000, .inl mgf)), (a_mq, .inl (k_mq, 9000, .inl mqf)), (a_mo, .inl (k_mo, 5408, .inl mof)), (a_me, .inl (k_me, 676, .inl mef)), (a_mv, .inl (k_mv, 3000, .inl mvf)), (a_my, .inl (k_my, 3000, .inl myf))] sz) [(a_m, .inr (5, [.int 0, .int mw, .int mh, .int mwd, .ref a_mp, .ref a_ml, .int 1, .ref a_mc, .ref a_mb, .int 0, .int mst, .ref a_mg, .ref a_mq, .int mus, .ref a_mo, .ref a_me, .int mcu, .ref a_mv, .ref a_my])), (a_mp, .inl (k_mp, 676, .inl mpf)), (a_ml, .inl (k_ml, 676, .inl f2_9)), (a_mc, .inl (k_mc, 676, .inl f3_9)), (a_mb, .inl (k_mb, 676, .inl mbf)), (a_mg, .inl (k_mg, 3000, .inl mgf)), (a_mq, .inl (k_mq, 9000, .inl mqf)), (a_mo, .inl (k_mo, 5408, .inl mof)), (a_me, .inl (k_me, 676, .inl mef)), (a_mv, .inl (k_mv, 3000, .inl mvf)), (a_my, .inl (k_my, 3000, .inl myf))] := hD
      refine lv_iload_n hx hb dX5_thin_55 rfl (lv_at hl 1 rfl) ?_
      exact W.iret (v := v1_9) hx hb hr (fun t ht hW => ⟨⟨v1_9, (0, f2_9, f3_9, 1, 0), rfl, hF.symm, by rw [ht]; exact hP, va_K.moved hW.alike hK, hD⟩, hS.F ht⟩) hS.2.2 dX5_thin_56
    have lp9 : ∀ (n9 : Nat) (v2_9 : Int32) (v1_9 : Int32) (f2_9 : Nat → Int32) (f3_9 : Nat → Int32) (H : Heap) (locs : List Loc) (ls : Array Slot), f_M_thin_k9  (f_M_thin_L9 mh mwd n9 (v2_9, v1_9, f2_9, f3_9)) = F → f_M_thin_k9_z  (f_M_thin_L9 mh mwd n9 (v2_9, v1_9, f2_9, f3_9)) → f_M_thin_L9_z mh mwd n9 (v2_9, v1_9, f2_9, f3_9) → va_P D vwCl [(a_m, .inr (5, [.int 0, .int mw, .int mh, .int mwd, .ref a_mp, .ref a_ml, .int mth, .ref a_mc, .ref a_mb, .int mkn, .int mst, .ref a_mg, .ref a_mq, .int mus, .ref a_mo, .ref a_me, .int mcu, .ref a_mv, .ref a_my])), (a_mp, .inl (k_mp, 676, .inl mpf)), (a_ml, .inl (k_ml, 676, .inl f2_9)), (a_mc, .inl (k_mc, 676, .inl f3_9)), (a_mb, .inl (k_mb, 676, .inl mbf)), (a_mg, .inl (k_mg, 3000, .inl mgf)), (a_mq, .inl (k_mq, 9000, .inl mqf)), (a_mo, .inl (k_mo, 5408, .inl mof)), (a_me, .inl (k_me, 676, .inl mef)), (a_mv, .inl (k_mv, 3000, .inl mvf)), (a_my, .inl (k_my, 3000, .inl myf))] H → va_D (va_A [(a_m, .inr (5, [.int mcd, .int mw, .int mh, .int mwd, .ref a_mp, .ref a_ml, .int mth, .ref a_mc, .ref a_mb, .int mkn, .int mst, .ref a_mg, .ref a_mq, .int mus, .ref a_mo, .ref a_me, .int mcu, .ref a_mv, .ref a_my])), (a_mp, .inl (k_mp, 676, .inl mpf)), (a_ml, .inl (k_ml, 676, .inl mlf)), (a_mc, .inl (k_mc, 676, .inl mcf)), (a_mb, .inl (k_mb, 676, .inl mbf)), (a_mg, .inl (k_mg, 3000, .inl mgf)), (a_mq, .inl (k_mq, 9000, .inl mqf)), (a_mo, .inl (k_mo, 5408, .inl mof)), (a_me, .inl (k_me, 676, .inl mef)), (a_mv, .inl (k_mv, 3000, .inl mvf)), (a_my, .inl (k_my, 3000, .inl myf))] sz) [(a_m, .inr (5, [.int 0, .int mw, .int mh, .int mwd, .ref a_mp, .ref a_ml, .int mth, .ref a_mc, .ref a_mb, .int mkn, .int mst, .ref a_mg, .ref a_mq, .int mus, .ref a_mo, .ref a_me, .int mcu, .ref a_mv, .ref a_my])), (a_mp, .inl (k_mp, 676, .inl mpf)), (a_ml, .inl (k_ml, 676, .inl f2_9)), (a_mc, .inl (k_mc, 676, .inl f3_9)), (a_mb, .inl (k_mb, 676, .inl mbf)), (a_mg, .inl (k_mg, 3000, .inl mgf)), (a_mq, .inl (k_mq, 9000, .inl mqf)), (a_mo, .inl (k_mo, 5408, .inl mof)), (a_me, .inl (k_me, 676, .inl mef)), (a_mv, .inl (k_mv, 3000, .inl mvf)), (a_my, .inl (k_my, 3000, .inl myf))] → va_S (va_A [(a_m, .inr (5, [.int mcd, .int mw, .int mh, .int mwd, .ref a_mp, .ref a_ml, .int mth, .ref a_mc, .ref a_mb, .int mkn, .int mst, .ref a_mg, .ref a_mq, .int mus, .ref a_mo, .ref a_me, .int mcu, .ref a_mv, .ref a_my])), (a_mp, .inl (k_mp, 676, .inl mpf)), (a_ml, .inl (k_ml, 676, .inl mlf)), (a_mc, .inl (k_mc, 676, .inl mcf)), (a_mb, .inl (k_mb, 676, .inl mbf)), (a_mg, .inl (k_mg, 3000, .inl mgf)), (a_mq, .inl (k_mq, 9000, .inl mqf)), (a_mo, .inl (k_mo, 5408, .inl mof)), (a_me, .inl (k_me, 676, .inl mef)), (a_mv, .inl (k_mv, 3000, .inl mvf)), (a_my, .inl (k_my, 3000, .inl myf))] sz) s.heap H locs → lv_has ls 3 [(2, .int v2_9), (1, .int v1_9), (0, .ref a_m)] → W p l e { frames := 5, cells := 0, slots := 0, locals := 114 } s m (List.toArray [.ref a_m]) below meth c H locs 0 0 (MQ below (va_Qi (fun (r : Int32) (u : Int32 × (Nat → Int32) × (Nat → Int32) × Int32 × Int32) => F = (r, u)) (fun (u : Int32 × (Nat → Int32) × (Nat → Int32) × Int32 × Int32) (t : State) => va_P D vwCl [(a_m, .inr (5, [.int u.1, .int mw, .int mh, .int mwd, .ref a_mp, .ref a_ml, .int u.2.2.2.1, .ref a_mc, .ref a_mb, .int u.2.2.2.2, .int mst, .ref a_mg, .ref a_mq, .int mus, .ref a_mo, .ref a_me, .int mcu, .ref a_mv, .ref a_my])), (a_mp, .inl (k_mp, 676, .inl mpf)), (a_ml, .inl (k_ml, 676, .inl u.2.1)), (a_mc, .inl (k_mc, 676, .inl u.2.2.1)), (a_mb, .inl (k_mb, 676, .inl mbf)), (a_mg, .inl (k_mg, 3000, .inl mgf)), (a_mq, .inl (k_mq, 9000, .inl mqf)), (a_mo, .inl (k_mo, 5408, .inl mof)), (a_me, .inl (k_me, 676, .inl mef)), (a_mv, .inl (k_mv, 3000, .inl mvf)), (a_my, .inl (k_my, 3000, .inl myf))] t.heap ∧ va_K D vwCl [(k_mp, .boolean), (k_ml, .boolean), (k_mc, .boolean), (k_mb, .int), (k_mg, .int), (k_mq, .int), (k_mo, .boolean), (k_me, .boolean), (k_mv, .int), (k_my, .int)] t ∧ va_D (va_A [(a_m, .inr (5, [.int mcd, .int mw, .int mh, .int mwd, .ref a_mp, .ref a_ml, .int mth, .ref a_mc, .ref a_mb, .int mkn, .int mst, .ref a_mg, .ref a_mq, .int mus, .ref a_mo, .ref a_me, .int mcu, .ref a_mv, .ref a_my])), (a_mp, .inl (k_mp, 676, .inl mpf)), (a_ml, .inl (k_ml, 676, .inl mlf)), (a_mc, .inl (k_mc, 676, .inl mcf)), (a_mb, .inl (k_mb, 676, .inl mbf)), (a_mg, .inl (k_mg, 3000, .inl mgf)), (a_mq, .inl (k_mq, 9000, .inl mqf)), (a_mo, .inl (k_mo, 5408, .inl mof)), (a_me, .inl (k_me, 676, .inl mef)), (a_mv, .inl (k_mv, 3000, .inl mvf)), (a_my, .inl (k_my, 3000, .inl myf))] sz) [(a_m, .inr (5, [.int u.1, .int mw, .int mh, .int mwd, .ref a_mp, .ref a_ml, .int u.2.2.2.1, .ref a_mc, .ref a_mb, .int u.2.2.2.2, .int mst, .ref a_mg, .ref a_mq, .int mus, .ref a_mo, .ref a_me, .int mcu, .ref a_mv, .ref a_my])), (a_mp, .inl (k_mp, 676, .inl mpf)), (a_ml, .inl (k_ml, 676, .inl u.2.1)), (a_mc, .inl (k_mc, 676, .inl u.2.2.1)), (a_mb, .inl (k_mb, 676, .inl mbf)), (a_mg, .inl (k_mg, 3000, .inl mgf)), (a_mq, .inl (k_mq, 9000, .inl mqf)), (a_mo, .inl (k_mo, 5408, .inl mof)), (a_me, .inl (k_me, 676, .inl mef)), (a_mv, .inl (k_mv, 3000, .inl mvf)), (a_my, .inl (k_my, 3000, .inl myf))]) (va_A [(a_m, .inr (5, [.int mcd, .int mw, .int mh, .int mwd, .ref a_mp, .ref a_ml, .int mth, .ref a_mc, .ref a_mb, .int mkn, .int mst, .ref a_mg, .ref a_mq, .int mus, .ref a_mo, .ref a_me, .int mcu, .ref a_mv, .ref a_my])), (a_mp, .inl (k_mp, 676, .inl mpf)), (a_ml, .inl (k_ml, 676, .inl mlf)), (a_mc, .inl (k_mc, 676, .inl mcf)), (a_mb, .inl (k_mb, 676, .inl mbf)), (a_mg, .inl (k_mg, 3000, .inl mgf)), (a_mq, .inl (k_mq, 9000, .inl mqf)), (a_mo, .inl (k_mo, 5408, .inl mof)), (a_me, .inl (k_me, 676, .inl mef)), (a_mv, .inl (k_mv, 3000, .inl mvf)), (a_my, .inl (k_my, 3000, .inl myf))] sz)) (List.toArray [.ref a_m]) s 0 0 (va_A [(a_m, .inr (5, [.int mcd, .int mw, .int mh, .int mwd, .ref a_mp, .ref a_ml, .int mth, .ref a_mc, .ref a_mb, .int mkn, .int mst, .ref a_mg, .ref a_mq, .int mus, .ref a_mo, .ref a_me, .int mcu, .ref a_mv, .ref a_my])), (a_mp, .inl (k_mp, 676, .inl mpf)), (a_ml, .inl (k_ml, 676, .inl mlf)), (a_mc, .inl (k_mc, 676, .inl mcf)), (a_mb, .inl (k_mb, 676, .inl mbf)), (a_mg, .inl (k_mg, 3000, .inl mgf)), (a_mq, .inl (k_mq, 9000, .inl mqf)), (a_mo, .inl (k_mo, 5408, .inl mof)), (a_me, .inl (k_me, 676, .inl mef)), (a_mv, .inl (k_mv, 3000, .inl mvf)), (a_my, .inl (k_my, 3000, .inl myf))] sz)) (F0 m 9 ls []) := by
      intro n9
      induction n9 with
      | zero => intro v2_9 v1_9 f2_9 f3_9 H locs ls hF hA9 hZ; exact hZ.elim
      | succ n9 ih9 =>
        intro v2_9 v1_9 f2_9 f3_9 H locs ls hF hA9 hZ hP hD hS hl
        rw [f_M_thin_L9] at hF hA9
        rw [f_M_thin_L9_z] at hZ
        refine lv_iload_n hx hb dX5_thin_9 rfl (lv_at hl 0 rfl) ?_
        refine lv_if_le (tgt := 45) hx hb dX5_thin_10 (by decide) (fun c10 => ?_) (fun c10 => ?_)
        · rw [if_pos c10] at hF hA9 hZ
          exact af9 v2_9 v1_9 f2_9 f3_9 _ _ ls hF hA9 hP hD hS (lv_sub hl [0, 1, 2] rfl)
        · rw [if_neg c10] at hF hA9 hZ
          refine lv_aload_n hx hb dX5_thin_13 rfl (lv_at hl 2 rfl) ?_
          refine lv_iconst (v := 0) hx hb dX5_thin_14 (by decide) ?_
          refine lv_bipush (v := 6) hx hb dX5_thin_15 (by decide) ?_
          have o1 := hZ.1
          have hZ := hZ.2
          have hPc := hP.sub (ws' := [(a_m, .inr (5, [.int 0, .int mw, .int mh, .int mwd, .ref a_mp, .ref a_ml, .int mth, .ref a_mc, .ref a_mb, .int mkn, .int mst, .ref a_mg, .ref a_mq, .int mus, .ref a_mo, .ref a_me, .int mcu, .ref a_mv, .ref a_my])), (a_mp, .inl (k_mp, 676, .inl mpf)), (a_ml, .inl (k_ml, 676, .inl f2_9)), (a_mc, .inl (k_mc, 676, .inl f3_9)), (a_mb, .inl (k_mb, 676, .inl mbf)), (a_mg, .inl (k_mg, 3000, .inl mgf)), (a_mq, .inl (k_mq, 9000, .inl mqf)), (a_mo, .inl (k_mo, 5408, .inl mof)), (a_me, .inl (k_me, 676, .inl mef)), (a_mv, .inl (k_mv, 3000, .inl mvf)), (a_my, .inl (k_my, 3000, .inl myf))]) [0, 1, 2, 3, 4, 5, 6, 7, 8, 9, 10] rfl
          have hDc := hD.sub (ws' := [(a_m, .inr (5, [.int 0, .int mw, .int mh, .int mwd, .ref a_mp, .ref a_ml, .int mth, .ref a_mc, .ref a_mb, .int mkn, .int mst, .ref a_mg, .ref a_mq, .int mus, .ref a_mo, .ref a_me, .int mcu, .ref a_mv, .ref a_my])), (a_mp, .inl (k_mp, 676, .inl mpf)), (a_ml, .inl (k_ml, 676, .inl f2_9)), (a_mc, .inl (k_mc, 676, .inl f3_9)), (a_mb, .inl (k_mb, 676, .inl mbf)), (a_mg, .inl (k_mg, 3000, .inl mgf)), (a_mq, .inl (k_mq, 9000, .inl mqf)), (a_mo, .inl (k_mo, 5408, .inl mof)), (a_me, .inl (k_me, 676, .inl mef)), (a_mv, .inl (k_mv, 3000, .inl mvf)), (a_my, .inl (k_my, 3000, .inl myf))]) [0, 1, 2, 3, 4, 5, 6, 7, 8, 9, 10] (by decide) rfl
          have hKc := hK.sub (tys' := [(k_mp, .boolean), (k_ml, .boolean), (k_mc, .boolean), (k_mb, .int), (k_mg, .int), (k_mq, .int), (k_mo, .boolean), (k_me, .boolean), (k_mv, .int), (k_my, .int)]) [0, 1, 2, 3, 4, 5, 6, 7, 8, 9] rfl
          have hFc := va_free (wc := [(a_m, .inr (5, [.int 0, .int mw, .int mh, .int mwd, .ref a_mp, .ref a_ml, .int mth, .ref a_mc, .ref a_mb, .int mkn, .int mst, .ref a_mg, .ref a_mq, .int mus, .ref a_mo, .ref a_me, .int mcu, .ref a_mv, .ref a_my])), (a_mp, .inl (k_mp, 676, .inl mpf)), (a_ml, .inl (k_ml, 676, .inl f2_9)), (a_mc, .inl (k_mc, 676, .inl f3_9)), (a_mb, .inl (k_mb, 676, .inl mbf)), (a_mg, .inl (k_mg, 3000, .inl mgf)), (a_mq, .inl (k_mq, 9000, .inl mqf)), (a_mo, .inl (k_mo, 5408, .inl mof)), (a_me, .inl (k_me, 676, .inl mef)), (a_mv, .inl (k_mv, 3000, .inl mvf)), (a_my, .inl (k_my, 3000, .inl myf))]) hD hS hA [0, 1, 2, 3, 4, 5, 6, 7, 8, 9, 10] rfl
          refine va_calli (va_runV (As := [.int 0, .int 6]) (rest := []) ⟨hx, hb, hml, hown, hts⟩ (c_M_half l D tX tY a_m a_mp k_mp a_ml k_ml a_mc k_mc a_mb k_mb a_mg k_mg a_mq k_mq a_mo k_mo a_me k_me a_mv k_mv a_my k_my 0 mw mh mwd mpf f2_9 mth f3_9 mbf mkn mst mgf mqf mus mof mef mcu mvf myf H.size 0 6 o1) (cwV 2 hts (gi_4 gi_c gw_675 gw_677 gs_X5_half gw_7 gw_678) rfl rfl rfl (by decide +kernel) ⟨Nat.le_of_ble_eq_true rfl, Nat.le_of_ble_eq_true rfl⟩) ⟨mu_blind, va_recv hKc hPc (ci := 5) (q0 := 0) rfl rfl, mu_at hPc hKc hDc hT hN hS hFc⟩ rfl rfl hl.1 rfl (lv_room (Nat.le_of_ble_eq_true rfl)) dX5_thin_17 ⟨Nat.le_of_ble_eq_true rfl, Nat.le_of_ble_eq_true rfl⟩) hS (fun q _ h => hFc q h) hFc (fun r2 u t H1 locs ht hvm hw hB hz1 hk1 hS => ?_)
          obtain ⟨g3, g4⟩ := u
          obtain ⟨hP1, hK1, hD1⟩ := hB
          rw [ht] at hP1
          obtain ⟨hP, hD⟩ := va_join (wr := []) (w1 := [(a_m, .inr (5, [.int 0, .int mw, .int mh, .int mwd, .ref a_mp, .ref a_ml, .int mth, .ref a_mc, .ref a_mb, .int mkn, .int mst, .ref a_mg, .ref a_mq, .int mus, .ref a_mo, .ref a_me, .int mcu, .ref a_mv, .ref a_my])), (a_mp, .inl (k_mp, 676, .inl mpf)), (a_ml, .inl (k_ml, 676, .inl g4)), (a_mc, .inl (k_mc, 676, .inl g3)), (a_mb, .inl (k_mb, 676, .inl mbf)), (a_mg, .inl (k_mg, 3000, .inl mgf)), (a_mq, .inl (k_mq, 9000, .inl mqf)), (a_mo, .inl (k_mo, 5408, .inl mof)), (a_me, .inl (k_me, 676, .inl mef)), (a_mv, .inl (k_mv, 3000, .inl mvf)), (a_my, .inl (k_my, 3000, .inl myf))]) hP hD [0, 1, 2, 3, 4, 5, 6, 7, 8, 9, 10] [] rfl rfl (by decide) (by decide) hk1 hFc hP1 hD1
          generalize H1 = H at hP hS ⊢
          have hP := hP.sub (ws' := [(a_m, .inr (5, [.int 0, .int mw, .int mh, .int mwd, .ref a_mp, .ref a_ml, .int mth, .ref a_mc, .ref a_mb, .int mkn, .int mst, .ref a_mg, .ref a_mq, .int mus, .ref a_mo, .ref a_me, .int mcu, .ref a_mv, .ref a_my])), (a_mp, .inl (k_mp, 676, .inl mpf)), (a_ml, .inl (k_ml, 676, .inl g4)), (a_mc, .inl (k_mc, 676, .inl g3)), (a_mb, .inl (k_mb, 676, .inl mbf)), (a_mg, .inl (k_mg, 3000, .inl mgf)), (a_mq, .inl (k_mq, 9000, .inl mqf)), (a_mo, .inl (k_mo, 5408, .inl mof)), (a_me, .inl (k_me, 676, .inl mef)), (a_mv, .inl (k_mv, 3000, .inl mvf)), (a_my, .inl (k_my, 3000, .inl myf))]) [0, 1, 2, 3, 4, 5, 6, 7, 8, 9, 10] rfl
          have hD := hD.sub (ws' := [(a_m, .inr (5, [.int 0, .int mw, .int mh, .int mwd, .ref a_mp, .ref a_ml, .int mth, .ref a_mc, .ref a_mb, .int mkn, .int mst, .ref a_mg, .ref a_mq, .int mus, .ref a_mo, .ref a_me, .int mcu, .ref a_mv, .ref a_my])), (a_mp, .inl (k_mp, 676, .inl mpf)), (a_ml, .inl (k_ml, 676, .inl g4)), (a_mc, .inl (k_mc, 676, .inl g3)), (a_mb, .inl (k_mb, 676, .inl mbf)), (a_mg, .inl (k_mg, 3000, .inl mgf)), (a_mq, .inl (k_mq, 9000, .inl mqf)), (a_mo, .inl (k_mo, 5408, .inl mof)), (a_me, .inl (k_me, 676, .inl mef)), (a_mv, .inl (k_mv, 3000, .inl mvf)), (a_my, .inl (k_my, 3000, .inl myf))]) [0, 1, 2, 3, 4, 5, 6, 7, 8, 9, 10] (by decide) rfl
          rw [hw] at hF hA9 hZ
          rw [f_M_thin_q1] at hF hA9
          rw [f_M_thin_q1_z] at hZ
          refine lv_istore_n (lv' := [(2, .int r2), (1, .int v1_9), (0, .ref a_m)]) hx hb dX5_thin_20 rfl hl (by decide) rfl (fun ls hl => ?_)
          refine lv_iload_n hx hb dX5_thin_21 rfl (lv_at hl 0 rfl) ?_
          refine lv_aload_n hx hb dX5_thin_22 rfl (lv_at hl 2 rfl) ?_
          refine lv_iconst (v := 4) hx hb dX5_thin_23 (by decide) ?_
          refine lv_iconst (v := 2) hx hb dX5_thin_24 (by decide) ?_
          have o5 := hZ.1
          have hZ := hZ.2
          have hPc := hP.sub (ws' := [(a_m, .inr (5, [.int 0, .int mw, .int mh, .int mwd, .ref a_mp, .ref a_ml, .int mth, .ref a_mc, .ref a_mb, .int mkn, .int mst, .ref a_mg, .ref a_mq, .int mus, .ref a_mo, .ref a_me, .int mcu, .ref a_mv, .ref a_my])), (a_mp, .inl (k_mp, 676, .inl mpf)), (a_ml, .inl (k_ml, 676, .inl g4)), (a_mc, .inl (k_mc, 676, .inl g3)), (a_mb, .inl (k_mb, 676, .inl mbf)), (a_mg, .inl (k_mg, 3000, .inl mgf)), (a_mq, .inl (k_mq, 9000, .inl mqf)), (a_mo, .inl (k_mo, 5408, .inl mof)), (a_me, .inl (k_me, 676, .inl mef)), (a_mv, .inl (k_mv, 3000, .inl mvf)), (a_my, .inl (k_my, 3000, .inl myf))]) [0, 1, 2, 3, 4, 5, 6, 7, 8, 9, 10] rfl
          have hDc := hD.sub (ws' := [(a_m, .inr (5, [.int 0, .int mw, .int mh, .int mwd, .ref a_mp, .ref a_ml, .int mth, .ref a_mc, .ref a_mb, .int mkn, .int mst, .ref a_mg, .ref a_mq, .int mus, .ref a_mo, .ref a_me, .int mcu, .ref a_mv, .ref a_my])), (a_mp, .inl (k_mp, 676, .inl mpf)), (a_ml, .inl (k_ml, 676, .inl g4)), (a_mc, .inl (k_mc, 676, .inl g3)), (a_mb, .inl (k_mb, 676, .inl mbf)), (a_mg, .inl (k_mg, 3000, .inl mgf)), (a_mq, .inl (k_mq, 9000, .inl mqf)), (a_mo, .inl (k_mo, 5408, .inl mof)), (a_me, .inl (k_me, 676, .inl mef)), (a_mv, .inl (k_mv, 3000, .inl mvf)), (a_my, .inl (k_my, 3000, .inl myf))]) [0, 1, 2, 3, 4, 5, 6, 7, 8, 9, 10] (by decide) rfl
          have hKc := hK.sub (tys' := [(k_mp, .boolean), (k_ml, .boolean), (k_mc, .boolean), (k_mb, .int), (k_mg, .int), (k_mq, .int), (k_mo, .boolean), (k_me, .boolean), (k_mv, .int), (k_my, .int)]) [0, 1, 2, 3, 4, 5, 6, 7, 8, 9] rfl
          have hFc := va_free (wc := [(a_m, .inr (5, [.int 0, .int mw, .int mh, .int mwd, .ref a_mp, .ref a_ml, .int mth, .ref a_mc, .ref a_mb, .int mkn, .int mst, .ref a_mg, .ref a_mq, .int mus, .ref a_mo, .ref a_me, .int mcu, .ref a_mv, .ref a_my])), (a_mp, .inl (k_mp, 676, .inl mpf)), (a_ml, .inl (k_ml, 676, .inl g4)), (a_mc, .inl (k_mc, 676, .inl g3)), (a_mb, .inl (k_mb, 676, .inl mbf)), (a_mg, .inl (k_mg, 3000, .inl mgf)), (a_mq, .inl (k_mq, 9000, .inl mqf)), (a_mo, .inl (k_mo, 5408, .inl mof)), (a_me, .inl (k_me, 676, .inl mef)), (a_mv, .inl (k_mv, 3000, .inl mvf)), (a_my, .inl (k_my, 3000, .inl myf))]) hD hS hA [0, 1, 2, 3, 4, 5, 6, 7, 8, 9, 10] rfl
          refine va_calli (va_runV (As := [.int 4, .int 2]) (rest := [.int r2]) ⟨hx, hb, hml, hown, hts⟩ (c_M_half l D tX tY a_m a_mp k_mp a_ml k_ml a_mc k_mc a_mb k_mb a_mg k_mg a_mq k_mq a_mo k_mo a_me k_me a_mv k_mv a_my k_my 0 mw mh mwd mpf g4 mth g3 mbf mkn mst mgf mqf mus mof mef mcu mvf myf H.size 4 2 o5) (cwV 2 hts (gi_4 gi_c gw_675 gw_677 gs_X5_half gw_7 gw_678) rfl rfl rfl (by decide +kernel) ⟨Nat.le_of_ble_eq_true rfl, Nat.le_of_ble_eq_true rfl⟩) ⟨mu_blind, va_recv hKc hPc (ci := 5) (q0 := 0) rfl rfl, mu_at hPc hKc hDc hT hN hS hFc⟩ rfl rfl hl.1 rfl (lv_room (Nat.le_of_ble_eq_true rfl)) dX5_thin_25 ⟨Nat.le_of_ble_eq_true rfl, Nat.le_of_ble_eq_true rfl⟩) hS (fun q _ h => hFc q h) hFc (fun r6 u t H1 locs ht hvm hw hB hz1 hk1 hS => ?_)
          obtain ⟨g7, g8⟩ := u
          obtain ⟨hP1, hK1, hD1⟩ := hB
          rw [ht] at hP1
          obtain ⟨hP, hD⟩ := va_join (wr := []) (w1 := [(a_m, .inr (5, [.int 0, .int mw, .int mh, .int mwd, .ref a_mp, .ref a_ml, .int mth, .ref a_mc, .ref a_mb, .int mkn, .int mst, .ref a_mg, .ref a_mq, .int mus, .ref a_mo, .ref a_me, .int mcu, .ref a_mv, .ref a_my])), (a_mp, .inl (k_mp, 676, .inl mpf)), (a_ml, .inl (k_ml, 676, .inl g8)), (a_mc, .inl (k_mc, 676, .inl g7)), (a_mb, .inl (k_mb, 676, .inl mbf)), (a_mg, .inl (k_mg, 3000, .inl mgf)), (a_mq, .inl (k_mq, 9000, .inl mqf)), (a_mo, .inl (k_mo, 5408, .inl mof)), (a_me, .inl (k_me, 676, .inl mef)), (a_mv, .inl (k_mv, 3000, .inl mvf)), (a_my, .inl (k_my, 3000, .inl myf))]) hP hD [0, 1, 2, 3, 4, 5, 6, 7, 8, 9, 10] [] rfl rfl (by decide) (by decide) hk1 hFc hP1 hD1
          generalize H1 = H at hP hS ⊢
          have hP := hP.sub (ws' := [(a_m, .inr (5, [.int 0, .int mw, .int mh, .int mwd, .ref a_mp, .ref a_ml, .int mth, .ref a_mc, .ref a_mb, .int mkn, .int mst, .ref a_mg, .ref a_mq, .int mus, .ref a_mo, .ref a_me, .int mcu, .ref a_mv, .ref a_my])), (a_mp, .inl (k_mp, 676, .inl mpf)), (a_ml, .inl (k_ml, 676, .inl g8)), (a_mc, .inl (k_mc, 676, .inl g7)), (a_mb, .inl (k_mb, 676, .inl mbf)), (a_mg, .inl (k_mg, 3000, .inl mgf)), (a_mq, .inl (k_mq, 9000, .inl mqf)), (a_mo, .inl (k_mo, 5408, .inl mof)), (a_me, .inl (k_me, 676, .inl mef)), (a_mv, .inl (k_mv, 3000, .inl mvf)), (a_my, .inl (k_my, 3000, .inl myf))]) [0, 1, 2, 3, 4, 5, 6, 7, 8, 9, 10] rfl
          have hD := hD.sub (ws' := [(a_m, .inr (5, [.int 0, .int mw, .int mh, .int mwd, .ref a_mp, .ref a_ml, .int mth, .ref a_mc, .ref a_mb, .int mkn, .int mst, .ref a_mg, .ref a_mq, .int mus, .ref a_mo, .ref a_me, .int mcu, .ref a_mv, .ref a_my])), (a_mp, .inl (k_mp, 676, .inl mpf)), (a_ml, .inl (k_ml, 676, .inl g8)), (a_mc, .inl (k_mc, 676, .inl g7)), (a_mb, .inl (k_mb, 676, .inl mbf)), (a_mg, .inl (k_mg, 3000, .inl mgf)), (a_mq, .inl (k_mq, 9000, .inl mqf)), (a_mo, .inl (k_mo, 5408, .inl mof)), (a_me, .inl (k_me, 676, .inl mef)), (a_mv, .inl (k_mv, 3000, .inl mvf)), (a_my, .inl (k_my, 3000, .inl myf))]) [0, 1, 2, 3, 4, 5, 6, 7, 8, 9, 10] (by decide) rfl
          rw [hw] at hF hA9 hZ
          rw [f_M_thin_q2] at hF hA9
          rw [f_M_thin_q2_z] at hZ
          refine lv_iadd hx hb dX5_thin_28 ?_
          refine lv_istore_n (lv' := [(2, .int (r2 + r6)), (1, .int v1_9), (0, .ref a_m)]) hx hb dX5_thin_29 rfl hl (by decide) rfl (fun ls hl => ?_)
          refine lv_iload_n hx hb dX5_thin_30 rfl (lv_at hl 1 rfl) ?_
          refine lv_iload_n hx hb dX5_thin_31 rfl (lv_at hl 0 rfl) ?_
          refine lv_if_le (tgt := 39) hx hb dX5_thin_32 (by decide) (fun c32 => ?_) (fun c32 => ?_)
          · rw [if_pos c32] at hF hA9 hZ
            refine lv_iconst (v := 0) hx hb dX5_thin_39 (by decide) ?_
            refine lv_iadd hx hb dX5_thin_40 ?_
            refine lv_istore_n (lv' := [(1, .int (v1_9 + 0)), (2, .int (r2 + r6)), (0, .ref a_m)]) hx hb dX5_thin_41 rfl hl (by decide) rfl (fun ls hl => ?_)
            refine lv_goto (tgt := 9) hx hb dX5_thin_42 (by decide) ?_
            exact ih9 (r2 + r6) (v1_9 + 0) g8 g7 _ _ ls hF hA9 hZ hP hD hS (lv_sub hl [1, 0, 2] rfl)
          · rw [if_neg c32] at hF hA9 hZ
            refine lv_iconst (v := 1) hx hb dX5_thin_35 (by decide) ?_
            refine lv_goto (tgt := 40) hx hb dX5_thin_36 (by decide) ?_
            refine lv_iadd hx hb dX5_thin_40 ?_
            refine lv_istore_n (lv' := [(1, .int (v1_9 + 1)), (2, .int (r2 + r6)), (0, .ref a_m)]) hx hb dX5_thin_41 rfl hl (by decide) rfl (fun ls hl => ?_)
            refine lv_goto (tgt := 9) hx hb dX5_thin_42 (by decide) ?_
            exact ih9 (r2 + r6) (v1_9 + 1) g8 g7 _ _ ls hF hA9 hZ hP hD hS (lv_sub hl [1, 0, 2] rfl)
    exact lp9 FU 1 0 mlf mcf _ _ ls hF hZ.2 hZ.1 hP hD hS (lv_sub hl [0, 1, 2] rfl)
  exact hgo _ _ hP hD hS

def f_M_isLinked (mwd : Int32) (mlf : Nat → Int32) (px : Int32) (py : Int32) : Int32 := (if (py - py / 2 * 2) = 1 then (if (mlf px.toNatClampNeg) = 0 then 0 else (if (f_M_black mwd mlf px py) = 0 then 0 else (if (f_M_black mwd mlf px (py + 7)) = 0 then (if (f_M_black mwd mlf px (py + 1)) = 0 then 1 else 0) else 0))) else (if (mlf px.toNatClampNeg) = 0 then 0 else (if (f_M_black mwd mlf px py) = 0 then 0 else 1)))
def z_M_isLinked (mwd : Int32) (mlf : Nat → Int32) (px : Int32) (py : Int32) : Prop := (if (py - py / 2 * 2) = 1 then ((vp_in px 676) ∧ (if (mlf px.toNatClampNeg) = 0 then True else (((z_M_black mwd mlf px py)) ∧ (if (f_M_black mwd mlf px py) = 0 then True else (((z_M_black mwd mlf px (py + 7))) ∧ (if (f_M_black mwd mlf px (py + 7)) = 0 then (((z_M_black mwd mlf px (py + 1))) ∧ (if (f_M_black mwd mlf px (py + 1)) = 0 then True else True)) else True)))))) else ((vp_in px 676) ∧ (if (mlf px.toNatClampNeg) = 0 then True else (((z_M_black mwd mlf px py)) ∧ (if (f_M_black mwd mlf px py) = 0 then True else True)))))
set_option maxHeartbeats 4000000 in
set_option maxRecDepth 100000 in
theorem c_M_isLinked (l : Launch) (D : va_G) (tX tY : Nat) (a_m : Nat) (a_mp : Nat) (k_mp : ClassId) (a_ml : Nat) (k_ml : ClassId) (a_mc : Nat) (k_mc : ClassId) (a_mb : Nat) (k_mb : ClassId) (a_mg : Nat) (k_mg : ClassId) (a_mq : Nat) (k_mq : ClassId) (a_mo : Nat) (k_mo : ClassId) (a_me : Nat) (k_me : ClassId) (a_mv : Nat) (k_mv : ClassId) (a_my : Nat) (k_my : ClassId) (mcd : Int32) (mw : Int32) (mh : Int32) (mwd : Int32) (mpf : Nat → Int32) (mlf : Nat → Int32) (mth : Int32) (mcf : Nat → Int32) (mbf : Nat → Int32) (mkn : Int32) (mst : Int32) (mgf : Nat → Int32) (mqf : Nat → Int32) (mus : Int32) (mof : Nat → Int32) (mef : Nat → Int32) (mcu : Int32) (mvf : Nat → Int32) (myf : Nat → Int32) (px : Int32) (py : Int32) (hZ : z_M_isLinked mwd mlf px py) : Met l yX5_isLinked wX5_isLinked ({ frames := 2, cells := 0, slots := 0, locals := 46 }) (ro_P D tX tY [(k_mp, .boolean), (k_ml, .boolean), (k_mc, .boolean), (k_mb, .int), (k_mg, .int), (k_mq, .int), (k_mo, .boolean), (k_me, .boolean), (k_mv, .int), (k_my, .int)] [(a_m, .inr (5, [.int mcd, .int mw, .int mh, .int mwd, .ref a_mp, .ref a_ml, .int mth, .ref a_mc, .ref a_mb, .int mkn, .int mst, .ref a_mg, .ref a_mq, .int mus, .ref a_mo, .ref a_me, .int mcu, .ref a_mv, .ref a_my])), (a_mp, .inl (k_mp, 676, .inl mpf)), (a_ml, .inl (k_ml, 676, .inl mlf)), (a_mc, .inl (k_mc, 676, .inl mcf)), (a_mb, .inl (k_mb, 676, .inl mbf)), (a_mg, .inl (k_mg, 3000, .inl mgf)), (a_mq, .inl (k_mq, 9000, .inl mqf)), (a_mo, .inl (k_mo, 5408, .inl mof)), (a_me, .inl (k_me, 676, .inl mef)), (a_mv, .inl (k_mv, 3000, .inl mvf)), (a_my, .inl (k_my, 3000, .inl myf))] [.ref a_m, .int px, .int py]) (k2_QcV (.int (f_M_isLinked mwd mlf px py))) 0 0 (fun _ => False) := by
  generalize hF : (f_M_isLinked mwd mlf px py) = F
  refine Met.ofW (cc := cX5_isLinked) (maxL := 4) (ret := (some .boolean)) (by decide) rfl ?_
  intro p e s m args below meth c s₁ B hml hv
  obtain ⟨rfl, hP, hK, hT, hN⟩ := hv
  have hx := B.exec
  have hb := B.bytes
  have hr := B.returns
  have hts := atoms_spec (ws := wX5_isLinked) B.pre
  have hta : ∀ w ∈ gw, w.before _ s = true := fun w h => hts w (List.mem_cons_of_mem _ h)
  have hown : s.vm.findClass RX5 = some m.cls := findClass_of_methodNamed B.named
  have hlocks := B.notSynchronized
  have hl := lv_entry [.ref a_m, .int px, .int py] (n := 4) (Nat.le_of_ble_eq_true rfl)
  rw [lg_entry_eq]
  generalize (lg_sl [.ref a_m, .int px, .int py] ++ List.replicate (4 - (lg_sl [.ref a_m, .int px, .int py]).length) Slot.unset).toArray = ls at hl ⊢
  have hl : lv_has ls 4 [(0, .ref a_m), (1, .int px), (2, .int py)] := hl
  rw [f_M_isLinked] at hF
  rw [z_M_isLinked] at hZ
  refine lv_iload_n hx hb dX5_isLinked_0 rfl (lv_at hl 2 rfl) ?_
  refine lv_iconst (v := 2) hx hb dX5_isLinked_1 (by decide) ?_
  refine lv_irem hx hb dX5_isLinked_2 (by decide) ?_
  refine lv_iconst (v := 1) hx hb dX5_isLinked_3 (by decide) ?_
  refine lv_icmp_ne (tgt := 11) hx hb dX5_isLinked_4 (by decide) (fun c4 => ?_) (fun c4 => ?_)
  · rw [if_neg c4] at hF hZ
    refine lv_iconst (v := 0) hx hb dX5_isLinked_11 (by decide) ?_
    refine lv_istore_n (lv' := [(3, .int 0), (0, .ref a_m), (1, .int px), (2, .int py)]) hx hb dX5_isLinked_12 rfl hl (by decide) rfl (fun ls hl => ?_)
    refine lv_aload_n hx hb dX5_isLinked_13 rfl (lv_at hl 1 rfl) ?_
    refine va_get (D := D) (ci := 5) (v := .ref a_ml) (C := RX5) (T := TX5) (N := 19) hx hb hta inX5 hown hK hP 0 rfl rfl 5 (by decide) (hta _ gw_613) (fun _ h9 => h9) rfl dX5_isLinked_14 ?_
    refine lv_iload_n hx hb dX5_isLinked_17 rfl (lv_at hl 2 rfl) ?_
    have o1 := hZ.1
    have hZ := hZ.2
    refine va_zald hx hb hK hP 2 1 rfl rfl (i := px) o1 dX5_isLinked_18 ?_
    refine lv_if_eq (tgt := 62) hx hb dX5_isLinked_19 (by decide) (fun c19 => ?_) (fun c19 => ?_)
    · rw [if_pos c19] at hF hZ
      refine lv_iconst (v := 0) hx hb dX5_isLinked_62 (by decide) ?_
      exact W.zret (v := 0) hx hb hr rfl (fun t ht _ => ⟨by rw [← hF], ht⟩) (fun _ h => nomatch h) dX5_isLinked_63
    · rw [if_neg c19] at hF hZ
      refine lv_aload_n hx hb dX5_isLinked_22 rfl (lv_at hl 1 rfl) ?_
      refine lv_iload_n hx hb dX5_isLinked_23 rfl (lv_at hl 2 rfl) ?_
      refine lv_iload_n hx hb dX5_isLinked_24 rfl (lv_at hl 3 rfl) ?_
      have o2 := hZ.1
      have hZ := hZ.2
      refine ro_go (va_runV (As := [.int px, .int py]) (rest := []) ⟨hx, hb, hml, hown, hts⟩ (c_M_black l D tX tY a_m a_mp k_mp a_ml k_ml a_mc k_mc a_mb k_mb a_mg k_mg a_mq k_mq a_mo k_mo a_me k_me a_mv k_mv a_my k_my mcd mw mh mwd mpf mlf mth mcf mbf mkn mst mgf mqf mus mof mef mcu mvf myf px py o2) (cwV 2 hts (gi_4 gi_c gw_683 gw_685 gs_X5_black gw_7 gw_686) rfl rfl rfl (by decide +kernel) ⟨Nat.le_of_ble_eq_true rfl, Nat.le_of_ble_eq_true rfl⟩) ⟨ro_blind, va_recv hK hP (ci := 5) (q0 := 0) rfl rfl, ro_at hP hK hT hN va_S.rf [0, 1, 2, 3, 4, 5, 6, 7, 8, 9, 10] [0, 1, 2, 3, 4, 5, 6, 7, 8, 9] rfl rfl⟩ rfl rfl hl.1 rfl (lv_room (Nat.le_of_ble_eq_true rfl)) dX5_isLinked_25 ⟨Nat.le_of_ble_eq_true rfl, Nat.le_of_ble_eq_true rfl⟩) ?_
      refine lv_if_eq (tgt := 62) hx hb dX5_isLinked_28 (by decide) (fun c28 => ?_) (fun c28 => ?_)
      · rw [if_pos c28] at hF hZ
        refine lv_iconst (v := 0) hx hb dX5_isLinked_62 (by decide) ?_
        exact W.zret (v := 0) hx hb hr rfl (fun t ht _ => ⟨by rw [← hF], ht⟩) (fun _ h => nomatch h) dX5_isLinked_63
      · rw [if_neg c28] at hF hZ
        refine lv_iload_n hx hb dX5_isLinked_31 rfl (lv_at hl 0 rfl) ?_
        refine lv_if_eq (tgt := 58) hx hb dX5_isLinked_32 (by decide) (fun _ => ?_) (fun c9 => absurd c9 (by decide))
        refine lv_iconst (v := 1) hx hb dX5_isLinked_58 (by decide) ?_
        refine lv_goto (tgt := 63) hx hb dX5_isLinked_59 (by decide) ?_
        exact W.zret (v := 1) hx hb hr rfl (fun t ht _ => ⟨by rw [← hF], ht⟩) (fun _ h => nomatch h) dX5_isLinked_63
  · rw [if_pos c4] at hF hZ
    refine lv_iconst (v := 1) hx hb dX5_isLinked_7 (by decide) ?_
    refine lv_goto (tgt := 12) hx hb dX5_isLinked_8 (by decide) ?_
    refine lv_istore_n (lv' := [(3, .int 1), (0, .ref a_m), (1, .int px), (2, .int py)]) hx hb dX5_isLinked_12 rfl hl (by decide) rfl (fun ls hl => ?_)
    refine lv_aload_n hx hb dX5_isLinked_13 rfl (lv_at hl 1 rfl) ?_
    refine va_get (D := D) (ci := 5) (v := .ref a_ml) (C := RX5) (T := TX5) (N := 19) hx hb hta inX5 hown hK hP 0 rfl rfl 5 (by decide) (hta _ gw_613) (fun _ h9 => h9) rfl dX5_isLinked_14 ?_
    refine lv_iload_n hx hb dX5_isLinked_17 rfl (lv_at hl 2 rfl) ?_
    have o3 := hZ.1
    have hZ := hZ.2
    refine va_zald hx hb hK hP 2 1 rfl rfl (i := px) o3 dX5_isLinked_18 ?_
    refine lv_if_eq (tgt := 62) hx hb dX5_isLinked_19 (by decide) (fun c19 => ?_) (fun c19 => ?_)
    · rw [if_pos c19] at hF hZ
      refine lv_iconst (v := 0) hx hb dX5_isLinked_62 (by decide) ?_
      exact W.zret (v := 0) hx hb hr rfl (fun t ht _ => ⟨by rw [← hF], ht⟩) (fun _ h => nomatch h) dX5_isLinked_63
    · rw [if_neg c19] at hF hZ
      refine lv_aload_n hx hb dX5_isLinked_22 rfl (lv_at hl 1 rfl) ?_
      refine lv_iload_n hx hb dX5_isLinked_23 rfl (lv_at hl 2 rfl) ?_
      refine lv_iload_n hx hb dX5_isLinked_24 rfl (lv_at hl 3 rfl) ?_
      have o4 := hZ.1
      have hZ := hZ.2
      refine ro_go (va_runV (As := [.int px, .int py]) (rest := []) ⟨hx, hb, hml, hown, hts⟩ (c_M_black l D tX tY a_m a_mp k_mp a_ml k_ml a_mc k_mc a_mb k_mb a_mg k_mg a_mq k_mq a_mo k_mo a_me k_me a_mv k_mv a_my k_my mcd mw mh mwd mpf mlf mth mcf mbf mkn mst mgf mqf mus mof mef mcu mvf myf px py o4) (cwV 2 hts (gi_4 gi_c gw_683 gw_685 gs_X5_black gw_7 gw_686) rfl rfl rfl (by decide +kernel) ⟨Nat.le_of_ble_eq_true rfl, Nat.le_of_ble_eq_true rfl⟩) ⟨ro_blind, va_recv hK hP (ci := 5) (q0 := 0) rfl rfl, ro_at hP hK hT hN va_S.rf [0, 1, 2, 3, 4, 5, 6, 7, 8, 9, 10] [0, 1, 2, 3, 4, 5, 6, 7, 8, 9] rfl rfl⟩ rfl rfl hl.1 rfl (lv_room (Nat.le_of_ble_eq_true rfl)) dX5_isLinked_25 ⟨Nat.le_of_ble_eq_true rfl, Nat.le_of_ble_eq_true rfl⟩) ?_
      refine lv_if_eq (tgt := 62) hx hb dX5_isLinked_28 (by decide) (fun c28 => ?_) (fun c28 => ?_)
      · rw [if_pos c28] at hF hZ
        refine lv_iconst (v := 0) hx hb dX5_isLinked_62 (by decide) ?_
        exact W.zret (v := 0) hx hb hr rfl (fun t ht _ => ⟨by rw [← hF], ht⟩) (fun _ h => nomatch h) dX5_isLinked_63
      · rw [if_neg c28] at hF hZ
        refine lv_iload_n hx hb dX5_isLinked_31 rfl (lv_at hl 0 rfl) ?_
        refine lv_if_eq (tgt := 58) hx hb dX5_isLinked_32 (by decide) (fun c9 => absurd c9 (by decide)) (fun _ => ?_)
        refine lv_aload_n hx hb dX5_isLinked_35 rfl (lv_at hl 1 rfl) ?_
        refine lv_iload_n hx hb dX5_isLinked_36 rfl (lv_at hl 2 rfl) ?_
        refine lv_iload_n hx hb dX5_isLinked_37 rfl (lv_at hl 3 rfl) ?_
        refine lv_bipush (v := 7) hx hb dX5_isLinked_38 (by decide) ?_
        refine lv_iadd hx hb dX5_isLinked_40 ?_
        have o5 := hZ.1
        have hZ := hZ.2
        refine ro_go (va_runV (As := [.int px, .int (py + 7)]) (rest := []) ⟨hx, hb, hml, hown, hts⟩ (c_M_black l D tX tY a_m a_mp k_mp a_ml k_ml a_mc k_mc a_mb k_mb a_mg k_mg a_mq k_mq a_mo k_mo a_me k_me a_mv k_mv a_my k_my mcd mw mh mwd mpf mlf mth mcf mbf mkn mst mgf mqf mus mof mef mcu mvf myf px (py + 7) o5) (cwV 2 hts (gi_4 gi_c gw_683 gw_685 gs_X5_black gw_7 gw_686) rfl rfl rfl (by decide +kernel) ⟨Nat.le_of_ble_eq_true rfl, Nat.le_of_ble_eq_true rfl⟩) ⟨ro_blind, va_recv hK hP (ci := 5) (q0 := 0) rfl rfl, ro_at hP hK hT hN va_S.rf [0, 1, 2, 3, 4, 5, 6, 7, 8, 9, 10] [0, 1, 2, 3, 4, 5, 6, 7, 8, 9] rfl rfl⟩ rfl rfl hl.1 rfl (lv_room (Nat.le_of_ble_eq_true rfl)) dX5_isLinked_41 ⟨Nat.le_of_ble_eq_true rfl, Nat.le_of_ble_eq_true rfl⟩) ?_
        refine lv_if_ne (tgt := 62) hx hb dX5_isLinked_44 (by decide) (fun c44 => ?_) (fun c44 => ?_)
        · rw [if_neg c44] at hF hZ
          refine lv_iconst (v := 0) hx hb dX5_isLinked_62 (by decide) ?_
          exact W.zret (v := 0) hx hb hr rfl (fun t ht _ => ⟨by rw [← hF], ht⟩) (fun _ h => nomatch h) dX5_isLinked_63
        · rw [if_pos c44] at hF hZ
          refine lv_aload_n hx hb dX5_isLinked_47 rfl (lv_at hl 1 rfl) ?_
          refine lv_iload_n hx hb dX5_isLinked_48 rfl (lv_at hl 2 rfl) ?_
          refine lv_iload_n hx hb dX5_isLinked_49 rfl (lv_at hl 3 rfl) ?_
          refine lv_iconst (v := 1) hx hb dX5_isLinked_50 (by decide) ?_
          refine lv_iadd hx hb dX5_isLinked_51 ?_
          have o6 := hZ.1
          have hZ := hZ.2
          refine ro_go (va_runV (As := [.int px, .int (py + 1)]) (rest := []) ⟨hx, hb, hml, hown, hts⟩ (c_M_black l D tX tY a_m a_mp k_mp a_ml k_ml a_mc k_mc a_mb k_mb a_mg k_mg a_mq k_mq a_mo k_mo a_me k_me a_mv k_mv a_my k_my mcd mw mh mwd mpf mlf mth mcf mbf mkn mst mgf mqf mus mof mef mcu mvf myf px (py + 1) o6) (cwV 2 hts (gi_4 gi_c gw_683 gw_685 gs_X5_black gw_7 gw_686) rfl rfl rfl (by decide +kernel) ⟨Nat.le_of_ble_eq_true rfl, Nat.le_of_ble_eq_true rfl⟩) ⟨ro_blind, va_recv hK hP (ci := 5) (q0 := 0) rfl rfl, ro_at hP hK hT hN va_S.rf [0, 1, 2, 3, 4, 5, 6, 7, 8, 9, 10] [0, 1, 2, 3, 4, 5, 6, 7, 8, 9] rfl rfl⟩ rfl rfl hl.1 rfl (lv_room (Nat.le_of_ble_eq_true rfl)) dX5_isLinked_52 ⟨Nat.le_of_ble_eq_true rfl, Nat.le_of_ble_eq_true rfl⟩) ?_
          refine lv_if_ne (tgt := 62) hx hb dX5_isLinked_55 (by decide) (fun c55 => ?_) (fun c55 => ?_)
          · rw [if_neg c55] at hF hZ
            refine lv_iconst (v := 0) hx hb dX5_isLinked_62 (by decide) ?_
            exact W.zret (v := 0) hx hb hr rfl (fun t ht _ => ⟨by rw [← hF], ht⟩) (fun _ h => nomatch h) dX5_isLinked_63
          · rw [if_pos c55] at hF hZ
            refine lv_iconst (v := 1) hx hb dX5_isLinked_58 (by decide) ?_
            refine lv_goto (tgt := 63) hx hb dX5_isLinked_59 (by decide) ?_
            exact W.zret (v := 1) hx hb hr rfl (fun t ht _ => ⟨by rw [← hF], ht⟩) (fun _ h => nomatch h) dX5_isLinked_63

def f_M_degree_k4  : Int32 × Int32 → Int32
  | (v3_4, v2_4) => v2_4
def f_M_degree_k4_z  : Int32 × Int32 → Prop
  | (v3_4, v2_4) => True
def f_M_degree_L4 (mwd : Int32) (mlf : Nat → Int32) (px : Int32) : Nat → Int32 × Int32 → Int32 × Int32
  | 0, σ => σ
  | n9 + 1, (v3_4, v2_4) => (if 8 ≤ v3_4 then (v3_4, v2_4) else (if (f_M_isLinked mwd mlf px v3_4) = 0 then ((f_M_degree_L4 mwd mlf px n9) (v3_4 + 1, v2_4 + 0)) else ((f_M_degree_L4 mwd mlf px n9) (v3_4 + 1, v2_4 + 1))))
def f_M_degree_L4_z (mwd : Int32) (mlf : Nat → Int32) (px : Int32) : Nat → Int32 × Int32 → Prop
  | 0, _ => False
  | n9 + 1, (v3_4, v2_4) => (if 8 ≤ v3_4 then True else (((z_M_isLinked mwd mlf px v3_4)) ∧ (if (f_M_isLinked mwd mlf px v3_4) = 0 then ((f_M_degree_L4_z mwd mlf px n9) (v3_4 + 1, v2_4 + 0)) else ((f_M_degree_L4_z mwd mlf px n9) (v3_4 + 1, v2_4 + 1)))))
def f_M_degree (mwd : Int32) (mlf : Nat → Int32) (px : Int32) : Int32 := (f_M_degree_k4 (f_M_degree_L4 mwd mlf px FU (0, 0)))
def z_M_degree (mwd : Int32) (mlf : Nat → Int32) (px : Int32) : Prop := ((f_M_degree_L4_z mwd mlf px FU (0, 0)) ∧ (f_M_degree_k4_z (f_M_degree_L4 mwd mlf px FU (0, 0))))
set_option maxHeartbeats 4000000 in
set_option maxRecDepth 100000 in
theorem c_M_degree (l : Launch) (D : va_G) (tX tY : Nat) (a_m : Nat) (a_mp : Nat) (k_mp : ClassId) (a_ml : Nat) (k_ml : ClassId) (a_mc : Nat) (k_mc : ClassId) (a_mb : Nat) (k_mb : ClassId) (a_mg : Nat) (k_mg : ClassId) (a_mq : Nat) (k_mq : ClassId) (a_mo : Nat) (k_mo : ClassId) (a_me : Nat) (k_me : ClassId) (a_mv : Nat) (k_mv : ClassId) (a_my : Nat) (k_my : ClassId) (mcd : Int32) (mw : Int32) (mh : Int32) (mwd : Int32) (mpf : Nat → Int32) (mlf : Nat → Int32) (mth : Int32) (mcf : Nat → Int32) (mbf : Nat → Int32) (mkn : Int32) (mst : Int32) (mgf : Nat → Int32) (mqf : Nat → Int32) (mus : Int32) (mof : Nat → Int32) (mef : Nat → Int32) (mcu : Int32) (mvf : Nat → Int32) (myf : Nat → Int32) (px : Int32) (hZ : z_M_degree mwd mlf px) : Met l yX5_degree wX5_degree ({ frames := 3, cells := 0, slots := 0, locals := 69 }) (ro_P D tX tY [(k_mp, .boolean), (k_ml, .boolean), (k_mc, .boolean), (k_mb, .int), (k_mg, .int), (k_mq, .int), (k_mo, .boolean), (k_me, .boolean), (k_mv, .int), (k_my, .int)] [(a_m, .inr (5, [.int mcd, .int mw, .int mh, .int mwd, .ref a_mp, .ref a_ml, .int mth, .ref a_mc, .ref a_mb, .int mkn, .int mst, .ref a_mg, .ref a_mq, .int mus, .ref a_mo, .ref a_me, .int mcu, .ref a_mv, .ref a_my])), (a_mp, .inl (k_mp, 676, .inl mpf)), (a_ml, .inl (k_ml, 676, .inl mlf)), (a_mc, .inl (k_mc, 676, .inl mcf)), (a_mb, .inl (k_mb, 676, .inl mbf)), (a_mg, .inl (k_mg, 3000, .inl mgf)), (a_mq, .inl (k_mq, 9000, .inl mqf)), (a_mo, .inl (k_mo, 5408, .inl mof)), (a_me, .inl (k_me, 676, .inl mef)), (a_mv, .inl (k_mv, 3000, .inl mvf)), (a_my, .inl (k_my, 3000, .inl myf))] [.ref a_m, .int px]) (k2_QcV (.int (f_M_degree mwd mlf px))) 0 0 (fun _ => False) := by
  generalize hF : (f_M_degree mwd mlf px) = F
  refine Met.ofW (cc := cX5_degree) (maxL := 4) (ret := (some .int)) (by decide) rfl ?_
  intro p e s m args below meth c s₁ B hml hv
  obtain ⟨rfl, hP, hK, hT, hN⟩ := hv
  have hx := B.exec
  have hb := B.bytes
  have hr := B.returns
  have hts := atoms_spec (ws := wX5_degree) B.pre
  have hta : ∀ w ∈ gw, w.before _ s = true := fun w h => hts w (List.mem_cons_of_mem _ h)
  have hown : s.vm.findClass RX5 = some m.cls := findClass_of_methodNamed B.named
  have hlocks := B.notSynchronized
  have hl := lv_entry [.ref a_m, .int px] (n := 4) (Nat.le_of_ble_eq_true rfl)
  rw [lg_entry_eq]
  generalize (lg_sl [.ref a_m, .int px] ++ List.replicate (4 - (lg_sl [.ref a_m, .int px]).length) Slot.unset).toArray = ls at hl ⊢
  have hl : lv_has ls 4 [(0, .ref a_m), (1, .int px)] := hl
  rw [f_M_degree] at hF
  rw [z_M_degree] at hZ
  refine lv_iconst (v := 0) hx hb dX5_degree_0 (by decide) ?_
  refine lv_istore_n (lv' := [(2, .int 0), (0, .ref a_m), (1, .int px)]) hx hb dX5_degree_1 rfl hl (by decide) rfl (fun ls hl => ?_)
  refine lv_iconst (v := 0) hx hb dX5_degree_2 (by decide) ?_
  refine lv_istore_n (lv' := [(3, .int 0), (2, .int 0), (0, .ref a_m), (1, .int px)]) hx hb dX5_degree_3 rfl hl (by decide) rfl (fun ls hl => ?_)
  have af4 : ∀ (v3_4 : Int32) (v2_4 : Int32) (ls : Array Slot), f_M_degree_k4  (v3_4, v2_4) = F → f_M_degree_k4_z  (v3_4, v2_4) → lv_has ls 4 [(3, .int v3_4), (2, .int v2_4), (0, .ref a_m), (1, .int px)] → W p l e { frames := 3, cells := 0, slots := 0, locals := 69 } s m (List.toArray [.ref a_m, .int px]) below meth c s.heap [] 0 0 (MQ below (k2_QcV (.int F)) (List.toArray [.ref a_m, .int px]) s 0 0 (fun _ => False)) (F0 m 33 ls []) := by
    intro v3_4 v2_4 ls hF hZ hl
    rw [f_M_degree_k4] at hF
    rw [f_M_degree_k4_z] at hZ
    refine lv_iload_n hx hb dX5_degree_33 rfl (lv_at hl 1 rfl) ?_
    exact W.iret (v := v2_4) hx hb hr (fun t ht _ => ⟨by rw [← hF], ht⟩) (fun _ h => nomatch h) dX5_degree_34
  have lp4 : ∀ (n9 : Nat) (v3_4 : Int32) (v2_4 : Int32) (ls : Array Slot), f_M_degree_k4  (f_M_degree_L4 mwd mlf px n9 (v3_4, v2_4)) = F → f_M_degree_k4_z  (f_M_degree_L4 mwd mlf px n9 (v3_4, v2_4)) → f_M_degree_L4_z mwd mlf px n9 (v3_4, v2_4) → lv_has ls 4 [(3, .int v3_4), (2, .int v2_4), (0, .ref a_m), (1, .int px)] → W p l e { frames := 3, cells := 0, slots := 0, locals := 69 } s m (List.toArray [.ref a_m, .int px]) below meth c s.heap [] 0 0 (MQ below (k2_QcV (.int F)) (List.toArray [.ref a_m, .int px]) s 0 0 (fun _ => False)) (F0 m 4 ls []) := by
    intro n9
    induction n9 with
    | zero => intro v3_4 v2_4 ls hF hA4 hZ; exact hZ.elim
    | succ n4 ih4 =>
      intro v3_4 v2_4 ls hF hA4 hZ hl
      rw [f_M_degree_L4] at hF hA4
      rw [f_M_degree_L4_z] at hZ
      refine lv_iload_n hx hb dX5_degree_4 rfl (lv_at hl 0 rfl) ?_
      refine lv_bipush (v := 8) hx hb dX5_degree_5 (by decide) ?_
      refine lv_icmp_ge (tgt := 33) hx hb dX5_degree_7 (by decide) (fun c7 => ?_) (fun c7 => ?_)
      · rw [if_pos c7] at hF hA4 hZ
        exact af4 v3_4 v2_4 ls hF hA4 (lv_sub hl [0, 1, 2, 3] rfl)
      · rw [if_neg c7] at hF hA4 hZ
        refine lv_iload_n hx hb dX5_degree_10 rfl (lv_at hl 1 rfl) ?_
        refine lv_aload_n hx hb dX5_degree_11 rfl (lv_at hl 2 rfl) ?_
        refine lv_iload_n hx hb dX5_degree_12 rfl (lv_at hl 3 rfl) ?_
        refine lv_iload_n hx hb dX5_degree_13 rfl (lv_at hl 0 rfl) ?_
        have o1 := hZ.1
        have hZ := hZ.2
        refine ro_go (va_runV (As := [.int px, .int v3_4]) (rest := [.int v2_4]) ⟨hx, hb, hml, hown, hts⟩ (c_M_isLinked l D tX tY a_m a_mp k_mp a_ml k_ml a_mc k_mc a_mb k_mb a_mg k_mg a_mq k_mq a_mo k_mo a_me k_me a_mv k_mv a_my k_my mcd mw mh mwd mpf mlf mth mcf mbf mkn mst mgf mqf mus mof mef mcu mvf myf px v3_4 o1) (cwV 2 hts (gi_4 gi_c gw_718 gw_720 gs_X5_isLinked gw_7 gw_721) rfl rfl rfl (by decide +kernel) ⟨Nat.le_of_ble_eq_true rfl, Nat.le_of_ble_eq_true rfl⟩) ⟨ro_blind, va_recv hK hP (ci := 5) (q0 := 0) rfl rfl, ro_at hP hK hT hN va_S.rf [0, 1, 2, 3, 4, 5, 6, 7, 8, 9, 10] [0, 1, 2, 3, 4, 5, 6, 7, 8, 9] rfl rfl⟩ rfl rfl hl.1 rfl (lv_room (Nat.le_of_ble_eq_true rfl)) dX5_degree_14 ⟨Nat.le_of_ble_eq_true rfl, Nat.le_of_ble_eq_true rfl⟩) ?_
        refine lv_if_eq (tgt := 24) hx hb dX5_degree_17 (by decide) (fun c17 => ?_) (fun c17 => ?_)
        · rw [if_pos c17] at hF hA4 hZ
          refine lv_iconst (v := 0) hx hb dX5_degree_24 (by decide) ?_
          refine lv_iadd hx hb dX5_degree_25 ?_
          refine lv_istore_n (lv' := [(2, .int (v2_4 + 0)), (3, .int v3_4), (0, .ref a_m), (1, .int px)]) hx hb dX5_degree_26 rfl hl (by decide) rfl (fun ls hl => ?_)
          refine lv_iinc (v := v3_4 + 1) (lv' := [(3, .int (v3_4 + 1)), (2, .int (v2_4 + 0)), (0, .ref a_m), (1, .int px)]) hx hb dX5_degree_27 hl (k := 1) rfl rfl (by decide) rfl (fun ls hl => ?_)
          refine lv_goto (tgt := 4) hx hb dX5_degree_30 (by decide) ?_
          exact ih4 (v3_4 + 1) (v2_4 + 0) ls hF hA4 hZ (lv_sub hl [0, 1, 2, 3] rfl)
        · rw [if_neg c17] at hF hA4 hZ
          refine lv_iconst (v := 1) hx hb dX5_degree_20 (by decide) ?_
          refine lv_goto (tgt := 25) hx hb dX5_degree_21 (by decide) ?_
          refine lv_iadd hx hb dX5_degree_25 ?_
          refine lv_istore_n (lv' := [(2, .int (v2_4 + 1)), (3, .int v3_4), (0, .ref a_m), (1, .int px)]) hx hb dX5_degree_26 rfl hl (by decide) rfl (fun ls hl => ?_)
          refine lv_iinc (v := v3_4 + 1) (lv' := [(3, .int (v3_4 + 1)), (2, .int (v2_4 + 1)), (0, .ref a_m), (1, .int px)]) hx hb dX5_degree_27 hl (k := 1) rfl rfl (by decide) rfl (fun ls hl => ?_)
          refine lv_goto (tgt := 4) hx hb dX5_degree_30 (by decide) ?_
          exact ih4 (v3_4 + 1) (v2_4 + 1) ls hF hA4 hZ (lv_sub hl [0, 1, 2, 3] rfl)
  exact lp4 FU 0 0 ls hF hZ.2 hZ.1 (lv_sub hl [0, 1, 2, 3] rfl)
