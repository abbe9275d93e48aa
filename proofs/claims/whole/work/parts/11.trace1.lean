def f_C_strokeCount (csc : Int32) : Int32 := csc
set_option maxHeartbeats 4000000 in
set_option maxRecDepth 100000 in
theorem c_C_strokeCount (l : Launch) (D : va_G) (tX tY : Nat) (a_c : Nat) (a_cl : Nat) (k_cl : ClassId) (cln : Nat) (clf : Nat → Int32) (a_ct : Nat) (k_ct : ClassId) (ctn : Nat) (ctf : Nat → Int32) (a_cs : Nat) (k_cs : ClassId) (csn : Nat) (csf : Nat → Int32) (a_cb : Nat) (k_cb : ClassId) (cbn : Nat) (cbf : Nat → Int32) (a_cc : Nat) (k_cc : ClassId) (ccn : Nat) (ccf : Nat → Int32) (csc : Int32) (csm : Int32) (ccr : Int32) : Met l yX3_strokeCount wX3_strokeCount ({ frames := 0, cells := 0, slots := 0, locals := 0 }) (ro_P D tX tY [(k_cl, .int), (k_ct, .int), (k_cs, .int), (k_cb, .int), (k_cc, .int)] [(a_c, .inr (3, [.ref a_cl, .ref a_ct, .ref a_cs, .ref a_cb, .ref a_cc, .int csc, .int csm, .int ccr])), (a_cl, .inl (k_cl, cln, .inl clf)), (a_ct, .inl (k_ct, ctn, .inl ctf)), (a_cs, .inl (k_cs, csn, .inl csf)), (a_cb, .inl (k_cb, cbn, .inl cbf)), (a_cc, .inl (k_cc, ccn, .inl ccf))] [.ref a_c]) (k2_QcV (.int (f_C_strokeCount csc))) 0 0 (fun _ => False) := by
  generalize hF : (f_C_strokeCount csc) = F
  refine Met.ofW (cc := cX3_strokeCount) (maxL := 1) (ret := (some .int)) (by decide) rfl ?_
  intro p e s m args below meth c s₁ B hml hv
  obtain ⟨rfl, hP, hK, hT, hN⟩ := hv
  have hx := B.exec
  have hb := B.bytes
  have hr := B.returns
  have hts := atoms_spec (ws := wX3_strokeCount) B.pre
  have hta : ∀ w ∈ gw, w.before _ s = true := fun w h => hts w (List.mem_cons_of_mem _ h)
  have hown : s.vm.findClass RX3 = some m.cls := findClass_of_methodNamed B.named
  have hlocks := B.notSynchronized
  have hl := lv_entry [.ref a_c] (n := 1) (Nat.le_of_ble_eq_true rfl)
  rw [lg_entry_eq]
  generalize (lg_sl [.ref a_c] ++ List.replicate (1 - (lg_sl [.ref a_c]).length) Slot.unset).toArray = ls at hl ⊢
  have hl : lv_has ls 1 [(0, .ref a_c)] := hl
  rw [f_C_strokeCount] at hF
  refine lv_aload_n hx hb dX3_strokeCount_0 rfl (lv_at hl 0 rfl) ?_
  refine va_get (D := D) (ci := 3) (v := .int csc) (C := RX3) (T := TX3) (N := 8) hx hb hta inX3 hown hK hP 0 rfl rfl 5 (by decide) (hta _ gw_81) (fun _ h9 => h9) rfl dX3_strokeCount_1 ?_
  exact W.iret (v := csc) hx hb hr (fun t ht _ => ⟨by rw [← hF], ht⟩) (fun _ h => nomatch h) dX3_strokeCount_4

def f_C_crossingCount (ccr : Int32) : Int32 := ccr
set_option maxHeartbeats 4000000 in
set_option maxRecDepth 100000 in
theorem c_C_crossingCount (l : Launch) (D : va_G) (tX tY : Nat) (a_c : Nat) (a_cl : Nat) (k_cl : ClassId) (cln : Nat) (clf : Nat → Int32) (a_ct : Nat) (k_ct : ClassId) (ctn : Nat) (ctf : Nat → Int32) (a_cs : Nat) (k_cs : ClassId) (csn : Nat) (csf : Nat → Int32) (a_cb : Nat) (k_cb : ClassId) (cbn : Nat) (cbf : Nat → Int32) (a_cc : Nat) (k_cc : ClassId) (ccn : Nat) (ccf : Nat → Int32) (csc : Int32) (csm : Int32) (ccr : Int32) : Met l yX3_crossingCount wX3_crossingCount ({ frames := 0, cells := 0, slots := 0, locals := 0 }) (ro_P D tX tY [(k_cl, .int), (k_ct, .int), (k_cs, .int), (k_cb, .int), (k_cc, .int)] [(a_c, .inr (3, [.ref a_cl, .ref a_ct, .ref a_cs, .ref a_cb, .ref a_cc, .int csc, .int csm, .int ccr])), (a_cl, .inl (k_cl, cln, .inl clf)), (a_ct, .inl (k_ct, ctn, .inl ctf)), (a_cs, .inl (k_cs, csn, .inl csf)), (a_cb, .inl (k_cb, cbn, .inl cbf)), (a_cc, .inl (k_cc, ccn, .inl ccf))] [.ref a_c]) (k2_QcV (.int (f_C_crossingCount ccr))) 0 0 (fun _ => False) := by
  generalize hF : (f_C_crossingCount ccr) = F
  refine Met.ofW (cc := cX3_crossingCount) (maxL := 1) (ret := (some .int)) (by decide) rfl ?_
  intro p e s m args below meth c s₁ B hml hv
  obtain ⟨rfl, hP, hK, hT, hN⟩ := hv
  have hx := B.exec
  have hb := B.bytes
  have hr := B.returns
  have hts := atoms_spec (ws := wX3_crossingCount) B.pre
  have hta : ∀ w ∈ gw, w.before _ s = true := fun w h => hts w (List.mem_cons_of_mem _ h)
  have hown : s.vm.findClass RX3 = some m.cls := findClass_of_methodNamed B.named
  have hlocks := B.notSynchronized
  have hl := lv_entry [.ref a_c] (n := 1) (Nat.le_of_ble_eq_true rfl)
  rw [lg_entry_eq]
  generalize (lg_sl [.ref a_c] ++ List.replicate (1 - (lg_sl [.ref a_c]).length) Slot.unset).toArray = ls at hl ⊢
  have hl : lv_has ls 1 [(0, .ref a_c)] := hl
  rw [f_C_crossingCount] at hF
  refine lv_aload_n hx hb dX3_crossingCount_0 rfl (lv_at hl 0 rfl) ?_
  refine va_get (D := D) (ci := 3) (v := .int ccr) (C := RX3) (T := TX3) (N := 8) hx hb hta inX3 hown hK hP 0 rfl rfl 7 (by decide) (hta _ gw_83) (fun _ h9 => h9) rfl dX3_crossingCount_1 ?_
  exact W.iret (v := ccr) hx hb hr (fun t ht _ => ⟨by rw [← hF], ht⟩) (fun _ h => nomatch h) dX3_crossingCount_4

def f_C_crossingPlace (ccn : Nat) (ccf : Nat → Int32) (ccr : Int32) (px : Int32) : Int32 := (if px < 0 then (-1) else (if ccr ≤ px then (-1) else (if (nI ccn) ≤ px then (-1) else ccf px.toNatClampNeg)))
set_option maxHeartbeats 4000000 in
set_option maxRecDepth 100000 in
theorem c_C_crossingPlace (l : Launch) (D : va_G) (tX tY : Nat) (a_c : Nat) (a_cl : Nat) (k_cl : ClassId) (cln : Nat) (clf : Nat → Int32) (a_ct : Nat) (k_ct : ClassId) (ctn : Nat) (ctf : Nat → Int32) (a_cs : Nat) (k_cs : ClassId) (csn : Nat) (csf : Nat → Int32) (a_cb : Nat) (k_cb : ClassId) (cbn : Nat) (cbf : Nat → Int32) (a_cc : Nat) (k_cc : ClassId) (ccn : Nat) (ccf : Nat → Int32) (csc : Int32) (csm : Int32) (ccr : Int32) (px : Int32) (hnc : ccn < 2147483647) : Met l yX3_crossingPlace wX3_crossingPlace ({ frames := 0, cells := 0, slots := 0, locals := 0 }) (ro_P D tX tY [(k_cl, .int), (k_ct, .int), (k_cs, .int), (k_cb, .int), (k_cc, .int)] [(a_c, .inr (3, [.ref a_cl, .ref a_ct, .ref a_cs, .ref a_cb, .ref a_cc, .int csc, .int csm, .int ccr])), (a_cl, .inl (k_cl, cln, .inl clf)), (a_ct, .inl (k_ct, ctn, .inl ctf)), (a_cs, .inl (k_cs, csn, .inl csf)), (a_cb, .inl (k_cb, cbn, .inl cbf)), (a_cc, .inl (k_cc, ccn, .inl ccf))] [.ref a_c, .int px]) (k2_QcV (.int (f_C_crossingPlace ccn ccf ccr px))) 0 0 (fun _ => False) := by
  generalize hF : (f_C_crossingPlace ccn ccf ccr px) = F
  refine Met.ofW (cc := cX3_crossingPlace) (maxL := 2) (ret := (some .int)) (by decide) rfl ?_
  intro p e s m args below meth c s₁ B hml hv
  obtain ⟨rfl, hP, hK, hT, hN⟩ := hv
  have hx := B.exec
  have hb := B.bytes
  have hr := B.returns
  have hts := atoms_spec (ws := wX3_crossingPlace) B.pre
  have hta : ∀ w ∈ gw, w.before _ s = true := fun w h => hts w (List.mem_cons_of_mem _ h)
  have hown : s.vm.findClass RX3 = some m.cls := findClass_of_methodNamed B.named
  have hlocks := B.notSynchronized
  have hl := lv_entry [.ref a_c, .int px] (n := 2) (Nat.le_of_ble_eq_true rfl)
  rw [lg_entry_eq]
  generalize (lg_sl [.ref a_c, .int px] ++ List.replicate (2 - (lg_sl [.ref a_c, .int px]).length) Slot.unset).toArray = ls at hl ⊢
  have hl : lv_has ls 2 [(0, .ref a_c), (1, .int px)] := hl
  rw [f_C_crossingPlace] at hF
  refine lv_iload_n hx hb dX3_crossingPlace_0 rfl (lv_at hl 1 rfl) ?_
  refine lv_if_lt (tgt := 30) hx hb dX3_crossingPlace_1 (by decide) (fun c1 => ?_) (fun c1 => ?_)
  · rw [if_pos c1] at hF
    refine lv_iconst (v := (-1)) hx hb dX3_crossingPlace_30 (by decide) ?_
    exact W.iret (v := (-1)) hx hb hr (fun t ht _ => ⟨by rw [← hF], ht⟩) (fun _ h => nomatch h) dX3_crossingPlace_31
  · rw [if_neg c1] at hF
    refine lv_iload_n hx hb dX3_crossingPlace_4 rfl (lv_at hl 1 rfl) ?_
    refine lv_aload_n hx hb dX3_crossingPlace_5 rfl (lv_at hl 0 rfl) ?_
    refine va_get (D := D) (ci := 3) (v := .int ccr) (C := RX3) (T := TX3) (N := 8) hx hb hta inX3 hown hK hP 0 rfl rfl 7 (by decide) (hta _ gw_83) (fun _ h9 => h9) rfl dX3_crossingPlace_6 ?_
    refine lv_icmp_ge (tgt := 30) hx hb dX3_crossingPlace_9 (by decide) (fun c9 => ?_) (fun c9 => ?_)
    · rw [if_pos c9] at hF
      refine lv_iconst (v := (-1)) hx hb dX3_crossingPlace_30 (by decide) ?_
      exact W.iret (v := (-1)) hx hb hr (fun t ht _ => ⟨by rw [← hF], ht⟩) (fun _ h => nomatch h) dX3_crossingPlace_31
    · rw [if_neg c9] at hF
      refine lv_iload_n hx hb dX3_crossingPlace_12 rfl (lv_at hl 1 rfl) ?_
      refine lv_aload_n hx hb dX3_crossingPlace_13 rfl (lv_at hl 0 rfl) ?_
      refine va_get (D := D) (ci := 3) (v := .ref a_cc) (C := RX3) (T := TX3) (N := 8) hx hb hta inX3 hown hK hP 0 rfl rfl 4 (by decide) (hta _ gw_80) (fun _ h9 => h9) rfl dX3_crossingPlace_14 ?_
      refine va_alen hx hb hK hP 5 4 rfl rfl (v := nI ccn) (rfl) dX3_crossingPlace_17 ?_
      refine lv_icmp_ge (tgt := 30) hx hb dX3_crossingPlace_18 (by decide) (fun c18 => ?_) (fun c18 => ?_)
      · rw [if_pos c18] at hF
        refine lv_iconst (v := (-1)) hx hb dX3_crossingPlace_30 (by decide) ?_
        exact W.iret (v := (-1)) hx hb hr (fun t ht _ => ⟨by rw [← hF], ht⟩) (fun _ h => nomatch h) dX3_crossingPlace_31
      · rw [if_neg c18] at hF
        refine lv_aload_n hx hb dX3_crossingPlace_21 rfl (lv_at hl 0 rfl) ?_
        refine va_get (D := D) (ci := 3) (v := .ref a_cc) (C := RX3) (T := TX3) (N := 8) hx hb hta inX3 hown hK hP 0 rfl rfl 4 (by decide) (hta _ gw_80) (fun _ h9 => h9) rfl dX3_crossingPlace_22 ?_
        refine lv_iload_n hx hb dX3_crossingPlace_25 rfl (lv_at hl 1 rfl) ?_
        refine va_iald hx hb hK hP 5 4 rfl rfl (i := px) (vi2 c1 c18 hnc) dX3_crossingPlace_26 ?_
        refine lv_goto (tgt := 31) hx hb dX3_crossingPlace_27 (by decide) ?_
        exact W.iret (v := ccf px.toNatClampNeg) hx hb hr (fun t ht _ => ⟨by rw [← hF], ht⟩) (fun _ h => nomatch h) dX3_crossingPlace_31

theorem lo_in {x c : Int32} {n : Nat} (hn : n < 2147483647) (c1 : ¬ x < 0) (c9 : ¬ c ≤ x) (c20 : x + 1 < nI n) : vp_in x n ∧ vp_in (x + 1) n := by
  have e := inc_toInt c9
  rw [i_lt, i_0] at c1
  rw [i_lt, nI_toInt (by omega)] at c20
  rw [vp_in_iff, vp_in_iff]
  omega
def f_C_lengthOf (cbn : Nat) (cbf : Nat → Int32) (csc : Int32) (px : Int32) : Int32 := (if px < 0 then 0 else (if csc ≤ px then 0 else (if (px + 1) < (nI cbn) then (cbf (px + 1).toNatClampNeg) - (cbf px.toNatClampNeg) else 0)))
set_option maxHeartbeats 4000000 in
set_option maxRecDepth 100000 in
theorem c_C_lengthOf (l : Launch) (D : va_G) (tX tY : Nat) (a_c : Nat) (a_cl : Nat) (k_cl : ClassId) (cln : Nat) (clf : Nat → Int32) (a_ct : Nat) (k_ct : ClassId) (ctn : Nat) (ctf : Nat → Int32) (a_cs : Nat) (k_cs : ClassId) (csn : Nat) (csf : Nat → Int32) (a_cb : Nat) (k_cb : ClassId) (cbn : Nat) (cbf : Nat → Int32) (a_cc : Nat) (k_cc : ClassId) (ccn : Nat) (ccf : Nat → Int32) (csc : Int32) (csm : Int32) (ccr : Int32) (px : Int32) (hnb : cbn < 2147483647) : Met l yX3_lengthOf wX3_lengthOf ({ frames := 0, cells := 0, slots := 0, locals := 0 }) (ro_P D tX tY [(k_cl, .int), (k_ct, .int), (k_cs, .int), (k_cb, .int), (k_cc, .int)] [(a_c, .inr (3, [.ref a_cl, .ref a_ct, .ref a_cs, .ref a_cb, .ref a_cc, .int csc, .int csm, .int ccr])), (a_cl, .inl (k_cl, cln, .inl clf)), (a_ct, .inl (k_ct, ctn, .inl ctf)), (a_cs, .inl (k_cs, csn, .inl csf)), (a_cb, .inl (k_cb, cbn, .inl cbf)), (a_cc, .inl (k_cc, ccn, .inl ccf))] [.ref a_c, .int px]) (k2_QcV (.int (f_C_lengthOf cbn cbf csc px))) 0 0 (fun _ => False) := by
  generalize hF : (f_C_lengthOf cbn cbf csc px) = F
  refine Met.ofW (cc := cX3_lengthOf) (maxL := 2) (ret := (some .int)) (by decide) rfl ?_
  intro p e s m args below meth c s₁ B hml hv
  obtain ⟨rfl, hP, hK, hT, hN⟩ := hv
  have hx := B.exec
  have hb := B.bytes
  have hr := B.returns
  have hts := atoms_spec (ws := wX3_lengthOf) B.pre
  have hta : ∀ w ∈ gw, w.before _ s = true := fun w h => hts w (List.mem_cons_of_mem _ h)
  have hown : s.vm.findClass RX3 = some m.cls := findClass_of_methodNamed B.named
  have hlocks := B.notSynchronized
  have hl := lv_entry [.ref a_c, .int px] (n := 2) (Nat.le_of_ble_eq_true rfl)
  rw [lg_entry_eq]
  generalize (lg_sl [.ref a_c, .int px] ++ List.replicate (2 - (lg_sl [.ref a_c, .int px]).length) Slot.unset).toArray = ls at hl ⊢
  have hl : lv_has ls 2 [(0, .ref a_c), (1, .int px)] := hl
  rw [f_C_lengthOf] at hF
  refine lv_iload_n hx hb dX3_lengthOf_0 rfl (lv_at hl 1 rfl) ?_
  refine lv_if_lt (tgt := 23) hx hb dX3_lengthOf_1 (by decide) (fun c1 => ?_) (fun c1 => ?_)
  · rw [if_pos c1] at hF
    refine lv_iconst (v := 0) hx hb dX3_lengthOf_23 (by decide) ?_
    exact W.iret (v := 0) hx hb hr (fun t ht _ => ⟨by rw [← hF], ht⟩) (fun _ h => nomatch h) dX3_lengthOf_24
  · rw [if_neg c1] at hF
    refine lv_iload_n hx hb dX3_lengthOf_4 rfl (lv_at hl 1 rfl) ?_
    refine lv_aload_n hx hb dX3_lengthOf_5 rfl (lv_at hl 0 rfl) ?_
    refine va_get (D := D) (ci := 3) (v := .int csc) (C := RX3) (T := TX3) (N := 8) hx hb hta inX3 hown hK hP 0 rfl rfl 5 (by decide) (hta _ gw_81) (fun _ h9 => h9) rfl dX3_lengthOf_6 ?_
    refine lv_icmp_ge (tgt := 23) hx hb dX3_lengthOf_9 (by decide) (fun c9 => ?_) (fun c9 => ?_)
    · rw [if_pos c9] at hF
      refine lv_iconst (v := 0) hx hb dX3_lengthOf_23 (by decide) ?_
      exact W.iret (v := 0) hx hb hr (fun t ht _ => ⟨by rw [← hF], ht⟩) (fun _ h => nomatch h) dX3_lengthOf_24
    · rw [if_neg c9] at hF
      refine lv_iload_n hx hb dX3_lengthOf_12 rfl (lv_at hl 1 rfl) ?_
      refine lv_iconst (v := 1) hx hb dX3_lengthOf_13 (by decide) ?_
      refine lv_iadd hx hb dX3_lengthOf_14 ?_
      refine lv_aload_n hx hb dX3_lengthOf_15 rfl (lv_at hl 0 rfl) ?_
      refine va_get (D := D) (ci := 3) (v := .ref a_cb) (C := RX3) (T := TX3) (N := 8) hx hb hta inX3 hown hK hP 0 rfl rfl 3 (by decide) (hta _ gw_79) (fun _ h9 => h9) rfl dX3_lengthOf_16 ?_
      refine va_alen hx hb hK hP 4 3 rfl rfl (v := nI cbn) (rfl) dX3_lengthOf_19 ?_
      refine lv_icmp_lt (tgt := 25) hx hb dX3_lengthOf_20 (by decide) (fun c20 => ?_) (fun c20 => ?_)
      · rw [if_pos c20] at hF
        refine lv_aload_n hx hb dX3_lengthOf_25 rfl (lv_at hl 0 rfl) ?_
        refine va_get (D := D) (ci := 3) (v := .ref a_cb) (C := RX3) (T := TX3) (N := 8) hx hb hta inX3 hown hK hP 0 rfl rfl 3 (by decide) (hta _ gw_79) (fun _ h9 => h9) rfl dX3_lengthOf_26 ?_
        refine lv_iload_n hx hb dX3_lengthOf_29 rfl (lv_at hl 1 rfl) ?_
        refine lv_iconst (v := 1) hx hb dX3_lengthOf_30 (by decide) ?_
        refine lv_iadd hx hb dX3_lengthOf_31 ?_
        refine va_iald hx hb hK hP 4 3 rfl rfl (i := px + 1) ((lo_in hnb c1 c9 c20).2) dX3_lengthOf_32 ?_
        refine lv_aload_n hx hb dX3_lengthOf_33 rfl (lv_at hl 0 rfl) ?_
        refine va_get (D := D) (ci := 3) (v := .ref a_cb) (C := RX3) (T := TX3) (N := 8) hx hb hta inX3 hown hK hP 0 rfl rfl 3 (by decide) (hta _ gw_79) (fun _ h9 => h9) rfl dX3_lengthOf_34 ?_
        refine lv_iload_n hx hb dX3_lengthOf_37 rfl (lv_at hl 1 rfl) ?_
        refine va_iald hx hb hK hP 4 3 rfl rfl (i := px) ((lo_in hnb c1 c9 c20).1) dX3_lengthOf_38 ?_
        refine lv_isub hx hb dX3_lengthOf_39 ?_
        exact W.iret (v := (cbf (px + 1).toNatClampNeg) - (cbf px.toNatClampNeg)) hx hb hr (fun t ht _ => ⟨by rw [← hF], ht⟩) (fun _ h => nomatch h) dX3_lengthOf_40
      · rw [if_neg c20] at hF
        refine lv_iconst (v := 0) hx hb dX3_lengthOf_23 (by decide) ?_
        exact W.iret (v := 0) hx hb hr (fun t ht _ => ⟨by rw [← hF], ht⟩) (fun _ h => nomatch h) dX3_lengthOf_24

theorem len_in {cbn : Nat} {cbf : Nat → Int32} {csc px k : Int32} (hn : cbn < 2147483647) (h0 : ¬ k < 0) (h : k < f_C_lengthOf cbn cbf csc px) : vp_in px cbn := by
  rw [f_C_lengthOf] at h
  by_cases h1 : px < 0
  · rw [if_pos h1] at h; exact absurd h h0
  rw [if_neg h1] at h
  by_cases h2 : csc ≤ px
  · rw [if_pos h2] at h; exact absurd h h0
  rw [if_neg h2] at h
  by_cases h3 : px + 1 < nI cbn
  · exact (lo_in hn h1 h2 h3).1
  rw [if_neg h3] at h; exact absurd h h0
def f_C_sampleOf_t23 (csn : Nat) (csf : Nat → Int32) (ix : Int32) : Int32 := (if ix < 0 then (-1) else (if (nI csn) ≤ ix then (-1) else csf ix.toNatClampNeg))
def f_C_sampleOf (csn : Nat) (csf : Nat → Int32) (cbn : Nat) (cbf : Nat → Int32) (csc : Int32) (px : Int32) (py : Int32) : Int32 := (if py < 0 then (-1) else (if py < (f_C_lengthOf cbn cbf csc px) then (f_C_sampleOf_t23 csn csf ((cbf px.toNatClampNeg) + py)) else (-1)))
set_option maxHeartbeats 4000000 in
set_option maxRecDepth 100000 in
theorem c_C_sampleOf (l : Launch) (D : va_G) (tX tY : Nat) (a_c : Nat) (a_cl : Nat) (k_cl : ClassId) (cln : Nat) (clf : Nat → Int32) (a_ct : Nat) (k_ct : ClassId) (ctn : Nat) (ctf : Nat → Int32) (a_cs : Nat) (k_cs : ClassId) (csn : Nat) (csf : Nat → Int32) (a_cb : Nat) (k_cb : ClassId) (cbn : Nat) (cbf : Nat → Int32) (a_cc : Nat) (k_cc : ClassId) (ccn : Nat) (ccf : Nat → Int32) (csc : Int32) (csm : Int32) (ccr : Int32) (px : Int32) (py : Int32) (hnb : cbn < 2147483647) (hns : csn < 2147483647) : Met l yX3_sampleOf wX3_sampleOf ({ frames := 1, cells := 0, slots := 0, locals := 21 }) (ro_P D tX tY [(k_cl, .int), (k_ct, .int), (k_cs, .int), (k_cb, .int), (k_cc, .int)] [(a_c, .inr (3, [.ref a_cl, .ref a_ct, .ref a_cs, .ref a_cb, .ref a_cc, .int csc, .int csm, .int ccr])), (a_cl, .inl (k_cl, cln, .inl clf)), (a_ct, .inl (k_ct, ctn, .inl ctf)), (a_cs, .inl (k_cs, csn, .inl csf)), (a_cb, .inl (k_cb, cbn, .inl cbf)), (a_cc, .inl (k_cc, ccn, .inl ccf))] [.ref a_c, .int px, .int py]) (k2_QcV (.int (f_C_sampleOf csn csf cbn cbf csc px py))) 0 0 (fun _ => False) := by
  generalize hF : (f_C_sampleOf csn csf cbn cbf csc px py) = F
  refine Met.ofW (cc := cX3_sampleOf) (maxL := 4) (ret := (some .int)) (by decide) rfl ?_
  intro p e s m args below meth c s₁ B hml hv
  obtain ⟨rfl, hP, hK, hT, hN⟩ := hv
  have hx := B.exec
  have hb := B.bytes
  have hr := B.returns
  have hts := atoms_spec (ws := wX3_sampleOf) B.pre
  have hta : ∀ w ∈ gw, w.before _ s = true := fun w h => hts w (List.mem_cons_of_mem _ h)
  have hown : s.vm.findClass RX3 = some m.cls := findClass_of_methodNamed B.named
  have hlocks := B.notSynchronized
  have hl := lv_entry [.ref a_c, .int px, .int py] (n := 4) (Nat.le_of_ble_eq_true rfl)
  rw [lg_entry_eq]
  generalize (lg_sl [.ref a_c, .int px, .int py] ++ List.replicate (4 - (lg_sl [.ref a_c, .int px, .int py]).length) Slot.unset).toArray = ls at hl ⊢
  have hl : lv_has ls 4 [(0, .ref a_c), (1, .int px), (2, .int py)] := hl
  rw [f_C_sampleOf] at hF
  refine lv_iload_n hx hb dX3_sampleOf_0 rfl (lv_at hl 2 rfl) ?_
  refine lv_if_lt (tgt := 13) hx hb dX3_sampleOf_1 (by decide) (fun c1 => ?_) (fun c1 => ?_)
  · rw [if_pos c1] at hF
    refine lv_iconst (v := (-1)) hx hb dX3_sampleOf_13 (by decide) ?_
    exact W.iret (v := (-1)) hx hb hr (fun t ht _ => ⟨by rw [← hF], ht⟩) (fun _ h => nomatch h) dX3_sampleOf_14
  · rw [if_neg c1] at hF
    refine lv_iload_n hx hb dX3_sampleOf_4 rfl (lv_at hl 2 rfl) ?_
    refine lv_aload_n hx hb dX3_sampleOf_5 rfl (lv_at hl 0 rfl) ?_
    refine lv_iload_n hx hb dX3_sampleOf_6 rfl (lv_at hl 1 rfl) ?_
    refine ro_go (va_runV (As := [.int px]) (rest := [.int py]) ⟨hx, hb, hml, hown, hts⟩ (c_C_lengthOf l D tX tY a_c a_cl k_cl cln clf a_ct k_ct ctn ctf a_cs k_cs csn csf a_cb k_cb cbn cbf a_cc k_cc ccn ccf csc csm ccr px (hnb)) (cwV 1 hts (gi_4 gi_c gw_485 gw_486 gw_487 gw_5 gw_488) rfl rfl rfl (by decide +kernel) ⟨Nat.le_of_ble_eq_true rfl, Nat.le_of_ble_eq_true rfl⟩) ⟨ro_blind, va_recv hK hP (ci := 3) (q0 := 0) rfl rfl, ro_at hP hK hT hN va_S.rf [0, 1, 2, 3, 4, 5] [0, 1, 2, 3, 4] rfl rfl⟩ rfl rfl hl.1 rfl (lv_room (Nat.le_of_ble_eq_true rfl)) dX3_sampleOf_7 ⟨Nat.le_of_ble_eq_true rfl, Nat.le_of_ble_eq_true rfl⟩) ?_
    refine lv_icmp_lt (tgt := 15) hx hb dX3_sampleOf_10 (by decide) (fun c10 => ?_) (fun c10 => ?_)
    · rw [if_pos c10] at hF
      refine lv_aload_n hx hb dX3_sampleOf_15 rfl (lv_at hl 0 rfl) ?_
      refine va_get (D := D) (ci := 3) (v := .ref a_cb) (C := RX3) (T := TX3) (N := 8) hx hb hta inX3 hown hK hP 0 rfl rfl 3 (by decide) (hta _ gw_79) (fun _ h9 => h9) rfl dX3_sampleOf_16 ?_
      refine lv_iload_n hx hb dX3_sampleOf_19 rfl (lv_at hl 1 rfl) ?_
      refine va_iald hx hb hK hP 4 3 rfl rfl (i := px) (len_in hnb c1 c10) dX3_sampleOf_20 ?_
      refine lv_iload_n hx hb dX3_sampleOf_21 rfl (lv_at hl 2 rfl) ?_
      refine lv_iadd hx hb dX3_sampleOf_22 ?_
      refine lv_topi (fun ix e_ix => ?_)
      have e_ix : ix = (cbf px.toNatClampNeg) + py := e_ix
      rw [← e_ix] at hF
      rw [f_C_sampleOf_t23] at hF
      refine lv_istore_n (lv' := [(3, .int ix), (0, .ref a_c), (1, .int px), (2, .int py)]) hx hb dX3_sampleOf_23 rfl hl (by decide) rfl (fun ls hl => ?_)
      refine lv_iload_n hx hb dX3_sampleOf_24 rfl (lv_at hl 0 rfl) ?_
      refine lv_if_lt (tgt := 46) hx hb dX3_sampleOf_25 (by decide) (fun c25 => ?_) (fun c25 => ?_)
      · rw [if_pos c25] at hF
        refine lv_iconst (v := (-1)) hx hb dX3_sampleOf_46 (by decide) ?_
        exact W.iret (v := (-1)) hx hb hr (fun t ht _ => ⟨by rw [← hF], ht⟩) (fun _ h => nomatch h) dX3_sampleOf_47
      · rw [if_neg c25] at hF
        refine lv_iload_n hx hb dX3_sampleOf_28 rfl (lv_at hl 0 rfl) ?_
        refine lv_aload_n hx hb dX3_sampleOf_29 rfl (lv_at hl 1 rfl) ?_
        refine va_get (D := D) (ci := 3) (v := .ref a_cs) (C := RX3) (T := TX3) (N := 8) hx hb hta inX3 hown hK hP 0 rfl rfl 2 (by decide) (hta _ gw_78) (fun _ h9 => h9) rfl dX3_sampleOf_30 ?_
        refine va_alen hx hb hK hP 3 2 rfl rfl (v := nI csn) (rfl) dX3_sampleOf_33 ?_
        refine lv_icmp_ge (tgt := 46) hx hb dX3_sampleOf_34 (by decide) (fun c34 => ?_) (fun c34 => ?_)
        · rw [if_pos c34] at hF
          refine lv_iconst (v := (-1)) hx hb dX3_sampleOf_46 (by decide) ?_
          exact W.iret (v := (-1)) hx hb hr (fun t ht _ => ⟨by rw [← hF], ht⟩) (fun _ h => nomatch h) dX3_sampleOf_47
        · rw [if_neg c34] at hF
          refine lv_aload_n hx hb dX3_sampleOf_37 rfl (lv_at hl 1 rfl) ?_
          refine va_get (D := D) (ci := 3) (v := .ref a_cs) (C := RX3) (T := TX3) (N := 8) hx hb hta inX3 hown hK hP 0 rfl rfl 2 (by decide) (hta _ gw_78) (fun _ h9 => h9) rfl dX3_sampleOf_38 ?_
          refine lv_iload_n hx hb dX3_sampleOf_41 rfl (lv_at hl 0 rfl) ?_
          refine va_iald hx hb hK hP 3 2 rfl rfl (i := ix) (vi2 c25 c34 hns) dX3_sampleOf_42 ?_
          refine lv_goto (tgt := 47) hx hb dX3_sampleOf_43 (by decide) ?_
          exact W.iret (v := csf ix.toNatClampNeg) hx hb hr (fun t ht _ => ⟨by rw [← hF], ht⟩) (fun _ h => nomatch h) dX3_sampleOf_47
    · rw [if_neg c10] at hF
      refine lv_iconst (v := (-1)) hx hb dX3_sampleOf_13 (by decide) ?_
      exact W.iret (v := (-1)) hx hb hr (fun t ht _ => ⟨by rw [← hF], ht⟩) (fun _ h => nomatch h) dX3_sampleOf_14

def f_C_linksOf (cln : Nat) (clf : Nat → Int32) (px : Int32) : Int32 := (if px < 0 then 0 else (if (nI cln) ≤ px then 0 else clf px.toNatClampNeg))
set_option maxHeartbeats 4000000 in
set_option maxRecDepth 100000 in
theorem c_C_linksOf (l : Launch) (D : va_G) (tX tY : Nat) (a_c : Nat) (a_cl : Nat) (k_cl : ClassId) (cln : Nat) (clf : Nat → Int32) (a_ct : Nat) (k_ct : ClassId) (ctn : Nat) (ctf : Nat → Int32) (a_cs : Nat) (k_cs : ClassId) (csn : Nat) (csf : Nat → Int32) (a_cb : Nat) (k_cb : ClassId) (cbn : Nat) (cbf : Nat → Int32) (a_cc : Nat) (k_cc : ClassId) (ccn : Nat) (ccf : Nat → Int32) (csc : Int32) (csm : Int32) (ccr : Int32) (px : Int32) (hnl : cln < 2147483647) : Met l yX3_linksOf wX3_linksOf ({ frames := 0, cells := 0, slots := 0, locals := 0 }) (ro_P D tX tY [(k_cl, .int), (k_ct, .int), (k_cs, .int), (k_cb, .int), (k_cc, .int)] [(a_c, .inr (3, [.ref a_cl, .ref a_ct, .ref a_cs, .ref a_cb, .ref a_cc, .int csc, .int csm, .int ccr])), (a_cl, .inl (k_cl, cln, .inl clf)), (a_ct, .inl (k_ct, ctn, .inl ctf)), (a_cs, .inl (k_cs, csn, .inl csf)), (a_cb, .inl (k_cb, cbn, .inl cbf)), (a_cc, .inl (k_cc, ccn, .inl ccf))] [.ref a_c, .int px]) (k2_QcV (.int (f_C_linksOf cln clf px))) 0 0 (fun _ => False) := by
  generalize hF : (f_C_linksOf cln clf px) = F
  refine Met.ofW (cc := cX3_linksOf) (maxL := 2) (ret := (some .int)) (by decide) rfl ?_
  intro p e s m args below meth c s₁ B hml hv
  obtain ⟨rfl, hP, hK, hT, hN⟩ := hv
  have hx := B.exec
  have hb := B.bytes
  have hr := B.returns
  have hts := atoms_spec (ws := wX3_linksOf) B.pre
  have hta : ∀ w ∈ gw, w.before _ s = true := fun w h => hts w (List.mem_cons_of_mem _ h)
  have hown : s.vm.findClass RX3 = some m.cls := findClass_of_methodNamed B.named
  have hlocks := B.notSynchronized
  have hl := lv_entry [.ref a_c, .int px] (n := 2) (Nat.le_of_ble_eq_true rfl)
  rw [lg_entry_eq]
  generalize (lg_sl [.ref a_c, .int px] ++ List.replicate (2 - (lg_sl [.ref a_c, .int px]).length) Slot.unset).toArray = ls at hl ⊢
  have hl : lv_has ls 2 [(0, .ref a_c), (1, .int px)] := hl
  rw [f_C_linksOf] at hF
  refine lv_iload_n hx hb dX3_linksOf_0 rfl (lv_at hl 1 rfl) ?_
  refine lv_if_lt (tgt := 22) hx hb dX3_linksOf_1 (by decide) (fun c1 => ?_) (fun c1 => ?_)
  · rw [if_pos c1] at hF
    refine lv_iconst (v := 0) hx hb dX3_linksOf_22 (by decide) ?_
    exact W.iret (v := 0) hx hb hr (fun t ht _ => ⟨by rw [← hF], ht⟩) (fun _ h => nomatch h) dX3_linksOf_23
  · rw [if_neg c1] at hF
    refine lv_iload_n hx hb dX3_linksOf_4 rfl (lv_at hl 1 rfl) ?_
    refine lv_aload_n hx hb dX3_linksOf_5 rfl (lv_at hl 0 rfl) ?_
    refine va_get (D := D) (ci := 3) (v := .ref a_cl) (C := RX3) (T := TX3) (N := 8) hx hb hta inX3 hown hK hP 0 rfl rfl 0 (by decide) (hta _ gw_76) (fun _ h9 => h9) rfl dX3_linksOf_6 ?_
    refine va_alen hx hb hK hP 1 0 rfl rfl (v := nI cln) (rfl) dX3_linksOf_9 ?_
    refine lv_icmp_ge (tgt := 22) hx hb dX3_linksOf_10 (by decide) (fun c10 => ?_) (fun c10 => ?_)
    · rw [if_pos c10] at hF
      refine lv_iconst (v := 0) hx hb dX3_linksOf_22 (by decide) ?_
      exact W.iret (v := 0) hx hb hr (fun t ht _ => ⟨by rw [← hF], ht⟩) (fun _ h => nomatch h) dX3_linksOf_23
    · rw [if_neg c10] at hF
      refine lv_aload_n hx hb dX3_linksOf_13 rfl (lv_at hl 0 rfl) ?_
      refine va_get (D := D) (ci := 3) (v := .ref a_cl) (C := RX3) (T := TX3) (N := 8) hx hb hta inX3 hown hK hP 0 rfl rfl 0 (by decide) (hta _ gw_76) (fun _ h9 => h9) rfl dX3_linksOf_14 ?_
      refine lv_iload_n hx hb dX3_linksOf_17 rfl (lv_at hl 1 rfl) ?_
      refine va_iald hx hb hK hP 1 0 rfl rfl (i := px) (vi2 c1 c10 hnl) dX3_linksOf_18 ?_
      refine lv_goto (tgt := 23) hx hb dX3_linksOf_19 (by decide) ?_
      exact W.iret (v := clf px.toNatClampNeg) hx hb hr (fun t ht _ => ⟨by rw [← hF], ht⟩) (fun _ h => nomatch h) dX3_linksOf_23

def f_C_takenOf (ctn : Nat) (ctf : Nat → Int32) (px : Int32) : Int32 := (if px < 0 then 0 else (if (nI ctn) ≤ px then 0 else ctf px.toNatClampNeg))
set_option maxHeartbeats 4000000 in
set_option maxRecDepth 100000 in
theorem c_C_takenOf (l : Launch) (D : va_G) (tX tY : Nat) (a_c : Nat) (a_cl : Nat) (k_cl : ClassId) (cln : Nat) (clf : Nat → Int32) (a_ct : Nat) (k_ct : ClassId) (ctn : Nat) (ctf : Nat → Int32) (a_cs : Nat) (k_cs : ClassId) (csn : Nat) (csf : Nat → Int32) (a_cb : Nat) (k_cb : ClassId) (cbn : Nat) (cbf : Nat → Int32) (a_cc : Nat) (k_cc : ClassId) (ccn : Nat) (ccf : Nat → Int32) (csc : Int32) (csm : Int32) (ccr : Int32) (px : Int32) (hnt : ctn < 2147483647) : Met l yX3_takenOf wX3_takenOf ({ frames := 0, cells := 0, slots := 0, locals := 0 }) (ro_P D tX tY [(k_cl, .int), (k_ct, .int), (k_cs, .int), (k_cb, .int), (k_cc, .int)] [(a_c, .inr (3, [.ref a_cl, .ref a_ct, .ref a_cs, .ref a_cb, .ref a_cc, .int csc, .int csm, .int ccr])), (a_cl, .inl (k_cl, cln, .inl clf)), (a_ct, .inl (k_ct, ctn, .inl ctf)), (a_cs, .inl (k_cs, csn, .inl csf)), (a_cb, .inl (k_cb, cbn, .inl cbf)), (a_cc, .inl (k_cc, ccn, .inl ccf))] [.ref a_c, .int px]) (k2_QcV (.int (f_C_takenOf ctn ctf px))) 0 0 (fun _ => False) := by
  generalize hF : (f_C_takenOf ctn ctf px) = F
  refine Met.ofW (cc := cX3_takenOf) (maxL := 2) (ret := (some .int)) (by decide) rfl ?_
  intro p e s m args below meth c s₁ B hml hv
  obtain ⟨rfl, hP, hK, hT, hN⟩ := hv
  have hx := B.exec
  have hb := B.bytes
  have hr := B.returns
  have hts := atoms_spec (ws := wX3_takenOf) B.pre
  have hta : ∀ w ∈ gw, w.before _ s = true := fun w h => hts w (List.mem_cons_of_mem _ h)
  have hown : s.vm.findClass RX3 = some m.cls := findClass_of_methodNamed B.named
  have hlocks := B.notSynchronized
  have hl := lv_entry [.ref a_c, .int px] (n := 2) (Nat.le_of_ble_eq_true rfl)
  rw [lg_entry_eq]
  generalize (lg_sl [.ref a_c, .int px] ++ List.replicate (2 - (lg_sl [.ref a_c, .int px]).length) Slot.unset).toArray = ls at hl ⊢
  have hl : lv_has ls 2 [(0, .ref a_c), (1, .int px)] := hl
  rw [f_C_takenOf] at hF
  refine lv_iload_n hx hb dX3_takenOf_0 rfl (lv_at hl 1 rfl) ?_
  refine lv_if_lt (tgt := 22) hx hb dX3_takenOf_1 (by decide) (fun c1 => ?_) (fun c1 => ?_)
  · rw [if_pos c1] at hF
    refine lv_iconst (v := 0) hx hb dX3_takenOf_22 (by decide) ?_
    exact W.iret (v := 0) hx hb hr (fun t ht _ => ⟨by rw [← hF], ht⟩) (fun _ h => nomatch h) dX3_takenOf_23
  · rw [if_neg c1] at hF
    refine lv_iload_n hx hb dX3_takenOf_4 rfl (lv_at hl 1 rfl) ?_
    refine lv_aload_n hx hb dX3_takenOf_5 rfl (lv_at hl 0 rfl) ?_
    refine va_get (D := D) (ci := 3) (v := .ref a_ct) (C := RX3) (T := TX3) (N := 8) hx hb hta inX3 hown hK hP 0 rfl rfl 1 (by decide) (hta _ gw_77) (fun _ h9 => h9) rfl dX3_takenOf_6 ?_
    refine va_alen hx hb hK hP 2 1 rfl rfl (v := nI ctn) (rfl) dX3_takenOf_9 ?_
    refine lv_icmp_ge (tgt := 22) hx hb dX3_takenOf_10 (by decide) (fun c10 => ?_) (fun c10 => ?_)
    · rw [if_pos c10] at hF
      refine lv_iconst (v := 0) hx hb dX3_takenOf_22 (by decide) ?_
      exact W.iret (v := 0) hx hb hr (fun t ht _ => ⟨by rw [← hF], ht⟩) (fun _ h => nomatch h) dX3_takenOf_23
    · rw [if_neg c10] at hF
      refine lv_aload_n hx hb dX3_takenOf_13 rfl (lv_at hl 0 rfl) ?_
      refine va_get (D := D) (ci := 3) (v := .ref a_ct) (C := RX3) (T := TX3) (N := 8) hx hb hta inX3 hown hK hP 0 rfl rfl 1 (by decide) (hta _ gw_77) (fun _ h9 => h9) rfl dX3_takenOf_14 ?_
      refine lv_iload_n hx hb dX3_takenOf_17 rfl (lv_at hl 1 rfl) ?_
      refine va_iald hx hb hK hP 2 1 rfl rfl (i := px) (vi2 c1 c10 hnt) dX3_takenOf_18 ?_
      refine lv_goto (tgt := 23) hx hb dX3_takenOf_19 (by decide) ?_
      exact W.iret (v := ctf px.toNatClampNeg) hx hb hr (fun t ht _ => ⟨by rw [← hF], ht⟩) (fun _ h => nomatch h) dX3_takenOf_23

def f_C_degreeOf (cln : Nat) (clf : Nat → Int32) (px : Int32) : Int32 := (f_bitCount (f_C_linksOf cln clf px))
set_option maxHeartbeats 4000000 in
set_option maxRecDepth 100000 in
theorem c_C_degreeOf (l : Launch) (D : va_G) (tX tY : Nat) (a_c : Nat) (a_cl : Nat) (k_cl : ClassId) (cln : Nat) (clf : Nat → Int32) (a_ct : Nat) (k_ct : ClassId) (ctn : Nat) (ctf : Nat → Int32) (a_cs : Nat) (k_cs : ClassId) (csn : Nat) (csf : Nat → Int32) (a_cb : Nat) (k_cb : ClassId) (cbn : Nat) (cbf : Nat → Int32) (a_cc : Nat) (k_cc : ClassId) (ccn : Nat) (ccf : Nat → Int32) (csc : Int32) (csm : Int32) (ccr : Int32) (px : Int32) (hnl : cln < 2147483647) : Met l yX3_degreeOf wX3_degreeOf ({ frames := 1, cells := 0, slots := 0, locals := 21 }) (ro_P D tX tY [(k_cl, .int), (k_ct, .int), (k_cs, .int), (k_cb, .int), (k_cc, .int)] [(a_c, .inr (3, [.ref a_cl, .ref a_ct, .ref a_cs, .ref a_cb, .ref a_cc, .int csc, .int csm, .int ccr])), (a_cl, .inl (k_cl, cln, .inl clf)), (a_ct, .inl (k_ct, ctn, .inl ctf)), (a_cs, .inl (k_cs, csn, .inl csf)), (a_cb, .inl (k_cb, cbn, .inl cbf)), (a_cc, .inl (k_cc, ccn, .inl ccf))] [.ref a_c, .int px]) (k2_QcV (.int (f_C_degreeOf cln clf px))) 0 0 (fun _ => False) := by
  generalize hF : (f_C_degreeOf cln clf px) = F
  refine Met.ofW (cc := cX3_degreeOf) (maxL := 2) (ret := (some .int)) (by decide) rfl ?_
  intro p e s m args below meth c s₁ B hml hv
  obtain ⟨rfl, hP, hK, hT, hN⟩ := hv
  have hx := B.exec
  have hb := B.bytes
  have hr := B.returns
  have hts := atoms_spec (ws := wX3_degreeOf) B.pre
  have hta : ∀ w ∈ gw, w.before _ s = true := fun w h => hts w (List.mem_cons_of_mem _ h)
  have hown : s.vm.findClass RX3 = some m.cls := findClass_of_methodNamed B.named
  have hlocks := B.notSynchronized
  have hl := lv_entry [.ref a_c, .int px] (n := 2) (Nat.le_of_ble_eq_true rfl)
  rw [lg_entry_eq]
  generalize (lg_sl [.ref a_c, .int px] ++ List.replicate (2 - (lg_sl [.ref a_c, .int px]).length) Slot.unset).toArray = ls at hl ⊢
  have hl : lv_has ls 2 [(0, .ref a_c), (1, .int px)] := hl
  rw [f_C_degreeOf] at hF
  refine lv_aload_n hx hb dX3_degreeOf_0 rfl (lv_at hl 0 rfl) ?_
  refine lv_iload_n hx hb dX3_degreeOf_1 rfl (lv_at hl 1 rfl) ?_
  refine ro_go (va_runV (As := [.int px]) (rest := []) ⟨hx, hb, hml, hown, hts⟩ (c_C_linksOf l D tX tY a_c a_cl k_cl cln clf a_ct k_ct ctn ctf a_cs k_cs csn csf a_cb k_cb cbn cbf a_cc k_cc ccn ccf csc csm ccr px (hnl)) (cwV 1 hts (gi_4 gi_c gw_227 gw_229 gs_X3_linksOf gw_5 gw_230) rfl rfl rfl (by decide +kernel) ⟨Nat.le_of_ble_eq_true rfl, Nat.le_of_ble_eq_true rfl⟩) ⟨ro_blind, va_recv hK hP (ci := 3) (q0 := 0) rfl rfl, ro_at hP hK hT hN va_S.rf [0, 1, 2, 3, 4, 5] [0, 1, 2, 3, 4] rfl rfl⟩ rfl rfl hl.1 rfl (lv_room (Nat.le_of_ble_eq_true rfl)) dX3_degreeOf_2 ⟨Nat.le_of_ble_eq_true rfl, Nat.le_of_ble_eq_true rfl⟩) ?_
  refine ro_go (va_runS (As := [.int (f_C_linksOf cln clf px)]) (rest := []) ⟨hx, hb, hml, hown, hts⟩ (c_bitCount l D tX tY (f_C_linksOf cln clf px)) (va_cwS 1 hts (gi_3 gi_c gw_231 gw_181 gw_12 gw_182) rfl rfl rfl (by decide +kernel) ⟨Nat.le_of_ble_eq_true rfl, Nat.le_of_ble_eq_true rfl⟩) ⟨ro_blind, ro_at hP hK hT hN va_S.rf [] [] rfl rfl⟩ rfl rfl hl.1 rfl (lv_room (Nat.le_of_ble_eq_true rfl)) dX3_degreeOf_5 ⟨Nat.le_of_ble_eq_true rfl, Nat.le_of_ble_eq_true rfl⟩) ?_
  exact W.iret (v := (f_bitCount (f_C_linksOf cln clf px))) hx hb hr (fun t ht _ => ⟨by rw [← hF], ht⟩) (fun _ h => nomatch h) dX3_degreeOf_8

def f_C_firstDirection_k2  : Int32 → Int32
  | v1_2 => 0
def f_C_firstDirection_L2 (px : Int32) : Nat → Int32 → Int32
  | 0, _ => 0
  | n9 + 1, v1_2 => (if 8 ≤ v1_2 then (f_C_firstDirection_k2  v1_2) else (if (f_hasBit px v1_2) = 0 then ((f_C_firstDirection_L2 px n9) (v1_2 + 1)) else v1_2))
def f_C_firstDirection (px : Int32) : Int32 := (f_C_firstDirection_L2 px FU 0)
set_option maxHeartbeats 4000000 in
set_option maxRecDepth 100000 in
theorem c_C_firstDirection (l : Launch) (D : va_G) (tX tY : Nat) (px : Int32) : Met l yX3_firstDirection wX3_firstDirection ({ frames := 1, cells := 0, slots := 0, locals := 21 }) (ro_P D tX tY [] [] [.int px]) (k2_QcV (.int (f_C_firstDirection px))) 0 0 (fun _ => False) := by
  generalize hF : (f_C_firstDirection px) = F
  refine Met.ofW (cc := cX3_firstDirection) (maxL := 2) (ret := (some .int)) (by decide) rfl ?_
  intro p e s m args below meth c s₁ B hml hv
  obtain ⟨rfl, hP, hK, hT, hN⟩ := hv
  have hx := B.exec
  have hb := B.bytes
  have hr := B.returns
  have hts := atoms_spec (ws := wX3_firstDirection) B.pre
  have hta : ∀ w ∈ gw, w.before _ s = true := fun w h => hts w (List.mem_cons_of_mem _ h)
  have hown : s.vm.findClass RX3 = some m.cls := findClass_of_methodNamed B.named
  have hlocks := B.notSynchronized
  have hl := lv_entry [.int px] (n := 2) (Nat.le_of_ble_eq_true rfl)
  rw [lg_entry_eq]
  generalize (lg_sl [.int px] ++ List.replicate (2 - (lg_sl [.int px]).length) Slot.unset).toArray = ls at hl ⊢
  have hl : lv_has ls 2 [(0, .int px)] := hl
  rw [f_C_firstDirection] at hF
  refine lv_iconst (v := 0) hx hb dX3_firstDirection_0 (by decide) ?_
  refine lv_istore_n (lv' := [(1, .int 0), (0, .int px)]) hx hb dX3_firstDirection_1 rfl hl (by decide) rfl (fun ls hl => ?_)
  have af2 : ∀ (v1_2 : Int32) (ls : Array Slot), f_C_firstDirection_k2  v1_2 = F → lv_has ls 2 [(1, .int v1_2), (0, .int px)] → W p l e { frames := 1, cells := 0, slots := 0, locals := 21 } s m (List.toArray [.int px]) below meth c s.heap [] 0 0 (MQ below (k2_QcV (.int F)) (List.toArray [.int px]) s 0 0 (fun _ => False)) (F0 m 24 ls []) := by
    intro v1_2 ls hF hl
    rw [f_C_firstDirection_k2] at hF
    refine lv_iconst (v := 0) hx hb dX3_firstDirection_24 (by decide) ?_
    exact W.iret (v := 0) hx hb hr (fun t ht _ => ⟨by rw [← hF], ht⟩) (fun _ h => nomatch h) dX3_firstDirection_25
  have lp2 : ∀ (n9 : Nat) (v1_2 : Int32) (ls : Array Slot), ((8 : Int32).toInt - v1_2.toInt).toNat < n9 → f_C_firstDirection_L2 px n9 v1_2 = F → lv_has ls 2 [(1, .int v1_2), (0, .int px)] → W p l e { frames := 1, cells := 0, slots := 0, locals := 21 } s m (List.toArray [.int px]) below meth c s.heap [] 0 0 (MQ below (k2_QcV (.int F)) (List.toArray [.int px]) s 0 0 (fun _ => False)) (F0 m 2 ls []) := by
    intro n9
    induction n9 with
    | zero => intro v1_2 ls hmu2; exact absurd hmu2 (Nat.not_lt_zero _)
    | succ n2 ih2 =>
      intro v1_2 ls hmu2 hF hl
      rw [f_C_firstDirection_L2] at hF
      refine lv_iload_n hx hb dX3_firstDirection_2 rfl (lv_at hl 0 rfl) ?_
      refine lv_bipush (v := 8) hx hb dX3_firstDirection_3 (by decide) ?_
      refine lv_icmp_ge (tgt := 24) hx hb dX3_firstDirection_5 (by decide) (fun c5 => ?_) (fun c5 => ?_)
      · rw [if_pos c5] at hF
        exact af2 v1_2 ls hF (lv_sub hl [0, 1] rfl)
      · rw [if_neg c5] at hF
        refine lv_iload_n hx hb dX3_firstDirection_8 rfl (lv_at hl 1 rfl) ?_
        refine lv_iload_n hx hb dX3_firstDirection_9 rfl (lv_at hl 0 rfl) ?_
        refine ro_go (va_runSN (As := [.int px, .int v1_2]) (rest := []) ⟨hx, hb, hml, hown, hts⟩ (c_hasBit l D tX tY px v1_2) ⟨va_cnB 2 hts (gi gw_176) rfl rfl rfl (gn_249 hN) (hta _ gw_1) (by decide +kernel) ⟨Nat.le_of_ble_eq_true rfl, Nat.le_of_ble_eq_true rfl⟩, hta _ gw_175, trivial⟩ ⟨ro_blind, ro_at hP hK hT hN va_S.rf [] [] rfl rfl⟩ rfl rfl hl.1 rfl (lv_room (Nat.le_of_ble_eq_true rfl)) dX3_firstDirection_10 ⟨Nat.le_of_ble_eq_true rfl, Nat.le_of_ble_eq_true rfl⟩) ?_
        refine lv_if_eq (tgt := 18) hx hb dX3_firstDirection_13 (by decide) (fun c13 => ?_) (fun c13 => ?_)
        · rw [if_pos c13] at hF
          refine lv_iinc (v := v1_2 + 1) (lv' := [(1, .int (v1_2 + 1)), (0, .int px)]) hx hb dX3_firstDirection_18 hl (k := 0) rfl rfl (by decide) rfl (fun ls hl => ?_)
          refine lv_goto (tgt := 2) hx hb dX3_firstDirection_21 (by decide) ?_
          exact ih2 (v1_2 + 1) ls (lt_lt (cu c5) hmu2) hF (lv_sub hl [0, 1] rfl)
        · rw [if_neg c13] at hF
          refine lv_iload_n hx hb dX3_firstDirection_16 rfl (lv_at hl 0 rfl) ?_
          exact W.iret (v := v1_2) hx hb hr (fun t ht _ => ⟨by rw [← hF], ht⟩) (fun _ h => nomatch h) dX3_firstDirection_17
  exact lp2 FU 0 ls (fu_lt _ _) hF (lv_sub hl [0, 1] rfl)

def f_C_stepFrom (px : Int32) (py : Int32) : Int32 := (f_placeOf ((f_columnOf px) + (ts_rx (py &&& 7).toNatClampNeg)) ((f_rowOf px) + (ts_ry (py &&& 7).toNatClampNeg)))
set_option maxHeartbeats 4000000 in
set_option maxRecDepth 100000 in
theorem c_C_stepFrom (l : Launch) (D : va_G) (tX tY : Nat) (px : Int32) (py : Int32) : Met l yX3_stepFrom wX3_stepFrom ({ frames := 1, cells := 0, slots := 0, locals := 21 }) (ro_P D tX tY [] [] [.int px, .int py]) (k2_QcV (.int (f_C_stepFrom px py))) 0 0 (fun _ => False) := by
  generalize hF : (f_C_stepFrom px py) = F
  refine Met.ofW (cc := cX3_stepFrom) (maxL := 3) (ret := (some .int)) (by decide) rfl ?_
  intro p e s m args below meth c s₁ B hml hv
  obtain ⟨rfl, hP, hK, hT, hN⟩ := hv
  have hx := B.exec
  have hb := B.bytes
  have hr := B.returns
  have hts := atoms_spec (ws := wX3_stepFrom) B.pre
  have hta : ∀ w ∈ gw, w.before _ s = true := fun w h => hts w (List.mem_cons_of_mem _ h)
  have hown : s.vm.findClass RX3 = some m.cls := findClass_of_methodNamed B.named
  have hlocks := B.notSynchronized
  have hl := lv_entry [.int px, .int py] (n := 3) (Nat.le_of_ble_eq_true rfl)
  rw [lg_entry_eq]
  generalize (lg_sl [.int px, .int py] ++ List.replicate (3 - (lg_sl [.int px, .int py]).length) Slot.unset).toArray = ls at hl ⊢
  have hl : lv_has ls 3 [(0, .int px), (1, .int py)] := hl
  rw [f_C_stepFrom] at hF
  refine lv_iload_n hx hb dX3_stepFrom_0 rfl (lv_at hl 1 rfl) ?_
  refine lv_bipush (v := 7) hx hb dX3_stepFrom_1 (by decide) ?_
  refine lv_iand hx hb dX3_stepFrom_3 ?_
  refine lv_istore_n (lv' := [(2, .int (py &&& 7)), (0, .int px), (1, .int py)]) hx hb dX3_stepFrom_4 rfl hl (by decide) rfl (fun ls hl => ?_)
  refine lv_iload_n hx hb dX3_stepFrom_5 rfl (lv_at hl 1 rfl) ?_
  refine ro_go (va_runSN (As := [.int px]) (rest := []) ⟨hx, hb, hml, hown, hts⟩ (c_columnOf l D tX tY px) ⟨va_cnB 1 hts (gi gw_194) rfl rfl rfl (gn_210 hN) (hta _ gw_1) (by decide +kernel) ⟨Nat.le_of_ble_eq_true rfl, Nat.le_of_ble_eq_true rfl⟩, hta _ gw_193, trivial⟩ ⟨ro_blind, ro_at hP hK hT hN va_S.rf [] [] rfl rfl⟩ rfl rfl hl.1 rfl (lv_room (Nat.le_of_ble_eq_true rfl)) dX3_stepFrom_6 ⟨Nat.le_of_ble_eq_true rfl, Nat.le_of_ble_eq_true rfl⟩) ?_
  refine va_getsN hx hb hT.1 va_S.rf hown (va_Nw.use rfl (gn_265 hN)) (fun _ h9 => h9) dX3_stepFrom_9 ?_
  refine lv_iload_n hx hb dX3_stepFrom_12 rfl (lv_at hl 0 rfl) ?_
  refine va_ti hx hb hT.2.1 va_S.rf (i := py &&& 7) (vi_and7 py) rfl dX3_stepFrom_13 ?_
  refine lv_iadd hx hb dX3_stepFrom_14 ?_
  refine lv_iload_n hx hb dX3_stepFrom_15 rfl (lv_at hl 1 rfl) ?_
  refine ro_go (va_runSN (As := [.int px]) (rest := [.int ((f_columnOf px) + (ts_rx (py &&& 7).toNatClampNeg))]) ⟨hx, hb, hml, hown, hts⟩ (c_rowOf l D tX tY px) ⟨va_cnB 1 hts (gi gw_197) rfl rfl rfl (gn_211 hN) (hta _ gw_1) (by decide +kernel) ⟨Nat.le_of_ble_eq_true rfl, Nat.le_of_ble_eq_true rfl⟩, hta _ gw_196, trivial⟩ ⟨ro_blind, ro_at hP hK hT hN va_S.rf [] [] rfl rfl⟩ rfl rfl hl.1 rfl (lv_room (Nat.le_of_ble_eq_true rfl)) dX3_stepFrom_16 ⟨Nat.le_of_ble_eq_true rfl, Nat.le_of_ble_eq_true rfl⟩) ?_
  refine va_getsN hx hb hT.2.2.1 va_S.rf hown (va_Nw.use rfl (gn_266 hN)) (fun _ h9 => h9) dX3_stepFrom_19 ?_
  refine lv_iload_n hx hb dX3_stepFrom_22 rfl (lv_at hl 0 rfl) ?_
  refine va_ti hx hb hT.2.2.2 va_S.rf (i := py &&& 7) (vi_and7 py) rfl dX3_stepFrom_23 ?_
  refine lv_iadd hx hb dX3_stepFrom_24 ?_
  refine ro_go (va_runSN (As := [.int ((f_columnOf px) + (ts_rx (py &&& 7).toNatClampNeg)), .int ((f_rowOf px) + (ts_ry (py &&& 7).toNatClampNeg))]) (rest := []) ⟨hx, hb, hml, hown, hts⟩ (c_placeOf l D tX tY ((f_columnOf px) + (ts_rx (py &&& 7).toNatClampNeg)) ((f_rowOf px) + (ts_ry (py &&& 7).toNatClampNeg))) ⟨va_cnB 2 hts (gi gw_191) rfl rfl rfl (gn_222 hN) (hta _ gw_1) (by decide +kernel) ⟨Nat.le_of_ble_eq_true rfl, Nat.le_of_ble_eq_true rfl⟩, hta _ gw_190, trivial⟩ ⟨ro_blind, ro_at hP hK hT hN va_S.rf [] [] rfl rfl⟩ rfl rfl hl.1 rfl (lv_room (Nat.le_of_ble_eq_true rfl)) dX3_stepFrom_25 ⟨Nat.le_of_ble_eq_true rfl, Nat.le_of_ble_eq_true rfl⟩) ?_
  exact W.iret (v := (f_placeOf ((f_columnOf px) + (ts_rx (py &&& 7).toNatClampNeg)) ((f_rowOf px) + (ts_ry (py &&& 7).toNatClampNeg)))) hx hb hr (fun t ht _ => ⟨by rw [← hF], ht⟩) (fun _ h => nomatch h) dX3_stepFrom_28

def f_C_firstOf (csn : Nat) (csf : Nat → Int32) (cbn : Nat) (cbf : Nat → Int32) (csc : Int32) (px : Int32) : Int32 := (f_C_sampleOf csn csf cbn cbf csc px 0)
set_option maxHeartbeats 4000000 in
set_option maxRecDepth 100000 in
theorem c_C_firstOf (l : Launch) (D : va_G) (tX tY : Nat) (a_c : Nat) (a_cl : Nat) (k_cl : ClassId) (cln : Nat) (clf : Nat → Int32) (a_ct : Nat) (k_ct : ClassId) (ctn : Nat) (ctf : Nat → Int32) (a_cs : Nat) (k_cs : ClassId) (csn : Nat) (csf : Nat → Int32) (a_cb : Nat) (k_cb : ClassId) (cbn : Nat) (cbf : Nat → Int32) (a_cc : Nat) (k_cc : ClassId) (ccn : Nat) (ccf : Nat → Int32) (csc : Int32) (csm : Int32) (ccr : Int32) (px : Int32) (hnb : cbn < 2147483647) (hns : csn < 2147483647) : Met l yX3_firstOf wX3_firstOf ({ frames := 2, cells := 0, slots := 0, locals := 44 }) (ro_P D tX tY [(k_cl, .int), (k_ct, .int), (k_cs, .int), (k_cb, .int), (k_cc, .int)] [(a_c, .inr (3, [.ref a_cl, .ref a_ct, .ref a_cs, .ref a_cb, .ref a_cc, .int csc, .int csm, .int ccr])), (a_cl, .inl (k_cl, cln, .inl clf)), (a_ct, .inl (k_ct, ctn, .inl ctf)), (a_cs, .inl (k_cs, csn, .inl csf)), (a_cb, .inl (k_cb, cbn, .inl cbf)), (a_cc, .inl (k_cc, ccn, .inl ccf))] [.ref a_c, .int px]) (k2_QcV (.int (f_C_firstOf csn csf cbn cbf csc px))) 0 0 (fun _ => False) := by
  generalize hF : (f_C_firstOf csn csf cbn cbf csc px) = F
  refine Met.ofW (cc := cX3_firstOf) (maxL := 2) (ret := (some .int)) (by decide) rfl ?_
  intro p e s m args below meth c s₁ B hml hv
  obtain ⟨rfl, hP, hK, hT, hN⟩ := hv
  have hx := B.exec
  have hb := B.bytes
  have hr := B.returns
  have hts := atoms_spec (ws := wX3_firstOf) B.pre
  have hta : ∀ w ∈ gw, w.before _ s = true := fun w h => hts w (List.mem_cons_of_mem _ h)
  have hown : s.vm.findClass RX3 = some m.cls := findClass_of_methodNamed B.named
  have hlocks := B.notSynchronized
  have hl := lv_entry [.ref a_c, .int px] (n := 2) (Nat.le_of_ble_eq_true rfl)
  rw [lg_entry_eq]
  generalize (lg_sl [.ref a_c, .int px] ++ List.replicate (2 - (lg_sl [.ref a_c, .int px]).length) Slot.unset).toArray = ls at hl ⊢
  have hl : lv_has ls 2 [(0, .ref a_c), (1, .int px)] := hl
  rw [f_C_firstOf] at hF
  refine lv_aload_n hx hb dX3_firstOf_0 rfl (lv_at hl 0 rfl) ?_
  refine lv_iload_n hx hb dX3_firstOf_1 rfl (lv_at hl 1 rfl) ?_
  refine lv_iconst (v := 0) hx hb dX3_firstOf_2 (by decide) ?_
  refine ro_go (va_runV (As := [.int px, .int 0]) (rest := []) ⟨hx, hb, hml, hown, hts⟩ (c_C_sampleOf l D tX tY a_c a_cl k_cl cln clf a_ct k_ct ctn ctf a_cs k_cs csn csf a_cb k_cb cbn cbf a_cc k_cc ccn ccf csc csm ccr px 0 (hnb) (hns)) (cwV 2 hts (gi_4 gi_c gw_481 gw_482 gw_483 gw_5 gw_484) rfl rfl rfl (by decide +kernel) ⟨Nat.le_of_ble_eq_true rfl, Nat.le_of_ble_eq_true rfl⟩) ⟨ro_blind, va_recv hK hP (ci := 3) (q0 := 0) rfl rfl, ro_at hP hK hT hN va_S.rf [0, 1, 2, 3, 4, 5] [0, 1, 2, 3, 4] rfl rfl⟩ rfl rfl hl.1 rfl (lv_room (Nat.le_of_ble_eq_true rfl)) dX3_firstOf_3 ⟨Nat.le_of_ble_eq_true rfl, Nat.le_of_ble_eq_true rfl⟩) ?_
  exact W.iret (v := (f_C_sampleOf csn csf cbn cbf csc px 0)) hx hb hr (fun t ht _ => ⟨by rw [← hF], ht⟩) (fun _ h => nomatch h) dX3_firstOf_6

def f_C_lastOf (csn : Nat) (csf : Nat → Int32) (cbn : Nat) (cbf : Nat → Int32) (csc : Int32) (px : Int32) : Int32 := (f_C_sampleOf csn csf cbn cbf csc px ((f_C_lengthOf cbn cbf csc px) - 1))
set_option maxHeartbeats 4000000 in
set_option maxRecDepth 100000 in
theorem c_C_lastOf (l : Launch) (D : va_G) (tX tY : Nat) (a_c : Nat) (a_cl : Nat) (k_cl : ClassId) (cln : Nat) (clf : Nat → Int32) (a_ct : Nat) (k_ct : ClassId) (ctn : Nat) (ctf : Nat → Int32) (a_cs : Nat) (k_cs : ClassId) (csn : Nat) (csf : Nat → Int32) (a_cb : Nat) (k_cb : ClassId) (cbn : Nat) (cbf : Nat → Int32) (a_cc : Nat) (k_cc : ClassId) (ccn : Nat) (ccf : Nat → Int32) (csc : Int32) (csm : Int32) (ccr : Int32) (px : Int32) (hnb : cbn < 2147483647) (hns : csn < 2147483647) : Met l yX3_lastOf wX3_lastOf ({ frames := 2, cells := 0, slots := 0, locals := 44 }) (ro_P D tX tY [(k_cl, .int), (k_ct, .int), (k_cs, .int), (k_cb, .int), (k_cc, .int)] [(a_c, .inr (3, [.ref a_cl, .ref a_ct, .ref a_cs, .ref a_cb, .ref a_cc, .int csc, .int csm, .int ccr])), (a_cl, .inl (k_cl, cln, .inl clf)), (a_ct, .inl (k_ct, ctn, .inl ctf)), (a_cs, .inl (k_cs, csn, .inl csf)), (a_cb, .inl (k_cb, cbn, .inl cbf)), (a_cc, .inl (k_cc, ccn, .inl ccf))] [.ref a_c, .int px]) (k2_QcV (.int (f_C_lastOf csn csf cbn cbf csc px))) 0 0 (fun _ => False) := by
  generalize hF : (f_C_lastOf csn csf cbn cbf csc px) = F
  refine Met.ofW (cc := cX3_lastOf) (maxL := 2) (ret := (some .int)) (by decide) rfl ?_
  intro p e s m args below meth c s₁ B hml hv
  obtain ⟨rfl, hP, hK, hT, hN⟩ := hv
  have hx := B.exec
  have hb := B.bytes
  have hr := B.returns
  have hts := atoms_spec (ws := wX3_lastOf) B.pre
  have hta : ∀ w ∈ gw, w.before _ s = true := fun w h => hts w (List.mem_cons_of_mem _ h)
  have hown : s.vm.findClass RX3 = some m.cls := findClass_of_methodNamed B.named
  have hlocks := B.notSynchronized
  have hl := lv_entry [.ref a_c, .int px] (n := 2) (Nat.le_of_ble_eq_true rfl)
  rw [lg_entry_eq]
  generalize (lg_sl [.ref a_c, .int px] ++ List.replicate (2 - (lg_sl [.ref a_c, .int px]).length) Slot.unset).toArray = ls at hl ⊢
  have hl : lv_has ls 2 [(0, .ref a_c), (1, .int px)] := hl
  rw [f_C_lastOf] at hF
  refine lv_aload_n hx hb dX3_lastOf_0 rfl (lv_at hl 0 rfl) ?_
  refine lv_iload_n hx hb dX3_lastOf_1 rfl (lv_at hl 1 rfl) ?_
  refine lv_aload_n hx hb dX3_lastOf_2 rfl (lv_at hl 0 rfl) ?_
  refine lv_iload_n hx hb dX3_lastOf_3 rfl (lv_at hl 1 rfl) ?_
  refine ro_go (va_runV (As := [.int px]) (rest := [.int px, .ref a_c]) ⟨hx, hb, hml, hown, hts⟩ (c_C_lengthOf l D tX tY a_c a_cl k_cl cln clf a_ct k_ct ctn ctf a_cs k_cs csn csf a_cb k_cb cbn cbf a_cc k_cc ccn ccf csc csm ccr px (hnb)) (cwV 1 hts (gi_4 gi_c gw_485 gw_486 gw_487 gw_5 gw_488) rfl rfl rfl (by decide +kernel) ⟨Nat.le_of_ble_eq_true rfl, Nat.le_of_ble_eq_true rfl⟩) ⟨ro_blind, va_recv hK hP (ci := 3) (q0 := 0) rfl rfl, ro_at hP hK hT hN va_S.rf [0, 1, 2, 3, 4, 5] [0, 1, 2, 3, 4] rfl rfl⟩ rfl rfl hl.1 rfl (lv_room (Nat.le_of_ble_eq_true rfl)) dX3_lastOf_4 ⟨Nat.le_of_ble_eq_true rfl, Nat.le_of_ble_eq_true rfl⟩) ?_
  refine lv_iconst (v := 1) hx hb dX3_lastOf_7 (by decide) ?_
  refine lv_isub hx hb dX3_lastOf_8 ?_
  refine ro_go (va_runV (As := [.int px, .int ((f_C_lengthOf cbn cbf csc px) - 1)]) (rest := []) ⟨hx, hb, hml, hown, hts⟩ (c_C_sampleOf l D tX tY a_c a_cl k_cl cln clf a_ct k_ct ctn ctf a_cs k_cs csn csf a_cb k_cb cbn cbf a_cc k_cc ccn ccf csc csm ccr px ((f_C_lengthOf cbn cbf csc px) - 1) (hnb) (hns)) (cwV 2 hts (gi_4 gi_c gw_481 gw_482 gw_483 gw_5 gw_484) rfl rfl rfl (by decide +kernel) ⟨Nat.le_of_ble_eq_true rfl, Nat.le_of_ble_eq_true rfl⟩) ⟨ro_blind, va_recv hK hP (ci := 3) (q0 := 0) rfl rfl, ro_at hP hK hT hN va_S.rf [0, 1, 2, 3, 4, 5] [0, 1, 2, 3, 4] rfl rfl⟩ rfl rfl hl.1 rfl (lv_room (Nat.le_of_ble_eq_true rfl)) dX3_lastOf_9 ⟨Nat.le_of_ble_eq_true rfl, Nat.le_of_ble_eq_true rfl⟩) ?_
  exact W.iret (v := (f_C_sampleOf csn csf cbn cbf csc px ((f_C_lengthOf cbn cbf csc px) - 1))) hx hb hr (fun t ht _ => ⟨by rw [← hF], ht⟩) (fun _ h => nomatch h) dX3_lastOf_12

def f_C_touches (csn : Nat) (csf : Nat → Int32) (cbn : Nat) (cbf : Nat → Int32) (csc : Int32) (px : Int32) (py : Int32) : Int32 := (if (f_C_firstOf csn csf cbn cbf csc px) = py then 1 else (if (f_C_lastOf csn csf cbn cbf csc px) = py then 1 else 0))
set_option maxHeartbeats 4000000 in
set_option maxRecDepth 100000 in
theorem c_C_touches (l : Launch) (D : va_G) (tX tY : Nat) (a_c : Nat) (a_cl : Nat) (k_cl : ClassId) (cln : Nat) (clf : Nat → Int32) (a_ct : Nat) (k_ct : ClassId) (ctn : Nat) (ctf : Nat → Int32) (a_cs : Nat) (k_cs : ClassId) (csn : Nat) (csf : Nat → Int32) (a_cb : Nat) (k_cb : ClassId) (cbn : Nat) (cbf : Nat → Int32) (a_cc : Nat) (k_cc : ClassId) (ccn : Nat) (ccf : Nat → Int32) (csc : Int32) (csm : Int32) (ccr : Int32) (px : Int32) (py : Int32) (hnb : cbn < 2147483647) (hns : csn < 2147483647) : Met l yX3_touches wX3_touches ({ frames := 3, cells := 0, slots := 0, locals := 65 }) (ro_P D tX tY [(k_cl, .int), (k_ct, .int), (k_cs, .int), (k_cb, .int), (k_cc, .int)] [(a_c, .inr (3, [.ref a_cl, .ref a_ct, .ref a_cs, .ref a_cb, .ref a_cc, .int csc, .int csm, .int ccr])), (a_cl, .inl (k_cl, cln, .inl clf)), (a_ct, .inl (k_ct, ctn, .inl ctf)), (a_cs, .inl (k_cs, csn, .inl csf)), (a_cb, .inl (k_cb, cbn, .inl cbf)), (a_cc, .inl (k_cc, ccn, .inl ccf))] [.ref a_c, .int px, .int py]) (k2_QcV (.int (f_C_touches csn csf cbn cbf csc px py))) 0 0 (fun _ => False) := by
  generalize hF : (f_C_touches csn csf cbn cbf csc px py) = F
  refine Met.ofW (cc := cX3_touches) (maxL := 3) (ret := (some .boolean)) (by decide) rfl ?_
  intro p e s m args below meth c s₁ B hml hv
  obtain ⟨rfl, hP, hK, hT, hN⟩ := hv
  have hx := B.exec
  have hb := B.bytes
  have hr := B.returns
  have hts := atoms_spec (ws := wX3_touches) B.pre
  have hta : ∀ w ∈ gw, w.before _ s = true := fun w h => hts w (List.mem_cons_of_mem _ h)
  have hown : s.vm.findClass RX3 = some m.cls := findClass_of_methodNamed B.named
  have hlocks := B.notSynchronized
  have hl := lv_entry [.ref a_c, .int px, .int py] (n := 3) (Nat.le_of_ble_eq_true rfl)
  rw [lg_entry_eq]
  generalize (lg_sl [.ref a_c, .int px, .int py] ++ List.replicate (3 - (lg_sl [.ref a_c, .int px, .int py]).length) Slot.unset).toArray = ls at hl ⊢
  have hl : lv_has ls 3 [(0, .ref a_c), (1, .int px), (2, .int py)] := hl
  rw [f_C_touches] at hF
  refine lv_aload_n hx hb dX3_touches_0 rfl (lv_at hl 0 rfl) ?_
  refine lv_iload_n hx hb dX3_touches_1 rfl (lv_at hl 1 rfl) ?_
  refine ro_go (va_runV (As := [.int px]) (rest := []) ⟨hx, hb, hml, hown, hts⟩ (c_C_firstOf l D tX tY a_c a_cl k_cl cln clf a_ct k_ct ctn ctf a_cs k_cs csn csf a_cb k_cb cbn cbf a_cc k_cc ccn ccf csc csm ccr px (hnb) (hns)) (cwV 1 hts (gi_4 gi_c gw_477 gw_479 gs_X3_firstOf gw_5 gw_480) rfl rfl rfl (by decide +kernel) ⟨Nat.le_of_ble_eq_true rfl, Nat.le_of_ble_eq_true rfl⟩) ⟨ro_blind, va_recv hK hP (ci := 3) (q0 := 0) rfl rfl, ro_at hP hK hT hN va_S.rf [0, 1, 2, 3, 4, 5] [0, 1, 2, 3, 4] rfl rfl⟩ rfl rfl hl.1 rfl (lv_room (Nat.le_of_ble_eq_true rfl)) dX3_touches_2 ⟨Nat.le_of_ble_eq_true rfl, Nat.le_of_ble_eq_true rfl⟩) ?_
  refine lv_iload_n hx hb dX3_touches_5 rfl (lv_at hl 2 rfl) ?_
  refine lv_icmp_eq (tgt := 18) hx hb dX3_touches_6 (by decide) (fun c6 => ?_) (fun c6 => ?_)
  · rw [if_pos c6] at hF
    refine lv_iconst (v := 1) hx hb dX3_touches_18 (by decide) ?_
    refine lv_goto (tgt := 23) hx hb dX3_touches_19 (by decide) ?_
    exact W.zret (v := 1) hx hb hr rfl (fun t ht _ => ⟨by rw [← hF], ht⟩) (fun _ h => nomatch h) dX3_touches_23
  · rw [if_neg c6] at hF
    refine lv_aload_n hx hb dX3_touches_9 rfl (lv_at hl 0 rfl) ?_
    refine lv_iload_n hx hb dX3_touches_10 rfl (lv_at hl 1 rfl) ?_
    refine ro_go (va_runV (As := [.int px]) (rest := []) ⟨hx, hb, hml, hown, hts⟩ (c_C_lastOf l D tX tY a_c a_cl k_cl cln clf a_ct k_ct ctn ctf a_cs k_cs csn csf a_cb k_cb cbn cbf a_cc k_cc ccn ccf csc csm ccr px (hnb) (hns)) (cwV 1 hts (gi_4 gi_c gw_489 gw_491 gs_X3_lastOf gw_5 gw_492) rfl rfl rfl (by decide +kernel) ⟨Nat.le_of_ble_eq_true rfl, Nat.le_of_ble_eq_true rfl⟩) ⟨ro_blind, va_recv hK hP (ci := 3) (q0 := 0) rfl rfl, ro_at hP hK hT hN va_S.rf [0, 1, 2, 3, 4, 5] [0, 1, 2, 3, 4] rfl rfl⟩ rfl rfl hl.1 rfl (lv_room (Nat.le_of_ble_eq_true rfl)) dX3_touches_11 ⟨Nat.le_of_ble_eq_true rfl, Nat.le_of_ble_eq_true rfl⟩) ?_
    refine lv_iload_n hx hb dX3_touches_14 rfl (lv_at hl 2 rfl) ?_
    refine lv_icmp_ne (tgt := 22) hx hb dX3_touches_15 (by decide) (fun c15 => ?_) (fun c15 => ?_)
    · rw [if_neg c15] at hF
      refine lv_iconst (v := 0) hx hb dX3_touches_22 (by decide) ?_
      exact W.zret (v := 0) hx hb hr rfl (fun t ht _ => ⟨by rw [← hF], ht⟩) (fun _ h => nomatch h) dX3_touches_23
    · rw [if_pos c15] at hF
      refine lv_iconst (v := 1) hx hb dX3_touches_18 (by decide) ?_
      refine lv_goto (tgt := 23) hx hb dX3_touches_19 (by decide) ?_
      exact W.zret (v := 1) hx hb hr rfl (fun t ht _ => ⟨by rw [← hF], ht⟩) (fun _ h => nomatch h) dX3_touches_23

def f_C_crossingOfLooseStroke_t11 (cln : Nat) (clf : Nat → Int32) (fst : Int32) (lst : Int32) : Int32 := (if (f_C_degreeOf cln clf fst) = 1 then (if (f_C_degreeOf cln clf lst) < 3 then (if (f_C_degreeOf cln clf lst) = 1 then (if (f_C_degreeOf cln clf fst) < 3 then (-1) else fst) else (-1)) else lst) else (if (f_C_degreeOf cln clf lst) = 1 then (if (f_C_degreeOf cln clf fst) < 3 then (-1) else fst) else (-1)))
def f_C_crossingOfLooseStroke_t5 (cln : Nat) (clf : Nat → Int32) (csn : Nat) (csf : Nat → Int32) (cbn : Nat) (cbf : Nat → Int32) (csc : Int32) (px : Int32) (fst : Int32) : Int32 := (f_C_crossingOfLooseStroke_t11 cln clf fst (f_C_lastOf csn csf cbn cbf csc px))
def f_C_crossingOfLooseStroke (cln : Nat) (clf : Nat → Int32) (csn : Nat) (csf : Nat → Int32) (cbn : Nat) (cbf : Nat → Int32) (csc : Int32) (px : Int32) : Int32 := (f_C_crossingOfLooseStroke_t5 cln clf csn csf cbn cbf csc px (f_C_firstOf csn csf cbn cbf csc px))
set_option maxHeartbeats 4000000 in
set_option maxRecDepth 100000 in
theorem c_C_crossingOfLooseStroke (l : Launch) (D : va_G) (tX tY : Nat) (a_c : Nat) (a_cl : Nat) (k_cl : ClassId) (cln : Nat) (clf : Nat → Int32) (a_ct : Nat) (k_ct : ClassId) (ctn : Nat) (ctf : Nat → Int32) (a_cs : Nat) (k_cs : ClassId) (csn : Nat) (csf : Nat → Int32) (a_cb : Nat) (k_cb : ClassId) (cbn : Nat) (cbf : Nat → Int32) (a_cc : Nat) (k_cc : ClassId) (ccn : Nat) (ccf : Nat → Int32) (csc : Int32) (csm : Int32) (ccr : Int32) (px : Int32) (hnb : cbn < 2147483647) (hns : csn < 2147483647) (hnl : cln < 2147483647) : Met l yX3_crossingOfLooseStroke wX3_crossingOfLooseStroke ({ frames := 3, cells := 0, slots := 0, locals := 65 }) (ro_P D tX tY [(k_cl, .int), (k_ct, .int), (k_cs, .int), (k_cb, .int), (k_cc, .int)] [(a_c, .inr (3, [.ref a_cl, .ref a_ct, .ref a_cs, .ref a_cb, .ref a_cc, .int csc, .int csm, .int ccr])), (a_cl, .inl (k_cl, cln, .inl clf)), (a_ct, .inl (k_ct, ctn, .inl ctf)), (a_cs, .inl (k_cs, csn, .inl csf)), (a_cb, .inl (k_cb, cbn, .inl cbf)), (a_cc, .inl (k_cc, ccn, .inl ccf))] [.ref a_c, .int px]) (k2_QcV (.int (f_C_crossingOfLooseStroke cln clf csn csf cbn cbf csc px))) 0 0 (fun _ => False) := by
  generalize hF : (f_C_crossingOfLooseStroke cln clf csn csf cbn cbf csc px) = F
  refine Met.ofW (cc := cX3_crossingOfLooseStroke) (maxL := 4) (ret := (some .int)) (by decide) rfl ?_
  intro p e s m args below meth c s₁ B hml hv
  obtain ⟨rfl, hP, hK, hT, hN⟩ := hv
  have hx := B.exec
  have hb := B.bytes
  have hr := B.returns
  have hts := atoms_spec (ws := wX3_crossingOfLooseStroke) B.pre
  have hta : ∀ w ∈ gw, w.before _ s = true := fun w h => hts w (List.mem_cons_of_mem _ h)
  have hown : s.vm.findClass RX3 = some m.cls := findClass_of_methodNamed B.named
  have hlocks := B.notSynchronized
  have hl := lv_entry [.ref a_c, .int px] (n := 4) (Nat.le_of_ble_eq_true rfl)
  rw [lg_entry_eq]
  generalize (lg_sl [.ref a_c, .int px] ++ List.replicate (4 - (lg_sl [.ref a_c, .int px]).length) Slot.unset).toArray = ls at hl ⊢
  have hl : lv_has ls 4 [(0, .ref a_c), (1, .int px)] := hl
  rw [f_C_crossingOfLooseStroke] at hF
  refine lv_aload_n hx hb dX3_crossingOfLooseStroke_0 rfl (lv_at hl 0 rfl) ?_
  refine lv_iload_n hx hb dX3_crossingOfLooseStroke_1 rfl (lv_at hl 1 rfl) ?_
  refine ro_go (va_runV (As := [.int px]) (rest := []) ⟨hx, hb, hml, hown, hts⟩ (c_C_firstOf l D tX tY a_c a_cl k_cl cln clf a_ct k_ct ctn ctf a_cs k_cs csn csf a_cb k_cb cbn cbf a_cc k_cc ccn ccf csc csm ccr px (hnb) (hns)) (cwV 1 hts (gi_4 gi_c gw_477 gw_479 gs_X3_firstOf gw_5 gw_480) rfl rfl rfl (by decide +kernel) ⟨Nat.le_of_ble_eq_true rfl, Nat.le_of_ble_eq_true rfl⟩) ⟨ro_blind, va_recv hK hP (ci := 3) (q0 := 0) rfl rfl, ro_at hP hK hT hN va_S.rf [0, 1, 2, 3, 4, 5] [0, 1, 2, 3, 4] rfl rfl⟩ rfl rfl hl.1 rfl (lv_room (Nat.le_of_ble_eq_true rfl)) dX3_crossingOfLooseStroke_2 ⟨Nat.le_of_ble_eq_true rfl, Nat.le_of_ble_eq_true rfl⟩) ?_
  refine lv_topi (fun fst e_fst => ?_)
  have e_fst : fst = (f_C_firstOf csn csf cbn cbf csc px) := e_fst
  rw [← e_fst] at hF
  rw [f_C_crossingOfLooseStroke_t5] at hF
  refine lv_istore_n (lv' := [(2, .int fst), (0, .ref a_c), (1, .int px)]) hx hb dX3_crossingOfLooseStroke_5 rfl hl (by decide) rfl (fun ls hl => ?_)
  refine lv_aload_n hx hb dX3_crossingOfLooseStroke_6 rfl (lv_at hl 1 rfl) ?_
  refine lv_iload_n hx hb dX3_crossingOfLooseStroke_7 rfl (lv_at hl 2 rfl) ?_
  refine ro_go (va_runV (As := [.int px]) (rest := []) ⟨hx, hb, hml, hown, hts⟩ (c_C_lastOf l D tX tY a_c a_cl k_cl cln clf a_ct k_ct ctn ctf a_cs k_cs csn csf a_cb k_cb cbn cbf a_cc k_cc ccn ccf csc csm ccr px (hnb) (hns)) (cwV 1 hts (gi_4 gi_c gw_489 gw_491 gs_X3_lastOf gw_5 gw_492) rfl rfl rfl (by decide +kernel) ⟨Nat.le_of_ble_eq_true rfl, Nat.le_of_ble_eq_true rfl⟩) ⟨ro_blind, va_recv hK hP (ci := 3) (q0 := 0) rfl rfl, ro_at hP hK hT hN va_S.rf [0, 1, 2, 3, 4, 5] [0, 1, 2, 3, 4] rfl rfl⟩ rfl rfl hl.1 rfl (lv_room (Nat.le_of_ble_eq_true rfl)) dX3_crossingOfLooseStroke_8 ⟨Nat.le_of_ble_eq_true rfl, Nat.le_of_ble_eq_true rfl⟩) ?_
  refine lv_topi (fun lst e_lst => ?_)
  have e_lst : lst = (f_C_lastOf csn csf cbn cbf csc px) := e_lst
  rw [← e_lst] at hF
  rw [f_C_crossingOfLooseStroke_t11] at hF
  refine lv_istore_n (lv' := [(3, .int lst), (2, .int fst), (0, .ref a_c), (1, .int px)]) hx hb dX3_crossingOfLooseStroke_11 rfl hl (by decide) rfl (fun ls hl => ?_)
  refine lv_aload_n hx hb dX3_crossingOfLooseStroke_12 rfl (lv_at hl 2 rfl) ?_
  refine lv_iload_n hx hb dX3_crossingOfLooseStroke_13 rfl (lv_at hl 1 rfl) ?_
  refine ro_go (va_runV (As := [.int fst]) (rest := []) ⟨hx, hb, hml, hown, hts⟩ (c_C_degreeOf l D tX tY a_c a_cl k_cl cln clf a_ct k_ct ctn ctf a_cs k_cs csn csf a_cb k_cb cbn cbf a_cc k_cc ccn ccf csc csm ccr fst (hnl)) (cwV 1 hts (gi_4 gi_c gw_223 gw_224 gw_225 gw_5 gw_226) rfl rfl rfl (by decide +kernel) ⟨Nat.le_of_ble_eq_true rfl, Nat.le_of_ble_eq_true rfl⟩) ⟨ro_blind, va_recv hK hP (ci := 3) (q0 := 0) rfl rfl, ro_at hP hK hT hN va_S.rf [0, 1, 2, 3, 4, 5] [0, 1, 2, 3, 4] rfl rfl⟩ rfl rfl hl.1 rfl (lv_room (Nat.le_of_ble_eq_true rfl)) dX3_crossingOfLooseStroke_14 ⟨Nat.le_of_ble_eq_true rfl, Nat.le_of_ble_eq_true rfl⟩) ?_
  refine lv_iconst (v := 1) hx hb dX3_crossingOfLooseStroke_17 (by decide) ?_
  refine lv_icmp_ne (tgt := 32) hx hb dX3_crossingOfLooseStroke_18 (by decide) (fun c18 => ?_) (fun c18 => ?_)
  · rw [if_neg c18] at hF
    refine lv_aload_n hx hb dX3_crossingOfLooseStroke_32 rfl (lv_at hl 2 rfl) ?_
    refine lv_iload_n hx hb dX3_crossingOfLooseStroke_33 rfl (lv_at hl 0 rfl) ?_
    refine ro_go (va_runV (As := [.int lst]) (rest := []) ⟨hx, hb, hml, hown, hts⟩ (c_C_degreeOf l D tX tY a_c a_cl k_cl cln clf a_ct k_ct ctn ctf a_cs k_cs csn csf a_cb k_cb cbn cbf a_cc k_cc ccn ccf csc csm ccr lst (hnl)) (cwV 1 hts (gi_4 gi_c gw_223 gw_224 gw_225 gw_5 gw_226) rfl rfl rfl (by decide +kernel) ⟨Nat.le_of_ble_eq_true rfl, Nat.le_of_ble_eq_true rfl⟩) ⟨ro_blind, va_recv hK hP (ci := 3) (q0 := 0) rfl rfl, ro_at hP hK hT hN va_S.rf [0, 1, 2, 3, 4, 5] [0, 1, 2, 3, 4] rfl rfl⟩ rfl rfl hl.1 rfl (lv_room (Nat.le_of_ble_eq_true rfl)) dX3_crossingOfLooseStroke_34 ⟨Nat.le_of_ble_eq_true rfl, Nat.le_of_ble_eq_true rfl⟩) ?_
    refine lv_iconst (v := 1) hx hb dX3_crossingOfLooseStroke_37 (by decide) ?_
    refine lv_icmp_ne (tgt := 52) hx hb dX3_crossingOfLooseStroke_38 (by decide) (fun c38 => ?_) (fun c38 => ?_)
    · rw [if_neg c38] at hF
      refine lv_iconst (v := (-1)) hx hb dX3_crossingOfLooseStroke_52 (by decide) ?_
      exact W.iret (v := (-1)) hx hb hr (fun t ht _ => ⟨by rw [← hF], ht⟩) (fun _ h => nomatch h) dX3_crossingOfLooseStroke_53
    · rw [if_pos c38] at hF
      refine lv_aload_n hx hb dX3_crossingOfLooseStroke_41 rfl (lv_at hl 2 rfl) ?_
      refine lv_iload_n hx hb dX3_crossingOfLooseStroke_42 rfl (lv_at hl 1 rfl) ?_
      refine ro_go (va_runV (As := [.int fst]) (rest := []) ⟨hx, hb, hml, hown, hts⟩ (c_C_degreeOf l D tX tY a_c a_cl k_cl cln clf a_ct k_ct ctn ctf a_cs k_cs csn csf a_cb k_cb cbn cbf a_cc k_cc ccn ccf csc csm ccr fst (hnl)) (cwV 1 hts (gi_4 gi_c gw_223 gw_224 gw_225 gw_5 gw_226) rfl rfl rfl (by decide +kernel) ⟨Nat.le_of_ble_eq_true rfl, Nat.le_of_ble_eq_true rfl⟩) ⟨ro_blind, va_recv hK hP (ci := 3) (q0 := 0) rfl rfl, ro_at hP hK hT hN va_S.rf [0, 1, 2, 3, 4, 5] [0, 1, 2, 3, 4] rfl rfl⟩ rfl rfl hl.1 rfl (lv_room (Nat.le_of_ble_eq_true rfl)) dX3_crossingOfLooseStroke_43 ⟨Nat.le_of_ble_eq_true rfl, Nat.le_of_ble_eq_true rfl⟩) ?_
      refine lv_iconst (v := 3) hx hb dX3_crossingOfLooseStroke_46 (by decide) ?_
      refine lv_icmp_lt (tgt := 52) hx hb dX3_crossingOfLooseStroke_47 (by decide) (fun c47 => ?_) (fun c47 => ?_)
      · rw [if_pos c47] at hF
        refine lv_iconst (v := (-1)) hx hb dX3_crossingOfLooseStroke_52 (by decide) ?_
        exact W.iret (v := (-1)) hx hb hr (fun t ht _ => ⟨by rw [← hF], ht⟩) (fun _ h => nomatch h) dX3_crossingOfLooseStroke_53
      · rw [if_neg c47] at hF
        refine lv_iload_n hx hb dX3_crossingOfLooseStroke_50 rfl (lv_at hl 1 rfl) ?_
        exact W.iret (v := fst) hx hb hr (fun t ht _ => ⟨by rw [← hF], ht⟩) (fun _ h => nomatch h) dX3_crossingOfLooseStroke_51
  · rw [if_pos c18] at hF
    refine lv_aload_n hx hb dX3_crossingOfLooseStroke_21 rfl (lv_at hl 2 rfl) ?_
    refine lv_iload_n hx hb dX3_crossingOfLooseStroke_22 rfl (lv_at hl 0 rfl) ?_
    refine ro_go (va_runV (As := [.int lst]) (rest := []) ⟨hx, hb, hml, hown, hts⟩ (c_C_degreeOf l D tX tY a_c a_cl k_cl cln clf a_ct k_ct ctn ctf a_cs k_cs csn csf a_cb k_cb cbn cbf a_cc k_cc ccn ccf csc csm ccr lst (hnl)) (cwV 1 hts (gi_4 gi_c gw_223 gw_224 gw_225 gw_5 gw_226) rfl rfl rfl (by decide +kernel) ⟨Nat.le_of_ble_eq_true rfl, Nat.le_of_ble_eq_true rfl⟩) ⟨ro_blind, va_recv hK hP (ci := 3) (q0 := 0) rfl rfl, ro_at hP hK hT hN va_S.rf [0, 1, 2, 3, 4, 5] [0, 1, 2, 3, 4] rfl rfl⟩ rfl rfl hl.1 rfl (lv_room (Nat.le_of_ble_eq_true rfl)) dX3_crossingOfLooseStroke_23 ⟨Nat.le_of_ble_eq_true rfl, Nat.le_of_ble_eq_true rfl⟩) ?_
    refine lv_iconst (v := 3) hx hb dX3_crossingOfLooseStroke_26 (by decide) ?_
    refine lv_icmp_lt (tgt := 32) hx hb dX3_crossingOfLooseStroke_27 (by decide) (fun c27 => ?_) (fun c27 => ?_)
    · rw [if_pos c27] at hF
      refine lv_aload_n hx hb dX3_crossingOfLooseStroke_32 rfl (lv_at hl 2 rfl) ?_
      refine lv_iload_n hx hb dX3_crossingOfLooseStroke_33 rfl (lv_at hl 0 rfl) ?_
      refine ro_go (va_runV (As := [.int lst]) (rest := []) ⟨hx, hb, hml, hown, hts⟩ (c_C_degreeOf l D tX tY a_c a_cl k_cl cln clf a_ct k_ct ctn ctf a_cs k_cs csn csf a_cb k_cb cbn cbf a_cc k_cc ccn ccf csc csm ccr lst (hnl)) (cwV 1 hts (gi_4 gi_c gw_223 gw_224 gw_225 gw_5 gw_226) rfl rfl rfl (by decide +kernel) ⟨Nat.le_of_ble_eq_true rfl, Nat.le_of_ble_eq_true rfl⟩) ⟨ro_blind, va_recv hK hP (ci := 3) (q0 := 0) rfl rfl, ro_at hP hK hT hN va_S.rf [0, 1, 2, 3, 4, 5] [0, 1, 2, 3, 4] rfl rfl⟩ rfl rfl hl.1 rfl (lv_room (Nat.le_of_ble_eq_true rfl)) dX3_crossingOfLooseStroke_34 ⟨Nat.le_of_ble_eq_true rfl, Nat.le_of_ble_eq_true rfl⟩) ?_
      refine lv_iconst (v := 1) hx hb dX3_crossingOfLooseStroke_37 (by decide) ?_
      refine lv_icmp_ne (tgt := 52) hx hb dX3_crossingOfLooseStroke_38 (by decide) (fun c38 => ?_) (fun c38 => ?_)
      · rw [if_neg c38] at hF
        refine lv_iconst (v := (-1)) hx hb dX3_crossingOfLooseStroke_52 (by decide) ?_
        exact W.iret (v := (-1)) hx hb hr (fun t ht _ => ⟨by rw [← hF], ht⟩) (fun _ h => nomatch h) dX3_crossingOfLooseStroke_53
      · rw [if_pos c38] at hF
        refine lv_aload_n hx hb dX3_crossingOfLooseStroke_41 rfl (lv_at hl 2 rfl) ?_
        refine lv_iload_n hx hb dX3_crossingOfLooseStroke_42 rfl (lv_at hl 1 rfl) ?_
        refine ro_go (va_runV (As := [.int fst]) (rest := []) ⟨hx, hb, hml, hown, hts⟩ (c_C_degreeOf l D tX tY a_c a_cl k_cl cln clf a_ct k_ct ctn ctf a_cs k_cs csn csf a_cb k_cb cbn cbf a_cc k_cc ccn ccf csc csm ccr fst (hnl)) (cwV 1 hts (gi_4 gi_c gw_223 gw_224 gw_225 gw_5 gw_226) rfl rfl rfl (by decide +kernel) ⟨Nat.le_of_ble_eq_true rfl, Nat.le_of_ble_eq_true rfl⟩) ⟨ro_blind, va_recv hK hP (ci := 3) (q0 := 0) rfl rfl, ro_at hP hK hT hN va_S.rf [0, 1, 2, 3, 4, 5] [0, 1, 2, 3, 4] rfl rfl⟩ rfl rfl hl.1 rfl (lv_room (Nat.le_of_ble_eq_true rfl)) dX3_crossingOfLooseStroke_43 ⟨Nat.le_of_ble_eq_true rfl, Nat.le_of_ble_eq_true rfl⟩) ?_
        refine lv_iconst (v := 3) hx hb dX3_crossingOfLooseStroke_46 (by decide) ?_
        refine lv_icmp_lt (tgt := 52) hx hb dX3_crossingOfLooseStroke_47 (by decide) (fun c47 => ?_) (fun c47 => ?_)
        · rw [if_pos c47] at hF
          refine lv_iconst (v := (-1)) hx hb dX3_crossingOfLooseStroke_52 (by decide) ?_
          exact W.iret (v := (-1)) hx hb hr (fun t ht _ => ⟨by rw [← hF], ht⟩) (fun _ h => nomatch h) dX3_crossingOfLooseStroke_53
        · rw [if_neg c47] at hF
          refine lv_iload_n hx hb dX3_crossingOfLooseStroke_50 rfl (lv_at hl 1 rfl) ?_
          exact W.iret (v := fst) hx hb hr (fun t ht _ => ⟨by rw [← hF], ht⟩) (fun _ h => nomatch h) dX3_crossingOfLooseStroke_51
    · rw [if_neg c27] at hF
      refine lv_iload_n hx hb dX3_crossingOfLooseStroke_30 rfl (lv_at hl 0 rfl) ?_
      exact W.iret (v := lst) hx hb hr (fun t ht _ => ⟨by rw [← hF], ht⟩) (fun _ h => nomatch h) dX3_crossingOfLooseStroke_31

def f_C_isCrossingIn_t12 (now : Int32) : Int32 := (if (f_bitCount now) < 3 then 0 else 1)
def f_C_isCrossingIn (sw : Int32) (sh : Int32) (sf : Nat → Int32) (px : Int32) : Int32 := (f_C_isCrossingIn_t12 (f_S_linksAt sw sh sf (f_columnOf px) (f_rowOf px)))
set_option maxHeartbeats 4000000 in
set_option maxRecDepth 100000 in
theorem c_C_isCrossingIn (l : Launch) (D : va_G) (tX tY : Nat) (a_ss : Nat) (a_sr : Nat) (k_sr : ClassId) (sw : Int32) (sh : Int32) (sn : Nat) (sf : Nat → Int32) (px : Int32) (hss : tsok sw sh sn) : Met l yX3_isCrossingIn wX3_isCrossingIn ({ frames := 4, cells := 0, slots := 0, locals := 95 }) (ro_P D tX tY [(k_sr, .int)] [(a_ss, .inr (1, [.int sw, .int sh, .ref a_sr])), (a_sr, .inl (k_sr, sn, .inl sf))] [.ref a_ss, .int px]) (k2_QcV (.int (f_C_isCrossingIn sw sh sf px))) 0 0 (fun _ => False) := by
  generalize hF : (f_C_isCrossingIn sw sh sf px) = F
  refine Met.ofW (cc := cX3_isCrossingIn) (maxL := 3) (ret := (some .boolean)) (by decide) rfl ?_
  intro p e s m args below meth c s₁ B hml hv
  obtain ⟨rfl, hP, hK, hT, hN⟩ := hv
  have hx := B.exec
  have hb := B.bytes
  have hr := B.returns
  have hts := atoms_spec (ws := wX3_isCrossingIn) B.pre
  have hta : ∀ w ∈ gw, w.before _ s = true := fun w h => hts w (List.mem_cons_of_mem _ h)
  have hown : s.vm.findClass RX3 = some m.cls := findClass_of_methodNamed B.named
  have hlocks := B.notSynchronized
  have hl := lv_entry [.ref a_ss, .int px] (n := 3) (Nat.le_of_ble_eq_true rfl)
  rw [lg_entry_eq]
  generalize (lg_sl [.ref a_ss, .int px] ++ List.replicate (3 - (lg_sl [.ref a_ss, .int px]).length) Slot.unset).toArray = ls at hl ⊢
  have hl : lv_has ls 3 [(0, .ref a_ss), (1, .int px)] := hl
  rw [f_C_isCrossingIn] at hF
  refine lv_aload_n hx hb dX3_isCrossingIn_0 rfl (lv_at hl 0 rfl) ?_
  refine lv_iload_n hx hb dX3_isCrossingIn_1 rfl (lv_at hl 1 rfl) ?_
  refine ro_go (va_runSN (As := [.int px]) (rest := [.ref a_ss]) ⟨hx, hb, hml, hown, hts⟩ (c_columnOf l D tX tY px) ⟨va_cnB 1 hts (gi gw_194) rfl rfl rfl (gn_210 hN) (hta _ gw_1) (by decide +kernel) ⟨Nat.le_of_ble_eq_true rfl, Nat.le_of_ble_eq_true rfl⟩, hta _ gw_193, trivial⟩ ⟨ro_blind, ro_at hP hK hT hN va_S.rf [] [] rfl rfl⟩ rfl rfl hl.1 rfl (lv_room (Nat.le_of_ble_eq_true rfl)) dX3_isCrossingIn_2 ⟨Nat.le_of_ble_eq_true rfl, Nat.le_of_ble_eq_true rfl⟩) ?_
  refine lv_iload_n hx hb dX3_isCrossingIn_5 rfl (lv_at hl 1 rfl) ?_
  refine ro_go (va_runSN (As := [.int px]) (rest := [.int (f_columnOf px), .ref a_ss]) ⟨hx, hb, hml, hown, hts⟩ (c_rowOf l D tX tY px) ⟨va_cnB 1 hts (gi gw_197) rfl rfl rfl (gn_211 hN) (hta _ gw_1) (by decide +kernel) ⟨Nat.le_of_ble_eq_true rfl, Nat.le_of_ble_eq_true rfl⟩, hta _ gw_196, trivial⟩ ⟨ro_blind, ro_at hP hK hT hN va_S.rf [] [] rfl rfl⟩ rfl rfl hl.1 rfl (lv_room (Nat.le_of_ble_eq_true rfl)) dX3_isCrossingIn_6 ⟨Nat.le_of_ble_eq_true rfl, Nat.le_of_ble_eq_true rfl⟩) ?_
  refine ro_go (va_runV (As := [.int (f_columnOf px), .int (f_rowOf px)]) (rest := []) ⟨hx, hb, hml, hown, hts⟩ (c_S_linksAt l D tX tY a_ss a_sr k_sr sw sh sn sf (f_columnOf px) (f_rowOf px) (hss)) (cwV 2 hts (gi_4 gi_c gw_212 gw_213 gw_214 gw_3 gw_215) rfl rfl rfl (by decide +kernel) ⟨Nat.le_of_ble_eq_true rfl, Nat.le_of_ble_eq_true rfl⟩) ⟨ro_blind, va_recv hK hP (ci := 1) (q0 := 0) rfl rfl, ro_at hP hK hT hN va_S.rf [0, 1] [0] rfl rfl⟩ rfl rfl hl.1 rfl (lv_room (Nat.le_of_ble_eq_true rfl)) dX3_isCrossingIn_9 ⟨Nat.le_of_ble_eq_true rfl, Nat.le_of_ble_eq_true rfl⟩) ?_
  refine lv_topi (fun now e_now => ?_)
  have e_now : now = (f_S_linksAt sw sh sf (f_columnOf px) (f_rowOf px)) := e_now
  rw [← e_now] at hF
  rw [f_C_isCrossingIn_t12] at hF
  refine lv_istore_n (lv' := [(2, .int now), (0, .ref a_ss), (1, .int px)]) hx hb dX3_isCrossingIn_12 rfl hl (by decide) rfl (fun ls hl => ?_)
  refine lv_iload_n hx hb dX3_isCrossingIn_13 rfl (lv_at hl 0 rfl) ?_
  refine ro_go (va_runS (As := [.int now]) (rest := []) ⟨hx, hb, hml, hown, hts⟩ (c_bitCount l D tX tY now) (va_cwS 1 hts (gi_3 gi_c gw_231 gw_181 gw_12 gw_182) rfl rfl rfl (by decide +kernel) ⟨Nat.le_of_ble_eq_true rfl, Nat.le_of_ble_eq_true rfl⟩) ⟨ro_blind, ro_at hP hK hT hN va_S.rf [] [] rfl rfl⟩ rfl rfl hl.1 rfl (lv_room (Nat.le_of_ble_eq_true rfl)) dX3_isCrossingIn_14 ⟨Nat.le_of_ble_eq_true rfl, Nat.le_of_ble_eq_true rfl⟩) ?_
  refine lv_iconst (v := 3) hx hb dX3_isCrossingIn_17 (by decide) ?_
  refine lv_icmp_lt (tgt := 25) hx hb dX3_isCrossingIn_18 (by decide) (fun c18 => ?_) (fun c18 => ?_)
  · rw [if_pos c18] at hF
    refine lv_iconst (v := 0) hx hb dX3_isCrossingIn_25 (by decide) ?_
    exact W.zret (v := 0) hx hb hr rfl (fun t ht _ => ⟨by rw [← hF], ht⟩) (fun _ h => nomatch h) dX3_isCrossingIn_26
  · rw [if_neg c18] at hF
    refine lv_iconst (v := 1) hx hb dX3_isCrossingIn_21 (by decide) ?_
    refine lv_goto (tgt := 26) hx hb dX3_isCrossingIn_22 (by decide) ?_
    exact W.zret (v := 1) hx hb hr rfl (fun t ht _ => ⟨by rw [← hF], ht⟩) (fun _ h => nomatch h) dX3_isCrossingIn_26

def f_C_aheadOf_t13 (csn : Nat) (csf : Nat → Int32) (cbn : Nat) (cbf : Nat → Int32) (csc : Int32) (px : Int32) (py : Int32) (en : Int32) (stp : Int32) : Int32 := (if (f_C_firstOf csn csf cbn cbf csc px) = py then (f_C_sampleOf csn csf cbn cbf csc px stp) else (f_C_sampleOf csn csf cbn cbf csc px (en - stp)))
def f_C_aheadOf_t7 (csn : Nat) (csf : Nat → Int32) (cbn : Nat) (cbf : Nat → Int32) (csc : Int32) (px : Int32) (py : Int32) (en : Int32) : Int32 := (f_C_aheadOf_t13 csn csf cbn cbf csc px py en (mn 3 en))
def f_C_aheadOf (csn : Nat) (csf : Nat → Int32) (cbn : Nat) (cbf : Nat → Int32) (csc : Int32) (px : Int32) (py : Int32) : Int32 := (f_C_aheadOf_t7 csn csf cbn cbf csc px py ((f_C_lengthOf cbn cbf csc px) - 1))
set_option maxHeartbeats 4000000 in
set_option maxRecDepth 100000 in
theorem c_C_aheadOf (l : Launch) (D : va_G) (tX tY : Nat) (a_c : Nat) (a_cl : Nat) (k_cl : ClassId) (cln : Nat) (clf : Nat → Int32) (a_ct : Nat) (k_ct : ClassId) (ctn : Nat) (ctf : Nat → Int32) (a_cs : Nat) (k_cs : ClassId) (csn : Nat) (csf : Nat → Int32) (a_cb : Nat) (k_cb : ClassId) (cbn : Nat) (cbf : Nat → Int32) (a_cc : Nat) (k_cc : ClassId) (ccn : Nat) (ccf : Nat → Int32) (csc : Int32) (csm : Int32) (ccr : Int32) (px : Int32) (py : Int32) (hnb : cbn < 2147483647) (hns : csn < 2147483647) : Met l yX3_aheadOf wX3_aheadOf ({ frames := 3, cells := 0, slots := 0, locals := 65 }) (ro_P D tX tY [(k_cl, .int), (k_ct, .int), (k_cs, .int), (k_cb, .int), (k_cc, .int)] [(a_c, .inr (3, [.ref a_cl, .ref a_ct, .ref a_cs, .ref a_cb, .ref a_cc, .int csc, .int csm, .int ccr])), (a_cl, .inl (k_cl, cln, .inl clf)), (a_ct, .inl (k_ct, ctn, .inl ctf)), (a_cs, .inl (k_cs, csn, .inl csf)), (a_cb, .inl (k_cb, cbn, .inl cbf)), (a_cc, .inl (k_cc, ccn, .inl ccf))] [.ref a_c, .int px, .int py]) (k2_QcV (.int (f_C_aheadOf csn csf cbn cbf csc px py))) 0 0 (fun _ => False) := by
  generalize hF : (f_C_aheadOf csn csf cbn cbf csc px py) = F
  refine Met.ofW (cc := cX3_aheadOf) (maxL := 5) (ret := (some .int)) (by decide) rfl ?_
  intro p e s m args below meth c s₁ B hml hv
  obtain ⟨rfl, hP, hK, hT, hN⟩ := hv
  have hx := B.exec
  have hb := B.bytes
  have hr := B.returns
  have hts := atoms_spec (ws := wX3_aheadOf) B.pre
  have hta : ∀ w ∈ gw, w.before _ s = true := fun w h => hts w (List.mem_cons_of_mem _ h)
  have hown : s.vm.findClass RX3 = some m.cls := findClass_of_methodNamed B.named
  have hlocks := B.notSynchronized
  have hl := lv_entry [.ref a_c, .int px, .int py] (n := 5) (Nat.le_of_ble_eq_true rfl)
  rw [lg_entry_eq]
  generalize (lg_sl [.ref a_c, .int px, .int py] ++ List.replicate (5 - (lg_sl [.ref a_c, .int px, .int py]).length) Slot.unset).toArray = ls at hl ⊢
  have hl : lv_has ls 5 [(0, .ref a_c), (1, .int px), (2, .int py)] := hl
  rw [f_C_aheadOf] at hF
  refine lv_aload_n hx hb dX3_aheadOf_0 rfl (lv_at hl 0 rfl) ?_
  refine lv_iload_n hx hb dX3_aheadOf_1 rfl (lv_at hl 1 rfl) ?_
  refine ro_go (va_runV (As := [.int px]) (rest := []) ⟨hx, hb, hml, hown, hts⟩ (c_C_lengthOf l D tX tY a_c a_cl k_cl cln clf a_ct k_ct ctn ctf a_cs k_cs csn csf a_cb k_cb cbn cbf a_cc k_cc ccn ccf csc csm ccr px (hnb)) (cwV 1 hts (gi_4 gi_c gw_485 gw_486 gw_487 gw_5 gw_488) rfl rfl rfl (by decide +kernel) ⟨Nat.le_of_ble_eq_true rfl, Nat.le_of_ble_eq_true rfl⟩) ⟨ro_blind, va_recv hK hP (ci := 3) (q0 := 0) rfl rfl, ro_at hP hK hT hN va_S.rf [0, 1, 2, 3, 4, 5] [0, 1, 2, 3, 4] rfl rfl⟩ rfl rfl hl.1 rfl (lv_room (Nat.le_of_ble_eq_true rfl)) dX3_aheadOf_2 ⟨Nat.le_of_ble_eq_true rfl, Nat.le_of_ble_eq_true rfl⟩) ?_
  refine lv_iconst (v := 1) hx hb dX3_aheadOf_5 (by decide) ?_
  refine lv_isub hx hb dX3_aheadOf_6 ?_
  refine lv_topi (fun en e_en => ?_)
  have e_en : en = (f_C_lengthOf cbn cbf csc px) - 1 := e_en
  rw [← e_en] at hF
  rw [f_C_aheadOf_t7] at hF
  refine lv_istore_n (lv' := [(3, .int en), (0, .ref a_c), (1, .int px), (2, .int py)]) hx hb dX3_aheadOf_7 rfl hl (by decide) rfl (fun ls hl => ?_)
  refine lv_iconst (v := 3) hx hb dX3_aheadOf_8 (by decide) ?_
  refine lv_iload_n hx hb dX3_aheadOf_9 rfl (lv_at hl 0 rfl) ?_
  refine va_mmin hx hb (hml.trans hl.1.symm) hown (hta _ gw_582) (hta _ gw_27) (hta _ gw_2) (hta _ gw_28) (Nat.le_of_ble_eq_true rfl) (Nat.le_of_ble_eq_true rfl) (Nat.le_of_ble_eq_true rfl) (Nat.le_of_ble_eq_true rfl) dX3_aheadOf_10 ?_
  refine lv_topi (fun stp e_stp => ?_)
  have e_stp : stp = mn 3 en := e_stp
  rw [← e_stp] at hF
  rw [f_C_aheadOf_t13] at hF
  refine lv_istore (lv' := [(4, .int stp), (3, .int en), (0, .ref a_c), (1, .int px), (2, .int py)]) hx hb dX3_aheadOf_13 hl (by decide) rfl (fun ls hl => ?_)
  refine lv_aload_n hx hb dX3_aheadOf_15 rfl (lv_at hl 2 rfl) ?_
  refine lv_iload_n hx hb dX3_aheadOf_16 rfl (lv_at hl 3 rfl) ?_
  refine lv_aload_n hx hb dX3_aheadOf_17 rfl (lv_at hl 2 rfl) ?_
  refine lv_iload_n hx hb dX3_aheadOf_18 rfl (lv_at hl 3 rfl) ?_
  refine ro_go (va_runV (As := [.int px]) (rest := [.int px, .ref a_c]) ⟨hx, hb, hml, hown, hts⟩ (c_C_firstOf l D tX tY a_c a_cl k_cl cln clf a_ct k_ct ctn ctf a_cs k_cs csn csf a_cb k_cb cbn cbf a_cc k_cc ccn ccf csc csm ccr px (hnb) (hns)) (cwV 1 hts (gi_4 gi_c gw_477 gw_479 gs_X3_firstOf gw_5 gw_480) rfl rfl rfl (by decide +kernel) ⟨Nat.le_of_ble_eq_true rfl, Nat.le_of_ble_eq_true rfl⟩) ⟨ro_blind, va_recv hK hP (ci := 3) (q0 := 0) rfl rfl, ro_at hP hK hT hN va_S.rf [0, 1, 2, 3, 4, 5] [0, 1, 2, 3, 4] rfl rfl⟩ rfl rfl hl.1 rfl (lv_room (Nat.le_of_ble_eq_true rfl)) dX3_aheadOf_19 ⟨Nat.le_of_ble_eq_true rfl, Nat.le_of_ble_eq_true rfl⟩) ?_
  refine lv_iload_n hx hb dX3_aheadOf_22 rfl (lv_at hl 4 rfl) ?_
  refine lv_icmp_ne (tgt := 31) hx hb dX3_aheadOf_23 (by decide) (fun c23 => ?_) (fun c23 => ?_)
  · rw [if_neg c23] at hF
    refine lv_iload_n hx hb dX3_aheadOf_31 rfl (lv_at hl 1 rfl) ?_
    refine lv_iload hx hb dX3_aheadOf_32 (lv_at hl 0 rfl) ?_
    refine lv_isub hx hb dX3_aheadOf_34 ?_
    refine ro_go (va_runV (As := [.int px, .int (en - stp)]) (rest := []) ⟨hx, hb, hml, hown, hts⟩ (c_C_sampleOf l D tX tY a_c a_cl k_cl cln clf a_ct k_ct ctn ctf a_cs k_cs csn csf a_cb k_cb cbn cbf a_cc k_cc ccn ccf csc csm ccr px (en - stp) (hnb) (hns)) (cwV 2 hts (gi_4 gi_c gw_481 gw_482 gw_483 gw_5 gw_484) rfl rfl rfl (by decide +kernel) ⟨Nat.le_of_ble_eq_true rfl, Nat.le_of_ble_eq_true rfl⟩) ⟨ro_blind, va_recv hK hP (ci := 3) (q0 := 0) rfl rfl, ro_at hP hK hT hN va_S.rf [0, 1, 2, 3, 4, 5] [0, 1, 2, 3, 4] rfl rfl⟩ rfl rfl hl.1 rfl (lv_room (Nat.le_of_ble_eq_true rfl)) dX3_aheadOf_35 ⟨Nat.le_of_ble_eq_true rfl, Nat.le_of_ble_eq_true rfl⟩) ?_
    exact W.iret (v := (f_C_sampleOf csn csf cbn cbf csc px (en - stp))) hx hb hr (fun t ht _ => ⟨by rw [← hF], ht⟩) (fun _ h => nomatch h) dX3_aheadOf_38
  · rw [if_pos c23] at hF
    refine lv_iload hx hb dX3_aheadOf_26 (lv_at hl 0 rfl) ?_
    refine lv_goto (tgt := 35) hx hb dX3_aheadOf_28 (by decide) ?_
    refine ro_go (va_runV (As := [.int px, .int stp]) (rest := []) ⟨hx, hb, hml, hown, hts⟩ (c_C_sampleOf l D tX tY a_c a_cl k_cl cln clf a_ct k_ct ctn ctf a_cs k_cs csn csf a_cb k_cb cbn cbf a_cc k_cc ccn ccf csc csm ccr px stp (hnb) (hns)) (cwV 2 hts (gi_4 gi_c gw_481 gw_482 gw_483 gw_5 gw_484) rfl rfl rfl (by decide +kernel) ⟨Nat.le_of_ble_eq_true rfl, Nat.le_of_ble_eq_true rfl⟩) ⟨ro_blind, va_recv hK hP (ci := 3) (q0 := 0) rfl rfl, ro_at hP hK hT hN va_S.rf [0, 1, 2, 3, 4, 5] [0, 1, 2, 3, 4] rfl rfl⟩ rfl rfl hl.1 rfl (lv_room (Nat.le_of_ble_eq_true rfl)) dX3_aheadOf_35 ⟨Nat.le_of_ble_eq_true rfl, Nat.le_of_ble_eq_true rfl⟩) ?_
    exact W.iret (v := (f_C_sampleOf csn csf cbn cbf csc px stp)) hx hb hr (fun t ht _ => ⟨by rw [← hF], ht⟩) (fun _ h => nomatch h) dX3_aheadOf_38

def f_C_dot (px : Int32) (py : Int32) (pz : Int32) : Int32 := (((f_columnOf py) - (f_columnOf px)) * ((f_columnOf pz) - (f_columnOf px))) + (((f_rowOf py) - (f_rowOf px)) * ((f_rowOf pz) - (f_rowOf px)))
set_option maxHeartbeats 4000000 in
set_option maxRecDepth 100000 in
theorem c_C_dot (l : Launch) (D : va_G) (tX tY : Nat) (px : Int32) (py : Int32) (pz : Int32) : Met l yX3_dot wX3_dot ({ frames := 1, cells := 0, slots := 0, locals := 20 }) (ro_P D tX tY [] [] [.int px, .int py, .int pz]) (k2_QcV (.int (f_C_dot px py pz))) 0 0 (fun _ => False) := by
  generalize hF : (f_C_dot px py pz) = F
  refine Met.ofW (cc := cX3_dot) (maxL := 5) (ret := (some .int)) (by decide) rfl ?_
  intro p e s m args below meth c s₁ B hml hv
  obtain ⟨rfl, hP, hK, hT, hN⟩ := hv
  have hx := B.exec
  have hb := B.bytes
  have hr := B.returns
  have hts := atoms_spec (ws := wX3_dot) B.pre
  have hta : ∀ w ∈ gw, w.before _ s = true := fun w h => hts w (List.mem_cons_of_mem _ h)
  have hown : s.vm.findClass RX3 = some m.cls := findClass_of_methodNamed B.named
  have hlocks := B.notSynchronized
  have hl := lv_entry [.int px, .int py, .int pz] (n := 5) (Nat.le_of_ble_eq_true rfl)
  rw [lg_entry_eq]
  generalize (lg_sl [.int px, .int py, .int pz] ++ List.replicate (5 - (lg_sl [.int px, .int py, .int pz]).length) Slot.unset).toArray = ls at hl ⊢
  have hl : lv_has ls 5 [(0, .int px), (1, .int py), (2, .int pz)] := hl
  rw [f_C_dot] at hF
  refine lv_iload_n hx hb dX3_dot_0 rfl (lv_at hl 1 rfl) ?_
  refine ro_go (va_runSN (As := [.int py]) (rest := []) ⟨hx, hb, hml, hown, hts⟩ (c_columnOf l D tX tY py) ⟨va_cnB 1 hts (gi gw_194) rfl rfl rfl (gn_210 hN) (hta _ gw_1) (by decide +kernel) ⟨Nat.le_of_ble_eq_true rfl, Nat.le_of_ble_eq_true rfl⟩, hta _ gw_193, trivial⟩ ⟨ro_blind, ro_at hP hK hT hN va_S.rf [] [] rfl rfl⟩ rfl rfl hl.1 rfl (lv_room (Nat.le_of_ble_eq_true rfl)) dX3_dot_1 ⟨Nat.le_of_ble_eq_true rfl, Nat.le_of_ble_eq_true rfl⟩) ?_
  refine lv_iload_n hx hb dX3_dot_4 rfl (lv_at hl 0 rfl) ?_
  refine ro_go (va_runSN (As := [.int px]) (rest := [.int (f_columnOf py)]) ⟨hx, hb, hml, hown, hts⟩ (c_columnOf l D tX tY px) ⟨va_cnB 1 hts (gi gw_194) rfl rfl rfl (gn_210 hN) (hta _ gw_1) (by decide +kernel) ⟨Nat.le_of_ble_eq_true rfl, Nat.le_of_ble_eq_true rfl⟩, hta _ gw_193, trivial⟩ ⟨ro_blind, ro_at hP hK hT hN va_S.rf [] [] rfl rfl⟩ rfl rfl hl.1 rfl (lv_room (Nat.le_of_ble_eq_true rfl)) dX3_dot_5 ⟨Nat.le_of_ble_eq_true rfl, Nat.le_of_ble_eq_true rfl⟩) ?_
  refine lv_isub hx hb dX3_dot_8 ?_
  refine lv_iload_n hx hb dX3_dot_9 rfl (lv_at hl 2 rfl) ?_
  refine ro_go (va_runSN (As := [.int pz]) (rest := [.int ((f_columnOf py) - (f_columnOf px))]) ⟨hx, hb, hml, hown, hts⟩ (c_columnOf l D tX tY pz) ⟨va_cnB 1 hts (gi gw_194) rfl rfl rfl (gn_210 hN) (hta _ gw_1) (by decide +kernel) ⟨Nat.le_of_ble_eq_true rfl, Nat.le_of_ble_eq_true rfl⟩, hta _ gw_193, trivial⟩ ⟨ro_blind, ro_at hP hK hT hN va_S.rf [] [] rfl rfl⟩ rfl rfl hl.1 rfl (lv_room (Nat.le_of_ble_eq_true rfl)) dX3_dot_10 ⟨Nat.le_of_ble_eq_true rfl, Nat.le_of_ble_eq_true rfl⟩) ?_
  refine lv_iload_n hx hb dX3_dot_13 rfl (lv_at hl 0 rfl) ?_
  refine ro_go (va_runSN (As := [.int px]) (rest := [.int (f_columnOf pz), .int ((f_columnOf py) - (f_columnOf px))]) ⟨hx, hb, hml, hown, hts⟩ (c_columnOf l D tX tY px) ⟨va_cnB 1 hts (gi gw_194) rfl rfl rfl (gn_210 hN) (hta _ gw_1) (by decide +kernel) ⟨Nat.le_of_ble_eq_true rfl, Nat.le_of_ble_eq_true rfl⟩, hta _ gw_193, trivial⟩ ⟨ro_blind, ro_at hP hK hT hN va_S.rf [] [] rfl rfl⟩ rfl rfl hl.1 rfl (lv_room (Nat.le_of_ble_eq_true rfl)) dX3_dot_14 ⟨Nat.le_of_ble_eq_true rfl, Nat.le_of_ble_eq_true rfl⟩) ?_
  refine lv_isub hx hb dX3_dot_17 ?_
  refine lv_imul hx hb dX3_dot_18 ?_
  refine lv_istore_n (lv' := [(3, .int (((f_columnOf py) - (f_columnOf px)) * ((f_columnOf pz) - (f_columnOf px)))), (0, .int px), (1, .int py), (2, .int pz)]) hx hb dX3_dot_19 rfl hl (by decide) rfl (fun ls hl => ?_)
  refine lv_iload_n hx hb dX3_dot_20 rfl (lv_at hl 2 rfl) ?_
  refine ro_go (va_runSN (As := [.int py]) (rest := []) ⟨hx, hb, hml, hown, hts⟩ (c_rowOf l D tX tY py) ⟨va_cnB 1 hts (gi gw_197) rfl rfl rfl (gn_211 hN) (hta _ gw_1) (by decide +kernel) ⟨Nat.le_of_ble_eq_true rfl, Nat.le_of_ble_eq_true rfl⟩, hta _ gw_196, trivial⟩ ⟨ro_blind, ro_at hP hK hT hN va_S.rf [] [] rfl rfl⟩ rfl rfl hl.1 rfl (lv_room (Nat.le_of_ble_eq_true rfl)) dX3_dot_21 ⟨Nat.le_of_ble_eq_true rfl, Nat.le_of_ble_eq_true rfl⟩) ?_
  refine lv_iload_n hx hb dX3_dot_24 rfl (lv_at hl 1 rfl) ?_
  refine ro_go (va_runSN (As := [.int px]) (rest := [.int (f_rowOf py)]) ⟨hx, hb, hml, hown, hts⟩ (c_rowOf l D tX tY px) ⟨va_cnB 1 hts (gi gw_197) rfl rfl rfl (gn_211 hN) (hta _ gw_1) (by decide +kernel) ⟨Nat.le_of_ble_eq_true rfl, Nat.le_of_ble_eq_true rfl⟩, hta _ gw_196, trivial⟩ ⟨ro_blind, ro_at hP hK hT hN va_S.rf [] [] rfl rfl⟩ rfl rfl hl.1 rfl (lv_room (Nat.le_of_ble_eq_true rfl)) dX3_dot_25 ⟨Nat.le_of_ble_eq_true rfl, Nat.le_of_ble_eq_true rfl⟩) ?_
  refine lv_isub hx hb dX3_dot_28 ?_
  refine lv_iload_n hx hb dX3_dot_29 rfl (lv_at hl 3 rfl) ?_
  refine ro_go (va_runSN (As := [.int pz]) (rest := [.int ((f_rowOf py) - (f_rowOf px))]) ⟨hx, hb, hml, hown, hts⟩ (c_rowOf l D tX tY pz) ⟨va_cnB 1 hts (gi gw_197) rfl rfl rfl (gn_211 hN) (hta _ gw_1) (by decide +kernel) ⟨Nat.le_of_ble_eq_true rfl, Nat.le_of_ble_eq_true rfl⟩, hta _ gw_196, trivial⟩ ⟨ro_blind, ro_at hP hK hT hN va_S.rf [] [] rfl rfl⟩ rfl rfl hl.1 rfl (lv_room (Nat.le_of_ble_eq_true rfl)) dX3_dot_30 ⟨Nat.le_of_ble_eq_true rfl, Nat.le_of_ble_eq_true rfl⟩) ?_
  refine lv_iload_n hx hb dX3_dot_33 rfl (lv_at hl 1 rfl) ?_
  refine ro_go (va_runSN (As := [.int px]) (rest := [.int (f_rowOf pz), .int ((f_rowOf py) - (f_rowOf px))]) ⟨hx, hb, hml, hown, hts⟩ (c_rowOf l D tX tY px) ⟨va_cnB 1 hts (gi gw_197) rfl rfl rfl (gn_211 hN) (hta _ gw_1) (by decide +kernel) ⟨Nat.le_of_ble_eq_true rfl, Nat.le_of_ble_eq_true rfl⟩, hta _ gw_196, trivial⟩ ⟨ro_blind, ro_at hP hK hT hN va_S.rf [] [] rfl rfl⟩ rfl rfl hl.1 rfl (lv_room (Nat.le_of_ble_eq_true rfl)) dX3_dot_34 ⟨Nat.le_of_ble_eq_true rfl, Nat.le_of_ble_eq_true rfl⟩) ?_
  refine lv_isub hx hb dX3_dot_37 ?_
  refine lv_imul hx hb dX3_dot_38 ?_
  refine lv_istore (lv' := [(4, .int (((f_rowOf py) - (f_rowOf px)) * ((f_rowOf pz) - (f_rowOf px)))), (3, .int (((f_columnOf py) - (f_columnOf px)) * ((f_columnOf pz) - (f_columnOf px)))), (0, .int px), (1, .int py), (2, .int pz)]) hx hb dX3_dot_39 hl (by decide) rfl (fun ls hl => ?_)
  refine lv_iload_n hx hb dX3_dot_41 rfl (lv_at hl 1 rfl) ?_
  refine lv_iload hx hb dX3_dot_42 (lv_at hl 0 rfl) ?_
  refine lv_iadd hx hb dX3_dot_44 ?_
  exact W.iret (v := (((f_columnOf py) - (f_columnOf px)) * ((f_columnOf pz) - (f_columnOf px))) + (((f_rowOf py) - (f_rowOf px)) * ((f_rowOf pz) - (f_rowOf px)))) hx hb hr (fun t ht _ => ⟨by rw [← hF], ht⟩) (fun _ h => nomatch h) dX3_dot_45

def f_C_straightOn_k36  : Int32 × Int32 × Int32 × Int32 → Int32
  | (v7_36, v6_36, v5_36, v4_36) => v4_36
def f_C_straightOn_t90 (v7_36 : Int32) (v6_36 : Int32) (v5_36 : Int32) (v4_36 : Int32) (rc36 : (Int32 × Int32 × Int32 × Int32) → (Int32 × Int32 × Int32 × Int32)) (dt : Int32) (ln : Int32) : Int32 × Int32 × Int32 × Int32 := (if 0 ≤ dt then (rc36 (v7_36 + 1, v6_36, v5_36, v4_36)) else (if ((dt * dt) * v6_36) ≤ ((v5_36 * v5_36) * ln) then (rc36 (v7_36 + 1, v6_36, v5_36, v4_36)) else (rc36 (v7_36 + 1, ln, dt, v7_36))))
def f_C_straightOn_t80 (cro : Int32) (v7_36 : Int32) (v6_36 : Int32) (v5_36 : Int32) (v4_36 : Int32) (rc36 : (Int32 × Int32 × Int32 × Int32) → (Int32 × Int32 × Int32 × Int32)) (ahd : Int32) (dt : Int32) : Int32 × Int32 × Int32 × Int32 := (f_C_straightOn_t90 v7_36 v6_36 v5_36 v4_36 rc36 dt (f_C_dot cro ahd ahd))
def f_C_straightOn_t71 (cro : Int32) (own : Int32) (v7_36 : Int32) (v6_36 : Int32) (v5_36 : Int32) (v4_36 : Int32) (rc36 : (Int32 × Int32 × Int32 × Int32) → (Int32 × Int32 × Int32 × Int32)) (ahd : Int32) : Int32 × Int32 × Int32 × Int32 := (f_C_straightOn_t80 cro v7_36 v6_36 v5_36 v4_36 rc36 ahd (f_C_dot cro own ahd))
def f_C_straightOn_L36 (csn : Nat) (csf : Nat → Int32) (cbn : Nat) (cbf : Nat → Int32) (csc : Int32) (px : Int32) (cro : Int32) (own : Int32) : Nat → Int32 × Int32 × Int32 × Int32 → Int32 × Int32 × Int32 × Int32
  | 0, σ => σ
  | n9 + 1, (v7_36, v6_36, v5_36, v4_36) => (if csc ≤ v7_36 then (v7_36, v6_36, v5_36, v4_36) else (if v7_36 = px then ((f_C_straightOn_L36 csn csf cbn cbf csc px cro own n9) (v7_36 + 1, v6_36, v5_36, v4_36)) else (if (f_C_touches csn csf cbn cbf csc v7_36 cro) = 0 then ((f_C_straightOn_L36 csn csf cbn cbf csc px cro own n9) (v7_36 + 1, v6_36, v5_36, v4_36)) else (f_C_straightOn_t71 cro own v7_36 v6_36 v5_36 v4_36 (f_C_straightOn_L36 csn csf cbn cbf csc px cro own n9) (f_C_aheadOf csn csf cbn cbf csc v7_36 cro)))))
def f_C_straightOn_t23 (csn : Nat) (csf : Nat → Int32) (cbn : Nat) (cbf : Nat → Int32) (csc : Int32) (px : Int32) (cro : Int32) (own : Int32) : Int32 := (f_C_straightOn_k36 (f_C_straightOn_L36 csn csf cbn cbf csc px cro own FU (0, 1, 0, (-1))))
def f_C_straightOn_t5 (cln : Nat) (clf : Nat → Int32) (csn : Nat) (csf : Nat → Int32) (cbn : Nat) (cbf : Nat → Int32) (csc : Int32) (px : Int32) (cro : Int32) : Int32 := (if 3 ≤ (f_C_degreeOf cln clf cro) then (f_C_straightOn_t23 csn csf cbn cbf csc px cro (f_C_aheadOf csn csf cbn cbf csc px cro)) else (-1))
def f_C_straightOn (cln : Nat) (clf : Nat → Int32) (csn : Nat) (csf : Nat → Int32) (cbn : Nat) (cbf : Nat → Int32) (csc : Int32) (px : Int32) : Int32 := (f_C_straightOn_t5 cln clf csn csf cbn cbf csc px (f_C_lastOf csn csf cbn cbf csc px))
set_option maxHeartbeats 4000000 in
set_option maxRecDepth 100000 in
theorem c_C_straightOn (l : Launch) (D : va_G) (tX tY : Nat) (a_c : Nat) (a_cl : Nat) (k_cl : ClassId) (cln : Nat) (clf : Nat → Int32) (a_ct : Nat) (k_ct : ClassId) (ctn : Nat) (ctf : Nat → Int32) (a_cs : Nat) (k_cs : ClassId) (csn : Nat) (csf : Nat → Int32) (a_cb : Nat) (k_cb : ClassId) (cbn : Nat) (cbf : Nat → Int32) (a_cc : Nat) (k_cc : ClassId) (ccn : Nat) (ccf : Nat → Int32) (csc : Int32) (csm : Int32) (ccr : Int32) (px : Int32) (hnb : cbn < 2147483647) (hns : csn < 2147483647) (hnl : cln < 2147483647) : Met l yX3_straightOn wX3_straightOn ({ frames := 4, cells := 0, slots := 0, locals := 89 }) (ro_P D tX tY [(k_cl, .int), (k_ct, .int), (k_cs, .int), (k_cb, .int), (k_cc, .int)] [(a_c, .inr (3, [.ref a_cl, .ref a_ct, .ref a_cs, .ref a_cb, .ref a_cc, .int csc, .int csm, .int ccr])), (a_cl, .inl (k_cl, cln, .inl clf)), (a_ct, .inl (k_ct, ctn, .inl ctf)), (a_cs, .inl (k_cs, csn, .inl csf)), (a_cb, .inl (k_cb, cbn, .inl cbf)), (a_cc, .inl (k_cc, ccn, .inl ccf))] [.ref a_c, .int px]) (k2_QcV (.int (f_C_straightOn cln clf csn csf cbn cbf csc px))) 0 0 (fun _ => False) := by
  generalize hF : (f_C_straightOn cln clf csn csf cbn cbf csc px) = F
  refine Met.ofW (cc := cX3_straightOn) (maxL := 11) (ret := (some .int)) (by decide) rfl ?_
  intro p e s m args below meth c s₁ B hml hv
  obtain ⟨rfl, hP, hK, hT, hN⟩ := hv
  have hx := B.exec
  have hb := B.bytes
  have hr := B.returns
  have hts := atoms_spec (ws := wX3_straightOn) B.pre
  have hta : ∀ w ∈ gw, w.before _ s = true := fun w h => hts w (List.mem_cons_of_mem _ h)
  have hown : s.vm.findClass RX3 = some m.cls := findClass_of_methodNamed B.named
  have hlocks := B.notSynchronized
  have hl := lv_entry [.ref a_c, .int px] (n := 11) (Nat.le_of_ble_eq_true rfl)
  rw [lg_entry_eq]
  generalize (lg_sl [.ref a_c, .int px] ++ List.replicate (11 - (lg_sl [.ref a_c, .int px]).length) Slot.unset).toArray = ls at hl ⊢
  have hl : lv_has ls 11 [(0, .ref a_c), (1, .int px)] := hl
  rw [f_C_straightOn] at hF
  refine lv_aload_n hx hb dX3_straightOn_0 rfl (lv_at hl 0 rfl) ?_
  refine lv_iload_n hx hb dX3_straightOn_1 rfl (lv_at hl 1 rfl) ?_
  refine ro_go (va_runV (As := [.int px]) (rest := []) ⟨hx, hb, hml, hown, hts⟩ (c_C_lastOf l D tX tY a_c a_cl k_cl cln clf a_ct k_ct ctn ctf a_cs k_cs csn csf a_cb k_cb cbn cbf a_cc k_cc ccn ccf csc csm ccr px (hnb) (hns)) (cwV 1 hts (gi_4 gi_c gw_489 gw_491 gs_X3_lastOf gw_5 gw_492) rfl rfl rfl (by decide +kernel) ⟨Nat.le_of_ble_eq_true rfl, Nat.le_of_ble_eq_true rfl⟩) ⟨ro_blind, va_recv hK hP (ci := 3) (q0 := 0) rfl rfl, ro_at hP hK hT hN va_S.rf [0, 1, 2, 3, 4, 5] [0, 1, 2, 3, 4] rfl rfl⟩ rfl rfl hl.1 rfl (lv_room (Nat.le_of_ble_eq_true rfl)) dX3_straightOn_2 ⟨Nat.le_of_ble_eq_true rfl, Nat.le_of_ble_eq_true rfl⟩) ?_
  refine lv_topi (fun cro e_cro => ?_)
  have e_cro : cro = (f_C_lastOf csn csf cbn cbf csc px) := e_cro
  rw [← e_cro] at hF
  rw [f_C_straightOn_t5] at hF
  refine lv_istore_n (lv' := [(2, .int cro), (0, .ref a_c), (1, .int px)]) hx hb dX3_straightOn_5 rfl hl (by decide) rfl (fun ls hl => ?_)
  refine lv_aload_n hx hb dX3_straightOn_6 rfl (lv_at hl 1 rfl) ?_
  refine lv_iload_n hx hb dX3_straightOn_7 rfl (lv_at hl 0 rfl) ?_
  refine ro_go (va_runV (As := [.int cro]) (rest := []) ⟨hx, hb, hml, hown, hts⟩ (c_C_degreeOf l D tX tY a_c a_cl k_cl cln clf a_ct k_ct ctn ctf a_cs k_cs csn csf a_cb k_cb cbn cbf a_cc k_cc ccn ccf csc csm ccr cro (hnl)) (cwV 1 hts (gi_4 gi_c gw_223 gw_224 gw_225 gw_5 gw_226) rfl rfl rfl (by decide +kernel) ⟨Nat.le_of_ble_eq_true rfl, Nat.le_of_ble_eq_true rfl⟩) ⟨ro_blind, va_recv hK hP (ci := 3) (q0 := 0) rfl rfl, ro_at hP hK hT hN va_S.rf [0, 1, 2, 3, 4, 5] [0, 1, 2, 3, 4] rfl rfl⟩ rfl rfl hl.1 rfl (lv_room (Nat.le_of_ble_eq_true rfl)) dX3_straightOn_8 ⟨Nat.le_of_ble_eq_true rfl, Nat.le_of_ble_eq_true rfl⟩) ?_
  refine lv_iconst (v := 3) hx hb dX3_straightOn_11 (by decide) ?_
  refine lv_icmp_ge (tgt := 17) hx hb dX3_straightOn_12 (by decide) (fun c12 => ?_) (fun c12 => ?_)
  · rw [if_pos c12] at hF
    refine lv_aload_n hx hb dX3_straightOn_17 rfl (lv_at hl 1 rfl) ?_
    refine lv_iload_n hx hb dX3_straightOn_18 rfl (lv_at hl 2 rfl) ?_
    refine lv_iload_n hx hb dX3_straightOn_19 rfl (lv_at hl 0 rfl) ?_
    refine ro_go (va_runV (As := [.int px, .int cro]) (rest := []) ⟨hx, hb, hml, hown, hts⟩ (c_C_aheadOf l D tX tY a_c a_cl k_cl cln clf a_ct k_ct ctn ctf a_cs k_cs csn csf a_cb k_cb cbn cbf a_cc k_cc ccn ccf csc csm ccr px cro (hnb) (hns)) (cwV 2 hts (gi_4 gi_c gw_578 gw_580 gs_X3_aheadOf gw_5 gw_581) rfl rfl rfl (by decide +kernel) ⟨Nat.le_of_ble_eq_true rfl, Nat.le_of_ble_eq_true rfl⟩) ⟨ro_blind, va_recv hK hP (ci := 3) (q0 := 0) rfl rfl, ro_at hP hK hT hN va_S.rf [0, 1, 2, 3, 4, 5] [0, 1, 2, 3, 4] rfl rfl⟩ rfl rfl hl.1 rfl (lv_room (Nat.le_of_ble_eq_true rfl)) dX3_straightOn_20 ⟨Nat.le_of_ble_eq_true rfl, Nat.le_of_ble_eq_true rfl⟩) ?_
    refine lv_topi (fun own e_own => ?_)
    have e_own : own = (f_C_aheadOf csn csf cbn cbf csc px cro) := e_own
    rw [← e_own] at hF
    rw [f_C_straightOn_t23] at hF
    refine lv_istore_n (lv' := [(3, .int own), (2, .int cro), (0, .ref a_c), (1, .int px)]) hx hb dX3_straightOn_23 rfl hl (by decide) rfl (fun ls hl => ?_)
    refine lv_iconst (v := (-1)) hx hb dX3_straightOn_24 (by decide) ?_
    refine lv_istore (lv' := [(4, .int (-1)), (3, .int own), (2, .int cro), (0, .ref a_c), (1, .int px)]) hx hb dX3_straightOn_25 hl (by decide) rfl (fun ls hl => ?_)
    refine lv_iconst (v := 0) hx hb dX3_straightOn_27 (by decide) ?_
    refine lv_istore (lv' := [(5, .int 0), (4, .int (-1)), (3, .int own), (2, .int cro), (0, .ref a_c), (1, .int px)]) hx hb dX3_straightOn_28 hl (by decide) rfl (fun ls hl => ?_)
    refine lv_iconst (v := 1) hx hb dX3_straightOn_30 (by decide) ?_
    refine lv_istore (lv' := [(6, .int 1), (5, .int 0), (4, .int (-1)), (3, .int own), (2, .int cro), (0, .ref a_c), (1, .int px)]) hx hb dX3_straightOn_31 hl (by decide) rfl (fun ls hl => ?_)
    refine lv_iconst (v := 0) hx hb dX3_straightOn_33 (by decide) ?_
    refine lv_istore (lv' := [(7, .int 0), (6, .int 1), (5, .int 0), (4, .int (-1)), (3, .int own), (2, .int cro), (0, .ref a_c), (1, .int px)]) hx hb dX3_straightOn_34 hl (by decide) rfl (fun ls hl => ?_)
    have af36 : ∀ (v7_36 : Int32) (v6_36 : Int32) (v5_36 : Int32) (v4_36 : Int32) (ls : Array Slot), f_C_straightOn_k36  (v7_36, v6_36, v5_36, v4_36) = F → lv_has ls 11 [(7, .int v7_36), (6, .int v6_36), (5, .int v5_36), (4, .int v4_36), (3, .int own), (2, .int cro), (0, .ref a_c), (1, .int px)] → W p l e { frames := 4, cells := 0, slots := 0, locals := 89 } s m (List.toArray [.ref a_c, .int px]) below meth c s.heap [] 0 0 (MQ below (k2_QcV (.int F)) (List.toArray [.ref a_c, .int px]) s 0 0 (fun _ => False)) (F0 m 134 ls []) := by
      intro v7_36 v6_36 v5_36 v4_36 ls hF hl
      rw [f_C_straightOn_k36] at hF
      refine lv_iload hx hb dX3_straightOn_134 (lv_at hl 3 rfl) ?_
      exact W.iret (v := v4_36) hx hb hr (fun t ht _ => ⟨by rw [← hF], ht⟩) (fun _ h => nomatch h) dX3_straightOn_136
    have lp36 : ∀ (n9 : Nat) (v7_36 : Int32) (v6_36 : Int32) (v5_36 : Int32) (v4_36 : Int32) (ls : Array Slot), (csc.toInt - v7_36.toInt).toNat < n9 → f_C_straightOn_k36  (f_C_straightOn_L36 csn csf cbn cbf csc px cro own n9 (v7_36, v6_36, v5_36, v4_36)) = F → lv_has ls 11 [(7, .int v7_36), (6, .int v6_36), (5, .int v5_36), (4, .int v4_36), (3, .int own), (2, .int cro), (0, .ref a_c), (1, .int px)] → W p l e { frames := 4, cells := 0, slots := 0, locals := 89 } s m (List.toArray [.ref a_c, .int px]) below meth c s.heap [] 0 0 (MQ below (k2_QcV (.int F)) (List.toArray [.ref a_c, .int px]) s 0 0 (fun _ => False)) (F0 m 36 ls []) := by
      intro n9
      induction n9 with
      | zero => intro v7_36 v6_36 v5_36 v4_36 ls hmu36; exact absurd hmu36 (Nat.not_lt_zero _)
      | succ n36 ih36 =>
        intro v7_36 v6_36 v5_36 v4_36 ls hmu36 hF hl
        rw [f_C_straightOn_L36] at hF
        refine lv_iload hx hb dX3_straightOn_36 (lv_at hl 0 rfl) ?_
        refine lv_aload_n hx hb dX3_straightOn_38 rfl (lv_at hl 6 rfl) ?_
        refine va_get (D := D) (ci := 3) (v := .int csc) (C := RX3) (T := TX3) (N := 8) hx hb hta inX3 hown hK hP 0 rfl rfl 5 (by decide) (hta _ gw_81) (fun _ h9 => h9) rfl dX3_straightOn_39 ?_
        refine lv_icmp_ge (tgt := 134) hx hb dX3_straightOn_42 (by decide) (fun c42 => ?_) (fun c42 => ?_)
        · rw [if_pos c42] at hF
          exact af36 v7_36 v6_36 v5_36 v4_36 ls hF (lv_sub hl [0, 1, 2, 3, 4, 5, 6, 7] rfl)
        · rw [if_neg c42] at hF
          refine lv_iload hx hb dX3_straightOn_45 (lv_at hl 0 rfl) ?_
          refine lv_iload_n hx hb dX3_straightOn_47 rfl (lv_at hl 7 rfl) ?_
          refine lv_icmp_eq (tgt := 128) hx hb dX3_straightOn_48 (by decide) (fun c48 => ?_) (fun c48 => ?_)
          · rw [if_pos c48] at hF
            refine lv_iinc (v := v7_36 + 1) (lv' := [(7, .int (v7_36 + 1)), (6, .int v6_36), (5, .int v5_36), (4, .int v4_36), (3, .int own), (2, .int cro), (0, .ref a_c), (1, .int px)]) hx hb dX3_straightOn_128 hl (k := 0) rfl rfl (by decide) rfl (fun ls hl => ?_)
            refine lv_goto (tgt := 36) hx hb dX3_straightOn_131 (by decide) ?_
            exact ih36 (v7_36 + 1) v6_36 v5_36 v4_36 ls (lt_lt (cu c42) hmu36) hF (lv_sub hl [0, 1, 2, 3, 4, 5, 6, 7] rfl)
          · rw [if_neg c48] at hF
            refine lv_aload_n hx hb dX3_straightOn_51 rfl (lv_at hl 6 rfl) ?_
            refine lv_iload hx hb dX3_straightOn_52 (lv_at hl 0 rfl) ?_
            refine lv_iload_n hx hb dX3_straightOn_54 rfl (lv_at hl 5 rfl) ?_
            refine ro_go (va_runV (As := [.int v7_36, .int cro]) (rest := []) ⟨hx, hb, hml, hown, hts⟩ (c_C_touches l D tX tY a_c a_cl k_cl cln clf a_ct k_ct ctn ctf a_cs k_cs csn csf a_cb k_cb cbn cbf a_cc k_cc ccn ccf csc csm ccr v7_36 cro (hnb) (hns)) (cwV 2 hts (gi_4 gi_c gw_583 gw_585 gs_X3_touches gw_5 gw_586) rfl rfl rfl (by decide +kernel) ⟨Nat.le_of_ble_eq_true rfl, Nat.le_of_ble_eq_true rfl⟩) ⟨ro_blind, va_recv hK hP (ci := 3) (q0 := 0) rfl rfl, ro_at hP hK hT hN va_S.rf [0, 1, 2, 3, 4, 5] [0, 1, 2, 3, 4] rfl rfl⟩ rfl rfl hl.1 rfl (lv_room (Nat.le_of_ble_eq_true rfl)) dX3_straightOn_55 ⟨Nat.le_of_ble_eq_true rfl, Nat.le_of_ble_eq_true rfl⟩) ?_
            refine lv_if_ne (tgt := 64) hx hb dX3_straightOn_58 (by decide) (fun c58 => ?_) (fun c58 => ?_)
            · rw [if_neg c58] at hF
              refine lv_aload_n hx hb dX3_straightOn_64 rfl (lv_at hl 6 rfl) ?_
              refine lv_iload hx hb dX3_straightOn_65 (lv_at hl 0 rfl) ?_
              refine lv_iload_n hx hb dX3_straightOn_67 rfl (lv_at hl 5 rfl) ?_
              refine ro_go (va_runV (As := [.int v7_36, .int cro]) (rest := []) ⟨hx, hb, hml, hown, hts⟩ (c_C_aheadOf l D tX tY a_c a_cl k_cl cln clf a_ct k_ct ctn ctf a_cs k_cs csn csf a_cb k_cb cbn cbf a_cc k_cc ccn ccf csc csm ccr v7_36 cro (hnb) (hns)) (cwV 2 hts (gi_4 gi_c gw_578 gw_580 gs_X3_aheadOf gw_5 gw_581) rfl rfl rfl (by decide +kernel) ⟨Nat.le_of_ble_eq_true rfl, Nat.le_of_ble_eq_true rfl⟩) ⟨ro_blind, va_recv hK hP (ci := 3) (q0 := 0) rfl rfl, ro_at hP hK hT hN va_S.rf [0, 1, 2, 3, 4, 5] [0, 1, 2, 3, 4] rfl rfl⟩ rfl rfl hl.1 rfl (lv_room (Nat.le_of_ble_eq_true rfl)) dX3_straightOn_68 ⟨Nat.le_of_ble_eq_true rfl, Nat.le_of_ble_eq_true rfl⟩) ?_
              refine lv_topi (fun ahd e_ahd => ?_)
              have e_ahd : ahd = (f_C_aheadOf csn csf cbn cbf csc v7_36 cro) := e_ahd
              rw [← e_ahd] at hF
              rw [f_C_straightOn_t71] at hF
              refine lv_istore (lv' := [(8, .int ahd), (7, .int v7_36), (6, .int v6_36), (5, .int v5_36), (4, .int v4_36), (3, .int own), (2, .int cro), (0, .ref a_c), (1, .int px)]) hx hb dX3_straightOn_71 hl (by decide) rfl (fun ls hl => ?_)
              refine lv_iload_n hx hb dX3_straightOn_73 rfl (lv_at hl 6 rfl) ?_
              refine lv_iload_n hx hb dX3_straightOn_74 rfl (lv_at hl 5 rfl) ?_
              refine lv_iload hx hb dX3_straightOn_75 (lv_at hl 0 rfl) ?_
              refine ro_go (va_runS (As := [.int cro, .int own, .int ahd]) (rest := []) ⟨hx, hb, hml, hown, hts⟩ (c_C_dot l D tX tY cro own ahd) (va_cwS 3 hts (gi_3 gi_c gw_587 gw_588 gw_5 gw_589) rfl rfl rfl (by decide +kernel) ⟨Nat.le_of_ble_eq_true rfl, Nat.le_of_ble_eq_true rfl⟩) ⟨ro_blind, ro_at hP hK hT hN va_S.rf [] [] rfl rfl⟩ rfl rfl hl.1 rfl (lv_room (Nat.le_of_ble_eq_true rfl)) dX3_straightOn_77 ⟨Nat.le_of_ble_eq_true rfl, Nat.le_of_ble_eq_true rfl⟩) ?_
              refine lv_topi (fun dt e_dt => ?_)
              have e_dt : dt = (f_C_dot cro own ahd) := e_dt
              rw [← e_dt] at hF
              rw [f_C_straightOn_t80] at hF
              refine lv_istore (lv' := [(9, .int dt), (8, .int ahd), (7, .int v7_36), (6, .int v6_36), (5, .int v5_36), (4, .int v4_36), (3, .int own), (2, .int cro), (0, .ref a_c), (1, .int px)]) hx hb dX3_straightOn_80 hl (by decide) rfl (fun ls hl => ?_)
              refine lv_iload_n hx hb dX3_straightOn_82 rfl (lv_at hl 7 rfl) ?_
              refine lv_iload hx hb dX3_straightOn_83 (lv_at hl 1 rfl) ?_
              refine lv_iload hx hb dX3_straightOn_85 (lv_at hl 1 rfl) ?_
              refine ro_go (va_runS (As := [.int cro, .int ahd, .int ahd]) (rest := []) ⟨hx, hb, hml, hown, hts⟩ (c_C_dot l D tX tY cro ahd ahd) (va_cwS 3 hts (gi_3 gi_c gw_587 gw_588 gw_5 gw_589) rfl rfl rfl (by decide +kernel) ⟨Nat.le_of_ble_eq_true rfl, Nat.le_of_ble_eq_true rfl⟩) ⟨ro_blind, ro_at hP hK hT hN va_S.rf [] [] rfl rfl⟩ rfl rfl hl.1 rfl (lv_room (Nat.le_of_ble_eq_true rfl)) dX3_straightOn_87 ⟨Nat.le_of_ble_eq_true rfl, Nat.le_of_ble_eq_true rfl⟩) ?_
              refine lv_topi (fun ln e_ln => ?_)
              have e_ln : ln = (f_C_dot cro ahd ahd) := e_ln
              rw [← e_ln] at hF
              rw [f_C_straightOn_t90] at hF
              refine lv_istore (lv' := [(10, .int ln), (9, .int dt), (8, .int ahd), (7, .int v7_36), (6, .int v6_36), (5, .int v5_36), (4, .int v4_36), (3, .int own), (2, .int cro), (0, .ref a_c), (1, .int px)]) hx hb dX3_straightOn_90 hl (by decide) rfl (fun ls hl => ?_)
              refine lv_iload hx hb dX3_straightOn_92 (lv_at hl 1 rfl) ?_
              refine lv_if_ge (tgt := 128) hx hb dX3_straightOn_94 (by decide) (fun c94 => ?_) (fun c94 => ?_)
              · rw [if_pos c94] at hF
                refine lv_iinc (v := v7_36 + 1) (lv' := [(7, .int (v7_36 + 1)), (10, .int ln), (9, .int dt), (8, .int ahd), (6, .int v6_36), (5, .int v5_36), (4, .int v4_36), (3, .int own), (2, .int cro), (0, .ref a_c), (1, .int px)]) hx hb dX3_straightOn_128 hl (k := 3) rfl rfl (by decide) rfl (fun ls hl => ?_)
                refine lv_goto (tgt := 36) hx hb dX3_straightOn_131 (by decide) ?_
                exact ih36 (v7_36 + 1) v6_36 v5_36 v4_36 ls (lt_lt (cu c42) hmu36) hF (lv_sub hl [0, 4, 5, 6, 7, 8, 9, 10] rfl)
              · rw [if_neg c94] at hF
                refine lv_iload hx hb dX3_straightOn_97 (lv_at hl 1 rfl) ?_
                refine lv_iload hx hb dX3_straightOn_99 (lv_at hl 1 rfl) ?_
                refine lv_imul hx hb dX3_straightOn_101 ?_
                refine lv_iload hx hb dX3_straightOn_102 (lv_at hl 4 rfl) ?_
                refine lv_imul hx hb dX3_straightOn_104 ?_
                refine lv_iload hx hb dX3_straightOn_105 (lv_at hl 5 rfl) ?_
                refine lv_iload hx hb dX3_straightOn_107 (lv_at hl 5 rfl) ?_
                refine lv_imul hx hb dX3_straightOn_109 ?_
                refine lv_iload hx hb dX3_straightOn_110 (lv_at hl 0 rfl) ?_
                refine lv_imul hx hb dX3_straightOn_112 ?_
                refine lv_icmp_le (tgt := 128) hx hb dX3_straightOn_113 (by decide) (fun c113 => ?_) (fun c113 => ?_)
                · rw [if_pos c113] at hF
                  refine lv_iinc (v := v7_36 + 1) (lv' := [(7, .int (v7_36 + 1)), (10, .int ln), (9, .int dt), (8, .int ahd), (6, .int v6_36), (5, .int v5_36), (4, .int v4_36), (3, .int own), (2, .int cro), (0, .ref a_c), (1, .int px)]) hx hb dX3_straightOn_128 hl (k := 3) rfl rfl (by decide) rfl (fun ls hl => ?_)
                  refine lv_goto (tgt := 36) hx hb dX3_straightOn_131 (by decide) ?_
                  exact ih36 (v7_36 + 1) v6_36 v5_36 v4_36 ls (lt_lt (cu c42) hmu36) hF (lv_sub hl [0, 4, 5, 6, 7, 8, 9, 10] rfl)
                · rw [if_neg c113] at hF
                  refine lv_iload hx hb dX3_straightOn_116 (lv_at hl 3 rfl) ?_
                  refine lv_istore (lv' := [(4, .int v7_36), (10, .int ln), (9, .int dt), (8, .int ahd), (7, .int v7_36), (6, .int v6_36), (5, .int v5_36), (3, .int own), (2, .int cro), (0, .ref a_c), (1, .int px)]) hx hb dX3_straightOn_118 hl (by decide) rfl (fun ls hl => ?_)
                  refine lv_iload hx hb dX3_straightOn_120 (lv_at hl 2 rfl) ?_
                  refine lv_istore (lv' := [(5, .int dt), (4, .int v7_36), (10, .int ln), (9, .int dt), (8, .int ahd), (7, .int v7_36), (6, .int v6_36), (3, .int own), (2, .int cro), (0, .ref a_c), (1, .int px)]) hx hb dX3_straightOn_122 hl (by decide) rfl (fun ls hl => ?_)
                  refine lv_iload hx hb dX3_straightOn_124 (lv_at hl 2 rfl) ?_
                  refine lv_istore (lv' := [(6, .int ln), (5, .int dt), (4, .int v7_36), (10, .int ln), (9, .int dt), (8, .int ahd), (7, .int v7_36), (3, .int own), (2, .int cro), (0, .ref a_c), (1, .int px)]) hx hb dX3_straightOn_126 hl (by decide) rfl (fun ls hl => ?_)
                  refine lv_iinc (v := v7_36 + 1) (lv' := [(7, .int (v7_36 + 1)), (6, .int ln), (5, .int dt), (4, .int v7_36), (10, .int ln), (9, .int dt), (8, .int ahd), (3, .int own), (2, .int cro), (0, .ref a_c), (1, .int px)]) hx hb dX3_straightOn_128 hl (k := 6) rfl rfl (by decide) rfl (fun ls hl => ?_)
                  refine lv_goto (tgt := 36) hx hb dX3_straightOn_131 (by decide) ?_
                  exact ih36 (v7_36 + 1) ln dt v7_36 ls (lt_lt (cu c42) hmu36) hF (lv_sub hl [0, 1, 2, 3, 7, 8, 9, 10] rfl)
            · rw [if_pos c58] at hF
              refine lv_goto (tgt := 128) hx hb dX3_straightOn_61 (by decide) ?_
              refine lv_iinc (v := v7_36 + 1) (lv' := [(7, .int (v7_36 + 1)), (6, .int v6_36), (5, .int v5_36), (4, .int v4_36), (3, .int own), (2, .int cro), (0, .ref a_c), (1, .int px)]) hx hb dX3_straightOn_128 hl (k := 0) rfl rfl (by decide) rfl (fun ls hl => ?_)
              refine lv_goto (tgt := 36) hx hb dX3_straightOn_131 (by decide) ?_
              exact ih36 (v7_36 + 1) v6_36 v5_36 v4_36 ls (lt_lt (cu c42) hmu36) hF (lv_sub hl [0, 1, 2, 3, 4, 5, 6, 7] rfl)
    exact lp36 FU 0 1 0 (-1) ls (fu_lt _ _) hF (lv_sub hl [0, 1, 2, 3, 4, 5, 6, 7] rfl)
  · rw [if_neg c12] at hF
    refine lv_iconst (v := (-1)) hx hb dX3_straightOn_15 (by decide) ?_
    exact W.iret (v := (-1)) hx hb hr (fun t ht _ => ⟨by rw [← hF], ht⟩) (fun _ h => nomatch h) dX3_straightOn_16
