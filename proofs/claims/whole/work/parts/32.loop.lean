theorem lp_in {i L : Nat} (hi : i < 5000) (hL : L ≤ 2050) (h : ¬ Int32.ofNat L - 4 < nI i) : i + 4 ≤ L := by
  have e4 : (4 : Int32).toInt = 4 := by decide
  have eL : (nI L).toInt = L := nI_toInt (by omega)
  have ei : (nI i).toInt = i := nI_toInt (by omega)
  have es : (nI L - 4).toInt = (L : Int) - 4 := by rw [i_sub (by rw [eL, e4]; omega) (by rw [eL, e4]; omega), eL, e4]
  have h' : ¬ nI L - 4 < nI i := h
  rw [i_lt, es, ei] at h'
  omega
set_option maxHeartbeats 8000000 in
set_option maxRecDepth 100000 in
theorem law_loop {p : Program} {l : Launch} {e : Env} {s : State} {m : MethodId} {below : List Frame} {meth : Method} {c : Code} {D : va_G} {tX tY b L : Nat} {xs : Nat → Int32} {kw kh : Nat} {a_x : Nat} {a_ps : Nat} {a_pr : Nat} {k_pr : ClassId} {a_ss : Nat} {a_sr : Nat} {k_sr : ClassId} {a_bs : Nat} {a_br : Nat} {k_br : ClassId} {a_t : Nat} {a_tc : Nat} {k_tc : ClassId} {a_c : Nat} {a_cl : Nat} {k_cl : ClassId} {a_ct : Nat} {k_ct : ClassId} {a_cs : Nat} {k_cs : ClassId} {a_cb : Nat} {k_cb : ClassId} {a_cc : Nat} {k_cc : ClassId} {a_g : Nat} {a_es : Nat} {a_er : Nat} {k_er : ClassId} {a_gq : Nat} {k_gq : ClassId} {a_o : Nat} {k_o : ClassId} {a_m : Nat} {a_mp : Nat} {k_mp : ClassId} {a_ml : Nat} {k_ml : ClassId} {a_mc : Nat} {k_mc : ClassId} {a_mb : Nat} {k_mb : ClassId} {a_mg : Nat} {k_mg : ClassId} {a_mq : Nat} {k_mq : ClassId} {a_mo : Nat} {k_mo : ClassId} {a_me : Nat} {k_me : ClassId} {a_mv : Nat} {k_mv : ClassId} {a_my : Nat} {k_my : ClassId} (hl9 : l.stackTraces = false) (hL : L ≤ 2050) (C0 : lw_At p s m meth c b L xs) (hT : ts_Z tX tY (fun q : Nat => s.heap.size ≤ q) s s.heap) (hN : ts_N s) (hX : tx_A (fun q : Nat => s.heap.size ≤ q) s s.heap) (hK : va_K D vwCl [(k_pr, .int), (k_sr, .int), (k_br, .int), (k_tc, .int), (k_cl, .int), (k_ct, .int), (k_cs, .int), (k_cb, .int), (k_cc, .int), (k_er, .int), (k_gq, .int), (k_o, .long), (k_mp, .boolean), (k_ml, .boolean), (k_mc, .boolean), (k_mb, .int), (k_mg, .int), (k_mq, .int), (k_mo, .boolean), (k_me, .boolean), (k_mv, .int), (k_my, .int)] s) :
    ∀ (n i cells slots : Nat) (pf : Nat → Int32) (sf : Nat → Int32) (bf : Nat → Int32) (tf : Nat → Int32) (clf : Nat → Int32) (ctf : Nat → Int32) (csf : Nat → Int32) (cbf : Nat → Int32) (ccf : Nat → Int32) (csc : Int32) (csm : Int32) (ccr : Int32) (ef : Nat → Int32) (gf : Nat → Int32) (gq : Int32) (th : Int32) (outf : Nat → Int64) (mcd : Int32) (mpf : Nat → Int32) (mlf : Nat → Int32) (mth : Int32) (mcf : Nat → Int32) (mbf : Nat → Int32) (mkn : Int32) (mst : Int32) (mgf : Nat → Int32) (mqf : Nat → Int32) (mus : Int32) (mof : Nat → Int32) (mef : Nat → Int32) (mcu : Int32) (mvf : Nat → Int32) (myf : Nat → Int32) (H : Heap) (locs : List Loc) (ls : Array Slot), L < i + n → i < 5000 → 2 ≤ i → 4 * cells ≤ 122 + i → 2 * slots ≤ 67306 + 3 * i → Rel kw kh pf sf th clf csf cbf ccf csc csm ccr mpf mlf mth mkn mst mgf mqf → va_P D vwCl [(a_x, .inr (4, [.ref a_ps, .ref a_ss, .ref a_bs, .ref a_t, .ref a_c, .ref a_g, .int th])), (a_ps, .inr (1, [.int (nI kw), .int (nI kh), .ref a_pr])), (a_pr, .inl (k_pr, kh, .inl pf)), (a_ss, .inr (1, [.int (nI kw), .int (nI kh), .ref a_sr])), (a_sr, .inl (k_sr, kh, .inl sf)), (a_bs, .inr (1, [.int (nI kw), .int (nI kh), .ref a_br])), (a_br, .inl (k_br, kh, .inl bf)), (a_t, .inr (2, [.ref a_tc])), (a_tc, .inl (k_tc, (kw * kh), .inl tf)), (a_c, .inr (3, [.ref a_cl, .ref a_ct, .ref a_cs, .ref a_cb, .ref a_cc, .int csc, .int csm, .int ccr])), (a_cl, .inl (k_cl, (kh * 32), .inl clf)), (a_ct, .inl (k_ct, (kh * 32), .inl ctf)), (a_cs, .inl (k_cs, (4 * (kw * kh)), .inl csf)), (a_cb, .inl (k_cb, (2 * (kw * kh) + 1), .inl cbf)), (a_cc, .inl (k_cc, (kw * kh), .inl ccf)), (a_g, .inr (0, [.ref a_es, .ref a_gq, .int gq])), (a_es, .inr (1, [.int (nI kw), .int (nI kh), .ref a_er])), (a_er, .inl (k_er, kh, .inl ef)), (a_gq, .inl (k_gq, (kw * kh), .inl gf)), (a_o, .inl (k_o, 1, .inr (.inl outf))), (a_m, .inr (5, [.int mcd, .int (nI kw), .int (nI kh), .int (nI (kw + 2)), .ref a_mp, .ref a_ml, .int mth, .ref a_mc, .ref a_mb, .int mkn, .int mst, .ref a_mg, .ref a_mq, .int mus, .ref a_mo, .ref a_me, .int mcu, .ref a_mv, .ref a_my])), (a_mp, .inl (k_mp, 676, .inl mpf)), (a_ml, .inl (k_ml, 676, .inl mlf)), (a_mc, .inl (k_mc, 676, .inl mcf)), (a_mb, .inl (k_mb, 676, .inl mbf)), (a_mg, .inl (k_mg, 3000, .inl mgf)), (a_mq, .inl (k_mq, 9000, .inl mqf)), (a_mo, .inl (k_mo, 5408, .inl mof)), (a_me, .inl (k_me, 676, .inl mef)), (a_mv, .inl (k_mv, 3000, .inl mvf)), (a_my, .inl (k_my, 3000, .inl myf))] H → va_D (fun q : Nat => s.heap.size ≤ q) [(a_x, .inr (4, [.ref a_ps, .ref a_ss, .ref a_bs, .ref a_t, .ref a_c, .ref a_g, .int th])), (a_ps, .inr (1, [.int (nI kw), .int (nI kh), .ref a_pr])), (a_pr, .inl (k_pr, kh, .inl pf)), (a_ss, .inr (1, [.int (nI kw), .int (nI kh), .ref a_sr])), (a_sr, .inl (k_sr, kh, .inl sf)), (a_bs, .inr (1, [.int (nI kw), .int (nI kh), .ref a_br])), (a_br, .inl (k_br, kh, .inl bf)), (a_t, .inr (2, [.ref a_tc])), (a_tc, .inl (k_tc, (kw * kh), .inl tf)), (a_c, .inr (3, [.ref a_cl, .ref a_ct, .ref a_cs, .ref a_cb, .ref a_cc, .int csc, .int csm, .int ccr])), (a_cl, .inl (k_cl, (kh * 32), .inl clf)), (a_ct, .inl (k_ct, (kh * 32), .inl ctf)), (a_cs, .inl (k_cs, (4 * (kw * kh)), .inl csf)), (a_cb, .inl (k_cb, (2 * (kw * kh) + 1), .inl cbf)), (a_cc, .inl (k_cc, (kw * kh), .inl ccf)), (a_g, .inr (0, [.ref a_es, .ref a_gq, .int gq])), (a_es, .inr (1, [.int (nI kw), .int (nI kh), .ref a_er])), (a_er, .inl (k_er, kh, .inl ef)), (a_gq, .inl (k_gq, (kw * kh), .inl gf)), (a_o, .inl (k_o, 1, .inr (.inl outf))), (a_m, .inr (5, [.int mcd, .int (nI kw), .int (nI kh), .int (nI (kw + 2)), .ref a_mp, .ref a_ml, .int mth, .ref a_mc, .ref a_mb, .int mkn, .int mst, .ref a_mg, .ref a_mq, .int mus, .ref a_mo, .ref a_me, .int mcu, .ref a_mv, .ref a_my])), (a_mp, .inl (k_mp, 676, .inl mpf)), (a_ml, .inl (k_ml, 676, .inl mlf)), (a_mc, .inl (k_mc, 676, .inl mcf)), (a_mb, .inl (k_mb, 676, .inl mbf)), (a_mg, .inl (k_mg, 3000, .inl mgf)), (a_mq, .inl (k_mq, 9000, .inl mqf)), (a_mo, .inl (k_mo, 5408, .inl mof)), (a_me, .inl (k_me, 676, .inl mef)), (a_mv, .inl (k_mv, 3000, .inl mvf)), (a_my, .inl (k_my, 3000, .inl myf))] → va_S (fun q : Nat => s.heap.size ≤ q) s.heap H locs → lv_has ls 8 [(4, .int (nI i)), (3, .ref a_o), (2, .ref a_m), (1, .ref a_x), (0, .ref b)] → W p l e room_1 s m #[Value.ref b] below meth c H locs cells slots (lw_Z below #[Value.ref b] s) (F0 m 43 ls []) := by
  intro n
  induction n with
  | zero =>
    intro i cells slots pf sf bf tf clf ctf csf cbf ccf csc csm ccr ef gf gq th outf mcd mpf mlf mth mcf mbf mkn mst mgf mqf mus mof mef mcu mvf myf H locs ls hn hi5 hi2 hce hsl hR hP hD hS hl
    obtain ⟨hx, hb, hr, hml, hown, hts, hXs, hbl, hlocks, hgv⟩ := id C0
    have hbA : ¬ (fun q : Nat => s.heap.size ≤ q) b := Nat.not_le.mpr hbl
    refine lv_iload hx hb dL_law_43 (lv_at hl 0 rfl) ?_
    refine lv_aload_n hx hb dL_law_45 rfl (lv_at hl 4 rfl) ?_
    refine va_slen hx hb hXs hbl hbA hS dL_law_46 ?_
    refine lv_iconst (v := 4) hx hb dL_law_47 (by decide) ?_
    refine lv_isub hx hb dL_law_48 ?_
    refine lv_icmp_gt (tgt := 862) hx hb dL_law_49 (by decide) (fun c49 => ?_) (fun c49 => ?_)
    · refine lv_iconst (v := 1) hx hb dL_law_862 (by decide) ?_
      refine va_forget (fun q hq => hS.2.2 q hq) ?_
      refine W.widen (k := 601024) (n := 7293000) (by omega) (by omega) ?_
      exact lw_ret hx hb hr hlocks dL_law_863
    · have hi := lp_in hi5 hL c49
      omega
  | succ n ih =>
    intro i cells slots pf sf bf tf clf ctf csf cbf ccf csc csm ccr ef gf gq th outf mcd mpf mlf mth mcf mbf mkn mst mgf mqf mus mof mef mcu mvf myf H locs ls hn hi5 hi2 hce hsl hR hP hD hS hl
    obtain ⟨hx, hb, hr, hml, hown, hts, hXs, hbl, hlocks, hgv⟩ := id C0
    have hbA : ¬ (fun q : Nat => s.heap.size ≤ q) b := Nat.not_le.mpr hbl
    refine lv_iload hx hb dL_law_43 (lv_at hl 0 rfl) ?_
    refine lv_aload_n hx hb dL_law_45 rfl (lv_at hl 4 rfl) ?_
    refine va_slen hx hb hXs hbl hbA hS dL_law_46 ?_
    refine lv_iconst (v := 4) hx hb dL_law_47 (by decide) ?_
    refine lv_isub hx hb dL_law_48 ?_
    refine lv_icmp_gt (tgt := 862) hx hb dL_law_49 (by decide) (fun c49 => ?_) (fun c49 => ?_)
    · refine lv_iconst (v := 1) hx hb dL_law_862 (by decide) ?_
      refine va_forget (fun q hq => hS.2.2 q hq) ?_
      refine W.widen (k := 601024) (n := 7293000) (by omega) (by omega) ?_
      exact lw_ret hx hb hr hlocks dL_law_863
    · have hi := lp_in hi5 hL c49
      have hc9 : cells ≤ 2000 := by omega
      have hs9 : slots ≤ 100000 := by omega
      have step : ∀ (pf : Nat → Int32) (sf : Nat → Int32) (bf : Nat → Int32) (tf : Nat → Int32) (clf : Nat → Int32) (ctf : Nat → Int32) (csf : Nat → Int32) (cbf : Nat → Int32) (ccf : Nat → Int32) (csc : Int32) (csm : Int32) (ccr : Int32) (ef : Nat → Int32) (gf : Nat → Int32) (gq : Int32) (th : Int32) (outf : Nat → Int64) (mcd : Int32) (mpf : Nat → Int32) (mlf : Nat → Int32) (mth : Int32) (mcf : Nat → Int32) (mbf : Nat → Int32) (mkn : Int32) (mst : Int32) (mgf : Nat → Int32) (mqf : Nat → Int32) (mus : Int32) (mof : Nat → Int32) (mef : Nat → Int32) (mcu : Int32) (mvf : Nat → Int32) (myf : Nat → Int32) (H : Heap) (locs : List Loc) (ls : Array Slot), Rel kw kh pf sf th clf csf cbf ccf csc csm ccr mpf mlf mth mkn mst mgf mqf → va_P D vwCl [(a_x, .inr (4, [.ref a_ps, .ref a_ss, .ref a_bs, .ref a_t, .ref a_c, .ref a_g, .int th])), (a_ps, .inr (1, [.int (nI kw), .int (nI kh), .ref a_pr])), (a_pr, .inl (k_pr, kh, .inl pf)), (a_ss, .inr (1, [.int (nI kw), .int (nI kh), .ref a_sr])), (a_sr, .inl (k_sr, kh, .inl sf)), (a_bs, .inr (1, [.int (nI kw), .int (nI kh), .ref a_br])), (a_br, .inl (k_br, kh, .inl bf)), (a_t, .inr (2, [.ref a_tc])), (a_tc, .inl (k_tc, (kw * kh), .inl tf)), (a_c, .inr (3, [.ref a_cl, .ref a_ct, .ref a_cs, .ref a_cb, .ref a_cc, .int csc, .int csm, .int ccr])), (a_cl, .inl (k_cl, (kh * 32), .inl clf)), (a_ct, .inl (k_ct, (kh * 32), .inl ctf)), (a_cs, .inl (k_cs, (4 * (kw * kh)), .inl csf)), (a_cb, .inl (k_cb, (2 * (kw * kh) + 1), .inl cbf)), (a_cc, .inl (k_cc, (kw * kh), .inl ccf)), (a_g, .inr (0, [.ref a_es, .ref a_gq, .int gq])), (a_es, .inr (1, [.int (nI kw), .int (nI kh), .ref a_er])), (a_er, .inl (k_er, kh, .inl ef)), (a_gq, .inl (k_gq, (kw * kh), .inl gf)), (a_o, .inl (k_o, 1, .inr (.inl outf))), (a_m, .inr (5, [.int mcd, .int (nI kw), .int (nI kh), .int (nI (kw + 2)), .ref a_mp, .ref a_ml, .int mth, .ref a_mc, .ref a_mb, .int mkn, .int mst, .ref a_mg, .ref a_mq, .int mus, .ref a_mo, .ref a_me, .int mcu, .ref a_mv, .ref a_my])), (a_mp, .inl (k_mp, 676, .inl mpf)), (a_ml, .inl (k_ml, 676, .inl mlf)), (a_mc, .inl (k_mc, 676, .inl mcf)), (a_mb, .inl (k_mb, 676, .inl mbf)), (a_mg, .inl (k_mg, 3000, .inl mgf)), (a_mq, .inl (k_mq, 9000, .inl mqf)), (a_mo, .inl (k_mo, 5408, .inl mof)), (a_me, .inl (k_me, 676, .inl mef)), (a_mv, .inl (k_mv, 3000, .inl mvf)), (a_my, .inl (k_my, 3000, .inl myf))] H → va_D (fun q : Nat => s.heap.size ≤ q) [(a_x, .inr (4, [.ref a_ps, .ref a_ss, .ref a_bs, .ref a_t, .ref a_c, .ref a_g, .int th])), (a_ps, .inr (1, [.int (nI kw), .int (nI kh), .ref a_pr])), (a_pr, .inl (k_pr, kh, .inl pf)), (a_ss, .inr (1, [.int (nI kw), .int (nI kh), .ref a_sr])), (a_sr, .inl (k_sr, kh, .inl sf)), (a_bs, .inr (1, [.int (nI kw), .int (nI kh), .ref a_br])), (a_br, .inl (k_br, kh, .inl bf)), (a_t, .inr (2, [.ref a_tc])), (a_tc, .inl (k_tc, (kw * kh), .inl tf)), (a_c, .inr (3, [.ref a_cl, .ref a_ct, .ref a_cs, .ref a_cb, .ref a_cc, .int csc, .int csm, .int ccr])), (a_cl, .inl (k_cl, (kh * 32), .inl clf)), (a_ct, .inl (k_ct, (kh * 32), .inl ctf)), (a_cs, .inl (k_cs, (4 * (kw * kh)), .inl csf)), (a_cb, .inl (k_cb, (2 * (kw * kh) + 1), .inl cbf)), (a_cc, .inl (k_cc, (kw * kh), .inl ccf)), (a_g, .inr (0, [.ref a_es, .ref a_gq, .int gq])), (a_es, .inr (1, [.int (nI kw), .int (nI kh), .ref a_er])), (a_er, .inl (k_er, kh, .inl ef)), (a_gq, .inl (k_gq, (kw * kh), .inl gf)), (a_o, .inl (k_o, 1, .inr (.inl outf))), (a_m, .inr (5, [.int mcd, .int (nI kw), .int (nI kh), .int (nI (kw + 2)), .ref a_mp, .ref a_ml, .int mth, .ref a_mc, .ref a_mb, .int mkn, .int mst, .ref a_mg, .ref a_mq, .int mus, .ref a_mo, .ref a_me, .int mcu, .ref a_mv, .ref a_my])), (a_mp, .inl (k_mp, 676, .inl mpf)), (a_ml, .inl (k_ml, 676, .inl mlf)), (a_mc, .inl (k_mc, 676, .inl mcf)), (a_mb, .inl (k_mb, 676, .inl mbf)), (a_mg, .inl (k_mg, 3000, .inl mgf)), (a_mq, .inl (k_mq, 9000, .inl mqf)), (a_mo, .inl (k_mo, 5408, .inl mof)), (a_me, .inl (k_me, 676, .inl mef)), (a_mv, .inl (k_mv, 3000, .inl mvf)), (a_my, .inl (k_my, 3000, .inl myf))] → va_S (fun q : Nat => s.heap.size ≤ q) s.heap H locs → lv_has ls 8 [(4, .int (nI i)), (3, .ref a_o), (2, .ref a_m), (1, .ref a_x), (0, .ref b)] → W p l e room_1 s m #[Value.ref b] below meth c H locs (cells + 1) (slots + 6) (lw_Z below #[Value.ref b] s) (F0 m 856 ls []) := by
        intro pf sf bf tf clf ctf csf cbf ccf csc csm ccr ef gf gq th outf mcd mpf mlf mth mcf mbf mkn mst mgf mqf mus mof mef mcu mvf myf H locs ls hR hP hD hS hl
        refine lv_iinc (v := nI (i + 4)) (lv' := [(4, .int (nI (i + 4))), (3, .ref a_o), (2, .ref a_m), (1, .ref a_x), (0, .ref b)]) hx hb dL_law_856 hl (k := 0) rfl (nI_add i 4) (by decide) rfl (fun ls hl => ?_)
        refine lv_goto (tgt := 43) hx hb dL_law_859 (by decide) ?_
        exact ih (i + 4) (cells + 1) (slots + 6) pf sf bf tf clf ctf csf cbf ccf csc csm ccr ef gf gq th outf mcd mpf mlf mth mcf mbf mkn mst mgf mqf mus mof mef mcu mvf myf H locs ls (by omega) (by omega) (by omega) (by omega) (by omega) hR hP hD hS hl
      refine lv_aload_n hx hb dL_law_52 rfl (lv_at hl 4 rfl) ?_
      refine lv_iload hx hb dL_law_53 (lv_at hl 0 rfl) ?_
      refine va_sld hx hb hXs hbl hbA hS (i := nI i) (vs_0 hi hL) dL_law_55 ?_
      refine lv_bipush (v := 15) hx hb dL_law_56 (by decide) ?_
      refine lv_iand hx hb dL_law_58 ?_
      refine lv_topi (fun v ev => ?_)
      by_cases t0 : v = 0
      · refine lv_tableIn (off := 73) (tgt := 132) hx hb dL_law_59 (by rw [t0]; decide) (by rw [t0]; decide) (by rw [t0]; rfl) (by decide) ?_
        exact law_put hl9 hL C0 hT hN hX hi hc9 hs9 hR hK hP hD hS hl step
      by_cases t1 : v = 1
      · refine lv_tableIn (off := 176) (tgt := 235) hx hb dL_law_59 (by rw [t1]; decide) (by rw [t1]; decide) (by rw [t1]; rfl) (by decide) ?_
        exact law_thin hl9 hL C0 hT hN hX hi hc9 hs9 hR hK hP hD hS hl step
      by_cases t2 : v = 2
      · refine lv_tableIn (off := 189) (tgt := 248) hx hb dL_law_59 (by rw [t2]; decide) (by rw [t2]; decide) (by rw [t2]; rfl) (by decide) ?_
        exact law_at hl9 hL C0 hT hN hX hi hc9 hs9 hR hK hP hD hS hl step
      by_cases t3 : v = 3
      · refine lv_tableIn (off := 264) (tgt := 323) hx hb dL_law_59 (by rw [t3]; decide) (by rw [t3]; decide) (by rw [t3]; rfl) (by decide) ?_
        exact law_prune hl9 hL C0 hT hN hX hi hc9 hs9 hR hK hP hD hS hl step
      by_cases t4 : v = 4
      · refine lv_tableIn (off := 320) (tgt := 379) hx hb dL_law_59 (by rw [t4]; decide) (by rw [t4]; decide) (by rw [t4]; rfl) (by decide) ?_
        exact law_strokes hl9 hL C0 hT hN hX hi hc9 hs9 hR hK hP hD hS hl step
      by_cases t5 : v = 5
      · refine lv_tableIn (off := 364) (tgt := 423) hx hb dL_law_59 (by rw [t5]; decide) (by rw [t5]; decide) (by rw [t5]; rfl) (by decide) ?_
        exact law_points hl9 hL C0 hT hN hX hi hc9 hs9 hR hK hP hD hS hl step
      by_cases t6 : v = 6
      · refine lv_tableIn (off := 420) (tgt := 479) hx hb dL_law_59 (by rw [t6]; decide) (by rw [t6]; decide) (by rw [t6]; rfl) (by decide) ?_
        exact law_place hl9 hL C0 hT hN hX hi hc9 hs9 hR hK hP hD hS hl step
      by_cases t7 : v = 7
      · refine lv_tableIn (off := 500) (tgt := 559) hx hb dL_law_59 (by rw [t7]; decide) (by rw [t7]; decide) (by rw [t7]; rfl) (by decide) ?_
        exact law_distance2 hl9 hL C0 hT hN hX hi hc9 hs9 hR hK hP hD hS hl step
      by_cases t8 : v = 8
      · refine lv_tableIn (off := 567) (tgt := 626) hx hb dL_law_59 (by rw [t8]; decide) (by rw [t8]; decide) (by rw [t8]; rfl) (by decide) ?_
        exact law_crossing hl9 hL C0 hT hN hX hi hc9 hs9 hR hK hP hD hS hl step
      by_cases t9 : v = 9
      · refine lv_tableIn (off := 635) (tgt := 694) hx hb dL_law_59 (by rw [t9]; decide) (by rw [t9]; decide) (by rw [t9]; rfl) (by decide) ?_
        exact law_joined hl9 hL C0 hT hN hX hi hc9 hs9 hR hK hP hD hS hl step
      by_cases t10 : v = 10
      · refine lv_tableIn (off := 691) (tgt := 750) hx hb dL_law_59 (by rw [t10]; decide) (by rw [t10]; decide) (by rw [t10]; rfl) (by decide) ?_
        exact law_parts hl9 hL C0 hT hN hX hi hc9 hs9 hR hK hP hD hS hl step
      by_cases t11 : v = 11
      · refine lv_tableIn (off := 704) (tgt := 763) hx hb dL_law_59 (by rw [t11]; decide) (by rw [t11]; decide) (by rw [t11]; rfl) (by decide) ?_
        exact law_holes hl9 hL C0 hT hN hX hi hc9 hs9 hR hK hP hD hS hl step
      by_cases t12 : v = 12
      · refine lv_tableIn (off := 717) (tgt := 776) hx hb dL_law_59 (by rw [t12]; decide) (by rw [t12]; decide) (by rw [t12]; rfl) (by decide) ?_
        exact law_draw hl9 hL C0 hT hN hX hi hc9 hs9 hR hK hP hD hS hl step
      by_cases t13 : v = 13
      · refine lv_tableIn (off := 761) (tgt := 820) hx hb dL_law_59 (by rw [t13]; decide) (by rw [t13]; decide) (by rw [t13]; rfl) (by decide) ?_
        exact law_told hl9 hL C0 hT hN hX hi hc9 hs9 hR hK hP hD hS hl step
      by_cases t14 : v = 14
      · refine lv_tableIn (off := 786) (tgt := 845) hx hb dL_law_59 (by rw [t14]; decide) (by rw [t14]; decide) (by rw [t14]; rfl) (by decide) ?_
        exact law_clear hl9 hL C0 hT hN hX hi hc9 hs9 hR hK hP hD hS hl step
      refine lv_tableOut (tgt := 856) hx hb dL_law_59 (sw_out0_14 t0 t1 t2 t3 t4 t5 t6 t7 t8 t9 t10 t11 t12 t13 t14) (by decide) ?_
      refine W.widen (k := cells + 1) (n := slots + 6) (by omega) (by omega) ?_
      exact step pf sf bf tf clf ctf csf cbf ccf csc csm ccr ef gf gq th outf mcd mpf mlf mth mcf mbf mkn mst mgf mqf mus mof mef mcu mvf myf H locs ls hR hP hD hS hl
