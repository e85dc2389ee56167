set_option maxHeartbeats 8000000 in
set_option maxRecDepth 100000 in
theorem lw_loop {p : Program} {l : Launch} {e : Env} {s : State} {m : MethodId} {below : List Frame} {meth : Method} {c : Code} {b L : Nat} {xs : Nat → Int32} {D : va_G} {cI cZ cJ : ClassId} {ad : Nat → Nat} (hC : lwC p s m meth c b L xs D cI cZ cJ) (h388 : CaseAt p l e s m below meth c b L xs D cI cZ cJ ad 388) (h722 : CaseAt p l e s m below meth c b L xs D cI cZ cJ ad 722) : ∀ n : Nat, LoopAt p l e s m below meth c b L xs D cI cZ cJ ad n := by
  intro n
  induction n with
  | zero =>
    intro nf ns no nd nk tn ch fa sb un ln dw sx sc oc ow od nq ct kt se pO kd fl ss lo le_ qu lt wz aT nT ba ff sf tT is_ hl_ l2 l4 lf es dfo kko hpo fro aO nO nbo plo lgo coo spo dgo vao dfr kkr hpr frr aR nR nbr plr lgr cor spr dgr var th tnR npR wyR kkR tpR lfR l2R l4R ioR owR pOR pFR pSR pLR pKR pMR woR oaR hdR lgR nuR spR_ riR vaR cnR rnR kcR krR oT i jj spO spR cells slots hI h0 hn H locs ls hP hD hS hl
    have hC_ := hC
    obtain ⟨hx, hb, hr, hml, hown, hT, hN, hK, hX, hbl, hL, hlocks⟩ := hC_
    have hbA : ¬ (fun q : Nat => s.heap.size ≤ q) b := fun z => by have z : s.heap.size ≤ b := z; omega
    have hI_ := hI
    obtain ⟨v_mI, v_ch, v_pc, v_lt, v_wy, v_ec, v_fro, v_lno, v_nO, v_frr, v_lnr, v_nR, v_hp, v_jj, v_cl, v_sl, v_so, v_sr⟩ := hI_
    have v_spo := spB_le v_so
    have v_spr := spB_le v_sr
    refine lv_iload hx hb dL_law_23 (lv_at hl 4 rfl) ?_
    refine lv_aload_n hx hb dL_law_25 rfl (lv_at hl 0 rfl) ?_
    refine iv_slen hx hb hX hbl hbA hS dL_law_26 ?_
    refine iv_iconst hx hb dL_law_27 ?_
    refine iv_isub hx hb dL_law_28 ?_
    refine iv_icmp_gt (tgt := 797) hx hb dL_law_29 (by decide) (by omega) (by omega) (fun c29 => ?_) (fun c29 => ?_)
    · refine iv_iconst hx hb dL_law_797 ?_
      refine va_forget (fun q hq => hS.2.2 q hq) ?_
      refine W.widen (k := 601024) (n := 7293034) (by omega) (by omega) ?_
      exact lw_ret hx hb hr hlocks dL_law_798
    · exfalso; omega
  | succ n ih =>
    intro nf ns no nd nk tn ch fa sb un ln dw sx sc oc ow od nq ct kt se pO kd fl ss lo le_ qu lt wz aT nT ba ff sf tT is_ hl_ l2 l4 lf es dfo kko hpo fro aO nO nbo plo lgo coo spo dgo vao dfr kkr hpr frr aR nR nbr plr lgr cor spr dgr var th tnR npR wyR kkR tpR lfR l2R l4R ioR owR pOR pFR pSR pLR pKR pMR woR oaR hdR lgR nuR spR_ riR vaR cnR rnR kcR krR oT i jj spO spR cells slots hI h0 hn H locs ls hP hD hS hl
    have hC_ := hC
    obtain ⟨hx, hb, hr, hml, hown, hT, hN, hK, hX, hbl, hL, hlocks⟩ := hC_
    have hbA : ¬ (fun q : Nat => s.heap.size ≤ q) b := fun z => by have z : s.heap.size ≤ b := z; omega
    have hI_ := hI
    obtain ⟨v_mI, v_ch, v_pc, v_lt, v_wy, v_ec, v_fro, v_lno, v_nO, v_frr, v_lnr, v_nR, v_hp, v_jj, v_cl, v_sl, v_so, v_sr⟩ := hI_
    have v_spo := spB_le v_so
    have v_spr := spB_le v_sr
    refine lv_iload hx hb dL_law_23 (lv_at hl 4 rfl) ?_
    refine lv_aload_n hx hb dL_law_25 rfl (lv_at hl 0 rfl) ?_
    refine iv_slen hx hb hX hbl hbA hS dL_law_26 ?_
    refine iv_iconst hx hb dL_law_27 ?_
    refine iv_isub hx hb dL_law_28 ?_
    refine iv_icmp_gt (tgt := 797) hx hb dL_law_29 (by decide) (by omega) (by omega) (fun c29 => ?_) (fun c29 => ?_)
    · refine iv_iconst hx hb dL_law_797 ?_
      refine va_forget (fun q hq => hS.2.2 q hq) ?_
      refine W.widen (k := 601024) (n := 7293034) (by omega) (by omega) ?_
      exact lw_ret hx hb hr hlocks dL_law_798
    · refine lv_aload_n hx hb dL_law_32 rfl (lv_at hl 0 rfl) ?_
      refine lv_iload hx hb dL_law_33 (lv_at hl 4 rfl) ?_
      refine iv_sld hx hb hX hbl hbA hS hL (by omega) dL_law_35 ?_
      refine iv_bipush hx hb dL_law_36 (by decide) ?_
      refine iv_and31 hx hb dL_law_38 ?_
      by_cases q0 : sI xs i % 32 = 0
      · refine iv_tableIn (tgt := 152) hx hb dL_law_39 (by omega) 0 (by omega) (by omega) rfl (by decide) ?_
        exact lw_cclear hC n ih nf ns no nd nk tn ch fa sb un ln dw sx sc oc ow od nq ct kt se pO kd fl ss lo le_ qu lt wz aT nT ba ff sf tT is_ hl_ l2 l4 lf es dfo kko hpo fro aO nO nbo plo lgo coo spo dgo vao dfr kkr hpr frr aR nR nbr plr lgr cor spr dgr var th tnR npR wyR kkR tpR lfR l2R l4R ioR owR pOR pFR pSR pLR pKR pMR woR oaR hdR lgR nuR spR_ riR vaR cnR rnR kcR krR oT i jj spO spR cells slots hI ⟨h0.1, by omega⟩ (by omega) H locs ls hP hD hS hl
      by_cases q1 : sI xs i % 32 = 1
      · refine iv_tableIn (tgt := 163) hx hb dL_law_39 (by omega) 1 (by omega) (by omega) rfl (by decide) ?_
        exact lw_cfield hC n ih nf ns no nd nk tn ch fa sb un ln dw sx sc oc ow od nq ct kt se pO kd fl ss lo le_ qu lt wz aT nT ba ff sf tT is_ hl_ l2 l4 lf es dfo kko hpo fro aO nO nbo plo lgo coo spo dgo vao dfr kkr hpr frr aR nR nbr plr lgr cor spr dgr var th tnR npR wyR kkR tpR lfR l2R l4R ioR owR pOR pFR pSR pLR pKR pMR woR oaR hdR lgR nuR spR_ riR vaR cnR rnR kcR krR oT i jj spO spR cells slots hI ⟨h0.1, by omega⟩ (by omega) H locs ls hP hD hS hl
      by_cases q2 : sI xs i % 32 = 2
      · refine iv_tableIn (tgt := 176) hx hb dL_law_39 (by omega) 2 (by omega) (by omega) rfl (by decide) ?_
        exact lw_cside hC n ih nf ns no nd nk tn ch fa sb un ln dw sx sc oc ow od nq ct kt se pO kd fl ss lo le_ qu lt wz aT nT ba ff sf tT is_ hl_ l2 l4 lf es dfo kko hpo fro aO nO nbo plo lgo coo spo dgo vao dfr kkr hpr frr aR nR nbr plr lgr cor spr dgr var th tnR npR wyR kkR tpR lfR l2R l4R ioR owR pOR pFR pSR pLR pKR pMR woR oaR hdR lgR nuR spR_ riR vaR cnR rnR kcR krR oT i jj spO spR cells slots hI ⟨h0.1, by omega⟩ (by omega) H locs ls hP hD hS hl
      by_cases q3 : sI xs i % 32 = 3
      · refine iv_tableIn (tgt := 213) hx hb dL_law_39 (by omega) 3 (by omega) (by omega) rfl (by decide) ?_
        exact lw_cgrid hC n ih nf ns no nd nk tn ch fa sb un ln dw sx sc oc ow od nq ct kt se pO kd fl ss lo le_ qu lt wz aT nT ba ff sf tT is_ hl_ l2 l4 lf es dfo kko hpo fro aO nO nbo plo lgo coo spo dgo vao dfr kkr hpr frr aR nR nbr plr lgr cor spr dgr var th tnR npR wyR kkR tpR lfR l2R l4R ioR owR pOR pFR pSR pLR pKR pMR woR oaR hdR lgR nuR spR_ riR vaR cnR rnR kcR krR oT i jj spO spR cells slots hI ⟨h0.1, by omega⟩ (by omega) H locs ls hP hD hS hl
      by_cases q4 : sI xs i % 32 = 4
      · refine iv_tableIn (tgt := 250) hx hb dL_law_39 (by omega) 4 (by omega) (by omega) rfl (by decide) ?_
        exact lw_cdraw hC n ih nf ns no nd nk tn ch fa sb un ln dw sx sc oc ow od nq ct kt se pO kd fl ss lo le_ qu lt wz aT nT ba ff sf tT is_ hl_ l2 l4 lf es dfo kko hpo fro aO nO nbo plo lgo coo spo dgo vao dfr kkr hpr frr aR nR nbr plr lgr cor spr dgr var th tnR npR wyR kkR tpR lfR l2R l4R ioR owR pOR pFR pSR pLR pKR pMR woR oaR hdR lgR nuR spR_ riR vaR cnR rnR kcR krR oT i jj spO spR cells slots hI ⟨h0.1, by omega⟩ (by omega) H locs ls hP hD hS hl
      by_cases q5 : sI xs i % 32 = 5
      · refine iv_tableIn (tgt := 275) hx hb dL_law_39 (by omega) 5 (by omega) (by omega) rfl (by decide) ?_
        exact lw_cundo hC n ih nf ns no nd nk tn ch fa sb un ln dw sx sc oc ow od nq ct kt se pO kd fl ss lo le_ qu lt wz aT nT ba ff sf tT is_ hl_ l2 l4 lf es dfo kko hpo fro aO nO nbo plo lgo coo spo dgo vao dfr kkr hpr frr aR nR nbr plr lgr cor spr dgr var th tnR npR wyR kkR tpR lfR l2R l4R ioR owR pOR pFR pSR pLR pKR pMR woR oaR hdR lgR nuR spR_ riR vaR cnR rnR kcR krR oT i jj spO spR cells slots hI ⟨h0.1, by omega⟩ (by omega) H locs ls hP hD hS hl
      by_cases q6 : sI xs i % 32 = 6
      · refine iv_tableIn (tgt := 288) hx hb dL_law_39 (by omega) 6 (by omega) (by omega) rfl (by decide) ?_
        exact lw_credo hC n ih nf ns no nd nk tn ch fa sb un ln dw sx sc oc ow od nq ct kt se pO kd fl ss lo le_ qu lt wz aT nT ba ff sf tT is_ hl_ l2 l4 lf es dfo kko hpo fro aO nO nbo plo lgo coo spo dgo vao dfr kkr hpr frr aR nR nbr plr lgr cor spr dgr var th tnR npR wyR kkR tpR lfR l2R l4R ioR owR pOR pFR pSR pLR pKR pMR woR oaR hdR lgR nuR spR_ riR vaR cnR rnR kcR krR oT i jj spO spR cells slots hI ⟨h0.1, by omega⟩ (by omega) H locs ls hP hD hS hl
      by_cases q7 : sI xs i % 32 = 7
      · refine iv_tableIn (tgt := 301) hx hb dL_law_39 (by omega) 7 (by omega) (by omega) rfl (by decide) ?_
        exact lw_cwhose hC n ih nf ns no nd nk tn ch fa sb un ln dw sx sc oc ow od nq ct kt se pO kd fl ss lo le_ qu lt wz aT nT ba ff sf tT is_ hl_ l2 l4 lf es dfo kko hpo fro aO nO nbo plo lgo coo spo dgo vao dfr kkr hpr frr aR nR nbr plr lgr cor spr dgr var th tnR npR wyR kkR tpR lfR l2R l4R ioR owR pOR pFR pSR pLR pKR pMR woR oaR hdR lgR nuR spR_ riR vaR cnR rnR kcR krR oT i jj spO spR cells slots hI ⟨h0.1, by omega⟩ (by omega) H locs ls hP hD hS hl
      by_cases q8 : sI xs i % 32 = 8
      · refine iv_tableIn (tgt := 314) hx hb dL_law_39 (by omega) 8 (by omega) (by omega) rfl (by decide) ?_
        exact lw_clook hC n ih nf ns no nd nk tn ch fa sb un ln dw sx sc oc ow od nq ct kt se pO kd fl ss lo le_ qu lt wz aT nT ba ff sf tT is_ hl_ l2 l4 lf es dfo kko hpo fro aO nO nbo plo lgo coo spo dgo vao dfr kkr hpr frr aR nR nbr plr lgr cor spr dgr var th tnR npR wyR kkR tpR lfR l2R l4R ioR owR pOR pFR pSR pLR pKR pMR woR oaR hdR lgR nuR spR_ riR vaR cnR rnR kcR krR oT i jj spO spR cells slots hI ⟨h0.1, by omega⟩ (by omega) H locs ls hP hD hS hl
      by_cases q9 : sI xs i % 32 = 9
      · refine iv_tableIn (tgt := 351) hx hb dL_law_39 (by omega) 9 (by omega) (by omega) rfl (by decide) ?_
        exact lw_cask hC n ih nf ns no nd nk tn ch fa sb un ln dw sx sc oc ow od nq ct kt se pO kd fl ss lo le_ qu lt wz aT nT ba ff sf tT is_ hl_ l2 l4 lf es dfo kko hpo fro aO nO nbo plo lgo coo spo dgo vao dfr kkr hpr frr aR nR nbr plr lgr cor spr dgr var th tnR npR wyR kkR tpR lfR l2R l4R ioR owR pOR pFR pSR pLR pKR pMR woR oaR hdR lgR nuR spR_ riR vaR cnR rnR kcR krR oT i jj spO spR cells slots hI ⟨h0.1, by omega⟩ (by omega) H locs ls hP hD hS hl
      by_cases q10 : sI xs i % 32 = 10
      · refine iv_tableIn (tgt := 388) hx hb dL_law_39 (by omega) 10 (by omega) (by omega) rfl (by decide) ?_
        exact h388 n ih nf ns no nd nk tn ch fa sb un ln dw sx sc oc ow od nq ct kt se pO kd fl ss lo le_ qu lt wz aT nT ba ff sf tT is_ hl_ l2 l4 lf es dfo kko hpo fro aO nO nbo plo lgo coo spo dgo vao dfr kkr hpr frr aR nR nbr plr lgr cor spr dgr var th tnR npR wyR kkR tpR lfR l2R l4R ioR owR pOR pFR pSR pLR pKR pMR woR oaR hdR lgR nuR spR_ riR vaR cnR rnR kcR krR oT i jj spO spR cells slots hI ⟨h0.1, by omega⟩ (by omega) H locs ls hP hD hS hl
      by_cases q11 : sI xs i % 32 = 11
      · refine iv_tableIn (tgt := 444) hx hb dL_law_39 (by omega) 11 (by omega) (by omega) rfl (by decide) ?_
        exact lw_cpart hC n ih nf ns no nd nk tn ch fa sb un ln dw sx sc oc ow od nq ct kt se pO kd fl ss lo le_ qu lt wz aT nT ba ff sf tT is_ hl_ l2 l4 lf es dfo kko hpo fro aO nO nbo plo lgo coo spo dgo vao dfr kkr hpr frr aR nR nbr plr lgr cor spr dgr var th tnR npR wyR kkR tpR lfR l2R l4R ioR owR pOR pFR pSR pLR pKR pMR woR oaR hdR lgR nuR spR_ riR vaR cnR rnR kcR krR oT i jj spO spR cells slots hI ⟨h0.1, by omega⟩ (by omega) H locs ls hP hD hS hl
      by_cases q12 : sI xs i % 32 = 12
      · refine iv_tableIn (tgt := 481) hx hb dL_law_39 (by omega) 12 (by omega) (by omega) rfl (by decide) ?_
        exact lw_cloose hC n ih nf ns no nd nk tn ch fa sb un ln dw sx sc oc ow od nq ct kt se pO kd fl ss lo le_ qu lt wz aT nT ba ff sf tT is_ hl_ l2 l4 lf es dfo kko hpo fro aO nO nbo plo lgo coo spo dgo vao dfr kkr hpr frr aR nR nbr plr lgr cor spr dgr var th tnR npR wyR kkR tpR lfR l2R l4R ioR owR pOR pFR pSR pLR pKR pMR woR oaR hdR lgR nuR spR_ riR vaR cnR rnR kcR krR oT i jj spO spR cells slots hI ⟨h0.1, by omega⟩ (by omega) H locs ls hP hD hS hl
      by_cases q13 : sI xs i % 32 = 13
      · refine iv_tableIn (tgt := 494) hx hb dL_law_39 (by omega) 13 (by omega) (by omega) rfl (by decide) ?_
        exact lw_cworth hC n ih nf ns no nd nk tn ch fa sb un ln dw sx sc oc ow od nq ct kt se pO kd fl ss lo le_ qu lt wz aT nT ba ff sf tT is_ hl_ l2 l4 lf es dfo kko hpo fro aO nO nbo plo lgo coo spo dgo vao dfr kkr hpr frr aR nR nbr plr lgr cor spr dgr var th tnR npR wyR kkR tpR lfR l2R l4R ioR owR pOR pFR pSR pLR pKR pMR woR oaR hdR lgR nuR spR_ riR vaR cnR rnR kcR krR oT i jj spO spR cells slots hI ⟨h0.1, by omega⟩ (by omega) H locs ls hP hD hS hl
      by_cases q14 : sI xs i % 32 = 14
      · refine iv_tableIn (tgt := 507) hx hb dL_law_39 (by omega) 14 (by omega) (by omega) rfl (by decide) ?_
        exact lw_cworthOf hC n ih nf ns no nd nk tn ch fa sb un ln dw sx sc oc ow od nq ct kt se pO kd fl ss lo le_ qu lt wz aT nT ba ff sf tT is_ hl_ l2 l4 lf es dfo kko hpo fro aO nO nbo plo lgo coo spo dgo vao dfr kkr hpr frr aR nR nbr plr lgr cor spr dgr var th tnR npR wyR kkR tpR lfR l2R l4R ioR owR pOR pFR pSR pLR pKR pMR woR oaR hdR lgR nuR spR_ riR vaR cnR rnR kcR krR oT i jj spO spR cells slots hI ⟨h0.1, by omega⟩ (by omega) H locs ls hP hD hS hl
      by_cases q15 : sI xs i % 32 = 15
      · refine iv_tableIn (tgt := 532) hx hb dL_law_39 (by omega) 15 (by omega) (by omega) rfl (by decide) ?_
        exact lw_cbest hC n ih nf ns no nd nk tn ch fa sb un ln dw sx sc oc ow od nq ct kt se pO kd fl ss lo le_ qu lt wz aT nT ba ff sf tT is_ hl_ l2 l4 lf es dfo kko hpo fro aO nO nbo plo lgo coo spo dgo vao dfr kkr hpr frr aR nR nbr plr lgr cor spr dgr var th tnR npR wyR kkR tpR lfR l2R l4R ioR owR pOR pFR pSR pLR pKR pMR woR oaR hdR lgR nuR spR_ riR vaR cnR rnR kcR krR oT i jj spO spR cells slots hI ⟨h0.1, by omega⟩ (by omega) H locs ls hP hD hS hl
      by_cases q16 : sI xs i % 32 = 16
      · refine iv_tableIn (tgt := 557) hx hb dL_law_39 (by omega) 16 (by omega) (by omega) rfl (by decide) ?_
        exact lw_csimple hC n ih nf ns no nd nk tn ch fa sb un ln dw sx sc oc ow od nq ct kt se pO kd fl ss lo le_ qu lt wz aT nT ba ff sf tT is_ hl_ l2 l4 lf es dfo kko hpo fro aO nO nbo plo lgo coo spo dgo vao dfr kkr hpr frr aR nR nbr plr lgr cor spr dgr var th tnR npR wyR kkR tpR lfR l2R l4R ioR owR pOR pFR pSR pLR pKR pMR woR oaR hdR lgR nuR spR_ riR vaR cnR rnR kcR krR oT i jj spO spR cells slots hI ⟨h0.1, by omega⟩ (by omega) H locs ls hP hD hS hl
      by_cases q17 : sI xs i % 32 = 17
      · refine iv_tableIn (tgt := 570) hx hb dL_law_39 (by omega) 17 (by omega) (by omega) rfl (by decide) ?_
        exact lw_ckeep hC n ih nf ns no nd nk tn ch fa sb un ln dw sx sc oc ow od nq ct kt se pO kd fl ss lo le_ qu lt wz aT nT ba ff sf tT is_ hl_ l2 l4 lf es dfo kko hpo fro aO nO nbo plo lgo coo spo dgo vao dfr kkr hpr frr aR nR nbr plr lgr cor spr dgr var th tnR npR wyR kkR tpR lfR l2R l4R ioR owR pOR pFR pSR pLR pKR pMR woR oaR hdR lgR nuR spR_ riR vaR cnR rnR kcR krR oT i jj spO spR cells slots hI ⟨h0.1, by omega⟩ (by omega) H locs ls hP hD hS hl
      by_cases q18 : sI xs i % 32 = 18
      · refine iv_tableIn (tgt := 583) hx hb dL_law_39 (by omega) 18 (by omega) (by omega) rfl (by decide) ?_
        exact lw_cgive hC n ih nf ns no nd nk tn ch fa sb un ln dw sx sc oc ow od nq ct kt se pO kd fl ss lo le_ qu lt wz aT nT ba ff sf tT is_ hl_ l2 l4 lf es dfo kko hpo fro aO nO nbo plo lgo coo spo dgo vao dfr kkr hpr frr aR nR nbr plr lgr cor spr dgr var th tnR npR wyR kkR tpR lfR l2R l4R ioR owR pOR pFR pSR pLR pKR pMR woR oaR hdR lgR nuR spR_ riR vaR cnR rnR kcR krR oT i jj spO spR cells slots hI ⟨h0.1, by omega⟩ (by omega) H locs ls hP hD hS hl
      by_cases q19 : sI xs i % 32 = 19
      · refine iv_tableIn (tgt := 608) hx hb dL_law_39 (by omega) 19 (by omega) (by omega) rfl (by decide) ?_
        exact lw_clongs hC n ih nf ns no nd nk tn ch fa sb un ln dw sx sc oc ow od nq ct kt se pO kd fl ss lo le_ qu lt wz aT nT ba ff sf tT is_ hl_ l2 l4 lf es dfo kko hpo fro aO nO nbo plo lgo coo spo dgo vao dfr kkr hpr frr aR nR nbr plr lgr cor spr dgr var th tnR npR wyR kkR tpR lfR l2R l4R ioR owR pOR pFR pSR pLR pKR pMR woR oaR hdR lgR nuR spR_ riR vaR cnR rnR kcR krR oT i jj spO spR cells slots hI ⟨h0.1, by omega⟩ (by omega) H locs ls hP hD hS hl
      by_cases q20 : sI xs i % 32 = 20
      · refine iv_tableIn (tgt := 621) hx hb dL_law_39 (by omega) 20 (by omega) (by omega) rfl (by decide) ?_
        exact lw_ccount hC n ih nf ns no nd nk tn ch fa sb un ln dw sx sc oc ow od nq ct kt se pO kd fl ss lo le_ qu lt wz aT nT ba ff sf tT is_ hl_ l2 l4 lf es dfo kko hpo fro aO nO nbo plo lgo coo spo dgo vao dfr kkr hpr frr aR nR nbr plr lgr cor spr dgr var th tnR npR wyR kkR tpR lfR l2R l4R ioR owR pOR pFR pSR pLR pKR pMR woR oaR hdR lgR nuR spR_ riR vaR cnR rnR kcR krR oT i jj spO spR cells slots hI ⟨h0.1, by omega⟩ (by omega) H locs ls hP hD hS hl
      by_cases q21 : sI xs i % 32 = 21
      · refine iv_tableIn (tgt := 646) hx hb dL_law_39 (by omega) 21 (by omega) (by omega) rfl (by decide) ?_
        exact lw_cempty hC n ih nf ns no nd nk tn ch fa sb un ln dw sx sc oc ow od nq ct kt se pO kd fl ss lo le_ qu lt wz aT nT ba ff sf tT is_ hl_ l2 l4 lf es dfo kko hpo fro aO nO nbo plo lgo coo spo dgo vao dfr kkr hpr frr aR nR nbr plr lgr cor spr dgr var th tnR npR wyR kkR tpR lfR l2R l4R ioR owR pOR pFR pSR pLR pKR pMR woR oaR hdR lgR nuR spR_ riR vaR cnR rnR kcR krR oT i jj spO spR cells slots hI ⟨h0.1, by omega⟩ (by omega) H locs ls hP hD hS hl
      by_cases q22 : sI xs i % 32 = 22
      · refine iv_tableIn (tgt := 657) hx hb dL_law_39 (by omega) 22 (by omega) (by omega) rfl (by decide) ?_
        exact lw_cheap hC n ih nf ns no nd nk tn ch fa sb un ln dw sx sc oc ow od nq ct kt se pO kd fl ss lo le_ qu lt wz aT nT ba ff sf tT is_ hl_ l2 l4 lf es dfo kko hpo fro aO nO nbo plo lgo coo spo dgo vao dfr kkr hpr frr aR nR nbr plr lgr cor spr dgr var th tnR npR wyR kkR tpR lfR l2R l4R ioR owR pOR pFR pSR pLR pKR pMR woR oaR hdR lgR nuR spR_ riR vaR cnR rnR kcR krR oT i jj spO spR cells slots hI ⟨h0.1, by omega⟩ (by omega) H locs ls hP hD hS hl
      by_cases q23 : sI xs i % 32 = 23
      · refine iv_tableIn (tgt := 722) hx hb dL_law_39 (by omega) 23 (by omega) (by omega) rfl (by decide) ?_
        exact h722 n ih nf ns no nd nk tn ch fa sb un ln dw sx sc oc ow od nq ct kt se pO kd fl ss lo le_ qu lt wz aT nT ba ff sf tT is_ hl_ l2 l4 lf es dfo kko hpo fro aO nO nbo plo lgo coo spo dgo vao dfr kkr hpr frr aR nR nbr plr lgr cor spr dgr var th tnR npR wyR kkR tpR lfR l2R l4R ioR owR pOR pFR pSR pLR pKR pMR woR oaR hdR lgR nuR spR_ riR vaR cnR rnR kcR krR oT i jj spO spR cells slots hI ⟨h0.1, by omega⟩ (by omega) H locs ls hP hD hS hl
      by_cases q24 : sI xs i % 32 = 24
      · refine iv_tableIn (tgt := 766) hx hb dL_law_39 (by omega) 24 (by omega) (by omega) rfl (by decide) ?_
        exact lw_copen hC n ih nf ns no nd nk tn ch fa sb un ln dw sx sc oc ow od nq ct kt se pO kd fl ss lo le_ qu lt wz aT nT ba ff sf tT is_ hl_ l2 l4 lf es dfo kko hpo fro aO nO nbo plo lgo coo spo dgo vao dfr kkr hpr frr aR nR nbr plr lgr cor spr dgr var th tnR npR wyR kkR tpR lfR l2R l4R ioR owR pOR pFR pSR pLR pKR pMR woR oaR hdR lgR nuR spR_ riR vaR cnR rnR kcR krR oT i jj spO spR cells slots hI ⟨h0.1, by omega⟩ (by omega) H locs ls hP hD hS hl
      refine iv_tableOut (tgt := 791) hx hb dL_law_39 (by omega) (by omega) (by decide) ?_
      exact lw_cnone hC n ih nf ns no nd nk tn ch fa sb un ln dw sx sc oc ow od nq ct kt se pO kd fl ss lo le_ qu lt wz aT nT ba ff sf tT is_ hl_ l2 l4 lf es dfo kko hpo fro aO nO nbo plo lgo coo spo dgo vao dfr kkr hpr frr aR nR nbr plr lgr cor spr dgr var th tnR npR wyR kkR tpR lfR l2R l4R ioR owR pOR pFR pSR pLR pKR pMR woR oaR hdR lgR nuR spR_ riR vaR cnR rnR kcR krR oT i jj spO spR cells slots hI ⟨h0.1, by omega⟩ (by omega) H locs ls hP hD hS hl
