/-! part 17: one step of both sides -/
section
variable {xdepth xsignal xcarried xlatest xload : Int32} {xsizes xops xargsA xargsB xlines xguards xfroms xtos xats xbegunCounts xthrownCounts xtakenCounts xslotUsed xslotLoad xstretchNumber xstretchGone xstretchRow xatWork xplace xvariables xrow xpart : Nat → Int32} {xstretchWays xrowWays xwayOn : Nat → Int64}
variable {ydepth ysteps yresult youtcome yload yover : Int32} {yop ya yb yline ylength yfrom yto yat yhandlers ybegun ytaken ythrown yrowI yrowWay yrowLength ytimes ytold ykOp ykA ykB ykLine ykLength ykFrom ykTo ykAt ykHandlers ykBegun ykTaken ykThrown ykept ymethod ypc yvariable yhereI yhereWay yhereLength yinto ykLoad ypart : Nat → Int32}
theorem sp_R {d m i L n : Nat} (H : hd_R d m i L n (xdepth, xsignal, xcarried, xlatest, xload, xsizes, xops, xargsA, xargsB, xlines, xguards, xfroms, xtos, xats, xbegunCounts, xthrownCounts, xtakenCounts, xslotUsed, xslotLoad, xstretchNumber, xstretchGone, xstretchRow, xstretchWays, xatWork, xplace, xvariables, xrow, xrowWays, xwayOn, xpart) (ydepth, ysteps, yresult, youtcome, yload, yover, yop, ya, yb, yline, ylength, yfrom, yto, yat, yhandlers, ybegun, ytaken, ythrown, yrowI, yrowWay, yrowLength, ytimes, ytold, ykOp, ykA, ykB, ykLine, ykLength, ykFrom, ykTo, ykAt, ykHandlers, ykBegun, ykTaken, ykThrown, ykept, ymethod, ypc, yvariable, yhereI, yhereWay, yhereLength, yinto, ykLoad, ypart)) :
    ∃ (u1 u' : SX) (v' : SY), (∀ post : SX → Prop, post u1 → wpX_performOne post (xdepth, xsignal, xcarried, xlatest, xload, xsizes, xops, xargsA, xargsB, xlines, xguards, xfroms, xtos, xats, xbegunCounts, xthrownCounts, xtakenCounts, xslotUsed, xslotLoad, xstretchNumber, xstretchGone, xstretchRow, xstretchWays, xatWork, xplace, xvariables, xrow, xrowWays, xwayOn, xpart)) ∧ (∀ post : SX → Prop, post u' → wpX_passOn post u1) ∧ (∀ post : SY → Prop, post v' → wpY_step post (ydepth, ysteps, yresult, youtcome, yload, yover, yop, ya, yb, yline, ylength, yfrom, yto, yat, yhandlers, ybegun, ytaken, ythrown, yrowI, yrowWay, yrowLength, ytimes, ytold, ykOp, ykA, ykB, ykLine, ykLength, ykFrom, ykTo, ykAt, ykHandlers, ykBegun, ykTaken, ykThrown, ykept, ymethod, ypc, yvariable, yhereI, yhereWay, yhereLength, yinto, ykLoad, ypart)) ∧ rs_R (L + 1) (n + 1) u' v' := by
  obtain ⟨hd, hxd, hyd, hsg, hxl, hyl, hst, hov, hou, hre, hP, hC, hS, hF, hA, hT⟩ := H
  obtain ⟨hm, hi, ha, hme, hp, hpc, hv⟩ := hA.1
  obtain ⟨e1, e2, e3⟩ := gp_sz hP hm
  have h24 : i < 24 := by omega
  obtain ⟨a, ha4, eax, eay⟩ := gp_a hP hm h24
  have eo := gp_op hP hm h24
  have eb := gp_b hP hm h24
  obtain ⟨c, hc4', hb3⟩ := pk_andE (xargsB (24 * m + i)) (m := 3) 2 (by decide)
  have hc4 : c < 4 := hc4'
  have hb3y : yb (24 * m + i) &&& 3 = nI c := by rw [← eb]; exact hb3
  obtain ⟨q, hq, hql, hB⟩ := fr_begin e3 hA
  rw [hpc] at hB
  have eva : xvariables (4 * d + a) = yvariable (4 * d + a) := hv a ha4
  have evc : xvariables (4 * d + c) = yvariable (4 * d + c) := hv c hc4
  have hw : 4 * d + a < 24 := by omega
  have M : md_R d m i (L + 1) (n + 1) (xdepth, xsignal, xcarried, xlatest, nI (L + 1), xsizes, xops, xargsA, xargsB, xlines, xguards, xfroms, xtos, xats, upd xbegunCounts (24 * m + i) (xbegunCounts (24 * m + i) + 1), xthrownCounts, xtakenCounts, xslotUsed, xslotLoad, xstretchNumber, xstretchGone, xstretchRow, xstretchWays, xatWork, xplace, xvariables, upd xrow d (xrow d ||| ((1 : Int32) <<< (xplace d &&& 31))), vp_updL xrowWays d (xrowWays d ||| xwayOn d), xwayOn, xpart) (ydepth, nI (n + 1), yresult, youtcome, nI (L + 1), yover, yop, ya, yb, yline, ylength, yfrom, yto, yat, yhandlers, upd ybegun (24 * m + i) (ybegun (24 * m + i) + 1), ytaken, ythrown, yrowI, yrowWay, yrowLength, ytimes, ytold, ykOp, ykA, ykB, ykLine, ykLength, ykFrom, ykTo, ykAt, ykHandlers, ykBegun, ykTaken, ykThrown, ykept, ymethod, ypc, yvariable, upd yhereI (24 * d + q) (nI i), upd yhereWay (24 * d + q) (if q = 0 then 0 else yinto d), upd yhereLength d (nI (q + 1)), yinto, ykLoad, ypart) := by
    refine ⟨hd, hxd, hyd, hsg, rfl, rfl, rfl, hov, hou, hre, hP, gc_beg hC hm hi h24, hS, ?_, hB, hT⟩
    exact fr_L_lo hF lo_r lo_r lo_r (lo_u (Nat.le_refl d)) (lo_uL (Nat.le_refl d)) lo_r lo_r lo_r (lo_u (by omega)) (lo_u (by omega)) (lo_u (Nat.le_refl d))
  have nx : ∀ k k' : Int32, xops (24 * m + i) = k → ¬ k = k' → ¬ yop (24 * m + i) = k' := fun k k' h1 h2 h3 => h2 (by rw [← h1, eo, h3])
  -- an op above 3
  have Y4 : ∀ (post : SY → Prop) (k : Int32), xops (24 * m + i) = k → ¬ k = 0 → ¬ k = 1 → ¬ k = 2 → ¬ k = 3 → wY_step_234 post (nI (24 * m + i)) (nI (4 * d + a)) (yvariable (4 * d + c)) k ydepth (nI (n + 1)) yresult youtcome (nI (L + 1)) yover yop ya yb yline ylength yfrom yto yat yhandlers (upd ybegun (24 * m + i) (ybegun (24 * m + i) + 1)) ytaken ythrown yrowI yrowWay yrowLength ytimes ytold ykOp ykA ykB ykLine ykLength ykFrom ykTo ykAt ykHandlers ykBegun ykTaken ykThrown ykept ymethod ypc yvariable (upd yhereI (24 * d + q) (nI i)) (upd yhereWay (24 * d + q) (if q = 0 then 0 else yinto d)) (upd yhereLength d (nI (q + 1))) yinto ykLoad ypart → wpY_step post (ydepth, ysteps, yresult, youtcome, yload, yover, yop, ya, yb, yline, ylength, yfrom, yto, yat, yhandlers, ybegun, ytaken, ythrown, yrowI, yrowWay, yrowLength, ytimes, ytold, ykOp, ykA, ykB, ykLine, ykLength, ykFrom, ykTo, ykAt, ykHandlers, ykBegun, ykTaken, ykThrown, ykept, ymethod, ypc, yvariable, yhereI, yhereWay, yhereLength, yinto, ykLoad, ypart) := by
    intro post k hk n0 n1 n2 n3 h
    have ek : yop (24 * m + i) = k := by rw [← eo]; exact hk
    refine ys_in hd hm h24 hyd hme hpc hql hq hyl hst eay ha4 hb3y hc4 (fun z => absurd (ek.symm.trans z) n0) (fun _ => ?_)
    rw [ek]
    exact yt_178 n1 n2 n3 h
  by_cases o5 : xops (24 * m + i) = 5
  · by_cases z : xvariables (4 * d + a) = 0
    · obtain ⟨u1, u', v', hX, hO, hY, hR⟩ := lf_R (k := 1) (by decide) M
      exact ⟨u1, u', v', fun post h => xo_5t hd hm h24 hxd ha hp hxl eax ha4 hb3 hc4 o5 z (hX _ (xm_e h)), hO, fun post h => Y4 post 5 o5 (by decide) (by decide) (by decide) (by decide) (yt_5t hw (eva ▸ z) (hY _ (ym_e h))), hR⟩
    · obtain ⟨u1, u', v', hX, hO, hY, hR⟩ := lf_R (k := 0) (by decide) M
      exact ⟨u1, u', v', fun post h => xo_5f hd hm h24 hxd ha hp hxl eax ha4 hb3 hc4 o5 z (hX _ (xm_e h)), hO, fun post h => Y4 post 5 o5 (by decide) (by decide) (by decide) (by decide) (yt_5f hw (eva ▸ z) (hY _ (ym_e h))), hR⟩
  by_cases o6 : xops (24 * m + i) = 6
  · by_cases z : 0 ≤ xvariables (4 * d + a)
    · obtain ⟨u1, u', v', hX, hO, hY, hR⟩ := lf_R (k := 0) (by decide) M
      exact ⟨u1, u', v', fun post h => xo_6f hd hm h24 hxd ha hp hxl eax ha4 hb3 hc4 o6 z (hX _ (xm_e h)), hO, fun post h => Y4 post 6 o6 (by decide) (by decide) (by decide) (by decide) (yt_6f hw (eva ▸ z) (hY _ (ym_e h))), hR⟩
    · obtain ⟨u1, u', v', hX, hO, hY, hR⟩ := lf_R (k := 1) (by decide) M
      exact ⟨u1, u', v', fun post h => xo_6t hd hm h24 hxd ha hp hxl eax ha4 hb3 hc4 o6 z (hX _ (xm_e h)), hO, fun post h => Y4 post 6 o6 (by decide) (by decide) (by decide) (by decide) (yt_6t hw (eva ▸ z) (hY _ (ym_e h))), hR⟩
  by_cases o7 : xops (24 * m + i) = 7
  · by_cases z : ∃ k, k < 4 ∧ 0 < k ∧ xvariables (4 * d + a) = nI k
    · obtain ⟨k, k4, k0, ek⟩ := z
      obtain ⟨u1, u', v', hX, hO, hY, hR⟩ := lf_R (k := k) k4 M
      have z1 : ¬ xvariables (4 * d + a) < 1 := by rw [ek]; exact nI_nlt (b := 1) k0 (by omega)
      have z2 : ¬ 3 < xvariables (4 * d + a) := by rw [ek]; exact nI_nlt (a := 3) (by omega) (by omega)
      have y1 : ¬ yvariable (4 * d + a) ≤ 0 := by rw [← eva, ek]; exact nI_nle k0 (by omega)
      have y2 : ¬ 4 ≤ yvariable (4 * d + a) := by rw [← eva, ek]; exact nI_ge (b := 4) k4 (by decide)
      refine ⟨u1, u', v', fun post h => xo_7t hd hm h24 hxd ha hp hxl eax ha4 hb3 hc4 o7 z1 z2 ?_, hO, fun post h => Y4 post 7 o7 (by decide) (by decide) (by decide) (by decide) (yt_7t hw y1 y2 ?_), hR⟩
      · rw [ek]; exact hX _ (xm_e h)
      · rw [← eva, ek]; exact hY _ (ym_e h)
    · obtain ⟨u1, u', v', hX, hO, hY, hR⟩ := lf_R (k := 0) (by decide) M
      have zz : xvariables (4 * d + a) ≤ 0 ∨ 4 ≤ xvariables (4 * d + a) := by
        rcases pk_ix (xvariables (4 * d + a)) (n := 4) (by decide) with y | y | ⟨k, k4, ek⟩
        · exact Or.inl (Int32.le_of_lt y)
        · exact Or.inr y
        · rcases Nat.eq_zero_or_pos k with y | y
          · left; rw [ek, y]; decide
          · exact absurd ⟨k, k4, y, ek⟩ z
      have z1 : xvariables (4 * d + a) < 1 ∨ 3 < xvariables (4 * d + a) := by
        rcases zz with y | y
        · exact Or.inl (Int32.lt_of_le_of_lt y (by decide))
        · exact Or.inr (Int32.lt_of_lt_of_le (by decide) y)
      exact ⟨u1, u', v', fun post h => xo_7f hd hm h24 hxd ha hp hxl eax ha4 hb3 hc4 o7 z1 (hX _ (xm_e h)), hO, fun post h => Y4 post 7 o7 (by decide) (by decide) (by decide) (by decide) (yt_7f hw (eva ▸ zz) (hY _ (ym_e h))), hR⟩
  by_cases o8 : xops (24 * m + i) = 8
  · obtain ⟨c1, c2, c3⟩ := gp_sz hP hc4
    rcases Nat.eq_zero_or_pos (sz_f xsizes c) with z | z
    · obtain ⟨u1, u', v', hX, hO, hY, hR⟩ := rf_R (x := -1) M
      rw [z] at c2
      exact ⟨u1, u', v', fun post h => xo_8n hd hm h24 hxd ha hp hxl eax ha4 hb3 hc4 hP o8 z (hX _ (xm_e h)), hO, fun post h => Y4 post 8 o8 (by decide) (by decide) (by decide) (by decide) (yt_8 hw (by omega) hb3y (yt_call0 hc4 c2 (hY _ (ym_e (ym_e h))))), hR⟩
    · rcases Nat.lt_or_ge d 5 with y | y
      · obtain ⟨u1, v', hX, hO, hY, hR⟩ := ef_R (a := xvariables (4 * d)) (b := xvariables (4 * d + 1)) M hc4 z y
        have v0 : xvariables (4 * d) = yvariable (4 * d) := hv 0 (by decide)
        have v1 : xvariables (4 * d + 1) = yvariable (4 * d + 1) := hv 1 (by decide)
        refine ⟨u1, u1, v', fun post h => xo_8e hd hm h24 hxd ha hp hxl eax ha4 hb3 hc4 hP o8 z y (hX _ (xm_e h)), hO, fun post h => Y4 post 8 o8 (by decide) (by decide) (by decide) (by decide) (yt_8 hw (by omega) hb3y (yt_calle hc4 c2 z c3 hyd y ?_)), hR⟩
        rw [← v0, ← v1]
        exact hY _ (ym_e (ym_e h))
      · obtain ⟨u1, u', v', hX, hO, hY, hR⟩ := rf_R (x := -2) M
        have d5 : d = 5 := by omega
        exact ⟨u1, u', v', fun post h => xo_8d hd hm h24 hxd ha hp hxl eax ha4 hb3 hc4 hP o8 z d5 (hX _ (xm_e h)), hO, fun post h => Y4 post 8 o8 (by decide) (by decide) (by decide) (by decide) (yt_8 hw (by omega) hb3y (yt_call6 hc4 c2 z c3 (by rw [hyd, d5]; decide) (hY _ (ym_e (ym_e h))))), hR⟩
  by_cases o9 : xops (24 * m + i) = 9
  · obtain ⟨u1, u', v1, v', hX, hO, hY1, hY2, hR⟩ := gf_R (g := xvariables (4 * d + a)) M o9
    refine ⟨u1, u', v', fun post h => xo_9 hd hm h24 hxd ha hp hxl eax ha4 hb3 hc4 o9 (hX _ (xm_e h)), hO, fun post h => Y4 post 9 o9 (by decide) (by decide) (by decide) (by decide) (yt_9 hw (by omega) eva.symm (hY1 _ ?_)), hR⟩
    have K := hY2 (fun u => match u with | (ydepth, ysteps, yresult, youtcome, yload, yover, yop, ya, yb, yline, ylength, yfrom, yto, yat, yhandlers, ybegun, ytaken, ythrown, yrowI, yrowWay, yrowLength, ytimes, ytold, ykOp, ykA, ykB, ykLine, ykLength, ykFrom, ykTo, ykAt, ykHandlers, ykBegun, ykTaken, ykThrown, ykept, ymethod, ypc, yvariable, yhereI, yhereWay, yhereLength, yinto, ykLoad, ypart) => post (ydepth, ysteps, yresult, youtcome, yload, yover, yop, ya, yb, yline, ylength, yfrom, yto, yat, yhandlers, ybegun, ytaken, ythrown, yrowI, yrowWay, yrowLength, ytimes, ytold, ykOp, ykA, ykB, ykLine, ykLength, ykFrom, ykTo, ykAt, ykHandlers, ykBegun, ykTaken, ykThrown, ykept, ymethod, ypc, yvariable, yhereI, yhereWay, yhereLength, yinto, ykLoad, ypart)) (ym_e h)
    obtain ⟨ydepth1, ysteps1, yresult1, youtcome1, yload1, yover1, yop1, ya1, yb1, yline1, ylength1, yfrom1, yto1, yat1, yhandlers1, ybegun1, ytaken1, ythrown1, yrowI1, yrowWay1, yrowLength1, ytimes1, ytold1, ykOp1, ykA1, ykB1, ykLine1, ykLength1, ykFrom1, ykTo1, ykAt1, ykHandlers1, ykBegun1, ykTaken1, ykThrown1, ykept1, ymethod1, ypc1, yvariable1, yhereI1, yhereWay1, yhereLength1, yinto1, ykLoad1, ypart1⟩ := v1
    exact K
  by_cases oA : xops (24 * m + i) = 10
  · obtain ⟨u1, u', v', hX, hO, hY, hR⟩ := rf_R (x := xvariables (4 * d + a)) M
    exact ⟨u1, u', v', fun post h => xo_10 hd hm h24 hxd ha hp hxl eax ha4 hb3 hc4 oA (hX _ (xm_e h)), hO, fun post h => Y4 post 10 oA (by decide) (by decide) (by decide) (by decide) (yt_10 hw (eva ▸ hY _ (ym_e h))), hR⟩
  by_cases oB : xops (24 * m + i) = 11
  · by_cases z : xvariables (4 * d + c) = 0
    · obtain ⟨u1, u', v', hX, hO, hY, hR⟩ := rf_R (x := 0) M
      exact ⟨u1, u', v', fun post h => xo_11z hd hm h24 hxd ha hp hxl eax ha4 hb3 hc4 oB z (hX _ (xm_e h)), hO, fun post h => Y4 post 11 oB (by decide) (by decide) (by decide) (by decide) (yt_11z hw (evc ▸ z) (hY _ (ym_e h))), hR⟩
    · obtain ⟨u1, u', v', hX, hO, hY, hR⟩ := lf_R (k := 0) (by decide) (md_var (a := a) (z := xvariables (4 * d + a) / xvariables (4 * d + c)) M)
      refine ⟨u1, u', v', fun post h => xo_11 hd hm h24 hxd ha hp hxl eax ha4 hb3 hc4 oB z (hX _ (xm_e h)), hO, fun post h => Y4 post 11 oB (by decide) (by decide) (by decide) (by decide) (yt_11 hw (evc ▸ z) ?_), hR⟩
      dsimp only
      rw [← eva, ← evc]
      exact hY _ (ym_e h)
  -- SET, ADD, MOVE, SUB
  have YV : ∀ (post : SY → Prop) (z : Int32), ((xops (24 * m + i) = 0 ∧ z = xargsB (24 * m + i)) ∨ (xops (24 * m + i) = 1 ∧ z = xvariables (4 * d + a) + xargsB (24 * m + i)) ∨ (xops (24 * m + i) = 2 ∧ z = xvariables (4 * d + c)) ∨ (xops (24 * m + i) = 3 ∧ z = xvariables (4 * d + a) - xvariables (4 * d + c))) →
      wpY_leave (fun u => match u with | (ydepth, ysteps, yresult, youtcome, yload, yover, yop, ya, yb, yline, ylength, yfrom, yto, yat, yhandlers, ybegun, ytaken, ythrown, yrowI, yrowWay, yrowLength, ytimes, ytold, ykOp, ykA, ykB, ykLine, ykLength, ykFrom, ykTo, ykAt, ykHandlers, ykBegun, ykTaken, ykThrown, ykept, ymethod, ypc, yvariable, yhereI, yhereWay, yhereLength, yinto, ykLoad, ypart) => post (ydepth, ysteps, yresult, youtcome, yload, yover, yop, ya, yb, yline, ylength, yfrom, yto, yat, yhandlers, ybegun, ytaken, ythrown, yrowI, yrowWay, yrowLength, ytimes, ytold, ykOp, ykA, ykB, ykLine, ykLength, ykFrom, ykTo, ykAt, ykHandlers, ykBegun, ykTaken, ykThrown, ykept, ymethod, ypc, yvariable, yhereI, yhereWay, yhereLength, yinto, ykLoad, ypart)) (ydepth, nI (n + 1), yresult, youtcome, nI (L + 1), yover, yop, ya, yb, yline, ylength, yfrom, yto, yat, yhandlers, upd ybegun (24 * m + i) (ybegun (24 * m + i) + 1), ytaken, ythrown, yrowI, yrowWay, yrowLength, ytimes, ytold, ykOp, ykA, ykB, ykLine, ykLength, ykFrom, ykTo, ykAt, ykHandlers, ykBegun, ykTaken, ykThrown, ykept, ymethod, ypc, upd yvariable (4 * d + a) z, upd yhereI (24 * d + q) (nI i), upd yhereWay (24 * d + q) (if q = 0 then 0 else yinto d), upd yhereLength d (nI (q + 1)), yinto, ykLoad, ypart) 0 → wpY_step post (ydepth, ysteps, yresult, youtcome, yload, yover, yop, ya, yb, yline, ylength, yfrom, yto, yat, yhandlers, ybegun, ytaken, ythrown, yrowI, yrowWay, yrowLength, ytimes, ytold, ykOp, ykA, ykB, ykLine, ykLength, ykFrom, ykTo, ykAt, ykHandlers, ykBegun, ykTaken, ykThrown, ykept, ymethod, ypc, yvariable, yhereI, yhereWay, yhereLength, yinto, ykLoad, ypart) := by
    intro post z hz h
    have es : (nI (24 * m + i)).toNatClampNeg = 24 * m + i := nI_clamp (by omega)
    have wv : vp_in (nI (4 * d + a)) 24 := vp_in_nI (by omega) (by omega)
    have cv : (nI (4 * d + a)).toNatClampNeg = 4 * d + a := nI_clamp (by omega)
    have ws : vp_in (nI (24 * m + i)) 120 := vp_in_nI (by omega) (by omega)
    rcases hz with ⟨e, rfl⟩ | ⟨e, rfl⟩ | ⟨e, rfl⟩ | ⟨e, rfl⟩
    · have ek : yop (24 * m + i) = 0 := by rw [← eo]; exact e
      refine ys_in hd hm h24 hyd hme hpc hql hq hyl hst eay ha4 hb3y hc4 (fun _ => ?_) (fun z => absurd ek z)
      rw [ek, ← eb]
      exact yt_178 (by decide) (by decide) (by decide) (yt_234 hw (by decide) (by decide) (by decide) (by decide) (by decide) (by decide) (by decide) h)
    · have ek : yop (24 * m + i) = 1 := by rw [← eo]; exact e
      refine ys_in hd hm h24 hyd hme hpc hql hq hyl hst eay ha4 hb3y hc4 (fun z => absurd (ek.symm.trans z) (by decide)) (fun _ => ?_)
      rw [ek]
      refine br_t rfl ⟨wv, ws, wv, nm_r (e' := upd yvariable (4 * d + a) (xvariables (4 * d + a) + xargsB (24 * m + i))) (by rw [cv, es, eva, eb]) (br_f (by decide) (br_f (by decide) ?_))⟩
      exact yt_234 hw (by decide) (by decide) (by decide) (by decide) (by decide) (by decide) (by decide) h
    · have ek : yop (24 * m + i) = 2 := by rw [← eo]; exact e
      refine ys_in hd hm h24 hyd hme hpc hql hq hyl hst eay ha4 hb3y hc4 (fun z => absurd (ek.symm.trans z) (by decide)) (fun _ => ?_)
      rw [ek]
      refine br_f (by decide) (br_t rfl ⟨wv, nm_r (e' := upd yvariable (4 * d + a) (xvariables (4 * d + c))) (by rw [cv, evc]) (br_f (by decide) ?_)⟩)
      exact yt_234 hw (by decide) (by decide) (by decide) (by decide) (by decide) (by decide) (by decide) h
    · have ek : yop (24 * m + i) = 3 := by rw [← eo]; exact e
      refine ys_in hd hm h24 hyd hme hpc hql hq hyl hst eay ha4 hb3y hc4 (fun z => absurd (ek.symm.trans z) (by decide)) (fun _ => ?_)
      rw [ek]
      refine br_f (by decide) (br_f (by decide) (br_t rfl ⟨wv, wv, nm_r (e' := upd yvariable (4 * d + a) (xvariables (4 * d + a) - xvariables (4 * d + c))) (by rw [cv, eva, evc]) ?_⟩))
      exact yt_234 hw (by decide) (by decide) (by decide) (by decide) (by decide) (by decide) (by decide) h
  have V : ∀ z : Int32, ((xops (24 * m + i) = 0 ∧ z = xargsB (24 * m + i)) ∨ (xops (24 * m + i) = 1 ∧ z = xvariables (4 * d + a) + xargsB (24 * m + i)) ∨ (xops (24 * m + i) = 2 ∧ z = xvariables (4 * d + c)) ∨ (xops (24 * m + i) = 3 ∧ z = xvariables (4 * d + a) - xvariables (4 * d + c))) →
      ∃ (u1 u' : SX) (v' : SY), (∀ post : SX → Prop, post u1 → wpX_performOne post (xdepth, xsignal, xcarried, xlatest, xload, xsizes, xops, xargsA, xargsB, xlines, xguards, xfroms, xtos, xats, xbegunCounts, xthrownCounts, xtakenCounts, xslotUsed, xslotLoad, xstretchNumber, xstretchGone, xstretchRow, xstretchWays, xatWork, xplace, xvariables, xrow, xrowWays, xwayOn, xpart)) ∧ (∀ post : SX → Prop, post u' → wpX_passOn post u1) ∧ (∀ post : SY → Prop, post v' → wpY_step post (ydepth, ysteps, yresult, youtcome, yload, yover, yop, ya, yb, yline, ylength, yfrom, yto, yat, yhandlers, ybegun, ytaken, ythrown, yrowI, yrowWay, yrowLength, ytimes, ytold, ykOp, ykA, ykB, ykLine, ykLength, ykFrom, ykTo, ykAt, ykHandlers, ykBegun, ykTaken, ykThrown, ykept, ymethod, ypc, yvariable, yhereI, yhereWay, yhereLength, yinto, ykLoad, ypart)) ∧ rs_R (L + 1) (n + 1) u' v' := by
    intro z hz
    obtain ⟨u1, u', v', hX, hO, hY, hR⟩ := lf_R (k := 0) (by decide) (md_var (a := a) (z := z) M)
    exact ⟨u1, u', v', fun post h => xo_v hd hm h24 hxd ha hp hxl eax ha4 hb3 hc4 hz (hX _ (xm_e h)), hO, fun post h => YV post z hz (hY _ (ym_e h)), hR⟩
  by_cases o0 : xops (24 * m + i) = 0
  · exact V _ (Or.inl ⟨o0, rfl⟩)
  by_cases o1 : xops (24 * m + i) = 1
  · exact V _ (Or.inr (Or.inl ⟨o1, rfl⟩))
  by_cases o2 : xops (24 * m + i) = 2
  · exact V _ (Or.inr (Or.inr (Or.inl ⟨o2, rfl⟩)))
  by_cases o3 : xops (24 * m + i) = 3
  · exact V _ (Or.inr (Or.inr (Or.inr ⟨o3, rfl⟩)))
  have oo : xops (24 * m + i) = 4 ∨ xops (24 * m + i) < 0 ∨ 11 < xops (24 * m + i) := by
    rcases pk_ix (xops (24 * m + i)) (n := 12) (by decide) with y | y | ⟨k, k12, ek⟩
    · exact Or.inr (Or.inl y)
    · exact Or.inr (Or.inr (Int32.lt_of_lt_of_le (by decide) y))
    · have hk : k = 0 ∨ k = 1 ∨ k = 2 ∨ k = 3 ∨ k = 4 ∨ k = 5 ∨ k = 6 ∨ k = 7 ∨ k = 8 ∨ k = 9 ∨ k = 10 ∨ k = 11 := by omega
      rcases hk with rfl | rfl | rfl | rfl | rfl | rfl | rfl | rfl | rfl | rfl | rfl | rfl
      · exact absurd ek o0
      · exact absurd ek o1
      · exact absurd ek o2
      · exact absurd ek o3
      · exact Or.inl ek
      · exact absurd ek o5
      · exact absurd ek o6
      · exact absurd ek o7
      · exact absurd ek o8
      · exact absurd ek o9
      · exact absurd ek oA
      · exact absurd ek oB
  obtain ⟨u1, u', v', hX, hO, hY, hR⟩ := lf_R (k := 0) (by decide) M
  exact ⟨u1, u', v', fun post h => xo_o hd hm h24 hxd ha hp hxl eax ha4 hb3 hc4 oo (hX _ (xm_e h)), hO, fun post h => Y4 post _ rfl o0 o1 o2 o3 (yt_234 hw o5 o6 o7 o8 o9 oA oB (hY _ (ym_e h))), hR⟩
end
