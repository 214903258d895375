/-! part 18: run -/
def xr_W (post : Int32 → SX → Prop) (N : Nat) (t : Int32) (u : SX) : Prop := match u with
  | (xdepth, xsignal, xcarried, xlatest, xload, xsizes, xops, xargsA, xargsB, xlines, xguards, xfroms, xtos, xats, xbegunCounts, xthrownCounts, xtakenCounts, xslotUsed, xslotLoad, xstretchNumber, xstretchGone, xstretchRow, xstretchWays, xatWork, xplace, xvariables, xrow, xrowWays, xwayOn, xpart) => wX_run_39 post N t xdepth xsignal xcarried xlatest xload xsizes xops xargsA xargsB xlines xguards xfroms xtos xats xbegunCounts xthrownCounts xtakenCounts xslotUsed xslotLoad xstretchNumber xstretchGone xstretchRow xstretchWays xatWork xplace xvariables xrow xrowWays xwayOn xpart
def yw_W (post : Int32 → SY → Prop) (N : Nat) (v : SY) : Prop := match v with
  | (ydepth, ysteps, yresult, youtcome, yload, yover, yop, ya, yb, yline, ylength, yfrom, yto, yat, yhandlers, ybegun, ytaken, ythrown, yrowI, yrowWay, yrowLength, ytimes, ytold, ykOp, ykA, ykB, ykLine, ykLength, ykFrom, ykTo, ykAt, ykHandlers, ykBegun, ykTaken, ykThrown, ykept, ymethod, ypc, yvariable, yhereI, yhereWay, yhereLength, yinto, ykLoad, ypart) => wY_run_51 post N ydepth ysteps yresult youtcome yload yover yop ya yb yline ylength yfrom yto yat yhandlers ybegun ytaken ythrown yrowI yrowWay yrowLength ytimes ytold ykOp ykA ykB ykLine ykLength ykFrom ykTo ykAt ykHandlers ykBegun ykTaken ykThrown ykept ymethod ypc yvariable yhereI yhereWay yhereLength yinto ykLoad ypart
def xk_W (post : SX → Prop) (N : Nat) (t : Int32) (u : SX) : Prop := match u with
  | (xdepth, xsignal, xcarried, xlatest, xload, xsizes, xops, xargsA, xargsB, xlines, xguards, xfroms, xtos, xats, xbegunCounts, xthrownCounts, xtakenCounts, xslotUsed, xslotLoad, xstretchNumber, xstretchGone, xstretchRow, xstretchWays, xatWork, xplace, xvariables, xrow, xrowWays, xwayOn, xpart) => wX_breakOff_7 post N t xdepth xsignal xcarried xlatest xload xsizes xops xargsA xargsB xlines xguards xfroms xtos xats xbegunCounts xthrownCounts xtakenCounts xslotUsed xslotLoad xstretchNumber xstretchGone xstretchRow xstretchWays xatWork xplace xvariables xrow xrowWays xwayOn xpart
def yl_W (post : Int32 → SY → Prop) (N : Nat) (v : SY) : Prop := match v with
  | (ydepth, ysteps, yresult, youtcome, yload, yover, yop, ya, yb, yline, ylength, yfrom, yto, yat, yhandlers, ybegun, ytaken, ythrown, yrowI, yrowWay, yrowLength, ytimes, ytold, ykOp, ykA, ykB, ykLine, ykLength, ykFrom, ykTo, ykAt, ykHandlers, ykBegun, ykTaken, ykThrown, ykept, ymethod, ypc, yvariable, yhereI, yhereWay, yhereLength, yinto, ykLoad, ypart) => wY_run_68 post N ydepth ysteps yresult youtcome yload yover yop ya yb yline ylength yfrom yto yat yhandlers ybegun ytaken ythrown yrowI yrowWay yrowLength ytimes ytold ykOp ykA ykB ykLine ykLength ykFrom ykTo ykAt ykHandlers ykBegun ykTaken ykThrown ykept ymethod ypc yvariable yhereI yhereWay yhereLength yinto ykLoad ypart
/-- D invocations are broken off -/
def bo_R (D L : Nat) (u : SX) (v : SY) : Prop := match u, v with
  | (xdepth, xsignal, xcarried, xlatest, xload, xsizes, xops, xargsA, xargsB, xlines, xguards, xfroms, xtos, xats, xbegunCounts, xthrownCounts, xtakenCounts, xslotUsed, xslotLoad, xstretchNumber, xstretchGone, xstretchRow, xstretchWays, xatWork, xplace, xvariables, xrow, xrowWays, xwayOn, xpart), (ydepth, ysteps, yresult, youtcome, yload, yover, yop, ya, yb, yline, ylength, yfrom, yto, yat, yhandlers, ybegun, ytaken, ythrown, yrowI, yrowWay, yrowLength, ytimes, ytold, ykOp, ykA, ykB, ykLine, ykLength, ykFrom, ykTo, ykAt, ykHandlers, ykBegun, ykTaken, ykThrown, ykept, ymethod, ypc, yvariable, yhereI, yhereWay, yhereLength, yinto, ykLoad, ypart) => ydepth = nI D ∧ yresult = 0 ∧ xload = nI L ∧ yload = nI L ∧ (gp_R xsizes xops xargsA xargsB xlines xguards xfroms xtos xats yop ya yb yline ylength yfrom yto yat yhandlers ykOp ykA ykB ykLine ykLength ykFrom ykTo ykAt ykHandlers) ∧ (gc_R xsizes xbegunCounts xthrownCounts xtakenCounts xslotUsed xslotLoad ybegun ythrown ytaken ykBegun ykThrown ykTaken ykept ykLoad) ∧ (st_R xstretchNumber xstretchGone xstretchRow xstretchWays yrowI yrowWay yrowLength ytimes ytold) ∧ (tb_R 0 L xtakenCounts) ∧
    (∀ d, d < D → ∃ (m q : Nat) (I W : Nat → Nat), m < 4 ∧ xatWork d = nI m ∧ ymethod d = nI m ∧ yhereLength d = nI q ∧ en_R yhereI yhereWay (24 * d) q (xrow d) (xrowWays d) I W)
theorem bo_L {L : Nat} : ∀ (D : Nat) (u : SX) (v : SY), D ≤ 6 → bo_R D L u v →
    ∃ (u' : SX) (v' : SY), (∀ (post : SX → Prop) (N : Nat), D < N → post u' → xk_W post N (nI D - 1) u) ∧ (∀ (post : Int32 → SY → Prop) (N : Nat), D < N → post 2 v' → yl_W post N v) ∧ bo_R 0 L u' v' := by
  intro D
  induction D with
  | zero =>
    intro u v _ H
    refine ⟨u, v, fun post N hN hp => ?_, fun post N hN hp => ?_, H⟩
    · obtain ⟨xdepth, xsignal, xcarried, xlatest, xload, xsizes, xops, xargsA, xargsB, xlines, xguards, xfroms, xtos, xats, xbegunCounts, xthrownCounts, xtakenCounts, xslotUsed, xslotLoad, xstretchNumber, xstretchGone, xstretchRow, xstretchWays, xatWork, xplace, xvariables, xrow, xrowWays, xwayOn, xpart⟩ := u
      obtain ⟨N, rfl⟩ : ∃ M, N = M + 1 := ⟨N - 1, by omega⟩
      show wX_breakOff_7 post (N + 1) (nI 0 - 1) xdepth xsignal xcarried xlatest xload xsizes xops xargsA xargsB xlines xguards xfroms xtos xats xbegunCounts xthrownCounts xtakenCounts xslotUsed xslotLoad xstretchNumber xstretchGone xstretchRow xstretchWays xatWork xplace xvariables xrow xrowWays xwayOn xpart
      rw [wX_breakOff_7]
      exact br_t (by decide) hp
    · obtain ⟨xdepth, xsignal, xcarried, xlatest, xload, xsizes, xops, xargsA, xargsB, xlines, xguards, xfroms, xtos, xats, xbegunCounts, xthrownCounts, xtakenCounts, xslotUsed, xslotLoad, xstretchNumber, xstretchGone, xstretchRow, xstretchWays, xatWork, xplace, xvariables, xrow, xrowWays, xwayOn, xpart⟩ := u
      obtain ⟨ydepth, ysteps, yresult, youtcome, yload, yover, yop, ya, yb, yline, ylength, yfrom, yto, yat, yhandlers, ybegun, ytaken, ythrown, yrowI, yrowWay, yrowLength, ytimes, ytold, ykOp, ykA, ykB, ykLine, ykLength, ykFrom, ykTo, ykAt, ykHandlers, ykBegun, ykTaken, ykThrown, ykept, ymethod, ypc, yvariable, yhereI, yhereWay, yhereLength, yinto, ykLoad, ypart⟩ := v
      obtain ⟨N, rfl⟩ : ∃ M, N = M + 1 := ⟨N - 1, by omega⟩
      show wY_run_68 post (N + 1) ydepth ysteps yresult youtcome yload yover yop ya yb yline ylength yfrom yto yat yhandlers ybegun ytaken ythrown yrowI yrowWay yrowLength ytimes ytold ykOp ykA ykB ykLine ykLength ykFrom ykTo ykAt ykHandlers ykBegun ykTaken ykThrown ykept ymethod ypc yvariable yhereI yhereWay yhereLength yinto ykLoad ypart
      rw [wY_run_68]
      exact br_t (by rw [H.1]; decide) hp
  | succ D ih =>
    intro u v hD H
    obtain ⟨xdepth, xsignal, xcarried, xlatest, xload, xsizes, xops, xargsA, xargsB, xlines, xguards, xfroms, xtos, xats, xbegunCounts, xthrownCounts, xtakenCounts, xslotUsed, xslotLoad, xstretchNumber, xstretchGone, xstretchRow, xstretchWays, xatWork, xplace, xvariables, xrow, xrowWays, xwayOn, xpart⟩ := u
    obtain ⟨ydepth, ysteps, yresult, youtcome, yload, yover, yop, ya, yb, yline, ylength, yfrom, yto, yat, yhandlers, ybegun, ytaken, ythrown, yrowI, yrowWay, yrowLength, ytimes, ytold, ykOp, ykA, ykB, ykLine, ykLength, ykFrom, ykTo, ykAt, ykHandlers, ykBegun, ykTaken, ykThrown, ykept, ymethod, ypc, yvariable, yhereI, yhereWay, yhereLength, yinto, ykLoad, ypart⟩ := v
    obtain ⟨hyd, hre, hxl, hyl, hP, hC, hS, hT, hF⟩ := H
    obtain ⟨m, q, I, W, hm, ha, hme, hl, he⟩ := hF D (by omega)
    obtain ⟨sn, sg, sr, sw, ri, rv, rl, ti, tl, hX, hY, hS'⟩ := cl_R (xdepth := xdepth) (xsignal := xsignal) (xcarried := xcarried) (xlatest := xlatest) (xload := xload) (xsizes := xsizes) (xops := xops) (xargsA := xargsA) (xargsB := xargsB) (xlines := xlines) (xguards := xguards) (xfroms := xfroms) (xtos := xtos) (xats := xats) (xbegunCounts := xbegunCounts) (xthrownCounts := xthrownCounts) (xtakenCounts := xtakenCounts) (xslotUsed := xslotUsed) (xslotLoad := xslotLoad) (xstretchNumber := xstretchNumber) (xstretchGone := xstretchGone) (xstretchRow := xstretchRow) (xstretchWays := xstretchWays) (xatWork := xatWork) (xplace := xplace) (xvariables := xvariables) (xrow := xrow) (xrowWays := xrowWays) (xwayOn := xwayOn) (xpart := xpart) (ydepth := ydepth) (ysteps := ysteps) (yresult := yresult) (youtcome := youtcome) (yload := yload) (yover := yover) (yop := yop) (ya := ya) (yb := yb) (yline := yline) (ylength := ylength) (yfrom := yfrom) (yto := yto) (yat := yat) (yhandlers := yhandlers) (ybegun := ybegun) (ytaken := ytaken) (ythrown := ythrown) (yrowI := yrowI) (yrowWay := yrowWay) (yrowLength := yrowLength) (ytimes := ytimes) (ytold := ytold) (ykOp := ykOp) (ykA := ykA) (ykB := ykB) (ykLine := ykLine) (ykLength := ykLength) (ykFrom := ykFrom) (ykTo := ykTo) (ykAt := ykAt) (ykHandlers := ykHandlers) (ykBegun := ykBegun) (ykTaken := ykTaken) (ykThrown := ykThrown) (ykept := ykept) (ymethod := ymethod) (ypc := ypc) (yvariable := yvariable) (yhereI := yhereI) (yhereWay := yhereWay) (yhereLength := yhereLength) (yinto := yinto) (ykLoad := ykLoad) (ypart := ypart) (show D < 6 by omega) hm ha hme hl he hS hyd
    have K : bo_R D L (xdepth, xsignal, xcarried, xlatest, xload, xsizes, xops, xargsA, xargsB, xlines, xguards, xfroms, xtos, xats, xbegunCounts, xthrownCounts, xtakenCounts, xslotUsed, xslotLoad, sn, sg, sr, sw, xatWork, xplace, xvariables, upd xrow D 0, vp_updL xrowWays D 0, vp_updL xwayOn D 0, xpart) (nI D, ysteps, yresult, youtcome, yload, yover, yop, ya, yb, yline, ylength, yfrom, yto, yat, yhandlers, ybegun, ytaken, ythrown, ri, rv, rl, ti, tl, ykOp, ykA, ykB, ykLine, ykLength, ykFrom, ykTo, ykAt, ykHandlers, ykBegun, ykTaken, ykThrown, ykept, ymethod, ypc, yvariable, yhereI, yhereWay, upd yhereLength D 0, yinto, ykLoad, ypart) := by
      refine ⟨rfl, hre, hxl, hyl, hP, hC, hS', hT, fun d hd => ?_⟩
      obtain ⟨m, q, I, W, g1, g2, g3, g4, g5⟩ := hF d (by omega)
      refine ⟨m, q, I, W, g1, g2, g3, by rw [pk_un (by omega)]; exact g4, ?_⟩
      rw [pk_un (by omega), pk_uLn (by omega)]
      exact g5
    obtain ⟨u', v', iX, iY, iR⟩ := ih _ _ (by omega) K
    refine ⟨u', v', fun post N hN hp => ?_, fun post N hN hp => ?_, iR⟩
    · obtain ⟨N, rfl⟩ : ∃ M, N = M + 1 := ⟨N - 1, by omega⟩
      show wX_breakOff_7 post (N + 1) (nI (D + 1) - 1) xdepth xsignal xcarried xlatest xload xsizes xops xargsA xargsB xlines xguards xfroms xtos xats xbegunCounts xthrownCounts xtakenCounts xslotUsed xslotLoad xstretchNumber xstretchGone xstretchRow xstretchWays xatWork xplace xvariables xrow xrowWays xwayOn xpart
      rw [nI_pred, wX_breakOff_7]
      refine br_f (nI_pos (by omega)) (hX _ ?_)
      exact nm_r (Int32.sub_eq_add_neg _ _).symm (iX post N (by omega) hp)
    · obtain ⟨N, rfl⟩ : ∃ M, N = M + 1 := ⟨N - 1, by omega⟩
      show wY_run_68 post (N + 1) ydepth ysteps yresult youtcome yload yover yop ya yb yline ylength yfrom yto yat yhandlers ybegun ytaken ythrown yrowI yrowWay yrowLength ytimes ytold ykOp ykA ykB ykLine ykLength ykFrom ykTo ykAt ykHandlers ykBegun ykTaken ykThrown ykept ymethod ypc yvariable yhereI yhereWay yhereLength yinto ykLoad ypart
      rw [wY_run_68]
      refine br_f (by rw [hyd]; exact nI_nle (by omega) (by omega)) (hY _ ?_)
      exact nm_r (by rw [hyd]; exact nI_pred D) (iY post N (by omega) hp)
theorem rl_0 {d m i L : Nat} {u : SX} {v : SY} (hL : L ≤ 1000000200) (H : hd_R d m i L 200 u v) :
    ∃ (u' : SX) (v' : SY), (∀ (post : Int32 → SX → Prop) (N : Nat), post 2 u' → xr_W post (N + 1) (nI 200) u) ∧ (∀ (post : Int32 → SY → Prop) (N : Nat), post 2 v' → yw_W post (N + 1) v) ∧ i_Rel 0 u' v' := by
  obtain ⟨xdepth, xsignal, xcarried, xlatest, xload, xsizes, xops, xargsA, xargsB, xlines, xguards, xfroms, xtos, xats, xbegunCounts, xthrownCounts, xtakenCounts, xslotUsed, xslotLoad, xstretchNumber, xstretchGone, xstretchRow, xstretchWays, xatWork, xplace, xvariables, xrow, xrowWays, xwayOn, xpart⟩ := u
  obtain ⟨ydepth, ysteps, yresult, youtcome, yload, yover, yop, ya, yb, yline, ylength, yfrom, yto, yat, yhandlers, ybegun, ytaken, ythrown, yrowI, yrowWay, yrowLength, ytimes, ytold, ykOp, ykA, ykB, ykLine, ykLength, ykFrom, ykTo, ykAt, ykHandlers, ykBegun, ykTaken, ykThrown, ykept, ymethod, ypc, yvariable, yhereI, yhereWay, yhereLength, yinto, ykLoad, ypart⟩ := v
  obtain ⟨hd, hxd, hyd, hsg, hxl, hyl, hst, hov, hou, hre, hP, hC, hS, hF, hA, hT⟩ := H
  have B : bo_R (d + 1) L (xdepth, xsignal, xcarried, xlatest, xload, xsizes, xops, xargsA, xargsB, xlines, xguards, xfroms, xtos, xats, xbegunCounts, xthrownCounts, xtakenCounts, xslotUsed, xslotLoad, xstretchNumber, xstretchGone, xstretchRow, xstretchWays, xatWork, xplace, xvariables, xrow, xrowWays, xwayOn, xpart) (ydepth, ysteps, yresult, youtcome, yload, yover, yop, ya, yb, yline, ylength, yfrom, yto, yat, yhandlers, ybegun, ytaken, ythrown, yrowI, yrowWay, yrowLength, ytimes, ytold, ykOp, ykA, ykB, ykLine, ykLength, ykFrom, ykTo, ykAt, ykHandlers, ykBegun, ykTaken, ykThrown, ykept, ymethod, ypc, yvariable, yhereI, yhereWay, yhereLength, yinto, ykLoad, ypart) := by
    refine ⟨hyd, hre, hxl, hyl, hP, hC, hS, tb_w hT (by omega), fun j hj => ?_⟩
    rcases Nat.lt_or_ge j d with z | z
    · obtain ⟨m, i, ⟨g1, g2, g3, g4, g5, g6, g7⟩, q, I, W, f1, f2, f3⟩ := hF j z
      exact ⟨m, q + 1, I, W, g1, g3, g4, f1, f2⟩
    · have e : j = d := by omega
      subst e
      obtain ⟨⟨g1, g2, g3, g4, g5, g6, g7⟩, q, I, W, f1, f2, f3⟩ := hA
      exact ⟨m, q, I, W, g1, g3, g4, f1, f2⟩
  obtain ⟨u', v', hX, hY, hR⟩ := bo_L (d + 1) _ _ (by omega) B
  obtain ⟨xdepth1, xsignal1, xcarried1, xlatest1, xload1, xsizes1, xops1, xargsA1, xargsB1, xlines1, xguards1, xfroms1, xtos1, xats1, xbegunCounts1, xthrownCounts1, xtakenCounts1, xslotUsed1, xslotLoad1, xstretchNumber1, xstretchGone1, xstretchRow1, xstretchWays1, xatWork1, xplace1, xvariables1, xrow1, xrowWays1, xwayOn1, xpart1⟩ := u'
  obtain ⟨ydepth1, ysteps1, yresult1, youtcome1, yload1, yover1, yop1, ya1, yb1, yline1, ylength1, yfrom1, yto1, yat1, yhandlers1, ybegun1, ytaken1, ythrown1, yrowI1, yrowWay1, yrowLength1, ytimes1, ytold1, ykOp1, ykA1, ykB1, ykLine1, ykLength1, ykFrom1, ykTo1, ykAt1, ykHandlers1, ykBegun1, ykTaken1, ykThrown1, ykept1, ymethod1, ypc1, yvariable1, yhereI1, yhereWay1, yhereLength1, yinto1, ykLoad1, ypart1⟩ := v'
  obtain ⟨k1, k2, k3, k4, k5, k6, k7, k8, k9⟩ := hR
  refine ⟨(xdepth1, xsignal1, xcarried1, 0, xload1, xsizes1, xops1, xargsA1, xargsB1, xlines1, xguards1, xfroms1, xtos1, xats1, xbegunCounts1, xthrownCounts1, xtakenCounts1, xslotUsed1, xslotLoad1, xstretchNumber1, xstretchGone1, xstretchRow1, xstretchWays1, xatWork1, xplace1, xvariables1, xrow1, xrowWays1, xwayOn1, xpart1), (ydepth1, ysteps1, yresult1, youtcome1, yload1, yover1, yop1, ya1, yb1, yline1, ylength1, yfrom1, yto1, yat1, yhandlers1, ybegun1, ytaken1, ythrown1, yrowI1, yrowWay1, yrowLength1, ytimes1, ytold1, ykOp1, ykA1, ykB1, ykLine1, ykLength1, ykFrom1, ykTo1, ykAt1, ykHandlers1, ykBegun1, ykTaken1, ykThrown1, ykept1, ymethod1, ypc1, yvariable1, yhereI1, yhereWay1, yhereLength1, yinto1, ykLoad1, ypart1), fun post N hp => ?_, fun post N hp => ?_, ⟨L, hL, k3, k4, k2.symm, k5, k6, k7, k8⟩⟩
  · show wX_run_39 post (N + 1) (nI 200) xdepth xsignal xcarried xlatest xload xsizes xops xargsA xargsB xlines xguards xfroms xtos xats xbegunCounts xthrownCounts xtakenCounts xslotUsed xslotLoad xstretchNumber xstretchGone xstretchRow xstretchWays xatWork xplace xvariables xrow xrowWays xwayOn xpart
    rw [wX_run_39]
    refine br_t (by decide) (br_f (by rw [hxd]; exact nI_nle (by omega) (by omega)) ?_)
    exact nm_r (e' := nI (d + 1) - 1) (by rw [hxd]) ⟨d + 2, hX (fun u => match u with | (xdepth, xsignal, xcarried, xlatest, xload, xsizes, xops, xargsA, xargsB, xlines, xguards, xfroms, xtos, xats, xbegunCounts, xthrownCounts, xtakenCounts, xslotUsed, xslotLoad, xstretchNumber, xstretchGone, xstretchRow, xstretchWays, xatWork, xplace, xvariables, xrow, xrowWays, xwayOn, xpart) => post 2 (xdepth, xsignal, xcarried, 0, xload, xsizes, xops, xargsA, xargsB, xlines, xguards, xfroms, xtos, xats, xbegunCounts, xthrownCounts, xtakenCounts, xslotUsed, xslotLoad, xstretchNumber, xstretchGone, xstretchRow, xstretchWays, xatWork, xplace, xvariables, xrow, xrowWays, xwayOn, xpart)) (d + 2) (by omega) hp⟩
  · show wY_run_51 post (N + 1) ydepth ysteps yresult youtcome yload yover yop ya yb yline ylength yfrom yto yat yhandlers ybegun ytaken ythrown yrowI yrowWay yrowLength ytimes ytold ykOp ykA ykB ykLine ykLength ykFrom ykTo ykAt ykHandlers ykBegun ykTaken ykThrown ykept ymethod ypc yvariable yhereI yhereWay yhereLength yinto ykLoad ypart
    rw [wY_run_51]
    exact br_t hov (br_t (by rw [hst]; decide) ⟨d + 2, hY _ (d + 2) (by omega) hp⟩)
/-- the run is over: the answer -/
theorem rl_e {s c : Int32} {L n : Nat} {u : SX} {v : SY} (hn : n ≤ 200) (hL : L ≤ 1000000200) (H : ov_R s c L u v) :
    ∃ (r : Int32) (u' : SX), (∀ (post : Int32 → SX → Prop) (N : Nat), post r u' → xr_W post (N + 1) (nI n) u) ∧ (∀ (post : Int32 → SY → Prop) (N : Nat), post r v → yw_W post (N + 1) v) ∧ i_Rel 0 u' v := by
  obtain ⟨xdepth, xsignal, xcarried, xlatest, xload, xsizes, xops, xargsA, xargsB, xlines, xguards, xfroms, xtos, xats, xbegunCounts, xthrownCounts, xtakenCounts, xslotUsed, xslotLoad, xstretchNumber, xstretchGone, xstretchRow, xstretchWays, xatWork, xplace, xvariables, xrow, xrowWays, xwayOn, xpart⟩ := u
  obtain ⟨ydepth, ysteps, yresult, youtcome, yload, yover, yop, ya, yb, yline, ylength, yfrom, yto, yat, yhandlers, ybegun, ytaken, ythrown, yrowI, yrowWay, yrowLength, ytimes, ytold, ykOp, ykA, ykB, ykLine, ykLength, ykFrom, ykTo, ykAt, ykHandlers, ykBegun, ykTaken, ykThrown, ykept, ymethod, ypc, yvariable, yhereI, yhereWay, yhereLength, yinto, ykLoad, ypart⟩ := v
  obtain ⟨hxd, hsg, hca, hov, hre, hou, hxl, hyl, hP, hC, hS, hT⟩ := H
  refine ⟨youtcome, (xdepth, xsignal, xcarried, xcarried, xload, xsizes, xops, xargsA, xargsB, xlines, xguards, xfroms, xtos, xats, xbegunCounts, xthrownCounts, xtakenCounts, xslotUsed, xslotLoad, xstretchNumber, xstretchGone, xstretchRow, xstretchWays, xatWork, xplace, xvariables, xrow, xrowWays, xwayOn, xpart), fun post N hp => ?_, fun post N hp => ?_, ⟨L, hL, hxl, hyl, hca.trans hre.symm, hP, hC, hS, hT⟩⟩
  · have z : xdepth ≤ 0 := by rw [hxd]; decide
    have K : wX_run_68 post xdepth xsignal xcarried xlatest xload xsizes xops xargsA xargsB xlines xguards xfroms xtos xats xbegunCounts xthrownCounts xtakenCounts xslotUsed xslotLoad xstretchNumber xstretchGone xstretchRow xstretchWays xatWork xplace xvariables xrow xrowWays xwayOn xpart := by
      refine br_t z ?_
      rcases hou with ⟨h1, h2⟩ | ⟨h1, h2⟩
      · rw [h2] at hp
        exact br_f (by rw [hsg, h1]; decide) hp
      · rw [h2] at hp
        exact br_t (by rw [hsg, h1]) hp
    show wX_run_39 post (N + 1) (nI n) xdepth xsignal xcarried xlatest xload xsizes xops xargsA xargsB xlines xguards xfroms xtos xats xbegunCounts xthrownCounts xtakenCounts xslotUsed xslotLoad xstretchNumber xstretchGone xstretchRow xstretchWays xatWork xplace xvariables xrow xrowWays xwayOn xpart
    rw [wX_run_39]
    by_cases y : (200 : Int32) ≤ nI n
    · exact br_t y K
    · exact br_f y (br_t z K)
  · show wY_run_51 post (N + 1) ydepth ysteps yresult youtcome yload yover yop ya yb yline ylength yfrom yto yat yhandlers ybegun ytaken ythrown yrowI yrowWay yrowLength ytimes ytold ykOp ykA ykB ykLine ykLength ykFrom ykTo ykAt ykHandlers ykBegun ykTaken ykThrown ykept ymethod ypc yvariable yhereI yhereWay yhereLength yinto ykLoad ypart
    rw [wY_run_51]
    exact br_f (by rw [hov]; decide) hp
theorem rl_R : ∀ (e n d m i L : Nat) (u : SX) (v : SY), n + e = 200 → L ≤ 1000000000 + n → hd_R d m i L n u v →
    ∃ (r : Int32) (u' : SX) (v' : SY), (∀ (post : Int32 → SX → Prop) (N : Nat), e < N → post r u' → xr_W post N (nI n) u) ∧ (∀ (post : Int32 → SY → Prop) (N : Nat), e < N → post r v' → yw_W post N v) ∧ i_Rel 0 u' v' := by
  intro e
  induction e with
  | zero =>
    intro n d m i L u v hn hL H
    have z : n = 200 := by omega
    subst z
    obtain ⟨u', v', hX, hY, hR⟩ := rl_0 (by omega) H
    refine ⟨2, u', v', fun post N hN hp => ?_, fun post N hN hp => ?_, hR⟩
    · obtain ⟨N, rfl⟩ : ∃ M, N = M + 1 := ⟨N - 1, by omega⟩
      exact hX post N hp
    · obtain ⟨N, rfl⟩ : ∃ M, N = M + 1 := ⟨N - 1, by omega⟩
      exact hY post N hp
  | succ e ih =>
    intro n d m i L u v hn hL H
    obtain ⟨xdepth, xsignal, xcarried, xlatest, xload, xsizes, xops, xargsA, xargsB, xlines, xguards, xfroms, xtos, xats, xbegunCounts, xthrownCounts, xtakenCounts, xslotUsed, xslotLoad, xstretchNumber, xstretchGone, xstretchRow, xstretchWays, xatWork, xplace, xvariables, xrow, xrowWays, xwayOn, xpart⟩ := u
    obtain ⟨ydepth, ysteps, yresult, youtcome, yload, yover, yop, ya, yb, yline, ylength, yfrom, yto, yat, yhandlers, ybegun, ytaken, ythrown, yrowI, yrowWay, yrowLength, ytimes, ytold, ykOp, ykA, ykB, ykLine, ykLength, ykFrom, ykTo, ykAt, ykHandlers, ykBegun, ykTaken, ykThrown, ykept, ymethod, ypc, yvariable, yhereI, yhereWay, yhereLength, yinto, ykLoad, ypart⟩ := v
    obtain ⟨u1, u2, v2, hX, hO, hY, hR⟩ := sp_R H
    obtain ⟨hd, hxd, hyd, hsg, hxl, hyl, hst, hov, hou, hre, _⟩ := H
    have X0 : ∀ (post : Int32 → SX → Prop) (N : Nat), xr_W post N (nI (n + 1)) u2 → xr_W post (N + 1) (nI n) (xdepth, xsignal, xcarried, xlatest, xload, xsizes, xops, xargsA, xargsB, xlines, xguards, xfroms, xtos, xats, xbegunCounts, xthrownCounts, xtakenCounts, xslotUsed, xslotLoad, xstretchNumber, xstretchGone, xstretchRow, xstretchWays, xatWork, xplace, xvariables, xrow, xrowWays, xwayOn, xpart) := by
      intro post N h
      show wX_run_39 post (N + 1) (nI n) xdepth xsignal xcarried xlatest xload xsizes xops xargsA xargsB xlines xguards xfroms xtos xats xbegunCounts xthrownCounts xtakenCounts xslotUsed xslotLoad xstretchNumber xstretchGone xstretchRow xstretchWays xatWork xplace xvariables xrow xrowWays xwayOn xpart
      rw [wX_run_39]
      refine br_f (nI_ge (b := 200) (by omega) (by decide)) (br_f (by rw [hxd]; exact nI_nle (by omega) (by omega)) (hX _ ?_))
      obtain ⟨xdepth1, xsignal1, xcarried1, xlatest1, xload1, xsizes1, xops1, xargsA1, xargsB1, xlines1, xguards1, xfroms1, xtos1, xats1, xbegunCounts1, xthrownCounts1, xtakenCounts1, xslotUsed1, xslotLoad1, xstretchNumber1, xstretchGone1, xstretchRow1, xstretchWays1, xatWork1, xplace1, xvariables1, xrow1, xrowWays1, xwayOn1, xpart1⟩ := u1
      refine hO _ ?_
      obtain ⟨xdepth2, xsignal2, xcarried2, xlatest2, xload2, xsizes2, xops2, xargsA2, xargsB2, xlines2, xguards2, xfroms2, xtos2, xats2, xbegunCounts2, xthrownCounts2, xtakenCounts2, xslotUsed2, xslotLoad2, xstretchNumber2, xstretchGone2, xstretchRow2, xstretchWays2, xatWork2, xplace2, xvariables2, xrow2, xrowWays2, xwayOn2, xpart2⟩ := u2
      exact nm_r (nI_1 n) h
    have Y0 : ∀ (post : Int32 → SY → Prop) (N : Nat), yw_W post N v2 → yw_W post (N + 1) (ydepth, ysteps, yresult, youtcome, yload, yover, yop, ya, yb, yline, ylength, yfrom, yto, yat, yhandlers, ybegun, ytaken, ythrown, yrowI, yrowWay, yrowLength, ytimes, ytold, ykOp, ykA, ykB, ykLine, ykLength, ykFrom, ykTo, ykAt, ykHandlers, ykBegun, ykTaken, ykThrown, ykept, ymethod, ypc, yvariable, yhereI, yhereWay, yhereLength, yinto, ykLoad, ypart) := by
      intro post N h
      have z : ¬ ysteps = 200 := by
        rw [hst]
        intro z
        have := (nI_eq (a := n) (b := 200) (by omega) (by omega)).mp z
        omega
      show wY_run_51 post (N + 1) ydepth ysteps yresult youtcome yload yover yop ya yb yline ylength yfrom yto yat yhandlers ybegun ytaken ythrown yrowI yrowWay yrowLength ytimes ytold ykOp ykA ykB ykLine ykLength ykFrom ykTo ykAt ykHandlers ykBegun ykTaken ykThrown ykept ymethod ypc yvariable yhereI yhereWay yhereLength yinto ykLoad ypart
      rw [wY_run_51]
      refine br_t hov (br_f z (hY _ ?_))
      obtain ⟨ydepth1, ysteps1, yresult1, youtcome1, yload1, yover1, yop1, ya1, yb1, yline1, ylength1, yfrom1, yto1, yat1, yhandlers1, ybegun1, ytaken1, ythrown1, yrowI1, yrowWay1, yrowLength1, ytimes1, ytold1, ykOp1, ykA1, ykB1, ykLine1, ykLength1, ykFrom1, ykTo1, ykAt1, ykHandlers1, ykBegun1, ykTaken1, ykThrown1, ykept1, ymethod1, ypc1, yvariable1, yhereI1, yhereWay1, yhereLength1, yinto1, ykLoad1, ypart1⟩ := v2
      exact h
    rcases hR with ⟨d', m', i', hR⟩ | ⟨s, c, hR⟩
    · obtain ⟨r, u', v', iX, iY, iR⟩ := ih (n + 1) d' m' i' (L + 1) u2 v2 (by omega) (by omega) hR
      refine ⟨r, u', v', fun post N hN hp => ?_, fun post N hN hp => ?_, iR⟩
      · obtain ⟨N, rfl⟩ : ∃ M, N = M + 1 := ⟨N - 1, by omega⟩
        exact X0 post N (iX post N (by omega) hp)
      · obtain ⟨N, rfl⟩ : ∃ M, N = M + 1 := ⟨N - 1, by omega⟩
        exact Y0 post N (iY post N (by omega) hp)
    · obtain ⟨r, u', iX, iY, iR⟩ := rl_e (n := n + 1) (by omega) (by omega) hR
      refine ⟨r, u', v2, fun post N hN hp => ?_, fun post N hN hp => ?_, iR⟩
      · obtain ⟨N, rfl⟩ : ∃ M, N = M + 2 := ⟨N - 2, by omega⟩
        exact X0 post (N + 1) (iX post N hp)
      · obtain ⟨N, rfl⟩ : ∃ M, N = M + 2 := ⟨N - 2, by omega⟩
        exact Y0 post (N + 1) (iY post N hp)
theorem i_vc_run {k : Nat} {u : SX} {v : SY} (I : i_Rel k u v) (hk : k + 5 ≤ 2560) (v1 : Int32) (v2 : Int32) (v3 : Int32) : wpX_run (fun r u' => wpY_run (fun r' v' => r' = r ∧ i_Rel (k + 5) u' v') v v1 v2 v3) u v1 v2 v3 := by
  obtain ⟨xdepth, xsignal, xcarried, xlatest, xload, xsizes, xops, xargsA, xargsB, xlines, xguards, xfroms, xtos, xats, xbegunCounts, xthrownCounts, xtakenCounts, xslotUsed, xslotLoad, xstretchNumber, xstretchGone, xstretchRow, xstretchWays, xatWork, xplace, xvariables, xrow, xrowWays, xwayOn, xpart⟩ := u
  obtain ⟨ydepth, ysteps, yresult, youtcome, yload, yover, yop, ya, yb, yline, ylength, yfrom, yto, yat, yhandlers, ybegun, ytaken, ythrown, yrowI, yrowWay, yrowLength, ytimes, ytold, ykOp, ykA, ykB, ykLine, ykLength, ykFrom, ykTo, ykAt, ykHandlers, ykBegun, ykTaken, ykThrown, ykept, ymethod, ypc, yvariable, yhereI, yhereWay, yhereLength, yinto, ykLoad, ypart⟩ := v
  have J := I
  obtain ⟨L, h1, h2, h3, h4, hP, hC, hS, hT⟩ := I
  unfold wpX_run wpY_run
  rcases th_c (xdepth := xdepth) (xsignal := xsignal) (xcarried := xcarried) (xlatest := xlatest) (xload := xload) (xsizes := xsizes) (xops := xops) (xargsA := xargsA) (xargsB := xargsB) (xlines := xlines) (xguards := xguards) (xfroms := xfroms) (xtos := xtos) (xats := xats) (xbegunCounts := xbegunCounts) (xthrownCounts := xthrownCounts) (xtakenCounts := xtakenCounts) (xslotUsed := xslotUsed) (xslotLoad := xslotLoad) (xstretchNumber := xstretchNumber) (xstretchGone := xstretchGone) (xstretchRow := xstretchRow) (xstretchWays := xstretchWays) (xatWork := xatWork) (xplace := xplace) (xvariables := xvariables) (xrow := xrow) (xrowWays := xrowWays) (xwayOn := xwayOn) (xpart := xpart) (ydepth := ydepth) (ysteps := ysteps) (yresult := yresult) (youtcome := youtcome) (yload := yload) (yover := yover) (yop := yop) (ya := ya) (yb := yb) (yline := yline) (ylength := ylength) (yfrom := yfrom) (yto := yto) (yat := yat) (yhandlers := yhandlers) (ybegun := ybegun) (ytaken := ytaken) (ythrown := ythrown) (yrowI := yrowI) (yrowWay := yrowWay) (yrowLength := yrowLength) (ytimes := ytimes) (ytold := ytold) (ykOp := ykOp) (ykA := ykA) (ykB := ykB) (ykLine := ykLine) (ykLength := ykLength) (ykFrom := ykFrom) (ykTo := ykTo) (ykAt := ykAt) (ykHandlers := ykHandlers) (ykBegun := ykBegun) (ykTaken := ykTaken) (ykThrown := ykThrown) (ykept := ykept) (ymethod := ymethod) (ypc := ypc) (yvariable := yvariable) (yhereI := yhereI) (yhereWay := yhereWay) (yhereLength := yhereLength) (yinto := yinto) (ykLoad := ykLoad) (ypart := ypart) v1 hP with ⟨m, hm, rfl, hs, hX, hY⟩ | ⟨hX, hY⟩
  · rcases Nat.lt_or_ge 1000000000 L with z | z
    · have zx : ¬ xload ≤ 1000000000 := by rw [h2]; exact nI_ge (a := 1000000000) z (by omega)
      have zy : ¬ yload ≤ 1000000000 := by rw [h3]; exact nI_ge (a := 1000000000) z (by omega)
      exact hX _ (br_f (by decide) (br_f zx (hY _ (br_f (by decide) (br_f zy ⟨rfl, J⟩)))))
    · have zx : xload ≤ 1000000000 := by rw [h2]; exact nI_le (b := 1000000000) z (by decide)
      have zy : yload ≤ 1000000000 := by rw [h3]; exact nI_le (b := 1000000000) z (by decide)
      have K : hd_R 0 m 0 L 0 (nI 1, 0, xcarried, xlatest, xload, xsizes, xops, xargsA, xargsB, xlines, xguards, xfroms, xtos, xats, xbegunCounts, xthrownCounts, xtakenCounts, xslotUsed, xslotLoad, xstretchNumber, xstretchGone, xstretchRow, xstretchWays, upd xatWork 0 (nI m), upd xplace 0 0, upd (upd (upd (upd xvariables 0 v2) 1 v3) 2 0) 3 0, upd xrow 0 0, vp_updL xrowWays 0 0, vp_updL xwayOn 0 0, xpart)
          (nI 1, 0, 0, 0, yload, 0, yop, ya, yb, yline, ylength, yfrom, yto, yat, yhandlers, ybegun, ytaken, ythrown, yrowI, yrowWay, yrowLength, ytimes, ytold, ykOp, ykA, ykB, ykLine, ykLength, ykFrom, ykTo, ykAt, ykHandlers, ykBegun, ykTaken, ykThrown, ykept, upd ymethod 0 (nI m), upd ypc 0 0, upd (upd (upd (upd yvariable 0 v2) 1 v3) 2 0) 3 0, yhereI, yhereWay, upd yhereLength 0 0, upd yinto 0 0, ykLoad, ypart) := by
        refine ⟨by omega, rfl, rfl, rfl, h2, h3, rfl, rfl, rfl, rfl, hP, hC, hS, fun d hd => absurd hd (by omega), ⟨⟨hm, hs, pk_us, pk_us, pk_us, pk_us, fun k hk => ?_⟩, 0, fun _ => 0, fun _ => 0, pk_us, ?_, Or.inl ⟨rfl, pk_uLs⟩⟩, tb_w hT (by omega)⟩
        · exact fr_4 (B := 0) hk
        · rw [pk_us, pk_uLs]; exact en_0 _ _ _ _ _
      obtain ⟨r, u', v', iX, iY, iR⟩ := rl_R 200 0 0 m 0 L _ _ rfl (by omega) K
      refine hX _ (br_f (by decide) (br_t zx ?_))
      refine nm_r (e' := 0) (by decide) ⟨by rw [vp_in_iff]; decide, nm_e ⟨by rw [vp_in_iff]; decide, nm_e ⟨by rw [vp_in_iff]; decide, nm_e ⟨by rw [vp_in_iff]; decide, nm_e ⟨by rw [vp_in_iff]; decide, nm_e ⟨by rw [vp_in_iff]; decide, nm_e ?_⟩⟩⟩⟩⟩⟩
      refine xc_clr (d := 0) (by decide) (nm_r (e' := nI 1) (by decide) ⟨201, iX _ 201 (by omega) ?_⟩)
      refine hY _ (br_f (by decide) (br_t zy ?_))
      refine ⟨by rw [vp_in_iff]; decide, nm_e ⟨by rw [vp_in_iff]; decide, nm_e ⟨by rw [vp_in_iff]; decide, nm_e ⟨by rw [vp_in_iff]; decide, nm_e ⟨by rw [vp_in_iff]; decide, nm_e ⟨by rw [vp_in_iff]; decide, nm_e ⟨by rw [vp_in_iff]; decide, nm_e ⟨by rw [vp_in_iff]; decide, nm_e ?_⟩⟩⟩⟩⟩⟩⟩⟩
      exact nm_r (e' := nI 1) (by decide) ⟨201, iY _ 201 (by omega) ⟨rfl, iR⟩⟩
  · exact hX _ (br_t rfl (hY _ (br_t rfl ⟨rfl, J⟩)))
