/-! part 12: what ends one invocation goes on to the one that made it: passOn of the class, end and raise of the reference -/
def xp_W (post : SX → Prop) (N : Nat) (t : Int32) (u : SX) : Prop := match u with
  | (xdepth, xsignal, xcarried, xlatest, xload, xsizes, xops, xargsA, xargsB, xlines, xguards, xfroms, xtos, xats, xbegunCounts, xthrownCounts, xtakenCounts, xslotUsed, xslotLoad, xstretchNumber, xstretchGone, xstretchRow, xstretchWays, xatWork, xplace, xvariables, xrow, xrowWays, xwayOn, xpart) => wX_passOn_2 post N t xdepth xsignal xcarried xlatest xload xsizes xops xargsA xargsB xlines xguards xfroms xtos xats xbegunCounts xthrownCounts xtakenCounts xslotUsed xslotLoad xstretchNumber xstretchGone xstretchRow xstretchWays xatWork xplace xvariables xrow xrowWays xwayOn xpart
def ye_W (post : SY → Prop) (N : Nat) (c t : Int32) (v : SY) : Prop := match v with
  | (ydepth, ysteps, yresult, youtcome, yload, yover, yop, ya, yb, yline, ylength, yfrom, yto, yat, yhandlers, ybegun, ytaken, ythrown, yrowI, yrowWay, yrowLength, ytimes, ytold, ykOp, ykA, ykB, ykLine, ykLength, ykFrom, ykTo, ykAt, ykHandlers, ykBegun, ykTaken, ykThrown, ykept, ymethod, ypc, yvariable, yhereI, yhereWay, yhereLength, yinto, ykLoad, ypart) => wY_end_4 post N c t ydepth ysteps yresult youtcome yload yover yop ya yb yline ylength yfrom yto yat yhandlers ybegun ytaken ythrown yrowI yrowWay yrowLength ytimes ytold ykOp ykA ykB ykLine ykLength ykFrom ykTo ykAt ykHandlers ykBegun ykTaken ykThrown ykept ymethod ypc yvariable yhereI yhereWay yhereLength yinto ykLoad ypart
def yr_W (post : SY → Prop) (x : Int32) (N : Nat) (v : SY) : Prop := match v with
  | (ydepth, ysteps, yresult, youtcome, yload, yover, yop, ya, yb, yline, ylength, yfrom, yto, yat, yhandlers, ybegun, ytaken, ythrown, yrowI, yrowWay, yrowLength, ytimes, ytold, ykOp, ykA, ykB, ykLine, ykLength, ykFrom, ykTo, ykAt, ykHandlers, ykBegun, ykTaken, ykThrown, ykept, ymethod, ypc, yvariable, yhereI, yhereWay, yhereLength, yinto, ykLoad, ypart) => wY_raise_0 post x N ydepth ysteps yresult youtcome yload yover yop ya yb yline ylength yfrom yto yat yhandlers ybegun ytaken ythrown yrowI yrowWay yrowLength ytimes ytold ykOp ykA ykB ykLine ykLength ykFrom ykTo ykAt ykHandlers ykBegun ykTaken ykThrown ykept ymethod ypc yvariable yhereI yhereWay yhereLength yinto ykLoad ypart
/-- a step's end: the next instruction, or the run is over -/
def rs_R (L n : Nat) (u : SX) (v : SY) : Prop := (∃ d m i, hd_R d m i L n u v) ∨ (∃ s c, ov_R s c L u v)
theorem ps_6 {t : Nat} (h : t < 6) : ¬ (6 : Int32) ≤ nI t := nI_ge (b := 6) h (by decide)
/-- nothing is handed on -/
theorem ps_0 {d m i L n t : Nat} {u : SX} {v : SY} (ht : t < 6) (H : hd_R d m i L n u v) {post : SX → Prop} {N : Nat} (hp : post u) : xp_W post (N + 1) (nI t) u := by
  obtain ⟨xdepth, xsignal, xcarried, xlatest, xload, xsizes, xops, xargsA, xargsB, xlines, xguards, xfroms, xtos, xats, xbegunCounts, xthrownCounts, xtakenCounts, xslotUsed, xslotLoad, xstretchNumber, xstretchGone, xstretchRow, xstretchWays, xatWork, xplace, xvariables, xrow, xrowWays, xwayOn, xpart⟩ := u
  obtain ⟨ydepth, ysteps, yresult, youtcome, yload, yover, yop, ya, yb, yline, ylength, yfrom, yto, yat, yhandlers, ybegun, ytaken, ythrown, yrowI, yrowWay, yrowLength, ytimes, ytold, ykOp, ykA, ykB, ykLine, ykLength, ykFrom, ykTo, ykAt, ykHandlers, ykBegun, ykTaken, ykThrown, ykept, ymethod, ypc, yvariable, yhereI, yhereWay, yhereLength, yinto, ykLoad, ypart⟩ := v
  obtain ⟨hd, hxd, hyd, hsg, _⟩ := H
  have z : ¬ xdepth ≤ 0 := by rw [hxd]; exact nI_nle (by omega) (by omega)
  show wX_passOn_2 post (N + 1) (nI t) xdepth xsignal xcarried xlatest xload xsizes xops xargsA xargsB xlines xguards xfroms xtos xats xbegunCounts xthrownCounts xtakenCounts xslotUsed xslotLoad xstretchNumber xstretchGone xstretchRow xstretchWays xatWork xplace xvariables xrow xrowWays xwayOn xpart
  rw [wX_passOn_2]
  exact br_f (ps_6 ht) (br_f z (br_t hsg hp))
theorem fr_var {sz : Nat → Nat} {aw pl vs rr : Nat → Int32} {rW : Nat → Int64} {me pc vr hi hw hl : Nat → Int32} {d m i a : Nat} {c : Int32} (h : fr_b sz aw pl vs rr rW me pc vr hi hw hl d m i) : fr_b sz aw pl (upd vs (4 * d + a) c) rr rW me pc (upd vr (4 * d + a) c) hi hw hl d m i := by
  obtain ⟨⟨h1, h2, h3, h4, h5, h6, h7⟩, h8⟩ := h
  refine ⟨⟨h1, h2, h3, h4, h5, h6, fun k hk => ?_⟩, h8⟩
  by_cases z : 4 * d + k = 4 * d + a
  · rw [z, pk_us, pk_us]
  · rw [pk_un z, pk_un z]; exact h7 k hk
theorem pg_R {L n : Nat} : ∀ (D turn : Nat) (c : Int32) (u : SX) (v : SY), turn + D ≤ 5 → wt_R D (D + 1) 1 c L n u v →
    ∃ (u' : SX) (v' : SY), (∀ (post : SX → Prop) (N : Nat), D < N → post u' → xp_W post N (nI turn) u) ∧ (∀ (post : SY → Prop) (N : Nat), D + 1 < N → post v' → ye_W post N c 1 v) ∧ rs_R L n u' v' := by
  intro D
  induction D with
  | zero =>
    intro turn c u v hturn H
    obtain ⟨xdepth, xsignal, xcarried, xlatest, xload, xsizes, xops, xargsA, xargsB, xlines, xguards, xfroms, xtos, xats, xbegunCounts, xthrownCounts, xtakenCounts, xslotUsed, xslotLoad, xstretchNumber, xstretchGone, xstretchRow, xstretchWays, xatWork, xplace, xvariables, xrow, xrowWays, xwayOn, xpart⟩ := u
    obtain ⟨ydepth, ysteps, yresult, youtcome, yload, yover, yop, ya, yb, yline, ylength, yfrom, yto, yat, yhandlers, ybegun, ytaken, ythrown, yrowI, yrowWay, yrowLength, ytimes, ytold, ykOp, ykA, ykB, ykLine, ykLength, ykFrom, ykTo, ykAt, ykHandlers, ykBegun, ykTaken, ykThrown, ykept, ymethod, ypc, yvariable, yhereI, yhereWay, yhereLength, yinto, ykLoad, ypart⟩ := v
    obtain ⟨hd, hxd, hyd, hsg, hca, hxl, hyl, hst, hov, hou, hre, hP, hC, hS, hF, hT⟩ := H
    refine ⟨(xdepth, xsignal, xcarried, xlatest, xload, xsizes, xops, xargsA, xargsB, xlines, xguards, xfroms, xtos, xats, xbegunCounts, xthrownCounts, xtakenCounts, xslotUsed, xslotLoad, xstretchNumber, xstretchGone, xstretchRow, xstretchWays, xatWork, xplace, xvariables, xrow, xrowWays, xwayOn, xpart), (nI 0, ysteps, c, youtcome, yload, 1, yop, ya, yb, yline, ylength, yfrom, yto, yat, yhandlers, ybegun, ytaken, ythrown, yrowI, yrowWay, yrowLength, ytimes, ytold, ykOp, ykA, ykB, ykLine, ykLength, ykFrom, ykTo, ykAt, ykHandlers, ykBegun, ykTaken, ykThrown, ykept, ymethod, ypc, yvariable, yhereI, yhereWay, yhereLength, yinto, ykLoad, ypart), fun post N hN hp => ?_, fun post N hN hp => ?_, Or.inr ⟨1, c, hxd, hsg, hca, rfl, rfl, Or.inl ⟨rfl, hou⟩, hxl, hyl, hP, hC, hS, hT⟩⟩
    · obtain ⟨N, rfl⟩ : ∃ M, N = M + 1 := ⟨N - 1, by omega⟩
      have z : xdepth ≤ 0 := by rw [hxd]; decide
      show wX_passOn_2 post (N + 1) (nI turn) xdepth xsignal xcarried xlatest xload xsizes xops xargsA xargsB xlines xguards xfroms xtos xats xbegunCounts xthrownCounts xtakenCounts xslotUsed xslotLoad xstretchNumber xstretchGone xstretchRow xstretchWays xatWork xplace xvariables xrow xrowWays xwayOn xpart
      rw [wX_passOn_2]
      exact br_f (ps_6 (by omega)) (br_t z hp)
    · obtain ⟨N, rfl⟩ : ∃ M, N = M + 1 := ⟨N - 1, by omega⟩
      show wY_end_4 post (N + 1) c 1 ydepth ysteps yresult youtcome yload yover yop ya yb yline ylength yfrom yto yat yhandlers ybegun ytaken ythrown yrowI yrowWay yrowLength ytimes ytold ykOp ykA ykB ykLine ykLength ykFrom ykTo ykAt ykHandlers ykBegun ykTaken ykThrown ykept ymethod ypc yvariable yhereI yhereWay yhereLength yinto ykLoad ypart
      rw [wY_end_4]
      exact br_f (by decide) (nm_r (e' := nI 0) (by rw [hyd]; exact nI_pred 0) (br_t rfl hp))
  | succ D ih =>
    intro turn c u v hturn H
    obtain ⟨xdepth, xsignal, xcarried, xlatest, xload, xsizes, xops, xargsA, xargsB, xlines, xguards, xfroms, xtos, xats, xbegunCounts, xthrownCounts, xtakenCounts, xslotUsed, xslotLoad, xstretchNumber, xstretchGone, xstretchRow, xstretchWays, xatWork, xplace, xvariables, xrow, xrowWays, xwayOn, xpart⟩ := u
    obtain ⟨ydepth, ysteps, yresult, youtcome, yload, yover, yop, ya, yb, yline, ylength, yfrom, yto, yat, yhandlers, ybegun, ytaken, ythrown, yrowI, yrowWay, yrowLength, ytimes, ytold, ykOp, ykA, ykB, ykLine, ykLength, ykFrom, ykTo, ykAt, ykHandlers, ykBegun, ykTaken, ykThrown, ykept, ymethod, ypc, yvariable, yhereI, yhereWay, yhereLength, yinto, ykLoad, ypart⟩ := v
    obtain ⟨hd, hxd, hyd, hsg, hca, hxl, hyl, hst, hov, hou, hre, hP, hC, hS, hF, hT⟩ := H
    obtain ⟨m, i, hB⟩ := hF D (by omega)
    obtain ⟨⟨hm, hi, ha, hme, hp, hpc, hv⟩, _⟩ := id hB
    obtain ⟨e1, e2, e3⟩ := gp_sz hP hm
    have h24 : i < 24 := by omega
    obtain ⟨a, ha4, eax, eay⟩ := gp_a hP hm h24
    have ed : (nI D).toNatClampNeg = D := nI_clamp (by omega)
    have w : vp_in (nI D) 6 := vp_in_nI (by omega) (by omega)
    have ex : xdepth - 1 = nI D := by rw [hxd]; exact nI_pred D
    have ey : ydepth - 1 = nI (D + 1) := by rw [hyd]; exact nI_pred (D + 1)
    have M : md_R D m i L n (xdepth, 0, xcarried, xlatest, xload, xsizes, xops, xargsA, xargsB, xlines, xguards, xfroms, xtos, xats, xbegunCounts, xthrownCounts, xtakenCounts, xslotUsed, xslotLoad, xstretchNumber, xstretchGone, xstretchRow, xstretchWays, xatWork, xplace, upd xvariables (4 * D + a) xcarried, xrow, xrowWays, xwayOn, xpart) (nI (D + 1), ysteps, yresult, youtcome, yload, yover, yop, ya, yb, yline, ylength, yfrom, yto, yat, yhandlers, ybegun, ytaken, ythrown, yrowI, yrowWay, yrowLength, ytimes, ytold, ykOp, ykA, ykB, ykLine, ykLength, ykFrom, ykTo, ykAt, ykHandlers, ykBegun, ykTaken, ykThrown, ykept, ymethod, ypc, upd yvariable (4 * D + a) xcarried, yhereI, yhereWay, yhereLength, yinto, ykLoad, ypart) :=
      ⟨by omega, hxd, rfl, rfl, hxl, hyl, hst, hov, hou, hre, hP, hC, hS, fr_L_lo (fr_L_le hF (by omega)) lo_r lo_r (lo_u (by omega)) lo_r lo_r lo_r lo_r (lo_u (by omega)) lo_r lo_r lo_r, fr_var hB, hT⟩
    obtain ⟨u1, v1, hX, hY⟩ := fo_R (k := 0) (g := 0) (by decide) M
    have X0 : ∀ (post : SX → Prop) (N : Nat), xp_W post N (nI (turn + 1)) u1 → xp_W post (N + 1) (nI turn) (xdepth, xsignal, xcarried, xlatest, xload, xsizes, xops, xargsA, xargsB, xlines, xguards, xfroms, xtos, xats, xbegunCounts, xthrownCounts, xtakenCounts, xslotUsed, xslotLoad, xstretchNumber, xstretchGone, xstretchRow, xstretchWays, xatWork, xplace, xvariables, xrow, xrowWays, xwayOn, xpart) := by
      intro post N h
      have z : ¬ xdepth ≤ 0 := by rw [hxd]; exact nI_nle (by omega) (by omega)
      have z1 : ¬ xsignal = 0 := by rw [hsg]; decide
      have z2 : ¬ xsignal = 2 := by rw [hsg]; decide
      show wX_passOn_2 post (N + 1) (nI turn) xdepth xsignal xcarried xlatest xload xsizes xops xargsA xargsB xlines xguards xfroms xtos xats xbegunCounts xthrownCounts xtakenCounts xslotUsed xslotLoad xstretchNumber xstretchGone xstretchRow xstretchWays xatWork xplace xvariables xrow xrowWays xwayOn xpart
      rw [wX_passOn_2]
      refine br_f (ps_6 (by omega)) (br_f z (br_f z1 (br_f z2 ?_)))
      refine nm_r ex ⟨w, w, nm_r (e' := nI (24 * m + i)) (by rw [ed, ha, hp]; exact ix_24 m i) ?_⟩
      rw [nI_clamp (n := 24 * m + i) (by omega), eax]
      refine ⟨vp_in_nI (by omega) (by decide), ix_in (ix_4 D a) (by omega) (by decide), nm_r (e' := upd xvariables (4 * D + a) xcarried) (by rw [ix_cl (ix_4 D a) (by omega)]) (hX _ ?_)⟩
      obtain ⟨xdepth1, xsignal1, xcarried1, xlatest1, xload1, xsizes1, xops1, xargsA1, xargsB1, xlines1, xguards1, xfroms1, xtos1, xats1, xbegunCounts1, xthrownCounts1, xtakenCounts1, xslotUsed1, xslotLoad1, xstretchNumber1, xstretchGone1, xstretchRow1, xstretchWays1, xatWork1, xplace1, xvariables1, xrow1, xrowWays1, xwayOn1, xpart1⟩ := u1
      exact nm_r (nI_1 turn) h
    have Y0 : ∀ (post : SY → Prop) (N : Nat), wpY_take (fun r u => match u with | (ydepth, ysteps, yresult, youtcome, yload, yover, yop, ya, yb, yline, ylength, yfrom, yto, yat, yhandlers, ybegun, ytaken, ythrown, yrowI, yrowWay, yrowLength, ytimes, ytold, ykOp, ykA, ykB, ykLine, ykLength, ykFrom, ykTo, ykAt, ykHandlers, ykBegun, ykTaken, ykThrown, ykept, ymethod, ypc, yvariable, yhereI, yhereWay, yhereLength, yinto, ykLoad, ypart) => wY_end_4 post N 0 r ydepth ysteps yresult youtcome yload yover yop ya yb yline ylength yfrom yto yat yhandlers ybegun ytaken ythrown yrowI yrowWay yrowLength ytimes ytold ykOp ykA ykB ykLine ykLength ykFrom ykTo ykAt ykHandlers ykBegun ykTaken ykThrown ykept ymethod ypc yvariable yhereI yhereWay yhereLength yinto ykLoad ypart) (nI (D + 1), ysteps, yresult, youtcome, yload, yover, yop, ya, yb, yline, ylength, yfrom, yto, yat, yhandlers, ybegun, ytaken, ythrown, yrowI, yrowWay, yrowLength, ytimes, ytold, ykOp, ykA, ykB, ykLine, ykLength, ykFrom, ykTo, ykAt, ykHandlers, ykBegun, ykTaken, ykThrown, ykept, ymethod, ypc, upd yvariable (4 * D + a) xcarried, yhereI, yhereWay, yhereLength, yinto, ykLoad, ypart) 0 → ye_W post (N + 1) c 1 (ydepth, ysteps, yresult, youtcome, yload, yover, yop, ya, yb, yline, ylength, yfrom, yto, yat, yhandlers, ybegun, ytaken, ythrown, yrowI, yrowWay, yrowLength, ytimes, ytold, ykOp, ykA, ykB, ykLine, ykLength, ykFrom, ykTo, ykAt, ykHandlers, ykBegun, ykTaken, ykThrown, ykept, ymethod, ypc, yvariable, yhereI, yhereWay, yhereLength, yinto, ykLoad, ypart) := by
      intro post N h
      show wY_end_4 post (N + 1) c 1 ydepth ysteps yresult youtcome yload yover yop ya yb yline ylength yfrom yto yat yhandlers ybegun ytaken ythrown yrowI yrowWay yrowLength ytimes ytold ykOp ykA ykB ykLine ykLength ykFrom ykTo ykAt ykHandlers ykBegun ykTaken ykThrown ykept ymethod ypc yvariable yhereI yhereWay yhereLength yinto ykLoad ypart
      rw [wY_end_4]
      refine br_f (by decide) (nm_r ey (br_f (nI_ne0 (by omega) (by omega)) (nm_r (e' := nI D) (nI_pred D) ⟨w, w, ?_⟩)))
      rw [ed, hme, hpc, ix_cl (iy_24 m i) (by omega), eay]
      exact ⟨ix_in (iy_24 m i) (by omega) (by decide), ix_in (iy_4 D a) (by omega) (by decide), nm_r (e' := upd yvariable (4 * D + a) xcarried) (by rw [ix_cl (iy_4 D a) (by omega), hca]) h⟩
    rcases hY with ⟨hY, t, hH⟩ | ⟨hY, hW⟩
    · refine ⟨u1, v1, fun post N hN hp => ?_, fun post N hN hp => ?_, Or.inl ⟨D, m, t, hH⟩⟩
      · obtain ⟨N, rfl⟩ : ∃ M, N = M + 2 := ⟨N - 2, by omega⟩
        exact X0 post (N + 1) (ps_0 (by omega) hH hp)
      · obtain ⟨N, rfl⟩ : ∃ M, N = M + 2 := ⟨N - 2, by omega⟩
        refine Y0 post (N + 1) (hY _ ?_)
        obtain ⟨ydepth1, ysteps1, yresult1, youtcome1, yload1, yover1, yop1, ya1, yb1, yline1, ylength1, yfrom1, yto1, yat1, yhandlers1, ybegun1, ytaken1, ythrown1, yrowI1, yrowWay1, yrowLength1, ytimes1, ytold1, ykOp1, ykA1, ykB1, ykLine1, ykLength1, ykFrom1, ykTo1, ykAt1, ykHandlers1, ykBegun1, ykTaken1, ykThrown1, ykept1, ymethod1, ypc1, yvariable1, yhereI1, yhereWay1, yhereLength1, yinto1, ykLoad1, ypart1⟩ := v1
        show wY_end_4 post (N + 1) 0 0 ydepth1 ysteps1 yresult1 youtcome1 yload1 yover1 yop1 ya1 yb1 yline1 ylength1 yfrom1 yto1 yat1 yhandlers1 ybegun1 ytaken1 ythrown1 yrowI1 yrowWay1 yrowLength1 ytimes1 ytold1 ykOp1 ykA1 ykB1 ykLine1 ykLength1 ykFrom1 ykTo1 ykAt1 ykHandlers1 ykBegun1 ykTaken1 ykThrown1 ykept1 ymethod1 ypc1 yvariable1 yhereI1 yhereWay1 yhereLength1 yinto1 ykLoad1 ypart1
        rw [wY_end_4]
        exact br_t rfl hp
    · obtain ⟨u', v', iX, iY, iR⟩ := ih (turn + 1) 0 u1 v1 (by omega) hW
      refine ⟨u', v', fun post N hN hp => ?_, fun post N hN hp => ?_, iR⟩
      · obtain ⟨N, rfl⟩ : ∃ M, N = M + 1 := ⟨N - 1, by omega⟩
        exact X0 post N (iX post N (by omega) hp)
      · obtain ⟨N, rfl⟩ : ∃ M, N = M + 1 := ⟨N - 1, by omega⟩
        refine Y0 post N (hY _ ?_)
        have h := iY post N (by omega) hp
        obtain ⟨ydepth1, ysteps1, yresult1, youtcome1, yload1, yover1, yop1, ya1, yb1, yline1, ylength1, yfrom1, yto1, yat1, yhandlers1, ybegun1, ytaken1, ythrown1, yrowI1, yrowWay1, yrowLength1, ytimes1, ytold1, ykOp1, ykA1, ykB1, ykLine1, ykLength1, ykFrom1, ykTo1, ykAt1, ykHandlers1, ykBegun1, ykTaken1, ykThrown1, ykept1, ymethod1, ypc1, yvariable1, yhereI1, yhereWay1, yhereLength1, yinto1, ykLoad1, ypart1⟩ := v1
        exact h
/-! handlers -/
section
variable {xdepth xsignal xcarried xlatest xload : Int32} {xsizes xops xargsA xargsB xlines xguards xfroms xtos xats xbegunCounts xthrownCounts xtakenCounts xslotUsed xslotLoad xstretchNumber xstretchGone xstretchRow xatWork xplace xvariables xrow xpart : Nat → Int32} {xstretchWays xrowWays xwayOn : Nat → Int64}
variable {ydepth ysteps yresult youtcome yload yover : Int32} {yop ya yb yline ylength yfrom yto yat yhandlers ybegun ytaken ythrown yrowI yrowWay yrowLength ytimes ytold ykOp ykA ykB ykLine ykLength ykFrom ykTo ykAt ykHandlers ykBegun ykTaken ykThrown ykept ymethod ypc yvariable yhereI yhereWay yhereLength yinto ykLoad ypart : Nat → Int32}
theorem hx_skip {post : Int32 → Prop} {m i g n k : Nat} (hm : m < 4) (hg : xguards m = nI g) (hg3 : g ≤ 3) (hk : k ≤ g) : ∀ e j, j + e = k → (∀ q, j ≤ q → q < k → ¬ (¬ nI i < xfroms (3 * m + q) ∧ ¬ xtos (3 * m + q) < nI i)) →
    wX_firstHandler_2 post (nI m) (nI i) xdepth xsignal xcarried xlatest xload xsizes xops xargsA xargsB xlines xguards xfroms xtos xats xbegunCounts xthrownCounts xtakenCounts xslotUsed xslotLoad xstretchNumber xstretchGone xstretchRow xstretchWays xatWork xplace xvariables xrow xrowWays xwayOn xpart n (nI k) → wX_firstHandler_2 post (nI m) (nI i) xdepth xsignal xcarried xlatest xload xsizes xops xargsA xargsB xlines xguards xfroms xtos xats xbegunCounts xthrownCounts xtakenCounts xslotUsed xslotLoad xstretchNumber xstretchGone xstretchRow xstretchWays xatWork xplace xvariables xrow xrowWays xwayOn xpart (n + e) (nI j) := by
  intro e
  induction e with
  | zero => intro j hj _ h; rw [show j = k from hj]; exact h
  | succ e ih =>
    intro j hj hd h
    have h2 := ih (j + 1) (by omega) (fun i h1 h2 => hd i (by omega) (by omega)) h
    have em : (nI m).toNatClampNeg = m := nI_clamp (by omega)
    have hn := hd j (by omega) (by omega)
    have w : vp_in (nI (3 * m + j)) 51 := vp_in_nI (by omega) (by decide)
    rw [show n + (e + 1) = (n + e) + 1 from by omega, wX_firstHandler_2]
    dsimp only
    rw [em, hg]
    refine ⟨vp_in_nI (by omega) (by decide), br_f (nI_ge (by omega) (by omega)) (nm_r (ix_3 m j) ⟨w, ?_⟩)⟩
    rw [nI_clamp (n := 3 * m + j) (by omega)]
    by_cases z : nI i < xfroms (3 * m + j)
    · exact br_t z (nm_r (nI_1 j) h2)
    · refine br_f z ⟨w, br_t (Classical.byContradiction fun y => hn ⟨z, y⟩) (nm_r (nI_1 j) h2)⟩
theorem hx_t {post : Int32 → Prop} {m i g k : Nat} (hm : m < 4) (hg : xguards m = nI g) (hg3 : g ≤ 3) (hk : k < g) (h1 : ∀ q, q < k → ¬ (¬ nI i < xfroms (3 * m + q) ∧ ¬ xtos (3 * m + q) < nI i)) (h2 : ¬ nI i < xfroms (3 * m + k) ∧ ¬ xtos (3 * m + k) < nI i) (hp : post (nI k)) :
    wpX_firstHandler post (xdepth, xsignal, xcarried, xlatest, xload, xsizes, xops, xargsA, xargsB, xlines, xguards, xfroms, xtos, xats, xbegunCounts, xthrownCounts, xtakenCounts, xslotUsed, xslotLoad, xstretchNumber, xstretchGone, xstretchRow, xstretchWays, xatWork, xplace, xvariables, xrow, xrowWays, xwayOn, xpart) (nI m) (nI i) := by
  refine ⟨1 + k, hx_skip (n := 1) hm hg hg3 (Nat.le_of_lt hk) k 0 (by omega) (fun q _ h => h1 q (by omega)) ?_⟩
  have em : (nI m).toNatClampNeg = m := nI_clamp (by omega)
  have w : vp_in (nI (3 * m + k)) 51 := vp_in_nI (by omega) (by decide)
  rw [wX_firstHandler_2]
  dsimp only
  rw [em, hg]
  refine ⟨vp_in_nI (by omega) (by decide), br_f (nI_ge hk (by omega)) (nm_r (ix_3 m k) ⟨w, ?_⟩)⟩
  rw [nI_clamp (n := 3 * m + k) (by omega)]
  exact br_f h2.1 ⟨w, br_f h2.2 hp⟩
theorem hx_n {post : Int32 → Prop} {m i g : Nat} (hm : m < 4) (hg : xguards m = nI g) (hg3 : g ≤ 3) (h1 : ∀ q, q < g → ¬ (¬ nI i < xfroms (3 * m + q) ∧ ¬ xtos (3 * m + q) < nI i)) (hp : post (-1)) :
    wpX_firstHandler post (xdepth, xsignal, xcarried, xlatest, xload, xsizes, xops, xargsA, xargsB, xlines, xguards, xfroms, xtos, xats, xbegunCounts, xthrownCounts, xtakenCounts, xslotUsed, xslotLoad, xstretchNumber, xstretchGone, xstretchRow, xstretchWays, xatWork, xplace, xvariables, xrow, xrowWays, xwayOn, xpart) (nI m) (nI i) := by
  refine ⟨1 + g, hx_skip (n := 1) hm hg hg3 (Nat.le_refl g) g 0 (by omega) (fun q _ h => h1 q (by omega)) ?_⟩
  have em : (nI m).toNatClampNeg = m := nI_clamp (by omega)
  rw [wX_firstHandler_2]
  dsimp only
  rw [em, hg]
  exact ⟨vp_in_nI (by omega) (by decide), br_t (nI_le (by omega) (by omega)) hp⟩
theorem hy_skip {post : SY → Prop} {J0 : _} {x : Int32} {d m i g n k : Nat} (hm : m < 4) (hg : yhandlers m = nI g) (hg3 : g ≤ 3) (hk : k ≤ g) : ∀ e j, j + e = k → (∀ q, j ≤ q → q < k → ¬ (¬ nI i < yfrom (3 * m + q) ∧ ¬ yto (3 * m + q) < nI i)) →
    wY_raise_54 post J0 x (nI d) (nI m) (nI i) ydepth ysteps yresult youtcome yload yover yop ya yb yline ylength yfrom yto yat yhandlers ybegun ytaken ythrown yrowI yrowWay yrowLength ytimes ytold ykOp ykA ykB ykLine ykLength ykFrom ykTo ykAt ykHandlers ykBegun ykTaken ykThrown ykept ymethod ypc yvariable yhereI yhereWay yhereLength yinto ykLoad ypart n (nI (3 * m + k)) → wY_raise_54 post J0 x (nI d) (nI m) (nI i) ydepth ysteps yresult youtcome yload yover yop ya yb yline ylength yfrom yto yat yhandlers ybegun ytaken ythrown yrowI yrowWay yrowLength ytimes ytold ykOp ykA ykB ykLine ykLength ykFrom ykTo ykAt ykHandlers ykBegun ykTaken ykThrown ykept ymethod ypc yvariable yhereI yhereWay yhereLength yinto ykLoad ypart (n + e) (nI (3 * m + j)) := by
  intro e
  induction e with
  | zero => intro j hj _ h; rw [show j = k from hj]; exact h
  | succ e ih =>
    intro j hj hd h
    have h2 := ih (j + 1) (by omega) (fun i h1 h2 => hd i (by omega) (by omega)) h
    have em : (nI m).toNatClampNeg = m := nI_clamp (by omega)
    have hn := hd j (by omega) (by omega)
    have w : vp_in (nI (3 * m + j)) 15 := vp_in_nI (by omega) (by decide)
    rw [show n + (e + 1) = (n + e) + 1 from by omega, wY_raise_54]
    dsimp only
    rw [em, hg, iy_3, nI_clamp (n := 3 * m + j) (by omega)]
    refine ⟨vp_in_nI (by omega) (by decide), br_f (nI_ge (by omega) (by omega)) ⟨w, ?_⟩⟩
    by_cases z : nI i < yfrom (3 * m + j)
    · exact br_t z (nm_r (nI_1 _) h2)
    · refine br_f z ⟨w, br_f (fun y => hn ⟨z, Int32.not_lt.mpr y⟩) (nm_r (nI_1 _) h2)⟩
end
