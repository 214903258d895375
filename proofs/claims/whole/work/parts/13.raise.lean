/-! part 13: one exception at one invocation; what comes of it -/
section
variable {xdepth xsignal xcarried xlatest xload : Int32} {xsizes xops xargsA xargsB xlines xguards xfroms xtos xats xbegunCounts xthrownCounts xtakenCounts xslotUsed xslotLoad xstretchNumber xstretchGone xstretchRow xatWork xplace xvariables xrow xpart : Nat → Int32} {xstretchWays xrowWays xwayOn : Nat → Int64}
variable {ydepth ysteps yresult youtcome yload yover : Int32} {yop ya yb yline ylength yfrom yto yat yhandlers ybegun ytaken ythrown yrowI yrowWay yrowLength ytimes ytold ykOp ykA ykB ykLine ykLength ykFrom ykTo ykAt ykHandlers ykBegun ykTaken ykThrown ykept ymethod ypc yvariable yhereI yhereWay yhereLength yinto ykLoad ypart : Nat → Int32}
theorem rb_R {d m i L n : Nat} {x : Int32} (H : md_R d m i L n (xdepth, xsignal, xcarried, xlatest, xload, xsizes, xops, xargsA, xargsB, xlines, xguards, xfroms, xtos, xats, xbegunCounts, xthrownCounts, xtakenCounts, xslotUsed, xslotLoad, xstretchNumber, xstretchGone, xstretchRow, xstretchWays, xatWork, xplace, xvariables, xrow, xrowWays, xwayOn, xpart) (ydepth, ysteps, yresult, youtcome, yload, yover, yop, ya, yb, yline, ylength, yfrom, yto, yat, yhandlers, ybegun, ytaken, ythrown, yrowI, yrowWay, yrowLength, ytimes, ytold, ykOp, ykA, ykB, ykLine, ykLength, ykFrom, ykTo, ykAt, ykHandlers, ykBegun, ykTaken, ykThrown, ykept, ymethod, ypc, yvariable, yhereI, yhereWay, yhereLength, yinto, ykLoad, ypart)) :
    ∃ (u' : SX) (v' : SY), (∀ post : SX → Prop, post u' → wpX_raise post (xdepth, xsignal, xcarried, xlatest, xload, xsizes, xops, xargsA, xargsB, xlines, xguards, xfroms, xtos, xats, xbegunCounts, xthrownCounts, xtakenCounts, xslotUsed, xslotLoad, xstretchNumber, xstretchGone, xstretchRow, xstretchWays, xatWork, xplace, xvariables, xrow, xrowWays, xwayOn, xpart) x) ∧
      (((∀ (post : SY → Prop) (N : Nat), post v' → wY_raise_0 post x (N + 1) ydepth ysteps yresult youtcome yload yover yop ya yb yline ylength yfrom yto yat yhandlers ybegun ytaken ythrown yrowI yrowWay yrowLength ytimes ytold ykOp ykA ykB ykLine ykLength ykFrom ykTo ykAt ykHandlers ykBegun ykTaken ykThrown ykept ymethod ypc yvariable yhereI yhereWay yhereLength yinto ykLoad ypart) ∧ ∃ t, hd_R d m t L n u' v') ∨
       ((∀ (post : SY → Prop) (N : Nat), (∃ N', ye_W (fun u => match u with | (ydepth, ysteps, yresult, youtcome, yload, yover, yop, ya, yb, yline, ylength, yfrom, yto, yat, yhandlers, ybegun, ytaken, ythrown, yrowI, yrowWay, yrowLength, ytimes, ytold, ykOp, ykA, ykB, ykLine, ykLength, ykFrom, ykTo, ykAt, ykHandlers, ykBegun, ykTaken, ykThrown, ykept, ymethod, ypc, yvariable, yhereI, yhereWay, yhereLength, yinto, ykLoad, ypart) => post (ydepth, ysteps, yresult, youtcome, yload, yover, yop, ya, yb, yline, ylength, yfrom, yto, yat, yhandlers, ybegun, ytaken, ythrown, yrowI, yrowWay, yrowLength, ytimes, ytold, ykOp, ykA, ykB, ykLine, ykLength, ykFrom, ykTo, ykAt, ykHandlers, ykBegun, ykTaken, ykThrown, ykept, ymethod, ypc, yvariable, yhereI, yhereWay, yhereLength, yinto, ykLoad, ypart)) N' 0 1 v') → wY_raise_0 post x (N + 1) ydepth ysteps yresult youtcome yload yover yop ya yb yline ylength yfrom yto yat yhandlers ybegun ytaken ythrown yrowI yrowWay yrowLength ytimes ytold ykOp ykA ykB ykLine ykLength ykFrom ykTo ykAt ykHandlers ykBegun ykTaken ykThrown ykept ymethod ypc yvariable yhereI yhereWay yhereLength yinto ykLoad ypart) ∧ wt_R d (d + 1) 1 0 L n u' v') ∨
       ((∀ (post : SY → Prop) (N : Nat), yr_W post x N v' → wY_raise_0 post x (N + 1) ydepth ysteps yresult youtcome yload yover yop ya yb yline ylength yfrom yto yat yhandlers ybegun ytaken ythrown yrowI yrowWay yrowLength ytimes ytold ykOp ykA ykB ykLine ykLength ykFrom ykTo ykAt ykHandlers ykBegun ykTaken ykThrown ykept ymethod ypc yvariable yhereI yhereWay yhereLength yinto ykLoad ypart) ∧ wt_R d d 2 x L n u' v')) := by
  obtain ⟨hd, hxd, hyd, hsg, hxl, hyl, hst, hov, hou, hre, hP, hC, hS, hF, hB, hT⟩ := H
  obtain ⟨⟨hm, hi, ha, hme, hp, hpc, hv⟩, q, I, W, hl, he, hq⟩ := hB
  obtain ⟨e1, e2, e3⟩ := gp_sz hP hm
  obtain ⟨g1, g2, g3⟩ := gp_gd hP hm
  have h24 : i < 24 := by omega
  have ed : (nI d).toNatClampNeg = d := nI_clamp (by omega)
  have em : (nI m).toNatClampNeg = m := nI_clamp (by omega)
  have w : vp_in (nI d) 6 := vp_in_nI hd (by omega)
  have ex : xdepth - 1 = nI d := by rw [hxd]; exact nI_pred d
  have ey : ydepth - 1 = nI d := by rw [hyd]; exact nI_pred d
  have nz : ¬ ydepth ≤ 0 := by rw [hyd]; exact nI_nle (by omega) (by omega)
  have wx : vp_in (nI m * 24 + nI i) 408 := ix_in (ix_24 m i) (by omega) (by decide)
  have cx : (nI m * 24 + nI i).toNatClampNeg = 24 * m + i := ix_cl (ix_24 m i) (by omega)
  have wy : vp_in (24 * nI m + nI i) 96 := ix_in (iy_24 m i) (by omega) (by decide)
  have cy : (24 * nI m + nI i).toNatClampNeg = 24 * m + i := ix_cl (iy_24 m i) (by omega)
  have hC' := gc_thr hC hm hi h24
  obtain ⟨sn, sg, sr, sw, ri, rv, rl, ti, tl, hX, hY, hS'⟩ := cl_R (xdepth := xdepth) (xsignal := xsignal) (xcarried := xcarried) (xlatest := xlatest) (xload := xload) (xsizes := xsizes) (xops := xops) (xargsA := xargsA) (xargsB := xargsB) (xlines := xlines) (xguards := xguards) (xfroms := xfroms) (xtos := xtos) (xats := xats) (xbegunCounts := xbegunCounts) (xthrownCounts := upd xthrownCounts (24 * m + i) (xthrownCounts (24 * m + i) + 1)) (xtakenCounts := xtakenCounts) (xslotUsed := xslotUsed) (xslotLoad := xslotLoad) (xstretchNumber := xstretchNumber) (xstretchGone := xstretchGone) (xstretchRow := xstretchRow) (xstretchWays := xstretchWays) (xatWork := xatWork) (xplace := xplace) (xvariables := xvariables) (xrow := xrow) (xrowWays := xrowWays) (xwayOn := xwayOn) (xpart := xpart) (ydepth := ydepth) (ysteps := ysteps) (yresult := yresult) (youtcome := youtcome) (yload := yload) (yover := yover) (yop := yop) (ya := ya) (yb := yb) (yline := yline) (ylength := ylength) (yfrom := yfrom) (yto := yto) (yat := yat) (yhandlers := yhandlers) (ybegun := ybegun) (ytaken := ytaken) (ythrown := upd ythrown (24 * m + i) (ythrown (24 * m + i) + 1)) (yrowI := yrowI) (yrowWay := yrowWay) (yrowLength := yrowLength) (ytimes := ytimes) (ytold := ytold) (ykOp := ykOp) (ykA := ykA) (ykB := ykB) (ykLine := ykLine) (ykLength := ykLength) (ykFrom := ykFrom) (ykTo := ykTo) (ykAt := ykAt) (ykHandlers := ykHandlers) (ykBegun := ykBegun) (ykTaken := ykTaken) (ykThrown := ykThrown) (ykept := ykept) (ymethod := ymethod) (ypc := ypc) (yvariable := yvariable) (yhereI := yhereI) (yhereWay := yhereWay) (yhereLength := yhereLength) (yinto := yinto) (ykLoad := ykLoad) (ypart := ypart) hd hm ha hme hl he hS hyd
  have hL : (fr_L (sz_f xsizes) xatWork xplace xvariables (upd xrow d 0) (vp_updL xrowWays d 0) ymethod ypc yvariable yhereI yhereWay (upd yhereLength d 0) d) := fr_L_lo hF lo_r lo_r lo_r (lo_u (Nat.le_refl d)) (lo_uL (Nat.le_refl d)) lo_r lo_r lo_r lo_r lo_r (lo_u (Nat.le_refl d))
  have X0 : ∀ post : SX → Prop, (∀ post' : SX → Prop, (∀ u, post' u = (fun u => match u with | (xdepth, xsignal, xcarried, xlatest, xload, xsizes, xops, xargsA, xargsB, xlines, xguards, xfroms, xtos, xats, xbegunCounts, xthrownCounts, xtakenCounts, xslotUsed, xslotLoad, xstretchNumber, xstretchGone, xstretchRow, xstretchWays, xatWork, xplace, xvariables, xrow, xrowWays, xwayOn, xpart) => wpX_firstHandler (fun r_40 => (((r_40 = (-1) → (wpX_leave (fun u => match u with | (xdepth, xsignal, xcarried, xlatest, xload, xsizes, xops, xargsA, xargsB, xlines, xguards, xfroms, xtos, xats, xbegunCounts, xthrownCounts, xtakenCounts, xslotUsed, xslotLoad, xstretchNumber, xstretchGone, xstretchRow, xstretchWays, xatWork, xplace, xvariables, xrow, xrowWays, xwayOn, xpart) => (post (xdepth, xsignal, xcarried, xlatest, xload, xsizes, xops, xargsA, xargsB, xlines, xguards, xfroms, xtos, xats, xbegunCounts, xthrownCounts, xtakenCounts, xslotUsed, xslotLoad, xstretchNumber, xstretchGone, xstretchRow, xstretchWays, xatWork, xplace, xvariables, xrow, xrowWays, xwayOn, xpart))) (xdepth, xsignal, xcarried, xlatest, xload, xsizes, xops, xargsA, xargsB, xlines, xguards, xfroms, xtos, xats, xbegunCounts, xthrownCounts, xtakenCounts, xslotUsed, xslotLoad, xstretchNumber, xstretchGone, xstretchRow, xstretchWays, xatWork, xplace, xvariables, xrow, xrowWays, xwayOn, xpart) 2 x)) ∧ (¬ r_40 = (-1) → (vp_in ((nI m * 3) + r_40) 51 ∧ (vp_in (nI m) 17 ∧ ((((xats ((nI m * 3) + r_40).toNatClampNeg) < (xsizes (nI m).toNatClampNeg) → (vp_in (nI d * 4) 24 ∧ ∀ a : Nat → Int32, a = upd xvariables (nI d * 4).toNatClampNeg x → (vp_in ((nI m * 3) + r_40) 51 ∧ (vp_in (nI d) 6 ∧ ∀ b : Nat → Int32, b = upd xplace (nI d).toNatClampNeg (xats ((nI m * 3) + r_40).toNatClampNeg) → (post (xdepth, xsignal, xcarried, xlatest, xload, xsizes, xops, xargsA, xargsB, xlines, xguards, xfroms, xtos, xats, xbegunCounts, xthrownCounts, xtakenCounts, xslotUsed, xslotLoad, xstretchNumber, xstretchGone, xstretchRow, xstretchWays, xatWork, b, a, xrow, xrowWays, xwayOn, xpart)))))) ∧ (¬ (xats ((nI m * 3) + r_40).toNatClampNeg) < (xsizes (nI m).toNatClampNeg) → (wpX_leave (fun u => match u with | (xdepth, xsignal, xcarried, xlatest, xload, xsizes, xops, xargsA, xargsB, xlines, xguards, xfroms, xtos, xats, xbegunCounts, xthrownCounts, xtakenCounts, xslotUsed, xslotLoad, xstretchNumber, xstretchGone, xstretchRow, xstretchWays, xatWork, xplace, xvariables, xrow, xrowWays, xwayOn, xpart) => (post (xdepth, xsignal, xcarried, xlatest, xload, xsizes, xops, xargsA, xargsB, xlines, xguards, xfroms, xtos, xats, xbegunCounts, xthrownCounts, xtakenCounts, xslotUsed, xslotLoad, xstretchNumber, xstretchGone, xstretchRow, xstretchWays, xatWork, xplace, xvariables, xrow, xrowWays, xwayOn, xpart))) (xdepth, xsignal, xcarried, xlatest, xload, xsizes, xops, xargsA, xargsB, xlines, xguards, xfroms, xtos, xats, xbegunCounts, xthrownCounts, xtakenCounts, xslotUsed, xslotLoad, xstretchNumber, xstretchGone, xstretchRow, xstretchWays, xatWork, xplace, xvariables, xrow, xrowWays, xwayOn, xpart) 1 0)))))))))) (xdepth, xsignal, xcarried, xlatest, xload, xsizes, xops, xargsA, xargsB, xlines, xguards, xfroms, xtos, xats, xbegunCounts, xthrownCounts, xtakenCounts, xslotUsed, xslotLoad, xstretchNumber, xstretchGone, xstretchRow, xstretchWays, xatWork, xplace, xvariables, xrow, xrowWays, xwayOn, xpart) (nI m) (nI i)) u) → post' (xdepth, xsignal, xcarried, xlatest, xload, xsizes, xops, xargsA, xargsB, xlines, xguards, xfroms, xtos, xats, xbegunCounts, upd xthrownCounts (24 * m + i) (xthrownCounts (24 * m + i) + 1), xtakenCounts, xslotUsed, xslotLoad, sn, sg, sr, sw, xatWork, xplace, xvariables, upd xrow d 0, vp_updL xrowWays d 0, vp_updL xwayOn d 0, xpart)) → wpX_raise post (xdepth, xsignal, xcarried, xlatest, xload, xsizes, xops, xargsA, xargsB, xlines, xguards, xfroms, xtos, xats, xbegunCounts, xthrownCounts, xtakenCounts, xslotUsed, xslotLoad, xstretchNumber, xstretchGone, xstretchRow, xstretchWays, xatWork, xplace, xvariables, xrow, xrowWays, xwayOn, xpart) x := by
    intro post h
    exact nm_r ex ⟨w, nm_r (e' := nI m) (by rw [ed]; exact ha) ⟨w, nm_r (e' := nI i) (by rw [ed]; exact hp) ⟨wx, wx, nm_r (e' := upd xthrownCounts (24 * m + i) (xthrownCounts (24 * m + i) + 1)) (by rw [cx]) (hX _ (h _ (fun _ => rfl)))⟩⟩⟩
  have Y0 : ∀ (post : SY → Prop) (N : Nat), (∃ n54 : Nat, wY_raise_54 post (wY_raise_0 post x N) x (nI d) (nI m) (nI i) ydepth ysteps yresult youtcome yload yover yop ya yb yline ylength yfrom yto yat yhandlers ybegun ytaken (upd ythrown (24 * m + i) (ythrown (24 * m + i) + 1)) ri rv rl ti tl ykOp ykA ykB ykLine ykLength ykFrom ykTo ykAt ykHandlers ykBegun ykTaken ykThrown ykept ymethod ypc yvariable yhereI yhereWay (upd yhereLength d 0) yinto ykLoad ypart n54 (nI (3 * m))) → wY_raise_0 post x (N + 1) ydepth ysteps yresult youtcome yload yover yop ya yb yline ylength yfrom yto yat yhandlers ybegun ytaken ythrown yrowI yrowWay yrowLength ytimes ytold ykOp ykA ykB ykLine ykLength ykFrom ykTo ykAt ykHandlers ykBegun ykTaken ykThrown ykept ymethod ypc yvariable yhereI yhereWay yhereLength yinto ykLoad ypart := by
    intro post N h
    rw [wY_raise_0]
    exact br_f nz (nm_r ey ⟨w, nm_r (e' := nI m) (by rw [ed]; exact hme) ⟨w, nm_r (e' := nI i) (by rw [ed]; exact hpc) ⟨wy, wy, nm_r (e' := upd ythrown (24 * m + i) (ythrown (24 * m + i) + 1)) (by rw [cy]) (hY _ (nm_r (e' := nI (3 * m)) (pk_mul 3 m) h))⟩⟩⟩)
  obtain ⟨k, k1, k2, k3⟩ := st_find (fun q => ¬ nI i < xfroms (3 * m + q) ∧ ¬ xtos (3 * m + q) < nI i) (sz_f xguards m)
  have ky : ∀ q, q < sz_f xguards m → ((¬ nI i < xfroms (3 * m + q) ∧ ¬ xtos (3 * m + q) < nI i) ↔ (¬ nI i < yfrom (3 * m + q) ∧ ¬ yto (3 * m + q) < nI i)) := by
    intro q hq
    rw [gp_fr hP hm (show q < 3 by omega), gp_to hP hm (show q < 3 by omega)]
  have YS : ∀ (post : SY → Prop) (N : Nat), wY_raise_54 post (wY_raise_0 post x N) x (nI d) (nI m) (nI i) ydepth ysteps yresult youtcome yload yover yop ya yb yline ylength yfrom yto yat yhandlers ybegun ytaken (upd ythrown (24 * m + i) (ythrown (24 * m + i) + 1)) ri rv rl ti tl ykOp ykA ykB ykLine ykLength ykFrom ykTo ykAt ykHandlers ykBegun ykTaken ykThrown ykept ymethod ypc yvariable yhereI yhereWay (upd yhereLength d 0) yinto ykLoad ypart 1 (nI (3 * m + k)) → wY_raise_0 post x (N + 1) ydepth ysteps yresult youtcome yload yover yop ya yb yline ylength yfrom yto yat yhandlers ybegun ytaken ythrown yrowI yrowWay yrowLength ytimes ytold ykOp ykA ykB ykLine ykLength ykFrom ykTo ykAt ykHandlers ykBegun ykTaken ykThrown ykept ymethod ypc yvariable yhereI yhereWay yhereLength yinto ykLoad ypart := by
    intro post N h
    refine Y0 post N ⟨1 + k, ?_⟩
    exact hy_skip hm g2 g3 k1 k 0 (by omega) (fun q _ h y => k2 q h ((ky q (by omega)).mpr y)) h
  rcases Nat.lt_or_ge k (sz_f xguards m) with y | y
  · have c := k3 y
    have cy' := (ky k y).mp c
    obtain ⟨a, ha24, eax, eay⟩ := gp_at hP hm (show k < 3 by omega)
    have nk : ¬ nI k = -1 := fun z => by
      have q := nI_pos (n := k) (by omega)
      rw [z] at q
      exact q (by decide)
    have w51 : vp_in (nI m * 3 + nI k) 51 := ix_in (ix_3 m k) (by omega) (by decide)
    have c51 : (nI m * 3 + nI k).toNatClampNeg = 3 * m + k := ix_cl (ix_3 m k) (by omega)
    have w17 : vp_in (nI m) 17 := vp_in_nI (by omega) (by decide)
    have w5 : vp_in (nI m) 5 := vp_in_nI (by omega) (by decide)
    have w15 : vp_in (nI (3 * m + k)) 15 := vp_in_nI (by omega) (by decide)
    have c15 : (nI (3 * m + k)).toNatClampNeg = 3 * m + k := nI_clamp (by omega)
    have wv : vp_in (nI d * 4) 24 := ix_in (ix_c d 4) (by omega) (by decide)
    have cv : (nI d * 4).toNatClampNeg = 4 * d := ix_cl (ix_c d 4) (by omega)
    have wv' : vp_in (4 * nI d) 24 := ix_in (pk_mul 4 d) (by omega) (by decide)
    have cv' : (4 * nI d).toNatClampNeg = 4 * d := ix_cl (pk_mul 4 d) (by omega)
    rcases Nat.lt_or_ge a (sz_f xsizes m) with z | z
    · refine ⟨(xdepth, xsignal, xcarried, xlatest, xload, xsizes, xops, xargsA, xargsB, xlines, xguards, xfroms, xtos, xats, xbegunCounts, upd xthrownCounts (24 * m + i) (xthrownCounts (24 * m + i) + 1), xtakenCounts, xslotUsed, xslotLoad, sn, sg, sr, sw, xatWork, upd xplace d (nI a), upd xvariables (4 * d) x, upd xrow d 0, vp_updL xrowWays d 0, vp_updL xwayOn d 0, xpart), (ydepth, ysteps, yresult, youtcome, yload, yover, yop, ya, yb, yline, ylength, yfrom, yto, yat, yhandlers, ybegun, ytaken, upd ythrown (24 * m + i) (ythrown (24 * m + i) + 1), ri, rv, rl, ti, tl, ykOp, ykA, ykB, ykLine, ykLength, ykFrom, ykTo, ykAt, ykHandlers, ykBegun, ykTaken, ykThrown, ykept, ymethod, upd ypc d (nI a), upd yvariable (4 * d) x, yhereI, yhereWay, upd yhereLength d 0, yinto, ykLoad, ypart), fun post h => X0 post (fun post' hq => ?_), Or.inl ⟨fun post N h => YS post N ?_, a, ?_⟩⟩
      · rw [hq]
        refine hx_t hm g1 g3 y (fun q h => k2 q h) c (br_f nk ⟨w51, w17, ?_⟩)
        rw [c51, em, eax, e1, cv, ed]
        exact br_t (nI_lt z (by omega)) ⟨wv, nm_e ⟨w51, w, nm_e h⟩⟩
      · rw [wY_raise_54]
        dsimp only
        rw [em, g2, iy_3, c15, eay, e2, cv', ed]
        exact ⟨w5, br_f (nI_ge (by omega) (by omega)) ⟨w15, br_f cy'.1 ⟨w15, br_t (Int32.not_lt.mp cy'.2) ⟨wv', nm_e ⟨w15, w, nm_e ⟨w15, w5, br_t (nI_lt z (by omega)) h⟩⟩⟩⟩⟩⟩
      · refine ⟨hd, hxd, hyd, hsg, hxl, hyl, hst, hov, hou, hre, hP, hC', hS', ?_, ⟨⟨hm, z, ha, hme, pk_us, pk_us, fun k hk => ?_⟩, 0, I, W, pk_us, ?_, Or.inl ⟨rfl, pk_uLs⟩⟩, tb_w hT (by omega)⟩
        · exact fr_L_lo hF lo_r (lo_u (Nat.le_refl d)) (lo_u (Nat.le_refl _)) (lo_u (Nat.le_refl d)) (lo_uL (Nat.le_refl d)) lo_r (lo_u (Nat.le_refl d)) (lo_u (Nat.le_refl _)) lo_r lo_r (lo_u (Nat.le_refl d))
        · by_cases j : 4 * d + k = 4 * d
          · rw [j, pk_us, pk_us]
          · rw [pk_un j, pk_un j]; exact hv k hk
        · rw [pk_us, pk_uLs]; exact en_0 _ _ _ I W
    · refine ⟨(nI d, 1, 0, xlatest, xload, xsizes, xops, xargsA, xargsB, xlines, xguards, xfroms, xtos, xats, xbegunCounts, upd xthrownCounts (24 * m + i) (xthrownCounts (24 * m + i) + 1), xtakenCounts, xslotUsed, xslotLoad, sn, sg, sr, sw, xatWork, xplace, xvariables, upd xrow d 0, vp_updL xrowWays d 0, vp_updL xwayOn d 0, xpart), (ydepth, ysteps, yresult, youtcome, yload, yover, yop, ya, yb, yline, ylength, yfrom, yto, yat, yhandlers, ybegun, ytaken, upd ythrown (24 * m + i) (ythrown (24 * m + i) + 1), ri, rv, rl, ti, tl, ykOp, ykA, ykB, ykLine, ykLength, ykFrom, ykTo, ykAt, ykHandlers, ykBegun, ykTaken, ykThrown, ykept, ymethod, upd ypc d (nI a), upd yvariable (4 * d) x, yhereI, yhereWay, upd yhereLength d 0, yinto, ykLoad, ypart), fun post h => X0 post (fun post' hq => ?_), Or.inr (Or.inl ⟨fun post N h => YS post N ?_, ?_⟩)⟩
      · rw [hq]
        refine hx_t hm g1 g3 y (fun q h => k2 q h) c (br_f nk ⟨w51, w17, ?_⟩)
        rw [c51, em, eax, e1]
        exact br_f (nI_nlt z (by omega)) (nm_r ex h)
      · rw [wY_raise_54]
        dsimp only
        rw [em, g2, iy_3, c15, eay, e2, cv', ed]
        exact ⟨w5, br_f (nI_ge (by omega) (by omega)) ⟨w15, br_f cy'.1 ⟨w15, br_t (Int32.not_lt.mp cy'.2) ⟨wv', nm_e ⟨w15, w, nm_e ⟨w15, w5, br_f (nI_nlt z (by omega)) h⟩⟩⟩⟩⟩⟩
      · refine ⟨hd, rfl, hyd, rfl, rfl, hxl, hyl, hst, hov, hou, hre, hP, hC', hS', ?_, tb_w hT (by omega)⟩
        exact fr_L_lo hF lo_r lo_r lo_r (lo_u (Nat.le_refl d)) (lo_uL (Nat.le_refl d)) lo_r (lo_u (Nat.le_refl d)) (lo_u (Nat.le_refl _)) lo_r lo_r (lo_u (Nat.le_refl d))
  · have ek : k = sz_f xguards m := by omega
    refine ⟨(nI d, 2, x, xlatest, xload, xsizes, xops, xargsA, xargsB, xlines, xguards, xfroms, xtos, xats, xbegunCounts, upd xthrownCounts (24 * m + i) (xthrownCounts (24 * m + i) + 1), xtakenCounts, xslotUsed, xslotLoad, sn, sg, sr, sw, xatWork, xplace, xvariables, upd xrow d 0, vp_updL xrowWays d 0, vp_updL xwayOn d 0, xpart), (nI d, ysteps, yresult, youtcome, yload, yover, yop, ya, yb, yline, ylength, yfrom, yto, yat, yhandlers, ybegun, ytaken, upd ythrown (24 * m + i) (ythrown (24 * m + i) + 1), ri, rv, rl, ti, tl, ykOp, ykA, ykB, ykLine, ykLength, ykFrom, ykTo, ykAt, ykHandlers, ykBegun, ykTaken, ykThrown, ykept, ymethod, ypc, yvariable, yhereI, yhereWay, upd yhereLength d 0, yinto, ykLoad, ypart), fun post h => X0 post (fun post' hq => ?_), Or.inr (Or.inr ⟨fun post N h => YS post N ?_, ?_⟩)⟩
    · rw [hq]
      exact hx_n hm g1 g3 (fun q h => k2 q (by omega)) (br_t rfl (nm_r ex h))
    · rw [wY_raise_54]
      dsimp only
      rw [em, g2, iy_3, ek]
      exact ⟨vp_in_nI (by omega) (by decide), br_t (nI_le (by omega) (by omega)) (nm_r ey h)⟩
    · exact ⟨hd, rfl, rfl, rfl, rfl, hxl, hyl, hst, hov, hou, hre, hP, hC', hS', hL, tb_w hT (by omega)⟩
end
theorem pr_R {L n : Nat} {x : Int32} : ∀ (D turn : Nat) (u : SX) (v : SY), turn + D ≤ 5 → wt_R D D 2 x L n u v →
    ∃ (u' : SX) (v' : SY), (∀ (post : SX → Prop) (N : Nat), D < N → post u' → xp_W post N (nI turn) u) ∧ (∀ (post : SY → Prop) (N : Nat), D < N → post v' → yr_W post x N v) ∧ rs_R L n u' v' := by
  intro D
  induction D with
  | zero =>
    intro turn u v hturn H
    obtain ⟨xdepth, xsignal, xcarried, xlatest, xload, xsizes, xops, xargsA, xargsB, xlines, xguards, xfroms, xtos, xats, xbegunCounts, xthrownCounts, xtakenCounts, xslotUsed, xslotLoad, xstretchNumber, xstretchGone, xstretchRow, xstretchWays, xatWork, xplace, xvariables, xrow, xrowWays, xwayOn, xpart⟩ := u
    obtain ⟨ydepth, ysteps, yresult, youtcome, yload, yover, yop, ya, yb, yline, ylength, yfrom, yto, yat, yhandlers, ybegun, ytaken, ythrown, yrowI, yrowWay, yrowLength, ytimes, ytold, ykOp, ykA, ykB, ykLine, ykLength, ykFrom, ykTo, ykAt, ykHandlers, ykBegun, ykTaken, ykThrown, ykept, ymethod, ypc, yvariable, yhereI, yhereWay, yhereLength, yinto, ykLoad, ypart⟩ := v
    obtain ⟨hd, hxd, hyd, hsg, hca, hxl, hyl, hst, hov, hou, hre, hP, hC, hS, hF, hT⟩ := H
    refine ⟨(xdepth, xsignal, xcarried, xlatest, xload, xsizes, xops, xargsA, xargsB, xlines, xguards, xfroms, xtos, xats, xbegunCounts, xthrownCounts, xtakenCounts, xslotUsed, xslotLoad, xstretchNumber, xstretchGone, xstretchRow, xstretchWays, xatWork, xplace, xvariables, xrow, xrowWays, xwayOn, xpart), (ydepth, ysteps, x, 1, yload, 1, yop, ya, yb, yline, ylength, yfrom, yto, yat, yhandlers, ybegun, ytaken, ythrown, yrowI, yrowWay, yrowLength, ytimes, ytold, ykOp, ykA, ykB, ykLine, ykLength, ykFrom, ykTo, ykAt, ykHandlers, ykBegun, ykTaken, ykThrown, ykept, ymethod, ypc, yvariable, yhereI, yhereWay, yhereLength, yinto, ykLoad, ypart), fun post N hN hp => ?_, fun post N hN hp => ?_, Or.inr ⟨2, x, hxd, hsg, hca, rfl, rfl, Or.inr ⟨rfl, rfl⟩, hxl, hyl, hP, hC, hS, hT⟩⟩
    · obtain ⟨N, rfl⟩ : ∃ M, N = M + 1 := ⟨N - 1, by omega⟩
      have z : xdepth ≤ 0 := by rw [hxd]; decide
      show wX_passOn_2 post (N + 1) (nI turn) xdepth xsignal xcarried xlatest xload xsizes xops xargsA xargsB xlines xguards xfroms xtos xats xbegunCounts xthrownCounts xtakenCounts xslotUsed xslotLoad xstretchNumber xstretchGone xstretchRow xstretchWays xatWork xplace xvariables xrow xrowWays xwayOn xpart
      rw [wX_passOn_2]
      exact br_f (ps_6 (by omega)) (br_t z hp)
    · obtain ⟨N, rfl⟩ : ∃ M, N = M + 1 := ⟨N - 1, by omega⟩
      have z : ydepth ≤ 0 := by rw [hyd]; decide
      show wY_raise_0 post x (N + 1) ydepth ysteps yresult youtcome yload yover yop ya yb yline ylength yfrom yto yat yhandlers ybegun ytaken ythrown yrowI yrowWay yrowLength ytimes ytold ykOp ykA ykB ykLine ykLength ykFrom ykTo ykAt ykHandlers ykBegun ykTaken ykThrown ykept ymethod ypc yvariable yhereI yhereWay yhereLength yinto ykLoad ypart
      rw [wY_raise_0]
      exact br_t z hp
  | succ D ih =>
    intro turn u v hturn H
    obtain ⟨xdepth, xsignal, xcarried, xlatest, xload, xsizes, xops, xargsA, xargsB, xlines, xguards, xfroms, xtos, xats, xbegunCounts, xthrownCounts, xtakenCounts, xslotUsed, xslotLoad, xstretchNumber, xstretchGone, xstretchRow, xstretchWays, xatWork, xplace, xvariables, xrow, xrowWays, xwayOn, xpart⟩ := u
    obtain ⟨ydepth, ysteps, yresult, youtcome, yload, yover, yop, ya, yb, yline, ylength, yfrom, yto, yat, yhandlers, ybegun, ytaken, ythrown, yrowI, yrowWay, yrowLength, ytimes, ytold, ykOp, ykA, ykB, ykLine, ykLength, ykFrom, ykTo, ykAt, ykHandlers, ykBegun, ykTaken, ykThrown, ykept, ymethod, ypc, yvariable, yhereI, yhereWay, yhereLength, yinto, ykLoad, ypart⟩ := v
    obtain ⟨hd, hxd, hyd, hsg, hca, hxl, hyl, hst, hov, hou, hre, hP, hC, hS, hF, hT⟩ := H
    obtain ⟨m, i, hB⟩ := hF D (by omega)
    have M : md_R D m i L n (xdepth, 0, xcarried, xlatest, xload, xsizes, xops, xargsA, xargsB, xlines, xguards, xfroms, xtos, xats, xbegunCounts, xthrownCounts, xtakenCounts, xslotUsed, xslotLoad, xstretchNumber, xstretchGone, xstretchRow, xstretchWays, xatWork, xplace, xvariables, xrow, xrowWays, xwayOn, xpart) (ydepth, ysteps, yresult, youtcome, yload, yover, yop, ya, yb, yline, ylength, yfrom, yto, yat, yhandlers, ybegun, ytaken, ythrown, yrowI, yrowWay, yrowLength, ytimes, ytold, ykOp, ykA, ykB, ykLine, ykLength, ykFrom, ykTo, ykAt, ykHandlers, ykBegun, ykTaken, ykThrown, ykept, ymethod, ypc, yvariable, yhereI, yhereWay, yhereLength, yinto, ykLoad, ypart) := ⟨by omega, hxd, hyd, rfl, hxl, hyl, hst, hov, hou, hre, hP, hC, hS, fr_L_le hF (by omega), hB, hT⟩
    obtain ⟨u1, v1, hX, hY⟩ := rb_R (x := xcarried) M
    rw [hca] at hY
    have X0 : ∀ (post : SX → Prop) (N : Nat), xp_W post N (nI (turn + 1)) u1 → xp_W post (N + 1) (nI turn) (xdepth, xsignal, xcarried, xlatest, xload, xsizes, xops, xargsA, xargsB, xlines, xguards, xfroms, xtos, xats, xbegunCounts, xthrownCounts, xtakenCounts, xslotUsed, xslotLoad, xstretchNumber, xstretchGone, xstretchRow, xstretchWays, xatWork, xplace, xvariables, xrow, xrowWays, xwayOn, xpart) := by
      intro post N h
      have z : ¬ xdepth ≤ 0 := by rw [hxd]; exact nI_nle (by omega) (by omega)
      have z1 : ¬ xsignal = 0 := by rw [hsg]; decide
      show wX_passOn_2 post (N + 1) (nI turn) xdepth xsignal xcarried xlatest xload xsizes xops xargsA xargsB xlines xguards xfroms xtos xats xbegunCounts xthrownCounts xtakenCounts xslotUsed xslotLoad xstretchNumber xstretchGone xstretchRow xstretchWays xatWork xplace xvariables xrow xrowWays xwayOn xpart
      rw [wX_passOn_2]
      refine br_f (ps_6 (by omega)) (br_f z (br_f z1 (br_t hsg (hX _ ?_))))
      obtain ⟨xdepth1, xsignal1, xcarried1, xlatest1, xload1, xsizes1, xops1, xargsA1, xargsB1, xlines1, xguards1, xfroms1, xtos1, xats1, xbegunCounts1, xthrownCounts1, xtakenCounts1, xslotUsed1, xslotLoad1, xstretchNumber1, xstretchGone1, xstretchRow1, xstretchWays1, xatWork1, xplace1, xvariables1, xrow1, xrowWays1, xwayOn1, xpart1⟩ := u1
      exact nm_r (nI_1 turn) h
    rcases hY with ⟨hY, t, hH⟩ | ⟨hY, hW⟩ | ⟨hY, hW⟩
    · refine ⟨u1, v1, fun post N hN hp => ?_, fun post N hN hp => ?_, Or.inl ⟨D, m, t, hH⟩⟩
      · obtain ⟨N, rfl⟩ : ∃ M, N = M + 2 := ⟨N - 2, by omega⟩
        exact X0 post (N + 1) (ps_0 (by omega) hH hp)
      · obtain ⟨N, rfl⟩ : ∃ M, N = M + 1 := ⟨N - 1, by omega⟩
        exact hY post N hp
    · obtain ⟨u', v', iX, iY, iR⟩ := pg_R D (turn + 1) 0 u1 v1 (by omega) hW
      refine ⟨u', v', fun post N hN hp => ?_, fun post N hN hp => ?_, iR⟩
      · obtain ⟨N, rfl⟩ : ∃ M, N = M + 1 := ⟨N - 1, by omega⟩
        exact X0 post N (iX post N (by omega) hp)
      · obtain ⟨N, rfl⟩ : ∃ M, N = M + 1 := ⟨N - 1, by omega⟩
        refine hY post N ⟨D + 2, iY _ (D + 2) (by omega) ?_⟩
        obtain ⟨ydepth1, ysteps1, yresult1, youtcome1, yload1, yover1, yop1, ya1, yb1, yline1, ylength1, yfrom1, yto1, yat1, yhandlers1, ybegun1, ytaken1, ythrown1, yrowI1, yrowWay1, yrowLength1, ytimes1, ytold1, ykOp1, ykA1, ykB1, ykLine1, ykLength1, ykFrom1, ykTo1, ykAt1, ykHandlers1, ykBegun1, ykTaken1, ykThrown1, ykept1, ymethod1, ypc1, yvariable1, yhereI1, yhereWay1, yhereLength1, yinto1, ykLoad1, ypart1⟩ := v'
        exact hp
    · obtain ⟨u', v', iX, iY, iR⟩ := ih (turn + 1) u1 v1 (by omega) hW
      refine ⟨u', v', fun post N hN hp => ?_, fun post N hN hp => ?_, iR⟩
      · obtain ⟨N, rfl⟩ : ∃ M, N = M + 1 := ⟨N - 1, by omega⟩
        exact X0 post N (iX post N (by omega) hp)
      · obtain ⟨N, rfl⟩ : ∃ M, N = M + 1 := ⟨N - 1, by omega⟩
        exact hY post N (iY post N (by omega) hp)
