/-! part 20: copies and clearings; define, reset -/
theorem cy_1 {S T : Nat} {x y : Nat → Int32} : upd x T (y S) = cy_f S T 1 x y := by
  have h := cy_s (S := S) (T := T) (i := 0) (x := x) (y := y)
  rw [cy_0] at h
  exact h
theorem ix_z (b i k : Nat) : nI (24 * b + i) * 4 + nI k = nI (96 * b + (4 * i + k)) := by
  rw [ix_4]
  exact congrArg nI (by omega)
theorem iy_z (b i k : Nat) : 4 * nI (24 * b + i) + nI k = nI (96 * b + (4 * i + k)) := by
  rw [iy_4]
  exact congrArg nI (by omega)
theorem tb_zr {L T n : Nat} {tk : Nat → Int32} (h : tb_R 0 L tk) : tb_R 0 L (zr_f T n tk) := by
  intro j hj
  by_cases w : T ≤ j ∧ j < T + n
  · rw [zr_in w.1 w.2]; exact ⟨0, rfl, by omega⟩
  · rw [zr_out (by omega)]; exact h j hj
section
variable {xdepth xsignal xcarried xlatest xload : Int32} {xsizes xops xargsA xargsB xlines xguards xfroms xtos xats xbegunCounts xthrownCounts xtakenCounts xslotUsed xslotLoad xstretchNumber xstretchGone xstretchRow xatWork xplace xvariables xrow xpart : Nat → Int32} {xstretchWays xrowWays xwayOn : Nat → Int64}
variable {ydepth ysteps yresult youtcome yload yover : Int32} {yop ya yb yline ylength yfrom yto yat yhandlers ybegun ytaken ythrown yrowI yrowWay yrowLength ytimes ytold ykOp ykA ykB ykLine ykLength ykFrom ykTo ykAt ykHandlers ykBegun ykTaken ykThrown ykept ymethod ypc yvariable yhereI yhereWay yhereLength yinto ykLoad ypart : Nat → Int32}
theorem cp_X3 {post : SX → Prop} {s t : Nat} (hs : s < 17) (ht : t < 17) (hst : s ≠ t)
    (h : post (xdepth, xsignal, xcarried, xlatest, xload, xsizes, xops, xargsA, xargsB, xlines, xguards, cy_f (3 * s) (3 * t) 3 xfroms xfroms, cy_f (3 * s) (3 * t) 3 xtos xtos, cy_f (3 * s) (3 * t) 3 xats xats, xbegunCounts, xthrownCounts, xtakenCounts, xslotUsed, xslotLoad, xstretchNumber, xstretchGone, xstretchRow, xstretchWays, xatWork, xplace, xvariables, xrow, xrowWays, xwayOn, xpart)) :
    ∀ e j, j + e = 3 → wX_copyProgram_112 post (nI s) (nI t) xdepth xsignal xcarried xlatest xload (e + 1) (nI j) xsizes xops xargsA xargsB xlines xguards (cy_f (3 * s) (3 * t) j xfroms xfroms) (cy_f (3 * s) (3 * t) j xtos xtos) (cy_f (3 * s) (3 * t) j xats xats) xbegunCounts xthrownCounts xtakenCounts xslotUsed xslotLoad xstretchNumber xstretchGone xstretchRow xstretchWays xatWork xplace xvariables xrow xrowWays xwayOn xpart := by
  intro e
  induction e with
  | zero =>
    intro j hj
    have z : j = 3 := by omega
    subst z
    rw [wX_copyProgram_112]
    exact br_t (by decide) h
  | succ e ih =>
    intro j hj
    have h2 := ih (j + 1) (by omega)
    have ws : vp_in (nI (3 * s + j)) 51 := vp_in_nI (by omega) (by decide)
    have wt : vp_in (nI (3 * t + j)) 51 := vp_in_nI (by omega) (by decide)
    have cs : (nI (3 * s + j)).toNatClampNeg = 3 * s + j := nI_clamp (by omega)
    have ct : (nI (3 * t + j)).toNatClampNeg = 3 * t + j := nI_clamp (by omega)
    have hd : 3 * s + 3 ≤ 3 * t ∨ 3 * t + 3 ≤ 3 * s := by omega
    rw [wX_copyProgram_112]
    refine br_f (nI_ge (b := 3) (by omega) (by decide)) (nm_r (ix_3 s j) (nm_r (ix_3 t j) ?_))
    rw [cs, ct]
    exact ⟨ws, wt, nm_r (cy_self hd (by omega)) ⟨ws, wt, nm_r (cy_self hd (by omega)) ⟨ws, wt, nm_r (cy_self hd (by omega)) (nm_r (nI_1 j) h2)⟩⟩⟩
theorem cp_X24 {post : SX → Prop} {s t : Nat} (hs : s < 17) (ht : t < 17) (hst : s ≠ t)
    (h : ∃ n, wX_copyProgram_112 post (nI s) (nI t) xdepth xsignal xcarried xlatest xload n 0 xsizes (cy_f (24 * s) (24 * t) 24 xops xops) (cy_f (24 * s) (24 * t) 24 xargsA xargsA) (cy_f (24 * s) (24 * t) 24 xargsB xargsB) (cy_f (24 * s) (24 * t) 24 xlines xlines) xguards xfroms xtos xats xbegunCounts xthrownCounts xtakenCounts xslotUsed xslotLoad xstretchNumber xstretchGone xstretchRow xstretchWays xatWork xplace xvariables xrow xrowWays xwayOn xpart) :
    ∀ e j, j + e = 24 → wX_copyProgram_26 post (nI s) (nI t) xdepth xsignal xcarried xlatest xload (e + 1) (nI j) xsizes (cy_f (24 * s) (24 * t) j xops xops) (cy_f (24 * s) (24 * t) j xargsA xargsA) (cy_f (24 * s) (24 * t) j xargsB xargsB) (cy_f (24 * s) (24 * t) j xlines xlines) xguards xfroms xtos xats xbegunCounts xthrownCounts xtakenCounts xslotUsed xslotLoad xstretchNumber xstretchGone xstretchRow xstretchWays xatWork xplace xvariables xrow xrowWays xwayOn xpart := by
  intro e
  induction e with
  | zero =>
    intro j hj
    have z : j = 24 := by omega
    subst z
    rw [wX_copyProgram_26]
    exact br_t (by decide) h
  | succ e ih =>
    intro j hj
    have h2 := ih (j + 1) (by omega)
    have ws : vp_in (nI (24 * s + j)) 408 := vp_in_nI (by omega) (by decide)
    have wt : vp_in (nI (24 * t + j)) 408 := vp_in_nI (by omega) (by decide)
    have cs : (nI (24 * s + j)).toNatClampNeg = 24 * s + j := nI_clamp (by omega)
    have ct : (nI (24 * t + j)).toNatClampNeg = 24 * t + j := nI_clamp (by omega)
    have hd : 24 * s + 24 ≤ 24 * t ∨ 24 * t + 24 ≤ 24 * s := by omega
    rw [wX_copyProgram_26]
    refine br_f (nI_ge (b := 24) (by omega) (by decide)) (nm_r (ix_24 s j) (nm_r (ix_24 t j) ?_))
    rw [cs, ct]
    exact ⟨ws, wt, nm_r (cy_self hd (by omega)) ⟨ws, wt, nm_r (cy_self hd (by omega)) ⟨ws, wt, nm_r (cy_self hd (by omega)) ⟨ws, wt, nm_r (cy_self hd (by omega)) (nm_r (nI_1 j) h2)⟩⟩⟩⟩
/-- copyProgram of the class -/
theorem cp_X {post : SX → Prop} {s t : Nat} (hs : s < 17) (ht : t < 17) (hst : s ≠ t)
    (h : post (xdepth, xsignal, xcarried, xlatest, xload, upd xsizes t (xsizes s), cy_f (24 * s) (24 * t) 24 xops xops, cy_f (24 * s) (24 * t) 24 xargsA xargsA, cy_f (24 * s) (24 * t) 24 xargsB xargsB, cy_f (24 * s) (24 * t) 24 xlines xlines, upd xguards t (xguards s), cy_f (3 * s) (3 * t) 3 xfroms xfroms, cy_f (3 * s) (3 * t) 3 xtos xtos, cy_f (3 * s) (3 * t) 3 xats xats, xbegunCounts, xthrownCounts, xtakenCounts, xslotUsed, xslotLoad, xstretchNumber, xstretchGone, xstretchRow, xstretchWays, xatWork, xplace, xvariables, xrow, xrowWays, xwayOn, xpart)) : wpX_copyProgram post (xdepth, xsignal, xcarried, xlatest, xload, xsizes, xops, xargsA, xargsB, xlines, xguards, xfroms, xtos, xats, xbegunCounts, xthrownCounts, xtakenCounts, xslotUsed, xslotLoad, xstretchNumber, xstretchGone, xstretchRow, xstretchWays, xatWork, xplace, xvariables, xrow, xrowWays, xwayOn, xpart) (nI s) (nI t) := by
  have ws : vp_in (nI s) 17 := vp_in_nI hs (by decide)
  have wt : vp_in (nI t) 17 := vp_in_nI ht (by decide)
  have cs : (nI s).toNatClampNeg = s := nI_clamp (by omega)
  have ct : (nI t).toNatClampNeg = t := nI_clamp (by omega)
  have H3 := cp_X3 hs ht hst h 3 0 rfl
  rw [cy_0, cy_0, cy_0] at H3
  have H := cp_X24 (post := post) hs ht hst ⟨_, H3⟩ 24 0 rfl
  rw [cy_0, cy_0, cy_0, cy_0] at H
  exact ⟨ws, wt, nm_r (e' := upd xsizes t (xsizes s)) (by rw [cs, ct]) ⟨ws, wt, nm_r (e' := upd xguards t (xguards s)) (by rw [cs, ct]) ⟨_, H⟩⟩⟩
theorem cc_X4 {post : SX → Prop} {J : _} {b i : Nat} (hb : b < 17) (hi : i < 24)
    (h : J (nI (i + 1)) xsizes xops xargsA xargsB xlines xguards xfroms xtos xats xbegunCounts xthrownCounts (zr_f (96 * b) (4 * (i + 1)) xtakenCounts) xslotUsed xslotLoad xstretchNumber xstretchGone xstretchRow xstretchWays xatWork xplace xvariables xrow xrowWays xwayOn xpart) :
    ∀ e k, k + e = 4 → wX_clearCounts_32 post J (nI b) (nI i) (nI (24 * b + i)) xdepth xsignal xcarried xlatest xload (e + 1) (nI k) xsizes xops xargsA xargsB xlines xguards xfroms xtos xats xbegunCounts xthrownCounts (zr_f (96 * b) (4 * i + k) xtakenCounts) xslotUsed xslotLoad xstretchNumber xstretchGone xstretchRow xstretchWays xatWork xplace xvariables xrow xrowWays xwayOn xpart := by
  intro e
  induction e with
  | zero =>
    intro k hk
    have z : k = 4 := by omega
    subst z
    rw [wX_clearCounts_32]
    exact br_t (by decide) (nm_r (nI_1 i) h)
  | succ e ih =>
    intro k hk
    have h2 := ih (k + 1) (by omega)
    rw [wX_clearCounts_32]
    refine br_f (nI_ge (b := 4) (by omega) (by decide)) ⟨ix_in (ix_z b i k) (by omega) (by decide), ?_⟩
    rw [ix_cl (ix_z b i k) (by omega)]
    exact nm_r zr_s (nm_r (nI_1 k) h2)
/-- clearCounts of the class -/
theorem cc_X {post : SX → Prop} {b : Nat} (hb : b < 17)
    (h : post (xdepth, xsignal, xcarried, xlatest, xload, xsizes, xops, xargsA, xargsB, xlines, xguards, xfroms, xtos, xats, zr_f (24 * b) 24 xbegunCounts, zr_f (24 * b) 24 xthrownCounts, zr_f (96 * b) 96 xtakenCounts, xslotUsed, xslotLoad, xstretchNumber, xstretchGone, xstretchRow, xstretchWays, xatWork, xplace, xvariables, xrow, xrowWays, xwayOn, xpart)) : wpX_clearCounts post (xdepth, xsignal, xcarried, xlatest, xload, xsizes, xops, xargsA, xargsB, xlines, xguards, xfroms, xtos, xats, xbegunCounts, xthrownCounts, xtakenCounts, xslotUsed, xslotLoad, xstretchNumber, xstretchGone, xstretchRow, xstretchWays, xatWork, xplace, xvariables, xrow, xrowWays, xwayOn, xpart) (nI b) := by
  have H : ∀ e i, i + e = 24 → wX_clearCounts_2 post (nI b) xdepth xsignal xcarried xlatest xload (e + 1) (nI i) xsizes xops xargsA xargsB xlines xguards xfroms xtos xats (zr_f (24 * b) i xbegunCounts) (zr_f (24 * b) i xthrownCounts) (zr_f (96 * b) (4 * i) xtakenCounts) xslotUsed xslotLoad xstretchNumber xstretchGone xstretchRow xstretchWays xatWork xplace xvariables xrow xrowWays xwayOn xpart := by
    intro e
    induction e with
    | zero =>
      intro i hi
      have z : i = 24 := by omega
      subst z
      rw [wX_clearCounts_2]
      exact br_t (by decide) h
    | succ e ih =>
      intro i hi
      have h2 := ih (i + 1) (by omega)
      have w : vp_in (nI (24 * b + i)) 408 := vp_in_nI (by omega) (by decide)
      have c : (nI (24 * b + i)).toNatClampNeg = 24 * b + i := nI_clamp (by omega)
      rw [wX_clearCounts_2]
      refine br_f (nI_ge (b := 24) (by omega) (by decide)) (nm_r (ix_24 b i) ?_)
      rw [c]
      exact ⟨w, nm_r zr_s ⟨w, nm_r zr_s ⟨4 + 1, cc_X4 hb (by omega) h2 4 0 rfl⟩⟩⟩
  have H0 := H 24 0 rfl
  rw [Nat.mul_zero, zr_0, zr_0, zr_0] at H0
  exact ⟨_, H0⟩
theorem cc_Y4 {post : SY → Prop} {J : _} {x : Int32} {b i : Nat} (hb : b < 4) (hi : i < 24)
    (h : J (nI (24 * b + (i + 1))) yop ya yb yline ylength yfrom yto yat yhandlers ybegun (zr_f (96 * b) (4 * (i + 1)) ytaken) ythrown yrowI yrowWay yrowLength ytimes ytold ykOp ykA ykB ykLine ykLength ykFrom ykTo ykAt ykHandlers ykBegun ykTaken ykThrown ykept ymethod ypc yvariable yhereI yhereWay yhereLength yinto ykLoad ypart) :
    ∀ e k, k + e = 4 → wY_forget_32 post J x (nI (24 * b + i)) ydepth ysteps yresult youtcome yload yover (e + 1) (nI k) yop ya yb yline ylength yfrom yto yat yhandlers ybegun (zr_f (96 * b) (4 * i + k) ytaken) ythrown yrowI yrowWay yrowLength ytimes ytold ykOp ykA ykB ykLine ykLength ykFrom ykTo ykAt ykHandlers ykBegun ykTaken ykThrown ykept ymethod ypc yvariable yhereI yhereWay yhereLength yinto ykLoad ypart := by
  intro e
  induction e with
  | zero =>
    intro k hk
    have z : k = 4 := by omega
    subst z
    rw [wY_forget_32]
    exact br_t (by decide) (nm_r (nI_1 _) h)
  | succ e ih =>
    intro k hk
    have h2 := ih (k + 1) (by omega)
    rw [wY_forget_32]
    refine br_f (nI_ge (b := 4) (by omega) (by decide)) ⟨ix_in (iy_z b i k) (by omega) (by decide), ?_⟩
    rw [ix_cl (iy_z b i k) (by omega)]
    exact nm_r zr_s (nm_r (nI_1 k) h2)
/-- forget of the reference -/
theorem cc_Y {post : SY → Prop} {b : Nat} (hb : b < 4)
    (h : post (ydepth, ysteps, yresult, youtcome, yload, yover, yop, ya, yb, yline, ylength, yfrom, yto, yat, yhandlers, zr_f (24 * b) 24 ybegun, zr_f (96 * b) 96 ytaken, zr_f (24 * b) 24 ythrown, yrowI, yrowWay, yrowLength, ytimes, upd ytold b 0, ykOp, ykA, ykB, ykLine, ykLength, ykFrom, ykTo, ykAt, ykHandlers, ykBegun, ykTaken, ykThrown, ykept, ymethod, ypc, yvariable, yhereI, yhereWay, yhereLength, yinto, ykLoad, ypart)) : wpY_forget post (ydepth, ysteps, yresult, youtcome, yload, yover, yop, ya, yb, yline, ylength, yfrom, yto, yat, yhandlers, ybegun, ytaken, ythrown, yrowI, yrowWay, yrowLength, ytimes, ytold, ykOp, ykA, ykB, ykLine, ykLength, ykFrom, ykTo, ykAt, ykHandlers, ykBegun, ykTaken, ykThrown, ykept, ymethod, ypc, yvariable, yhereI, yhereWay, yhereLength, yinto, ykLoad, ypart) (nI b) := by
  have cb : (nI b).toNatClampNeg = b := nI_clamp (by omega)
  have eb : 24 * nI b + 24 = nI (24 * b + 24) := iy_24 b 24
  have H : ∀ e i, i + e = 24 → wY_forget_5 post (nI b) ydepth ysteps yresult youtcome yload yover (e + 1) (nI (24 * b + i)) yop ya yb yline ylength yfrom yto yat yhandlers (zr_f (24 * b) i ybegun) (zr_f (96 * b) (4 * i) ytaken) (zr_f (24 * b) i ythrown) yrowI yrowWay yrowLength ytimes ytold ykOp ykA ykB ykLine ykLength ykFrom ykTo ykAt ykHandlers ykBegun ykTaken ykThrown ykept ymethod ypc yvariable yhereI yhereWay yhereLength yinto ykLoad ypart := by
    intro e
    induction e with
    | zero =>
      intro i hi
      have z : i = 24 := by omega
      subst z
      rw [wY_forget_5]
      refine br_t (by rw [eb]; exact nI_le (Nat.le_refl _) (by omega)) ⟨vp_in_nI hb (by decide), nm_r (e' := upd ytold b 0) (by rw [cb]) h⟩
    | succ e ih =>
      intro i hi
      have h2 := ih (i + 1) (by omega)
      have w : vp_in (nI (24 * b + i)) 96 := vp_in_nI (by omega) (by decide)
      have c : (nI (24 * b + i)).toNatClampNeg = 24 * b + i := nI_clamp (by omega)
      rw [wY_forget_5]
      refine br_f (by rw [eb]; exact nI_ge (by omega) (by omega)) ?_
      rw [c]
      exact ⟨w, nm_r zr_s ⟨w, nm_r zr_s ⟨4 + 1, cc_Y4 hb (by omega) h2 4 0 rfl⟩⟩⟩
  have H0 := H 24 0 rfl
  rw [Nat.mul_zero, zr_0, zr_0, zr_0] at H0
  exact nm_r (e' := nI (24 * b)) (pk_mul 24 b) ⟨_, H0⟩
/-- define of the reference -/
theorem df_Y {post : Int32 → SY → Prop} {m : Nat} (hm : m < 4)
    (h : post (ylength 4) (ydepth, ysteps, yresult, youtcome, yload, yover, cy_f 96 (24 * m) 24 yop yop, cy_f 96 (24 * m) 24 ya ya, cy_f 96 (24 * m) 24 yb yb, cy_f 96 (24 * m) 24 yline yline, upd (upd ylength m (ylength 4)) 4 0, cy_f 12 (3 * m) 3 yfrom yfrom, cy_f 12 (3 * m) 3 yto yto, cy_f 12 (3 * m) 3 yat yat, upd (upd yhandlers m (yhandlers 4)) 4 0, zr_f (24 * m) 24 ybegun, zr_f (96 * m) 96 ytaken, zr_f (24 * m) 24 ythrown, yrowI, yrowWay, yrowLength, ytimes, upd ytold m 0, ykOp, ykA, ykB, ykLine, ykLength, ykFrom, ykTo, ykAt, ykHandlers, ykBegun, ykTaken, ykThrown, ykept, ymethod, ypc, yvariable, yhereI, yhereWay, yhereLength, yinto, ykLoad, ypart)) : wpY_define post (ydepth, ysteps, yresult, youtcome, yload, yover, yop, ya, yb, yline, ylength, yfrom, yto, yat, yhandlers, ybegun, ytaken, ythrown, yrowI, yrowWay, yrowLength, ytimes, ytold, ykOp, ykA, ykB, ykLine, ykLength, ykFrom, ykTo, ykAt, ykHandlers, ykBegun, ykTaken, ykThrown, ykept, ymethod, ypc, yvariable, yhereI, yhereWay, yhereLength, yinto, ykLoad, ypart) (nI m) := by
  have cm : (nI m).toNatClampNeg = m := nI_clamp (by omega)
  have wm : vp_in (nI m) 5 := vp_in_nI (by omega) (by decide)
  have H3 : ∀ e j, j + e = 3 → wY_define_106 post (nI m) ydepth ysteps yresult youtcome yload yover (e + 1) (nI j) (cy_f 96 (24 * m) 24 yop yop) (cy_f 96 (24 * m) 24 ya ya) (cy_f 96 (24 * m) 24 yb yb) (cy_f 96 (24 * m) 24 yline yline) ylength (cy_f 12 (3 * m) j yfrom yfrom) (cy_f 12 (3 * m) j yto yto) (cy_f 12 (3 * m) j yat yat) yhandlers ybegun ytaken ythrown yrowI yrowWay yrowLength ytimes ytold ykOp ykA ykB ykLine ykLength ykFrom ykTo ykAt ykHandlers ykBegun ykTaken ykThrown ykept ymethod ypc yvariable yhereI yhereWay yhereLength yinto ykLoad ypart := by
    intro e
    induction e with
    | zero =>
      intro j hj
      have z : j = 3 := by omega
      subst z
      rw [wY_define_106]
      refine br_t (by decide) ⟨wm, nm_r (e' := upd ylength m (ylength 4)) (by rw [cm]) ⟨wm, nm_r (e' := upd yhandlers m (yhandlers 4)) (by rw [cm]) (nm_e (nm_e ?_))⟩⟩
      refine cc_Y hm ⟨wm, ?_⟩
      rw [cm, pk_un (show m ≠ 4 by omega), pk_us]
      exact h
    | succ e ih =>
      intro j hj
      have h2 := ih (j + 1) (by omega)
      have es : 12 + nI j = nI (12 + j) := nI_add 12 j
      have ws : vp_in (12 + nI j) 15 := ix_in es (by omega) (by decide)
      have wt : vp_in (3 * nI m + nI j) 15 := ix_in (iy_3 m j) (by omega) (by decide)
      have hd : 12 + 3 ≤ 3 * m ∨ 3 * m + 3 ≤ 12 := by omega
      rw [wY_define_106]
      refine br_f (nI_ge (b := 3) (by omega) (by decide)) ?_
      rw [ix_cl es (by omega), ix_cl (iy_3 m j) (by omega)]
      exact ⟨ws, wt, nm_r (cy_self hd (by omega)) ⟨ws, wt, nm_r (cy_self hd (by omega)) ⟨ws, wt, nm_r (cy_self hd (by omega)) (nm_r (nI_1 j) h2)⟩⟩⟩
  have H24 : ∀ e j, j + e = 24 → wY_define_12 post (nI m) ydepth ysteps yresult youtcome yload yover (e + 1) (nI j) (cy_f 96 (24 * m) j yop yop) (cy_f 96 (24 * m) j ya ya) (cy_f 96 (24 * m) j yb yb) (cy_f 96 (24 * m) j yline yline) ylength yfrom yto yat yhandlers ybegun ytaken ythrown yrowI yrowWay yrowLength ytimes ytold ykOp ykA ykB ykLine ykLength ykFrom ykTo ykAt ykHandlers ykBegun ykTaken ykThrown ykept ymethod ypc yvariable yhereI yhereWay yhereLength yinto ykLoad ypart := by
    intro e
    induction e with
    | zero =>
      intro j hj
      have z : j = 24 := by omega
      subst z
      have H := H3 3 0 rfl
      rw [cy_0, cy_0, cy_0] at H
      rw [wY_define_12]
      exact br_t (by decide) ⟨_, H⟩
    | succ e ih =>
      intro j hj
      have h2 := ih (j + 1) (by omega)
      have es : 96 + nI j = nI (96 + j) := nI_add 96 j
      have ws : vp_in (96 + nI j) 120 := ix_in es (by omega) (by decide)
      have wt : vp_in (24 * nI m + nI j) 120 := ix_in (iy_24 m j) (by omega) (by decide)
      have hd : 96 + 24 ≤ 24 * m ∨ 24 * m + 24 ≤ 96 := by omega
      rw [wY_define_12]
      refine br_f (nI_ge (b := 24) (by omega) (by decide)) ?_
      rw [ix_cl es (by omega), ix_cl (iy_24 m j) (by omega)]
      exact ⟨ws, wt, nm_r (cy_self hd (by omega)) ⟨ws, wt, nm_r (cy_self hd (by omega)) ⟨ws, wt, nm_r (cy_self hd (by omega)) ⟨ws, wt, nm_r (cy_self hd (by omega)) (nm_r (nI_1 j) h2)⟩⟩⟩⟩
  have H := H24 24 0 rfl
  rw [cy_0, cy_0, cy_0, cy_0] at H
  unfold wpY_define
  exact wi_t (n := 4) hm (by decide) (br_f (by decide) ⟨_, H⟩)
end
theorem i_vc_define {k : Nat} {u : SX} {v : SY} (I : i_Rel k u v) (hk : k + 5 ≤ 2560) (v1 : Int32) : wpX_define (fun r u' => wpY_define (fun r' v' => r' = r ∧ i_Rel (k + 5) u' v') v v1) u v1 := by
  obtain ⟨xdepth, xsignal, xcarried, xlatest, xload, xsizes, xops, xargsA, xargsB, xlines, xguards, xfroms, xtos, xats, xbegunCounts, xthrownCounts, xtakenCounts, xslotUsed, xslotLoad, xstretchNumber, xstretchGone, xstretchRow, xstretchWays, xatWork, xplace, xvariables, xrow, xrowWays, xwayOn, xpart⟩ := u
  obtain ⟨ydepth, ysteps, yresult, youtcome, yload, yover, yop, ya, yb, yline, ylength, yfrom, yto, yat, yhandlers, ybegun, ytaken, ythrown, yrowI, yrowWay, yrowLength, ytimes, ytold, ykOp, ykA, ykB, ykLine, ykLength, ykFrom, ykTo, ykAt, ykHandlers, ykBegun, ykTaken, ykThrown, ykept, ymethod, ypc, yvariable, yhereI, yhereWay, yhereLength, yinto, ykLoad, ypart⟩ := v
  have J := I
  obtain ⟨L, h1, h2, h3, h4, hP, hC, hS, hT⟩ := I
  rcases pk_ix v1 (n := 4) (by decide) with z | z | ⟨m, hm, rfl⟩
  · unfold wpX_define wpY_define
    exact xi_f (n := 4) (Or.inl z) (br_t rfl (wi_f (n := 4) (Or.inl z) (br_t rfl ⟨rfl, J⟩)))
  · unfold wpX_define wpY_define
    exact xi_f (n := 4) (Or.inr z) (br_t rfl (wi_f (n := 4) (Or.inr z) (br_t rfl ⟨rfl, J⟩)))
  · obtain ⟨s1, s2, s3⟩ := gp_16 hP
    obtain ⟨t1, t2, t3⟩ := gp_g16 hP
    have cm : (nI m).toNatClampNeg = m := nI_clamp (by omega)
    unfold wpX_define
    refine xi_t (n := 4) hm (by decide) (br_f (by decide) (cp_X (s := 16) (by omega) (by omega) (by omega) ?_))
    refine cc_X (by omega) ⟨vp_in_nI hm (by decide), nm_r (e' := upd xstretchNumber m 0) (by rw [cm]) (nm_e (nm_e ⟨vp_in_nI (by omega) (by decide), ?_⟩))⟩
    rw [cm, pk_un (show m ≠ 16 by omega), pk_us]
    refine df_Y hm ⟨by rw [s1, s2], ?_⟩
    obtain ⟨p1, p2, p3, p4, p5, p6, p7, p8, p9, pa, pb, pc, pd⟩ := hP
    have q1 : rg_R 17 24 (upd (upd xsizes m (xsizes 16)) 16 0) := by
      rw [s1]
      exact rg_u (n := 0) (rg_u pa s3) (by omega)
    have q2 : rg_R 17 3 (upd (upd xguards m (xguards 16)) 16 0) := by
      rw [t1]
      exact rg_u (n := 0) (rg_u pb t3) (by omega)
    have b1 := bk_add (c := 1) (i := 0) (v := 0) (bk_def (c := 1) (M := m) p1 (by omega)) (by omega)
    have b2 := bk_add (c := 1) (i := 0) (v := 0) (bk_def (c := 1) (M := m) p2 (by omega)) (by omega)
    rw [← cy_1, ← cy_1] at b1 b2
    have e : ∀ b, b < 16 → b ≠ m → sz_f (upd (upd xsizes m (xsizes 16)) 16 0) b = sz_f xsizes b := fun b hb hbm => by
      rw [sz_un (by omega), sz_un hbm]
    have hs : ∀ b, b < 16 → sz_f (upd (upd xsizes m (xsizes 16)) 16 0) b ≤ 24 := fun b hb => (rg_at q1 (by decide) (by omega)).2
    refine ⟨L, h1, h2, h3, h4, ⟨b1, b2, bk_def (c := 24) p3 (by omega), bk_def (c := 24) p4 (by omega), bk_def (c := 24) p5 (by omega), bk_def (c := 24) p6 (by omega), bk_def (c := 3) p7 (by omega), bk_def (c := 3) p8 (by omega), bk_def (c := 3) p9 (by omega), q1, q2, rg_cy pc (by omega), rg_cy pd (by omega)⟩,
      ⟨ct_clr1 hC.1 hm hs e, ct_clr1 hC.2.1 hm hs e, ct_clr4 hC.2.2.1 hm hs e, sl_t hC.2.2.2 (fun j hj => zr_out (by omega))⟩, st_none hS, tb_zr hT⟩
theorem i_vc_reset {k : Nat} {u : SX} {v : SY} (I : i_Rel k u v) (hk : k + 5 ≤ 2560) (v1 : Int32) : wpX_reset (fun r u' => wpY_reset (fun r' v' => r' = r ∧ i_Rel (k + 5) u' v') v v1) u v1 := by
  obtain ⟨xdepth, xsignal, xcarried, xlatest, xload, xsizes, xops, xargsA, xargsB, xlines, xguards, xfroms, xtos, xats, xbegunCounts, xthrownCounts, xtakenCounts, xslotUsed, xslotLoad, xstretchNumber, xstretchGone, xstretchRow, xstretchWays, xatWork, xplace, xvariables, xrow, xrowWays, xwayOn, xpart⟩ := u
  obtain ⟨ydepth, ysteps, yresult, youtcome, yload, yover, yop, ya, yb, yline, ylength, yfrom, yto, yat, yhandlers, ybegun, ytaken, ythrown, yrowI, yrowWay, yrowLength, ytimes, ytold, ykOp, ykA, ykB, ykLine, ykLength, ykFrom, ykTo, ykAt, ykHandlers, ykBegun, ykTaken, ykThrown, ykept, ymethod, ypc, yvariable, yhereI, yhereWay, yhereLength, yinto, ykLoad, ypart⟩ := v
  have J := I
  obtain ⟨L, h1, h2, h3, h4, hP, hC, hS, hT⟩ := I
  unfold wpX_reset wpY_reset
  rcases th_c (xdepth := xdepth) (xsignal := xsignal) (xcarried := xcarried) (xlatest := xlatest) (xload := xload) (xsizes := xsizes) (xops := xops) (xargsA := xargsA) (xargsB := xargsB) (xlines := xlines) (xguards := xguards) (xfroms := xfroms) (xtos := xtos) (xats := xats) (xbegunCounts := xbegunCounts) (xthrownCounts := xthrownCounts) (xtakenCounts := xtakenCounts) (xslotUsed := xslotUsed) (xslotLoad := xslotLoad) (xstretchNumber := xstretchNumber) (xstretchGone := xstretchGone) (xstretchRow := xstretchRow) (xstretchWays := xstretchWays) (xatWork := xatWork) (xplace := xplace) (xvariables := xvariables) (xrow := xrow) (xrowWays := xrowWays) (xwayOn := xwayOn) (xpart := xpart) (ydepth := ydepth) (ysteps := ysteps) (yresult := yresult) (youtcome := youtcome) (yload := yload) (yover := yover) (yop := yop) (ya := ya) (yb := yb) (yline := yline) (ylength := ylength) (yfrom := yfrom) (yto := yto) (yat := yat) (yhandlers := yhandlers) (ybegun := ybegun) (ytaken := ytaken) (ythrown := ythrown) (yrowI := yrowI) (yrowWay := yrowWay) (yrowLength := yrowLength) (ytimes := ytimes) (ytold := ytold) (ykOp := ykOp) (ykA := ykA) (ykB := ykB) (ykLine := ykLine) (ykLength := ykLength) (ykFrom := ykFrom) (ykTo := ykTo) (ykAt := ykAt) (ykHandlers := ykHandlers) (ykBegun := ykBegun) (ykTaken := ykTaken) (ykThrown := ykThrown) (ykept := ykept) (ymethod := ymethod) (ypc := ypc) (yvariable := yvariable) (yhereI := yhereI) (yhereWay := yhereWay) (yhereLength := yhereLength) (yinto := yinto) (ykLoad := ykLoad) (ypart := ypart) v1 hP with ⟨m, hm, rfl, hs, hX, hY⟩ | ⟨hX, hY⟩
  · have cm : (nI m).toNatClampNeg = m := nI_clamp (by omega)
    refine hX _ (br_f (by decide) (cc_X (by omega) ⟨vp_in_nI hm (by decide), nm_r (e' := upd xstretchNumber m 0) (by rw [cm]) ?_⟩))
    refine hY _ (br_f (by decide) (cc_Y hm ⟨rfl, ?_⟩))
    have hs : ∀ b, b < 16 → sz_f xsizes b ≤ 24 := fun b hb => (rg_at hP.2.2.2.2.2.2.2.2.2.1 (by decide) (by omega)).2
    exact ⟨L, h1, h2, h3, h4, hP, ⟨ct_clr1 hC.1 hm hs (fun _ _ _ => rfl), ct_clr1 hC.2.1 hm hs (fun _ _ _ => rfl), ct_clr4 hC.2.2.1 hm hs (fun _ _ _ => rfl), sl_t hC.2.2.2 (fun j hj => zr_out (by omega))⟩, st_none hS, tb_zr hT⟩
  · exact hX _ (br_t rfl (hY _ (br_t rfl ⟨rfl, J⟩)))
