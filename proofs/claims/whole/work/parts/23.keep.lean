/-! part 23: addCounts; keep -/
theorem kz_1 {s m : Nat} {x : Nat → Int32} (hm : m < 4) : upd (cy_f 0 (4 + 4 * s) m x x) (4 + 4 * s + m) (cy_f 0 (4 + 4 * s) m x x m) = cy_f 0 (4 + 4 * s) (m + 1) x x := by
  have h := cy_self (S := 0) (T := 4 + 4 * s) (i := m) (c := 4) (x := x) (by omega) hm
  rw [Nat.zero_add] at h
  exact h
theorem kz_24 {s m : Nat} {x : Nat → Int32} (hm : m < 4) : cy_f (24 * m) (24 * (4 + 4 * s + m)) 24 (cy_f 0 (96 + 96 * s) (24 * m) x x) (cy_f 0 (96 + 96 * s) (24 * m) x x) = cy_f 0 (96 + 96 * s) (24 * (m + 1)) x x := by
  have h := bk_more (c := 24) (A := 24 * m) (K := 96 + 96 * s) (x := x) (by omega)
  rw [show 24 * (4 + 4 * s + m) = 96 + 96 * s + 24 * m from by omega, h]
  congr 1
theorem kz_3 {s m : Nat} {x : Nat → Int32} (hm : m < 4) : cy_f (3 * m) (3 * (4 + 4 * s + m)) 3 (cy_f 0 (12 + 12 * s) (3 * m) x x) (cy_f 0 (12 + 12 * s) (3 * m) x x) = cy_f 0 (12 + 12 * s) (3 * (m + 1)) x x := by
  have h := bk_more (c := 3) (A := 3 * m) (K := 12 + 12 * s) (x := x) (by omega)
  rw [show 3 * (4 + 4 * s + m) = 12 + 12 * s + 3 * m from by omega, h]
  congr 1
theorem kz_96 {s m : Nat} {x : Nat → Int32} (hm : m < 4) : cy_f (96 * m) (96 * (4 + 4 * s + m)) 96 (cy_f 0 (384 + 384 * s) (96 * m) x x) (cy_f 0 (384 + 384 * s) (96 * m) x x) = cy_f 0 (384 + 384 * s) (96 * (m + 1)) x x := by
  have h := bk_more (c := 96) (A := 96 * m) (K := 384 + 384 * s) (x := x) (by omega)
  rw [show 96 * (4 + 4 * s + m) = 384 + 384 * s + 96 * m from by omega, h]
  congr 1
theorem iz_k (s i k : Nat) : 4 * nI (96 * s + i) + nI k = nI (384 * s + (4 * i + k)) := by
  rw [iy_4]
  exact congrArg nI (by omega)
section
variable {xdepth xsignal xcarried xlatest xload : Int32} {xsizes xops xargsA xargsB xlines xguards xfroms xtos xats xbegunCounts xthrownCounts xtakenCounts xslotUsed xslotLoad xstretchNumber xstretchGone xstretchRow xatWork xplace xvariables xrow xpart : Nat → Int32} {xstretchWays xrowWays xwayOn : Nat → Int64}
variable {ydepth ysteps yresult youtcome yload yover : Int32} {yop ya yb yline ylength yfrom yto yat yhandlers ybegun ytaken ythrown yrowI yrowWay yrowLength ytimes ytold ykOp ykA ykB ykLine ykLength ykFrom ykTo ykAt ykHandlers ykBegun ykTaken ykThrown ykept ymethod ypc yvariable yhereI yhereWay yhereLength yinto ykLoad ypart : Nat → Int32}
theorem ac_X4 {post : SX → Prop} {J : _} {s t i : Nat} (hs : s < 17) (ht : t < 17) (hst : s ≠ t) (hi : i < 24)
    (h : J (nI (i + 1)) xsizes xops xargsA xargsB xlines xguards xfroms xtos xats xbegunCounts xthrownCounts (ad_f (96 * s) (96 * t) (4 * (i + 1)) xtakenCounts xtakenCounts) xslotUsed xslotLoad xstretchNumber xstretchGone xstretchRow xstretchWays xatWork xplace xvariables xrow xrowWays xwayOn xpart) :
    ∀ e k, k + e = 4 → wX_addCounts_61 post J (nI s) (nI t) (nI i) (nI (24 * s + i)) (nI (24 * t + i)) xdepth xsignal xcarried xlatest xload (e + 1) (nI k) xsizes xops xargsA xargsB xlines xguards xfroms xtos xats xbegunCounts xthrownCounts (ad_f (96 * s) (96 * t) (4 * i + k) xtakenCounts xtakenCounts) xslotUsed xslotLoad xstretchNumber xstretchGone xstretchRow xstretchWays xatWork xplace xvariables xrow xrowWays xwayOn xpart := by
  intro e
  induction e with
  | zero =>
    intro k hk
    have z : k = 4 := by omega
    subst z
    rw [wX_addCounts_61]
    exact br_t (by decide) (nm_r (nI_1 i) h)
  | succ e ih =>
    intro k hk
    have h2 := ih (k + 1) (by omega)
    have ws : vp_in (nI (24 * s + i) * 4 + nI k) 1632 := ix_in (ix_z s i k) (by omega) (by decide)
    have wt : vp_in (nI (24 * t + i) * 4 + nI k) 1632 := ix_in (ix_z t i k) (by omega) (by decide)
    have hd : 96 * s + 96 ≤ 96 * t ∨ 96 * t + 96 ≤ 96 * s := by omega
    rw [wX_addCounts_61]
    refine br_f (nI_ge (b := 4) (by omega) (by decide)) ?_
    rw [ix_cl (ix_z s i k) (by omega), ix_cl (ix_z t i k) (by omega)]
    exact ⟨wt, ws, wt, nm_r (ad_self hd (by omega)) (nm_r (nI_1 k) h2)⟩
/-- addCounts of the class -/
theorem ac_X {post : SX → Prop} {s t : Nat} (hs : s < 17) (ht : t < 17) (hst : s ≠ t)
    (h : post (xdepth, xsignal, xcarried, xlatest, xload, xsizes, xops, xargsA, xargsB, xlines, xguards, xfroms, xtos, xats, ad_f (24 * s) (24 * t) 24 xbegunCounts xbegunCounts, ad_f (24 * s) (24 * t) 24 xthrownCounts xthrownCounts, ad_f (96 * s) (96 * t) 96 xtakenCounts xtakenCounts, xslotUsed, xslotLoad, xstretchNumber, xstretchGone, xstretchRow, xstretchWays, xatWork, xplace, xvariables, xrow, xrowWays, xwayOn, xpart)) : wpX_addCounts post (xdepth, xsignal, xcarried, xlatest, xload, xsizes, xops, xargsA, xargsB, xlines, xguards, xfroms, xtos, xats, xbegunCounts, xthrownCounts, xtakenCounts, xslotUsed, xslotLoad, xstretchNumber, xstretchGone, xstretchRow, xstretchWays, xatWork, xplace, xvariables, xrow, xrowWays, xwayOn, xpart) (nI s) (nI t) := by
  have H : ∀ e i, i + e = 24 → wX_addCounts_2 post (nI s) (nI t) xdepth xsignal xcarried xlatest xload (e + 1) (nI i) xsizes xops xargsA xargsB xlines xguards xfroms xtos xats (ad_f (24 * s) (24 * t) i xbegunCounts xbegunCounts) (ad_f (24 * s) (24 * t) i xthrownCounts xthrownCounts) (ad_f (96 * s) (96 * t) (4 * i) xtakenCounts xtakenCounts) xslotUsed xslotLoad xstretchNumber xstretchGone xstretchRow xstretchWays xatWork xplace xvariables xrow xrowWays xwayOn xpart := by
    intro e
    induction e with
    | zero =>
      intro i hi
      have z : i = 24 := by omega
      subst z
      rw [wX_addCounts_2]
      exact br_t (by decide) h
    | succ e ih =>
      intro i hi
      have h2 := ih (i + 1) (by omega)
      have ws : vp_in (nI (24 * s + i)) 408 := vp_in_nI (by omega) (by decide)
      have wt : vp_in (nI (24 * t + i)) 408 := vp_in_nI (by omega) (by decide)
      have cs : (nI (24 * s + i)).toNatClampNeg = 24 * s + i := nI_clamp (by omega)
      have ct : (nI (24 * t + i)).toNatClampNeg = 24 * t + i := nI_clamp (by omega)
      have hd : 24 * s + 24 ≤ 24 * t ∨ 24 * t + 24 ≤ 24 * s := by omega
      rw [wX_addCounts_2]
      refine br_f (nI_ge (b := 24) (by omega) (by decide)) (nm_r (ix_24 s i) (nm_r (ix_24 t i) ?_))
      rw [cs, ct]
      exact ⟨wt, ws, wt, nm_r (ad_self hd (by omega)) ⟨wt, ws, wt, nm_r (ad_self hd (by omega)) ⟨4 + 1, ac_X4 hs ht hst (by omega) h2 4 0 rfl⟩⟩⟩
  have H0 := H 24 0 rfl
  rw [Nat.mul_zero, ad_0, ad_0, ad_0] at H0
  exact ⟨_, H0⟩
theorem ke_X {post : Int32 → SX → Prop} {s : Nat} (hs : s < 3) (h : post 1 (xdepth, xsignal, xcarried, xlatest, xload, cy_f 0 (4 + 4 * s) 4 xsizes xsizes, cy_f 0 (96 + 96 * s) 96 xops xops, cy_f 0 (96 + 96 * s) 96 xargsA xargsA, cy_f 0 (96 + 96 * s) 96 xargsB xargsB, cy_f 0 (96 + 96 * s) 96 xlines xlines, cy_f 0 (4 + 4 * s) 4 xguards xguards, cy_f 0 (12 + 12 * s) 12 xfroms xfroms, cy_f 0 (12 + 12 * s) 12 xtos xtos, cy_f 0 (12 + 12 * s) 12 xats xats, cy_f 0 (96 + 96 * s) 96 xbegunCounts xbegunCounts, cy_f 0 (96 + 96 * s) 96 xthrownCounts xthrownCounts, cy_f 0 (384 + 384 * s) 384 xtakenCounts xtakenCounts, upd xslotUsed s (vp_nar .boolean 1), upd xslotLoad s xload, xstretchNumber, xstretchGone, xstretchRow, xstretchWays, xatWork, xplace, xvariables, xrow, xrowWays, xwayOn, xpart)) : wpX_keep post (xdepth, xsignal, xcarried, xlatest, xload, xsizes, xops, xargsA, xargsB, xlines, xguards, xfroms, xtos, xats, xbegunCounts, xthrownCounts, xtakenCounts, xslotUsed, xslotLoad, xstretchNumber, xstretchGone, xstretchRow, xstretchWays, xatWork, xplace, xvariables, xrow, xrowWays, xwayOn, xpart) (nI s) := by
  have cs : (nI s).toNatClampNeg = s := nI_clamp (by omega)
  have ws : vp_in (nI s) 3 := vp_in_nI hs (by decide)
  have H : ∀ e m, m + e = 4 → wX_keep_13 post (nI s) (e + 1) (nI m) xdepth xsignal xcarried xlatest xload (cy_f 0 (4 + 4 * s) m xsizes xsizes) (cy_f 0 (96 + 96 * s) (24 * m) xops xops) (cy_f 0 (96 + 96 * s) (24 * m) xargsA xargsA) (cy_f 0 (96 + 96 * s) (24 * m) xargsB xargsB) (cy_f 0 (96 + 96 * s) (24 * m) xlines xlines) (cy_f 0 (4 + 4 * s) m xguards xguards) (cy_f 0 (12 + 12 * s) (3 * m) xfroms xfroms) (cy_f 0 (12 + 12 * s) (3 * m) xtos xtos) (cy_f 0 (12 + 12 * s) (3 * m) xats xats) (cy_f 0 (96 + 96 * s) (24 * m) xbegunCounts xbegunCounts) (cy_f 0 (96 + 96 * s) (24 * m) xthrownCounts xthrownCounts) (cy_f 0 (384 + 384 * s) (96 * m) xtakenCounts xtakenCounts) xslotUsed xslotLoad xstretchNumber xstretchGone xstretchRow xstretchWays xatWork xplace xvariables xrow xrowWays xwayOn xpart := by
    intro e
    induction e with
    | zero =>
      intro m hm
      have z : m = 4 := by omega
      subst z
      rw [wX_keep_13]
      refine br_t (by decide) ⟨ws, nm_r (e' := upd xslotUsed s (vp_nar .boolean 1)) (by rw [cs]) ⟨ws, nm_r (e' := upd xslotLoad s xload) (by rw [cs]) h⟩⟩
    | succ e ih =>
      intro m hm
      have h2 := ih (m + 1) (by omega)
      have eb : (4 + nI s * 4) + nI m = nI (4 + 4 * s + m) := by
        rw [show nI s * 4 = nI (4 * s) from ix_c s 4, show (4 : Int32) + nI (4 * s) = nI (4 + 4 * s) from nI_add 4 _, nI_add]
      have hd24 : 24 * m + 24 ≤ 24 * (4 + 4 * s + m) ∨ 24 * (4 + 4 * s + m) + 24 ≤ 24 * m := by omega
      have hd96 : 96 * m + 96 ≤ 96 * (4 + 4 * s + m) ∨ 96 * (4 + 4 * s + m) + 96 ≤ 96 * m := by omega
      have h3 : wX_keep_13 post (nI s) (e + 1) (nI (m + 1)) xdepth xsignal xcarried xlatest xload (upd (cy_f 0 (4 + 4 * s) m xsizes xsizes) (4 + 4 * s + m) (cy_f 0 (4 + 4 * s) m xsizes xsizes m)) (cy_f (24 * m) (24 * (4 + 4 * s + m)) 24 (cy_f 0 (96 + 96 * s) (24 * m) xops xops) (cy_f 0 (96 + 96 * s) (24 * m) xops xops)) (cy_f (24 * m) (24 * (4 + 4 * s + m)) 24 (cy_f 0 (96 + 96 * s) (24 * m) xargsA xargsA) (cy_f 0 (96 + 96 * s) (24 * m) xargsA xargsA)) (cy_f (24 * m) (24 * (4 + 4 * s + m)) 24 (cy_f 0 (96 + 96 * s) (24 * m) xargsB xargsB) (cy_f 0 (96 + 96 * s) (24 * m) xargsB xargsB)) (cy_f (24 * m) (24 * (4 + 4 * s + m)) 24 (cy_f 0 (96 + 96 * s) (24 * m) xlines xlines) (cy_f 0 (96 + 96 * s) (24 * m) xlines xlines)) (upd (cy_f 0 (4 + 4 * s) m xguards xguards) (4 + 4 * s + m) (cy_f 0 (4 + 4 * s) m xguards xguards m)) (cy_f (3 * m) (3 * (4 + 4 * s + m)) 3 (cy_f 0 (12 + 12 * s) (3 * m) xfroms xfroms) (cy_f 0 (12 + 12 * s) (3 * m) xfroms xfroms)) (cy_f (3 * m) (3 * (4 + 4 * s + m)) 3 (cy_f 0 (12 + 12 * s) (3 * m) xtos xtos) (cy_f 0 (12 + 12 * s) (3 * m) xtos xtos)) (cy_f (3 * m) (3 * (4 + 4 * s + m)) 3 (cy_f 0 (12 + 12 * s) (3 * m) xats xats) (cy_f 0 (12 + 12 * s) (3 * m) xats xats)) (ad_f (24 * m) (24 * (4 + 4 * s + m)) 24 (zr_f (24 * (4 + 4 * s + m)) 24 (cy_f 0 (96 + 96 * s) (24 * m) xbegunCounts xbegunCounts)) (zr_f (24 * (4 + 4 * s + m)) 24 (cy_f 0 (96 + 96 * s) (24 * m) xbegunCounts xbegunCounts))) (ad_f (24 * m) (24 * (4 + 4 * s + m)) 24 (zr_f (24 * (4 + 4 * s + m)) 24 (cy_f 0 (96 + 96 * s) (24 * m) xthrownCounts xthrownCounts)) (zr_f (24 * (4 + 4 * s + m)) 24 (cy_f 0 (96 + 96 * s) (24 * m) xthrownCounts xthrownCounts))) (ad_f (96 * m) (96 * (4 + 4 * s + m)) 96 (zr_f (96 * (4 + 4 * s + m)) 96 (cy_f 0 (384 + 384 * s) (96 * m) xtakenCounts xtakenCounts)) (zr_f (96 * (4 + 4 * s + m)) 96 (cy_f 0 (384 + 384 * s) (96 * m) xtakenCounts xtakenCounts))) xslotUsed xslotLoad xstretchNumber xstretchGone xstretchRow xstretchWays xatWork xplace xvariables xrow xrowWays xwayOn xpart := by
        rw [ad_zr hd24, ad_zr hd24, ad_zr hd96, kz_1 (by omega), kz_1 (by omega), kz_24 (by omega), kz_24 (by omega), kz_24 (by omega), kz_24 (by omega), kz_3 (by omega), kz_3 (by omega), kz_3 (by omega), kz_24 (by omega), kz_24 (by omega), kz_96 (by omega)]
        exact h2
      rw [wX_keep_13]
      refine br_f (nI_ge (b := 4) (by omega) (by decide)) ?_
      unfold wpX_keptBank
      dsimp only
      rw [eb]
      refine cp_X (by omega) (by omega) (by omega) (cc_X (by omega) (ac_X (by omega) (by omega) (by omega) (nm_r (nI_1 m) h3)))
  have H0 := H 4 0 rfl
  simp only [Nat.mul_zero, cy_0] at H0
  unfold wpX_keep
  exact xi_t (n := 3) hs (by decide) (br_f (by decide) ⟨_, H0⟩)
theorem ke_Y4 {post : Int32 → SY → Prop} {J : _} {s i : Nat} (hs : s < 3) (hi : i < 96)
    (h : J (nI (i + 1)) yop ya yb yline ylength yfrom yto yat yhandlers ybegun ytaken ythrown yrowI yrowWay yrowLength ytimes ytold ykOp ykA ykB ykLine ykLength ykFrom ykTo ykAt ykHandlers ykBegun (cy_f 0 (384 * s) (4 * (i + 1)) ykTaken ytaken) ykThrown ykept ymethod ypc yvariable yhereI yhereWay yhereLength yinto ykLoad ypart) :
    ∀ e k, k + e = 4 → wY_keep_117 post J (nI s) (nI i) (nI (96 * s + i)) ydepth ysteps yresult youtcome yload yover (e + 1) (nI k) yop ya yb yline ylength yfrom yto yat yhandlers ybegun ytaken ythrown yrowI yrowWay yrowLength ytimes ytold ykOp ykA ykB ykLine ykLength ykFrom ykTo ykAt ykHandlers ykBegun (cy_f 0 (384 * s) (4 * i + k) ykTaken ytaken) ykThrown ykept ymethod ypc yvariable yhereI yhereWay yhereLength yinto ykLoad ypart := by
  intro e
  induction e with
  | zero =>
    intro k hk
    have z : k = 4 := by omega
    subst z
    rw [wY_keep_117]
    exact br_t (by decide) (nm_r (nI_1 i) h)
  | succ e ih =>
    intro k hk
    have h2 := ih (k + 1) (by omega)
    have c := cy_s (S := 0) (T := 384 * s) (i := 4 * i + k) (x := ykTaken) (y := ytaken)
    rw [Nat.zero_add] at c
    rw [wY_keep_117]
    refine br_f (nI_ge (b := 4) (by omega) (by decide)) ?_
    rw [ix_cl (iy_4 i k) (by omega), ix_cl (iz_k s i k) (by omega)]
    exact ⟨ix_in (iy_4 i k) (by omega) (by decide), ix_in (iz_k s i k) (by omega) (by decide), nm_r c (nm_r (nI_1 k) h2)⟩
theorem cy_sz {T i : Nat} {x y : Nat → Int32} : upd (cy_f 0 T i x y) (T + i) (y i) = cy_f 0 T (i + 1) x y := by
  have c := cy_s (S := 0) (T := T) (i := i) (x := x) (y := y)
  rw [Nat.zero_add] at c
  exact c
theorem ke_Y {post : Int32 → SY → Prop} {s : Nat} (hs : s < 3)
    (h : post 1 (ydepth, ysteps, yresult, youtcome, yload, yover, yop, ya, yb, yline, ylength, yfrom, yto, yat, yhandlers, ybegun, ytaken, ythrown, yrowI, yrowWay, yrowLength, ytimes, ytold, cy_f 0 (96 * s) 96 ykOp yop, cy_f 0 (96 * s) 96 ykA ya, cy_f 0 (96 * s) 96 ykB yb, cy_f 0 (96 * s) 96 ykLine yline, cy_f 0 (4 * s) 4 ykLength ylength, cy_f 0 (12 * s) 12 ykFrom yfrom, cy_f 0 (12 * s) 12 ykTo yto, cy_f 0 (12 * s) 12 ykAt yat, cy_f 0 (4 * s) 4 ykHandlers yhandlers, cy_f 0 (96 * s) 96 ykBegun ybegun, cy_f 0 (384 * s) 384 ykTaken ytaken, cy_f 0 (96 * s) 96 ykThrown ythrown, upd ykept s (vp_nar .boolean 1), ymethod, ypc, yvariable, yhereI, yhereWay, yhereLength, yinto, upd ykLoad s yload, ypart)) : wpY_keep post (ydepth, ysteps, yresult, youtcome, yload, yover, yop, ya, yb, yline, ylength, yfrom, yto, yat, yhandlers, ybegun, ytaken, ythrown, yrowI, yrowWay, yrowLength, ytimes, ytold, ykOp, ykA, ykB, ykLine, ykLength, ykFrom, ykTo, ykAt, ykHandlers, ykBegun, ykTaken, ykThrown, ykept, ymethod, ypc, yvariable, yhereI, yhereWay, yhereLength, yinto, ykLoad, ypart) (nI s) := by
  have cs : (nI s).toNatClampNeg = s := nI_clamp (by omega)
  have ws : vp_in (nI s) 3 := vp_in_nI hs (by decide)
  have H4 : ∀ e j, j + e = 4 → wY_keep_224 post (nI s) ydepth ysteps yresult youtcome yload yover (e + 1) (nI j) yop ya yb yline ylength yfrom yto yat yhandlers ybegun ytaken ythrown yrowI yrowWay yrowLength ytimes ytold (cy_f 0 (96 * s) 96 ykOp yop) (cy_f 0 (96 * s) 96 ykA ya) (cy_f 0 (96 * s) 96 ykB yb) (cy_f 0 (96 * s) 96 ykLine yline) (cy_f 0 (4 * s) j ykLength ylength) (cy_f 0 (12 * s) 12 ykFrom yfrom) (cy_f 0 (12 * s) 12 ykTo yto) (cy_f 0 (12 * s) 12 ykAt yat) (cy_f 0 (4 * s) j ykHandlers yhandlers) (cy_f 0 (96 * s) 96 ykBegun ybegun) (cy_f 0 (384 * s) 384 ykTaken ytaken) (cy_f 0 (96 * s) 96 ykThrown ythrown) (upd ykept s (vp_nar .boolean 1)) ymethod ypc yvariable yhereI yhereWay yhereLength yinto (upd ykLoad s yload) ypart := by
    intro e
    induction e with
    | zero =>
      intro j hj
      have z : j = 4 := by omega
      subst z
      rw [wY_keep_224]
      exact br_t (by decide) h
    | succ e ih =>
      intro j hj
      have h2 := ih (j + 1) (by omega)
      have wj : vp_in (nI j) 5 := vp_in_nI (by omega) (by decide)
      have wt : vp_in (4 * nI s + nI j) 12 := ix_in (iy_4 s j) (by omega) (by decide)
      rw [wY_keep_224]
      refine br_f (nI_ge (b := 4) (by omega) (by decide)) ?_
      rw [ix_cl (iy_4 s j) (by omega), nI_clamp (n := j) (by omega)]
      exact ⟨wj, wt, nm_r cy_sz ⟨wj, wt, nm_r cy_sz (nm_r (nI_1 j) h2)⟩⟩
  have H12 : ∀ e j, j + e = 12 → wY_keep_159 post (nI s) ydepth ysteps yresult youtcome yload yover (e + 1) (nI j) yop ya yb yline ylength yfrom yto yat yhandlers ybegun ytaken ythrown yrowI yrowWay yrowLength ytimes ytold (cy_f 0 (96 * s) 96 ykOp yop) (cy_f 0 (96 * s) 96 ykA ya) (cy_f 0 (96 * s) 96 ykB yb) (cy_f 0 (96 * s) 96 ykLine yline) ykLength (cy_f 0 (12 * s) j ykFrom yfrom) (cy_f 0 (12 * s) j ykTo yto) (cy_f 0 (12 * s) j ykAt yat) ykHandlers (cy_f 0 (96 * s) 96 ykBegun ybegun) (cy_f 0 (384 * s) 384 ykTaken ytaken) (cy_f 0 (96 * s) 96 ykThrown ythrown) (upd ykept s (vp_nar .boolean 1)) ymethod ypc yvariable yhereI yhereWay yhereLength yinto (upd ykLoad s yload) ypart := by
    intro e
    induction e with
    | zero =>
      intro j hj
      have z : j = 12 := by omega
      subst z
      have H := H4 4 0 rfl
      simp only [cy_0] at H
      rw [wY_keep_159]
      exact br_t (by decide) ⟨_, H⟩
    | succ e ih =>
      intro j hj
      have h2 := ih (j + 1) (by omega)
      have wj : vp_in (nI j) 15 := vp_in_nI (by omega) (by decide)
      have wt : vp_in (12 * nI s + nI j) 36 := ix_in (iy_12 s j) (by omega) (by decide)
      rw [wY_keep_159]
      refine br_f (nI_ge (b := 12) (by omega) (by decide)) ?_
      rw [ix_cl (iy_12 s j) (by omega), nI_clamp (n := j) (by omega)]
      exact ⟨wj, wt, nm_r cy_sz ⟨wj, wt, nm_r cy_sz ⟨wj, wt, nm_r cy_sz (nm_r (nI_1 j) h2)⟩⟩⟩
  have H96 : ∀ e i, i + e = 96 → wY_keep_29 post (nI s) ydepth ysteps yresult youtcome yload yover (e + 1) (nI i) yop ya yb yline ylength yfrom yto yat yhandlers ybegun ytaken ythrown yrowI yrowWay yrowLength ytimes ytold (cy_f 0 (96 * s) i ykOp yop) (cy_f 0 (96 * s) i ykA ya) (cy_f 0 (96 * s) i ykB yb) (cy_f 0 (96 * s) i ykLine yline) ykLength ykFrom ykTo ykAt ykHandlers (cy_f 0 (96 * s) i ykBegun ybegun) (cy_f 0 (384 * s) (4 * i) ykTaken ytaken) (cy_f 0 (96 * s) i ykThrown ythrown) (upd ykept s (vp_nar .boolean 1)) ymethod ypc yvariable yhereI yhereWay yhereLength yinto (upd ykLoad s yload) ypart := by
    intro e
    induction e with
    | zero =>
      intro i hi
      have z : i = 96 := by omega
      subst z
      have H := H12 12 0 rfl
      simp only [cy_0] at H
      rw [wY_keep_29]
      exact br_t (by decide) ⟨_, H⟩
    | succ e ih =>
      intro i hi
      have h2 := ih (i + 1) (by omega)
      have wi : vp_in (nI i) 120 := vp_in_nI (by omega) (by decide)
      have wi96 : vp_in (nI i) 96 := vp_in_nI (by omega) (by decide)
      have wt : vp_in (nI (96 * s + i)) 288 := vp_in_nI (by omega) (by decide)
      have ct : (nI (96 * s + i)).toNatClampNeg = 96 * s + i := nI_clamp (by omega)
      rw [wY_keep_29]
      refine br_f (nI_ge (b := 96) (by omega) (by decide)) (nm_r (iy_96 s i) ?_)
      rw [ct, nI_clamp (n := i) (by omega)]
      exact ⟨wi, wt, nm_r cy_sz ⟨wi, wt, nm_r cy_sz ⟨wi, wt, nm_r cy_sz ⟨wi, wt, nm_r cy_sz ⟨wi96, wt, nm_r cy_sz ⟨wi96, wt, nm_r cy_sz ⟨4 + 1, ke_Y4 hs (by omega) h2 4 0 rfl⟩⟩⟩⟩⟩⟩⟩
  have H := H96 96 0 rfl
  simp only [Nat.mul_zero, cy_0] at H
  unfold wpY_keep
  exact wi_t (n := 3) hs (by decide) (br_f (by decide) ⟨ws, nm_r (e' := upd ykept s (vp_nar .boolean 1)) (by rw [cs]) ⟨ws, nm_r (e' := upd ykLoad s yload) (by rw [cs]) ⟨_, H⟩⟩⟩)
end
theorem kp_b1 : vp_nar .boolean 1 = 1 := by decide
theorem i_vc_keep {k : Nat} {u : SX} {v : SY} (I : i_Rel k u v) (hk : k + 5 ≤ 2560) (v1 : Int32) : wpX_keep (fun r u' => wpY_keep (fun r' v' => r' = r ∧ i_Rel (k + 5) u' v') v v1) u v1 := by
  obtain ⟨xdepth, xsignal, xcarried, xlatest, xload, xsizes, xops, xargsA, xargsB, xlines, xguards, xfroms, xtos, xats, xbegunCounts, xthrownCounts, xtakenCounts, xslotUsed, xslotLoad, xstretchNumber, xstretchGone, xstretchRow, xstretchWays, xatWork, xplace, xvariables, xrow, xrowWays, xwayOn, xpart⟩ := u
  obtain ⟨ydepth, ysteps, yresult, youtcome, yload, yover, yop, ya, yb, yline, ylength, yfrom, yto, yat, yhandlers, ybegun, ytaken, ythrown, yrowI, yrowWay, yrowLength, ytimes, ytold, ykOp, ykA, ykB, ykLine, ykLength, ykFrom, ykTo, ykAt, ykHandlers, ykBegun, ykTaken, ykThrown, ykept, ymethod, ypc, yvariable, yhereI, yhereWay, yhereLength, yinto, ykLoad, ypart⟩ := v
  have J := I
  obtain ⟨L, h1, h2, h3, h4, hP, hC, hS, hT⟩ := I
  rcases pk_ix v1 (n := 3) (by decide) with z | z | ⟨s, hs, rfl⟩
  · unfold wpX_keep wpY_keep
    exact xi_f (n := 3) (Or.inl z) (br_t rfl (wi_f (n := 3) (Or.inl z) (br_t rfl ⟨rfl, J⟩)))
  · unfold wpX_keep wpY_keep
    exact xi_f (n := 3) (Or.inr z) (br_t rfl (wi_f (n := 3) (Or.inr z) (br_t rfl ⟨rfl, J⟩)))
  · refine ke_X hs (ke_Y hs ⟨rfl, ?_⟩)
    obtain ⟨p1, p2, p3, p4, p5, p6, p7, p8, p9, pa, pb, pc, pd⟩ := hP
    have hz : ∀ b, b < 16 → sz_f xsizes b ≤ 24 := fun b hb => (rg_at pa (by decide) (by omega)).2
    have e : ∀ b, b < 4 + 4 * s ∨ 8 + 4 * s ≤ b → sz_f (cy_f 0 (4 + 4 * s) 4 xsizes xsizes) b = sz_f xsizes b := fun b hb => by
      unfold sz_f
      rw [cy_out (by omega)]
    have e2 : ∀ m, m < 4 → sz_f (cy_f 0 (4 + 4 * s) 4 xsizes xsizes) (4 + 4 * s + m) = sz_f xsizes m := fun m hm => by
      unfold sz_f
      rw [cy_in (by omega) (by omega), Nat.zero_add, Nat.add_sub_cancel_left]
    refine ⟨L, h1, h2, h3, h4, ⟨bk_keep (c := 1) (T := 4 * s) p1 (by omega), bk_keep (c := 1) (T := 4 * s) p2 (by omega), bk_keep (c := 24) (T := 96 * s) p3 (by omega), bk_keep (c := 24) (T := 96 * s) p4 (by omega), bk_keep (c := 24) (T := 96 * s) p5 (by omega), bk_keep (c := 24) (T := 96 * s) p6 (by omega), bk_keep (c := 3) (T := 12 * s) p7 (by omega), bk_keep (c := 3) (T := 12 * s) p8 (by omega), bk_keep (c := 3) (T := 12 * s) p9 (by omega), rg_cy pa (by omega), rg_cy pb (by omega), rg_cy pc (by omega), rg_cy pd (by omega)⟩,
      ⟨ct_keep1 hC.1 hs hz e e2, ct_keep1 hC.2.1 hs hz e e2, ct_keep4 hC.2.2.1 hs hz e e2, ?_⟩, hS, ?_⟩
    · intro s' hs'
      by_cases z : s' = s
      · subst z
        rw [pk_us, pk_us, pk_us, pk_us, kp_b1]
        refine ⟨rfl, Or.inr rfl, L, h1, h2, h3, fun j hj => ?_⟩
        obtain ⟨t, a, b⟩ := hT j hj
        rw [cy_in (by omega) (by omega), Nat.zero_add, Nat.add_sub_cancel_left]
        exact ⟨t, by omega, a⟩
      · obtain ⟨g1, g2, K, g3, g4, g5, g6⟩ := hC.2.2.2 s' hs'
        rw [pk_un z, pk_un z, pk_un z, pk_un z]
        refine ⟨g1, g2, K, g3, g4, g5, fun j hj => ?_⟩
        rw [cy_out (by omega)]
        exact g6 j hj
    · intro j hj
      rw [cy_out (by omega)]
      exact hT j hj
