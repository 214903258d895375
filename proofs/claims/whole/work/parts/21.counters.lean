/-! part 21: counters -/
def pi_f (i : Nat) (x : Nat → Int32) : Nat → Int32 := fun j => if j < i then nI j else x j
theorem pi_0 (x : Nat → Int32) : pi_f 0 x = x := by
  funext j
  exact if_neg (by omega)
theorem pi_s {i : Nat} {x : Nat → Int32} : upd (pi_f i x) i (nI i) = pi_f (i + 1) x := by
  funext j
  unfold upd pi_f
  by_cases z : j = i
  · rw [if_pos z, if_pos (by omega), z]
  · rw [if_neg z]
    by_cases y : j < i
    · rw [if_pos y, if_pos (by omega)]
    · rw [if_neg y, if_neg (by omega)]
theorem pi_at {i j : Nat} {x : Nat → Int32} (h : j < i) : pi_f i x j = nI j := if_pos h
/-- a point of the class: outside is 24 -/
def pn_R (z : Int32) (A : Nat) : Prop := (z = -1 ∧ A = 24) ∨ (z = nI A ∧ A < 24)
theorem pn_n {A : Nat} (h : A < 24) : ¬ nI A = -1 := fun z => by
  have q := nI_pos (n := A) (by omega)
  rw [z] at q
  exact q (by decide)
section
variable {xdepth xsignal xcarried xlatest xload : Int32} {xsizes xops xargsA xargsB xlines xguards xfroms xtos xats xbegunCounts xthrownCounts xtakenCounts xslotUsed xslotLoad xstretchNumber xstretchGone xstretchRow xatWork xplace xvariables xrow xpart : Nat → Int32} {xstretchWays xrowWays xwayOn : Nat → Int64}
variable {ydepth ysteps yresult youtcome yload yover : Int32} {yop ya yb yline ylength yfrom yto yat yhandlers ybegun ytaken ythrown yrowI yrowWay yrowLength ytimes ytold ykOp ykA ykB ykLine ykLength ykFrom ykTo ykAt ykHandlers ykBegun ykTaken ykThrown ykept ymethod ypc yvariable yhereI yhereWay yhereLength yinto ykLoad ypart : Nat → Int32}
theorem jx_L {post : Int32 → SX → Prop} {P Q : Int32} (h : (P = Q → post 0 (xdepth, xsignal, xcarried, xlatest, xload, xsizes, xops, xargsA, xargsB, xlines, xguards, xfroms, xtos, xats, xbegunCounts, xthrownCounts, xtakenCounts, xslotUsed, xslotLoad, xstretchNumber, xstretchGone, xstretchRow, xstretchWays, xatWork, xplace, xvariables, xrow, xrowWays, xwayOn, cn_rl xpart P Q 25)) ∧ (¬ P = Q → post 1 (xdepth, xsignal, xcarried, xlatest, xload, xsizes, xops, xargsA, xargsB, xlines, xguards, xfroms, xtos, xats, xbegunCounts, xthrownCounts, xtakenCounts, xslotUsed, xslotLoad, xstretchNumber, xstretchGone, xstretchRow, xstretchWays, xatWork, xplace, xvariables, xrow, xrowWays, xwayOn, cn_rl xpart P Q 25))) :
    ∀ e j, j + e = 25 → wX_joinsTwoParts_38 post P Q xdepth xsignal xcarried xlatest xload (e + 1) (nI j) xsizes xops xargsA xargsB xlines xguards xfroms xtos xats xbegunCounts xthrownCounts xtakenCounts xslotUsed xslotLoad xstretchNumber xstretchGone xstretchRow xstretchWays xatWork xplace xvariables xrow xrowWays xwayOn (cn_rl xpart P Q j) := by
  intro e
  induction e with
  | zero =>
    intro j hj
    have z : j = 25 := by omega
    subst z
    rw [wX_joinsTwoParts_38]
    exact br_t (by decide) h
  | succ e ih =>
    intro j hj
    have h2 := ih (j + 1) (by omega)
    have w : vp_in (nI j) 25 := vp_in_nI (by omega) (by decide)
    have c : (nI j).toNatClampNeg = j := nI_clamp (by omega)
    rw [wX_joinsTwoParts_38]
    refine br_f (nI_ge (b := 25) (by omega) (by decide)) ⟨w, ?_⟩
    rw [c, cn_rl_at']
    by_cases z : xpart j = P
    · exact br_t z ⟨w, nm_r (cn_rl_t z) (nm_r (nI_1 j) h2)⟩
    · rw [← cn_rl_f z] at h2
      exact br_f z (nm_r (nI_1 j) h2)
theorem jx_R {post : Int32 → SX → Prop} {za zb : Int32} {A B : Nat} (ha : pn_R za A) (hb : pn_R zb B)
    (h : (xpart A = xpart B → post 0 (xdepth, xsignal, xcarried, xlatest, xload, xsizes, xops, xargsA, xargsB, xlines, xguards, xfroms, xtos, xats, xbegunCounts, xthrownCounts, xtakenCounts, xslotUsed, xslotLoad, xstretchNumber, xstretchGone, xstretchRow, xstretchWays, xatWork, xplace, xvariables, xrow, xrowWays, xwayOn, cn_rl xpart (xpart A) (xpart B) 25)) ∧ (¬ xpart A = xpart B → post 1 (xdepth, xsignal, xcarried, xlatest, xload, xsizes, xops, xargsA, xargsB, xlines, xguards, xfroms, xtos, xats, xbegunCounts, xthrownCounts, xtakenCounts, xslotUsed, xslotLoad, xstretchNumber, xstretchGone, xstretchRow, xstretchWays, xatWork, xplace, xvariables, xrow, xrowWays, xwayOn, cn_rl xpart (xpart A) (xpart B) 25))) : wpX_joinsTwoParts post (xdepth, xsignal, xcarried, xlatest, xload, xsizes, xops, xargsA, xargsB, xlines, xguards, xfroms, xtos, xats, xbegunCounts, xthrownCounts, xtakenCounts, xslotUsed, xslotLoad, xstretchNumber, xstretchGone, xstretchRow, xstretchWays, xatWork, xplace, xvariables, xrow, xrowWays, xwayOn, xpart) za zb := by
  have H := jx_L h 25 0 rfl
  rw [cn_rl_0] at H
  have K : ∀ z : Int32, z = nI A → A < 25 → wX_joinsTwoParts_15 post zb z xdepth xsignal xcarried xlatest xload xsizes xops xargsA xargsB xlines xguards xfroms xtos xats xbegunCounts xthrownCounts xtakenCounts xslotUsed xslotLoad xstretchNumber xstretchGone xstretchRow xstretchWays xatWork xplace xvariables xrow xrowWays xwayOn xpart := by
    intro z hz hA
    subst hz
    refine ⟨vp_in_nI hA (by decide), nm_r (e' := xpart A) (by rw [nI_clamp (by omega)]) ?_⟩
    rcases hb with ⟨rfl, rfl⟩ | ⟨rfl, h24⟩
    · exact br_t rfl (nm_e ⟨_, H⟩)
    · exact br_f (pn_n h24) ⟨vp_in_nI (by omega) (by decide), nm_r (e' := xpart B) (by rw [nI_clamp (by omega)]) ⟨_, H⟩⟩
  unfold wpX_joinsTwoParts
  rcases ha with ⟨rfl, rfl⟩ | ⟨rfl, h24⟩
  · exact br_t rfl (K 24 rfl (by omega))
  · exact br_f (pn_n h24) (K (nI A) rfl (by omega))
theorem uy_L {post : SY → Prop} {P Q : Int32} {n : Nat} (hn : n ≤ 24) (h : post (ydepth, ysteps, yresult, youtcome, yload, yover, yop, ya, yb, yline, ylength, yfrom, yto, yat, yhandlers, ybegun, ytaken, ythrown, yrowI, yrowWay, yrowLength, ytimes, ytold, ykOp, ykA, ykB, ykLine, ykLength, ykFrom, ykTo, ykAt, ykHandlers, ykBegun, ykTaken, ykThrown, ykept, ymethod, ypc, yvariable, yhereI, yhereWay, yhereLength, yinto, ykLoad, cn_rl ypart P Q (n + 1))) :
    ∀ e j, j + e = n + 1 → wY_unite_67 post (nI n) Q P ydepth ysteps yresult youtcome yload yover (e + 1) (nI j) yop ya yb yline ylength yfrom yto yat yhandlers ybegun ytaken ythrown yrowI yrowWay yrowLength ytimes ytold ykOp ykA ykB ykLine ykLength ykFrom ykTo ykAt ykHandlers ykBegun ykTaken ykThrown ykept ymethod ypc yvariable yhereI yhereWay yhereLength yinto ykLoad (cn_rl ypart P Q j) := by
  intro e
  induction e with
  | zero =>
    intro j hj
    have z : j = n + 1 := by omega
    subst z
    rw [wY_unite_67]
    exact br_t (nI_lt (by omega) (by omega)) h
  | succ e ih =>
    intro j hj
    have h2 := ih (j + 1) (by omega)
    have w : vp_in (nI j) 25 := vp_in_nI (by omega) (by decide)
    have c : (nI j).toNatClampNeg = j := nI_clamp (by omega)
    rw [wY_unite_67]
    refine br_f (nI_nlt (by omega) (by omega)) ⟨w, ?_⟩
    rw [c, cn_rl_at']
    by_cases z : ypart j = P
    · exact br_t z ⟨w, nm_r (cn_rl_t z) (nm_r (nI_1 j) h2)⟩
    · rw [← cn_rl_f z] at h2
      exact br_f z (nm_r (nI_1 j) h2)
theorem uy_R {post : SY → Prop} {f : Nat → Nat} {p q n : Nat} (hn : n ≤ 24) (hp : p ≤ n) (hq : q ≤ n) (hY : ∀ j, j ≤ n → ypart j = nI (f j)) (hf : ∀ j, j ≤ n → f j ≤ n)
    (h : post (ydepth, ysteps, yresult, youtcome, yload, yover, yop, ya, yb, yline, ylength, yfrom, yto, yat, yhandlers, ybegun, ytaken, ythrown, yrowI, yrowWay, yrowLength, ytimes, ytold, ykOp, ykA, ykB, ykLine, ykLength, ykFrom, ykTo, ykAt, ykHandlers, ykBegun, ykTaken, ykThrown, ykept, ymethod, ypc, yvariable, yhereI, yhereWay, yhereLength, yinto, ykLoad, cn_rl ypart (nI (cn_hi f p q)) (nI (cn_lo f p q)) (n + 1))) : wpY_unite post (ydepth, ysteps, yresult, youtcome, yload, yover, yop, ya, yb, yline, ylength, yfrom, yto, yat, yhandlers, ybegun, ytaken, ythrown, yrowI, yrowWay, yrowLength, ytimes, ytold, ykOp, ykA, ykB, ykLine, ykLength, ykFrom, ykTo, ykAt, ykHandlers, ykBegun, ykTaken, ykThrown, ykept, ymethod, ypc, yvariable, yhereI, yhereWay, yhereLength, yinto, ykLoad, ypart) (nI p) (nI q) (nI n) := by
  have H := uy_L hn h (n + 1) 0 (by omega)
  rw [cn_rl_0] at H
  have cp : (nI p).toNatClampNeg = p := nI_clamp (by omega)
  have cq : (nI q).toNatClampNeg = q := nI_clamp (by omega)
  have wp : vp_in (nI p) 25 := vp_in_nI (by omega) (by decide)
  have wq : vp_in (nI q) 25 := vp_in_nI (by omega) (by decide)
  have bp := hf p hp
  have bq := hf q hq
  unfold wpY_unite wY_unite_30
  dsimp only
  rw [cp, cq, hY p hp, hY q hq]
  unfold cn_lo cn_hi at H
  by_cases z : f p < f q
  · rw [if_pos z, if_pos z] at H
    have y : ¬ nI (f q) ≤ nI (f p) := nI_ge z (by omega)
    exact ⟨wp, wq, br_f y ⟨wp, wp, wq, br_f y ⟨wq, nm_e ⟨_, H⟩⟩⟩⟩
  · rw [if_neg z, if_neg z] at H
    have y : nI (f q) ≤ nI (f p) := nI_le (by omega) (by omega)
    exact ⟨wp, wq, br_t y ⟨wq, wp, wq, br_t y ⟨wp, nm_e ⟨_, H⟩⟩⟩⟩
theorem uy_f {f : Nat → Nat} {p q n : Nat} {Yp : Nat → Int32} (hn : n ≤ 24) (hp : p ≤ n) (hq : q ≤ n) (hY : ∀ j, j ≤ n → Yp j = nI (f j)) (hf : ∀ j, j ≤ n → f j ≤ n) :
    ∀ j, j ≤ n → cn_rl Yp (nI (cn_hi f p q)) (nI (cn_lo f p q)) (n + 1) j = nI (cn_u f (cn_lo f p q) (cn_hi f p q) j) := by
  intro j hj
  have b := hf j hj
  have bh : cn_hi f p q ≤ n := by
    unfold cn_hi
    split
    · exact hf q hq
    · exact hf p hp
  unfold cn_rl cn_u
  rw [hY j hj]
  by_cases z : f j = cn_hi f p q
  · rw [if_pos ⟨by omega, by rw [z]⟩, if_pos z]
  · rw [if_neg (fun w => z ((nI_eq (by omega) (by omega)).mp w.2)), if_neg z]
/-- all ways of one instruction -/
theorem ci_R {m i n : Nat} (hP : (gp_R xsizes xops xargsA xargsB xlines xguards xfroms xtos xats yop ya yb yline ylength yfrom yto yat yhandlers ykOp ykA ykB ykLine ykLength ykFrom ykTo ykAt ykHandlers)) (hm : m < 4) (hn : n = sz_f xsizes m) (hi : i < n) :
    ∀ (e k nd ln : Nat) (Xp : Nat → Int32) (f : Nat → Nat) (Yp : Nat → Int32), k + e = wy_f (xops (24 * m + i)) → cn_I Xp nd f ln n → (∀ j, j ≤ n → Yp j = nI (f j)) →
      ∃ (Xq : Nat → Int32) (nd' : Nat) (f' : Nat → Nat) (ln' : Nat) (Yq : Nat → Int32), cn_I Xq nd' f' ln' n ∧ (∀ j, j ≤ n → Yq j = nI (f' j)) ∧
        (∀ (post : Int32 → SX → Prop) (J : _), J (nI nd') (nI (i + 1)) xdepth xsignal xcarried xlatest xload xsizes xops xargsA xargsB xlines xguards xfroms xtos xats xbegunCounts xthrownCounts xtakenCounts xslotUsed xslotLoad xstretchNumber xstretchGone xstretchRow xstretchWays xatWork xplace xvariables xrow xrowWays xwayOn Xq → wX_counters_67 post J (nI m) (nI i) (nI (wy_f (xops (24 * m + i)))) (e + 1) (nI nd) (nI k) xdepth xsignal xcarried xlatest xload xsizes xops xargsA xargsB xlines xguards xfroms xtos xats xbegunCounts xthrownCounts xtakenCounts xslotUsed xslotLoad xstretchNumber xstretchGone xstretchRow xstretchWays xatWork xplace xvariables xrow xrowWays xwayOn Xp) ∧
        (∀ (post : Int32 → SY → Prop) (J : _) (x4 : Int32), J (nI ln') (nI (i + 1)) ydepth ysteps yresult youtcome yload yover yop ya yb yline ylength yfrom yto yat yhandlers ybegun ytaken ythrown yrowI yrowWay yrowLength ytimes ytold ykOp ykA ykB ykLine ykLength ykFrom ykTo ykAt ykHandlers ykBegun ykTaken ykThrown ykept ymethod ypc yvariable yhereI yhereWay yhereLength yinto ykLoad Yq → wY_counters_65 post J (nI m) (nI n) x4 (nI i) (e + 1) (nI ln) (nI k) ydepth ysteps yresult youtcome yload yover yop ya yb yline ylength yfrom yto yat yhandlers ybegun ytaken ythrown yrowI yrowWay yrowLength ytimes ytold ykOp ykA ykB ykLine ykLength ykFrom ykTo ykAt ykHandlers ykBegun ykTaken ykThrown ykept ymethod ypc yvariable yhereI yhereWay yhereLength yinto ykLoad Yp) := by
  obtain ⟨e1, e2, e3⟩ := gp_sz hP hm
  have h24 : i < 24 := by omega
  have n24 : n ≤ 24 := by omega
  have w4 := wy_4 (xops (24 * m + i))
  have wy : vp_in (24 * nI m + nI i) 120 := ix_in (iy_24 m i) (by omega) (by decide)
  have cy : (24 * nI m + nI i).toNatClampNeg = 24 * m + i := ix_cl (iy_24 m i) (by omega)
  have eo := gp_op hP hm h24
  intro e
  induction e with
  | zero =>
    intro k nd ln Xp f Yp hk hI hY
    refine ⟨Xp, nd, f, ln, Yp, hI, hY, fun post J h => ?_, fun post J x4 h => ?_⟩
    · rw [wX_counters_67]
      exact br_t (nI_le (by omega) (by omega)) (nm_r (nI_1 i) h)
    · rw [wY_counters_65]
      refine ⟨wy, ?_⟩
      rw [cy, ← eo]
      exact wy_Y (br_t (nI_le (by omega) (by omega)) (nm_r (nI_1 i) h))
  | succ e ih =>
    intro k nd ln Xp f Yp hk hI hY
    have hf : ∀ j, j ≤ n → f j ≤ n := fun j hj => (hI.2.1 j hj).1
    have pi : cn_ph n i = i := if_neg (by omega)
    have hk4 : k < 4 := by omega
    -- the point that way k leads to
    have T : ∃ (q B : Nat) (zb : Int32), q ≤ n ∧ cn_ph n q = B ∧ pn_R zb B ∧ (∀ post : Int32 → Prop, post zb → wpX_wayTo post (xdepth, xsignal, xcarried, xlatest, xload, xsizes, xops, xargsA, xargsB, xlines, xguards, xfroms, xtos, xats, xbegunCounts, xthrownCounts, xtakenCounts, xslotUsed, xslotLoad, xstretchNumber, xstretchGone, xstretchRow, xstretchWays, xatWork, xplace, xvariables, xrow, xrowWays, xwayOn, Xp) (nI m) (nI i) (nI k)) ∧
        (∀ (post : Int32 → SY → Prop) (J56 J65 : _) (x4 : Int32) (M : Nat), (J65 = wY_counters_65 post J56 (nI m) (nI n) x4 (nI i) M) → wY_counters_111 post J56 J65 (nI m) (nI n) (nI ln) x4 (nI i) (nI k) (nI q) ydepth ysteps yresult youtcome yload yover yop ya yb yline ylength yfrom yto yat yhandlers ybegun ytaken ythrown yrowI yrowWay yrowLength ytimes ytold ykOp ykA ykB ykLine ykLength ykFrom ykTo ykAt ykHandlers ykBegun ykTaken ykThrown ykept ymethod ypc yvariable yhereI yhereWay yhereLength yinto ykLoad Yp →
          wpY_target (fun r_108 => (wpY_in (fun r_154 => (((r_154 = 0 → (wY_counters_111 post J56 J65 (nI m) (nI n) (nI ln) x4 (nI i) (nI k) (nI n) ydepth ysteps yresult youtcome yload yover yop ya yb yline ylength yfrom yto yat yhandlers ybegun ytaken ythrown yrowI yrowWay yrowLength ytimes ytold ykOp ykA ykB ykLine ykLength ykFrom ykTo ykAt ykHandlers ykBegun ykTaken ykThrown ykept ymethod ypc yvariable yhereI yhereWay yhereLength yinto ykLoad Yp)) ∧ (¬ r_154 = 0 → (wY_counters_111 post J56 J65 (nI m) (nI n) (nI ln) x4 (nI i) (nI k) r_108 ydepth ysteps yresult youtcome yload yover yop ya yb yline ylength yfrom yto yat yhandlers ybegun ytaken ythrown yrowI yrowWay yrowLength ytimes ytold ykOp ykA ykB ykLine ykLength ykFrom ykTo ykAt ykHandlers ykBegun ykTaken ykThrown ykept ymethod ypc yvariable yhereI yhereWay yhereLength yinto ykLoad Yp))))) r_108 (nI n))) (ydepth, ysteps, yresult, youtcome, yload, yover, yop, ya, yb, yline, ylength, yfrom, yto, yat, yhandlers, ybegun, ytaken, ythrown, yrowI, yrowWay, yrowLength, ytimes, ytold, ykOp, ykA, ykB, ykLine, ykLength, ykFrom, ykTo, ykAt, ykHandlers, ykBegun, ykTaken, ykThrown, ykept, ymethod, ypc, yvariable, yhereI, yhereWay, yhereLength, yinto, ykLoad, Yp) (nI m) (nI i) (nI k)) := by
      rcases tg_R (xdepth := xdepth) (xsignal := xsignal) (xcarried := xcarried) (xlatest := xlatest) (xload := xload) (xsizes := xsizes) (xops := xops) (xargsA := xargsA) (xargsB := xargsB) (xlines := xlines) (xguards := xguards) (xfroms := xfroms) (xtos := xtos) (xats := xats) (xbegunCounts := xbegunCounts) (xthrownCounts := xthrownCounts) (xtakenCounts := xtakenCounts) (xslotUsed := xslotUsed) (xslotLoad := xslotLoad) (xstretchNumber := xstretchNumber) (xstretchGone := xstretchGone) (xstretchRow := xstretchRow) (xstretchWays := xstretchWays) (xatWork := xatWork) (xplace := xplace) (xvariables := xvariables) (xrow := xrow) (xrowWays := xrowWays) (xwayOn := xwayOn) (xpart := Xp) (ydepth := ydepth) (ysteps := ysteps) (yresult := yresult) (youtcome := youtcome) (yload := yload) (yover := yover) (yop := yop) (ya := ya) (yb := yb) (yline := yline) (ylength := ylength) (yfrom := yfrom) (yto := yto) (yat := yat) (yhandlers := yhandlers) (ybegun := ybegun) (ytaken := ytaken) (ythrown := ythrown) (yrowI := yrowI) (yrowWay := yrowWay) (yrowLength := yrowLength) (ytimes := ytimes) (ytold := ytold) (ykOp := ykOp) (ykA := ykA) (ykB := ykB) (ykLine := ykLine) (ykLength := ykLength) (ykFrom := ykFrom) (ykTo := ykTo) (ykAt := ykAt) (ykHandlers := ykHandlers) (ykBegun := ykBegun) (ykTaken := ykTaken) (ykThrown := ykThrown) (ykept := ykept) (ymethod := ymethod) (ypc := ypc) (yvariable := yvariable) (yhereI := yhereI) (yhereWay := yhereWay) (yhereLength := yhereLength) (yinto := yinto) (ykLoad := ykLoad) (ypart := Yp) hP hm h24 hk4 with ⟨j, hj, hj24, tX, tY, _⟩ | ⟨t, ht, tX, tY⟩
      · refine ⟨j, j, nI j, by omega, if_neg (by omega), Or.inr ⟨rfl, hj24⟩, tX, fun post J56 J65 x4 M _ h => tY _ ?_⟩
        exact wi_t (by omega) (by omega) (br_f (by decide) h)
      · refine ⟨n, 24, -1, Nat.le_refl n, if_pos rfl, Or.inl ⟨rfl, rfl⟩, tX, fun post J56 J65 x4 M _ h => tY _ ?_⟩
        rw [← hn] at ht
        exact wi_f ht (br_t rfl h)
    obtain ⟨q, B, zb, hq, hB, hzb, tX, tY⟩ := T
    have Lq := cn_line hI n24 (show i ≤ n by omega) hq
    rw [pi, hB] at Lq
    have hY' := uy_f n24 (show i ≤ n by omega) hq hY hf
    have YY : ∀ (post : Int32 → SY → Prop) (J : _) (x4 : Int32), wY_counters_65 post J (nI m) (nI n) x4 (nI i) (e + 1) (nI (ln + 1)) (nI (k + 1)) ydepth ysteps yresult youtcome yload yover yop ya yb yline ylength yfrom yto yat yhandlers ybegun ytaken ythrown yrowI yrowWay yrowLength ytimes ytold ykOp ykA ykB ykLine ykLength ykFrom ykTo ykAt ykHandlers ykBegun ykTaken ykThrown ykept ymethod ypc yvariable yhereI yhereWay yhereLength yinto ykLoad (cn_rl Yp (nI (cn_hi f i q)) (nI (cn_lo f i q)) (n + 1)) → wY_counters_65 post J (nI m) (nI n) x4 (nI i) (e + 1 + 1) (nI ln) (nI k) ydepth ysteps yresult youtcome yload yover yop ya yb yline ylength yfrom yto yat yhandlers ybegun ytaken ythrown yrowI yrowWay yrowLength ytimes ytold ykOp ykA ykB ykLine ykLength ykFrom ykTo ykAt ykHandlers ykBegun ykTaken ykThrown ykept ymethod ypc yvariable yhereI yhereWay yhereLength yinto ykLoad Yp := by
      intro post J x4 h
      rw [wY_counters_65]
      refine ⟨wy, ?_⟩
      rw [cy, ← eo]
      refine wy_Y (br_f (nI_ge (by omega) (by omega)) (tY post J _ x4 (e + 1) rfl ?_))
      unfold wY_counters_111
      exact uy_R n24 (by omega) hq hY hf (nm_r (nI_1 ln) (nm_r (nI_1 k) h))
    by_cases z : Xp i = Xp B
    · obtain ⟨Xq, nd', f', ln', Yq, g1, g2, g3, g4⟩ := ih (k + 1) (nd + 1) (ln + 1) _ _ _ (by omega) (Lq.1 z) hY'
      refine ⟨Xq, nd', f', ln', Yq, g1, g2, fun post J h => ?_, fun post J x4 h => YY post J x4 (g4 post J x4 h)⟩
      rw [wX_counters_67]
      refine br_f (nI_ge (by omega) (by omega)) (tX _ (jx_R (A := i) (Or.inr ⟨rfl, h24⟩) hzb ⟨fun _ => ?_, fun y => absurd z y⟩))
      exact br_t rfl (nm_r (nI_1 nd) (nm_r (nI_1 k) (g3 post J h)))
    · obtain ⟨Xq, nd', f', ln', Yq, g1, g2, g3, g4⟩ := ih (k + 1) nd (ln + 1) _ _ _ (by omega) (Lq.2 z) hY'
      refine ⟨Xq, nd', f', ln', Yq, g1, g2, fun post J h => ?_, fun post J x4 h => YY post J x4 (g4 post J x4 h)⟩
      rw [wX_counters_67]
      refine br_f (nI_ge (by omega) (by omega)) (tX _ (jx_R (A := i) (Or.inr ⟨rfl, h24⟩) hzb ⟨fun y => absurd y z, fun _ => ?_⟩))
      exact br_f (by decide) (nm_r (nI_1 k) (g3 post J h))
/-- the reference counts the parts -/
theorem ce_Y {post : Int32 → SY → Prop} {f : Nat → Nat} {ln n : Nat} (hn : n ≤ 24) (hY : ∀ j, j ≤ n → ypart j = nI (f j)) (hf : ∀ j, j ≤ n → f j ≤ n) (h : post (nI ln - (nI n + 1) + nI (cn_rp f n)) (ydepth, ysteps, yresult, youtcome, yload, yover, yop, ya, yb, yline, ylength, yfrom, yto, yat, yhandlers, ybegun, ytaken, ythrown, yrowI, yrowWay, yrowLength, ytimes, ytold, ykOp, ykA, ykB, ykLine, ykLength, ykFrom, ykTo, ykAt, ykHandlers, ykBegun, ykTaken, ykThrown, ykept, ymethod, ypc, yvariable, yhereI, yhereWay, yhereLength, yinto, ykLoad, ypart)) :
    ∀ e j, j + e = n + 1 → wY_counters_140 post (nI n) (nI ln) ydepth ysteps yresult youtcome yload yover yop ya yb yline ylength yfrom yto yat yhandlers ybegun ytaken ythrown yrowI yrowWay yrowLength ytimes ytold ykOp ykA ykB ykLine ykLength ykFrom ykTo ykAt ykHandlers ykBegun ykTaken ykThrown ykept ymethod ypc yvariable yhereI yhereWay yhereLength yinto ykLoad ypart (e + 1) (nI (cn_ct (fun k => decide (f k = k)) j)) (nI j) := by
  intro e
  induction e with
  | zero =>
    intro j hj
    have z : j = n + 1 := by omega
    subst z
    rw [wY_counters_140]
    exact br_t (nI_lt (by omega) (by omega)) h
  | succ e ih =>
    intro j hj
    have h2 := ih (j + 1) (by omega)
    have b := hf j (by omega)
    rw [cn_ct_s] at h2
    rw [wY_counters_140]
    refine br_f (nI_nlt (by omega) (by omega)) ⟨vp_in_nI (by omega) (by decide), ?_⟩
    rw [nI_clamp (by omega), hY j (by omega)]
    by_cases z : f j = j
    · rw [if_pos (decide_eq_true z)] at h2
      exact br_t (by rw [z]) (nm_r (nI_1 _) (nm_r (nI_1 j) h2))
    · rw [if_neg (by rw [decide_eq_false z]; decide), Nat.add_zero] at h2
      exact br_f (fun y => z ((nI_eq (by omega) (by omega)).mp y)) (nm_r (nI_1 j) h2)
/-- all instructions -/
theorem co_R {m n : Nat} (hP : (gp_R xsizes xops xargsA xargsB xlines xguards xfroms xtos xats yop ya yb yline ylength yfrom yto yat yhandlers ykOp ykA ykB ykLine ykLength ykFrom ykTo ykAt ykHandlers)) (hm : m < 4) (hn : n = sz_f xsizes m) :
    ∀ (e i nd ln : Nat) (Xp : Nat → Int32) (f : Nat → Nat) (Yp : Nat → Int32), i + e = n → cn_I Xp nd f ln n → (∀ j, j ≤ n → Yp j = nI (f j)) →
      ∃ (r : Int32) (Xq Yq : Nat → Int32),
        (∀ (post : Int32 → SX → Prop), post r (xdepth, xsignal, xcarried, xlatest, xload, xsizes, xops, xargsA, xargsB, xlines, xguards, xfroms, xtos, xats, xbegunCounts, xthrownCounts, xtakenCounts, xslotUsed, xslotLoad, xstretchNumber, xstretchGone, xstretchRow, xstretchWays, xatWork, xplace, xvariables, xrow, xrowWays, xwayOn, Xq) → wX_counters_42 post (nI m) (e + 1) (nI nd) (nI i) xdepth xsignal xcarried xlatest xload xsizes xops xargsA xargsB xlines xguards xfroms xtos xats xbegunCounts xthrownCounts xtakenCounts xslotUsed xslotLoad xstretchNumber xstretchGone xstretchRow xstretchWays xatWork xplace xvariables xrow xrowWays xwayOn Xp) ∧
        (∀ (post : Int32 → SY → Prop), post r (ydepth, ysteps, yresult, youtcome, yload, yover, yop, ya, yb, yline, ylength, yfrom, yto, yat, yhandlers, ybegun, ytaken, ythrown, yrowI, yrowWay, yrowLength, ytimes, ytold, ykOp, ykA, ykB, ykLine, ykLength, ykFrom, ykTo, ykAt, ykHandlers, ykBegun, ykTaken, ykThrown, ykept, ymethod, ypc, yvariable, yhereI, yhereWay, yhereLength, yinto, ykLoad, Yq) → wY_counters_56 post (nI m) (nI n) 0 (e + 1) (nI ln) (nI i) ydepth ysteps yresult youtcome yload yover yop ya yb yline ylength yfrom yto yat yhandlers ybegun ytaken ythrown yrowI yrowWay yrowLength ytimes ytold ykOp ykA ykB ykLine ykLength ykFrom ykTo ykAt ykHandlers ykBegun ykTaken ykThrown ykept ymethod ypc yvariable yhereI yhereWay yhereLength yinto ykLoad Yp) := by
  obtain ⟨e1, e2, e3⟩ := gp_sz hP hm
  have n24 : n ≤ 24 := by omega
  have cm : (nI m).toNatClampNeg = m := nI_clamp (by omega)
  have wm : vp_in (nI m) 17 := vp_in_nI (by omega) (by decide)
  intro e
  induction e with
  | zero =>
    intro i nd ln Xp f Yp hi hI hY
    have hf : ∀ j, j ≤ n → f j ≤ n := fun j hj => (hI.2.1 j hj).1
    refine ⟨nI nd, Xp, Yp, fun post h => ?_, fun post h => ?_⟩
    · rw [wX_counters_42]
      refine ⟨wm, ?_⟩
      rw [cm, e1]
      exact br_t (nI_le (by omega) (by omega)) h
    · rw [wY_counters_56]
      refine br_t (nI_le (by omega) (by omega)) ⟨n + 1 + 1, ?_⟩
      have := ce_Y (ydepth := ydepth) (ysteps := ysteps) (yresult := yresult) (youtcome := youtcome) (yload := yload) (yover := yover) (yop := yop) (ya := ya) (yb := yb) (yline := yline) (ylength := ylength) (yfrom := yfrom) (yto := yto) (yat := yat) (yhandlers := yhandlers) (ybegun := ybegun) (ytaken := ytaken) (ythrown := ythrown) (yrowI := yrowI) (yrowWay := yrowWay) (yrowLength := yrowLength) (ytimes := ytimes) (ytold := ytold) (ykOp := ykOp) (ykA := ykA) (ykB := ykB) (ykLine := ykLine) (ykLength := ykLength) (ykFrom := ykFrom) (ykTo := ykTo) (ykAt := ykAt) (ykHandlers := ykHandlers) (ykBegun := ykBegun) (ykTaken := ykTaken) (ykThrown := ykThrown) (ykept := ykept) (ymethod := ymethod) (ypc := ypc) (yvariable := yvariable) (yhereI := yhereI) (yhereWay := yhereWay) (yhereLength := yhereLength) (yinto := yinto) (ykLoad := ykLoad) (ypart := Yp) (post := post) (ln := ln) n24 hY hf (by rw [cn_end hI.2.2]; exact h) (n + 1) 0 (by omega)
      exact this
  | succ e ih =>
    intro i nd ln Xp f Yp hi hI hY
    obtain ⟨Xq, nd', f', ln', Yq, g1, g2, g3, g4⟩ := ci_R (xdepth := xdepth) (xsignal := xsignal) (xcarried := xcarried) (xlatest := xlatest) (xload := xload) (xsizes := xsizes) (xops := xops) (xargsA := xargsA) (xargsB := xargsB) (xlines := xlines) (xguards := xguards) (xfroms := xfroms) (xtos := xtos) (xats := xats) (xbegunCounts := xbegunCounts) (xthrownCounts := xthrownCounts) (xtakenCounts := xtakenCounts) (xslotUsed := xslotUsed) (xslotLoad := xslotLoad) (xstretchNumber := xstretchNumber) (xstretchGone := xstretchGone) (xstretchRow := xstretchRow) (xstretchWays := xstretchWays) (xatWork := xatWork) (xplace := xplace) (xvariables := xvariables) (xrow := xrow) (xrowWays := xrowWays) (xwayOn := xwayOn) (ydepth := ydepth) (ysteps := ysteps) (yresult := yresult) (youtcome := youtcome) (yload := yload) (yover := yover) (yop := yop) (ya := ya) (yb := yb) (yline := yline) (ylength := ylength) (yfrom := yfrom) (yto := yto) (yat := yat) (yhandlers := yhandlers) (ybegun := ybegun) (ytaken := ytaken) (ythrown := ythrown) (yrowI := yrowI) (yrowWay := yrowWay) (yrowLength := yrowLength) (ytimes := ytimes) (ytold := ytold) (ykOp := ykOp) (ykA := ykA) (ykB := ykB) (ykLine := ykLine) (ykLength := ykLength) (ykFrom := ykFrom) (ykTo := ykTo) (ykAt := ykAt) (ykHandlers := ykHandlers) (ykBegun := ykBegun) (ykTaken := ykTaken) (ykThrown := ykThrown) (ykept := ykept) (ymethod := ymethod) (ypc := ypc) (yvariable := yvariable) (yhereI := yhereI) (yhereWay := yhereWay) (yhereLength := yhereLength) (yinto := yinto) (ykLoad := ykLoad) hP hm hn (show i < n by omega) (wy_f (xops (24 * m + i))) 0 nd ln Xp f Yp (by omega) hI hY
    obtain ⟨r, Xr, Yr, hX, hY'⟩ := ih (i + 1) nd' ln' Xq f' Yq (by omega) g1 g2
    refine ⟨r, Xr, Yr, fun post h => ?_, fun post h => ?_⟩
    · rw [wX_counters_42]
      refine ⟨wm, ?_⟩
      rw [cm, e1, ix_24]
      exact br_f (nI_ge (by omega) (by omega)) (wy_X (by omega) ⟨_, g3 post _ (hX post h)⟩)
    · rw [wY_counters_56]
      exact br_f (nI_ge (by omega) (by omega)) ⟨_, g4 post _ 0 (hY' post h)⟩
end
theorem i_vc_counters {k : Nat} {u : SX} {v : SY} (I : i_Rel k u v) (hk : k + 5 ≤ 2560) (v1 : Int32) : wpX_counters (fun r u' => wpY_counters (fun r' v' => r' = r ∧ i_Rel (k + 5) u' v') v v1) u v1 := by
  obtain ⟨xdepth, xsignal, xcarried, xlatest, xload, xsizes, xops, xargsA, xargsB, xlines, xguards, xfroms, xtos, xats, xbegunCounts, xthrownCounts, xtakenCounts, xslotUsed, xslotLoad, xstretchNumber, xstretchGone, xstretchRow, xstretchWays, xatWork, xplace, xvariables, xrow, xrowWays, xwayOn, xpart⟩ := u
  obtain ⟨ydepth, ysteps, yresult, youtcome, yload, yover, yop, ya, yb, yline, ylength, yfrom, yto, yat, yhandlers, ybegun, ytaken, ythrown, yrowI, yrowWay, yrowLength, ytimes, ytold, ykOp, ykA, ykB, ykLine, ykLength, ykFrom, ykTo, ykAt, ykHandlers, ykBegun, ykTaken, ykThrown, ykept, ymethod, ypc, yvariable, yhereI, yhereWay, yhereLength, yinto, ykLoad, ypart⟩ := v
  have J := I
  obtain ⟨L, h1, h2, h3, h4, hP, hC, hS, hT⟩ := I
  unfold wpX_counters
  rcases th_c (xdepth := xdepth) (xsignal := xsignal) (xcarried := xcarried) (xlatest := xlatest) (xload := xload) (xsizes := xsizes) (xops := xops) (xargsA := xargsA) (xargsB := xargsB) (xlines := xlines) (xguards := xguards) (xfroms := xfroms) (xtos := xtos) (xats := xats) (xbegunCounts := xbegunCounts) (xthrownCounts := xthrownCounts) (xtakenCounts := xtakenCounts) (xslotUsed := xslotUsed) (xslotLoad := xslotLoad) (xstretchNumber := xstretchNumber) (xstretchGone := xstretchGone) (xstretchRow := xstretchRow) (xstretchWays := xstretchWays) (xatWork := xatWork) (xplace := xplace) (xvariables := xvariables) (xrow := xrow) (xrowWays := xrowWays) (xwayOn := xwayOn) (xpart := xpart) (ydepth := ydepth) (ysteps := ysteps) (yresult := yresult) (youtcome := youtcome) (yload := yload) (yover := yover) (yop := yop) (ya := ya) (yb := yb) (yline := yline) (ylength := ylength) (yfrom := yfrom) (yto := yto) (yat := yat) (yhandlers := yhandlers) (ybegun := ybegun) (ytaken := ytaken) (ythrown := ythrown) (yrowI := yrowI) (yrowWay := yrowWay) (yrowLength := yrowLength) (ytimes := ytimes) (ytold := ytold) (ykOp := ykOp) (ykA := ykA) (ykB := ykB) (ykLine := ykLine) (ykLength := ykLength) (ykFrom := ykFrom) (ykTo := ykTo) (ykAt := ykAt) (ykHandlers := ykHandlers) (ykBegun := ykBegun) (ykTaken := ykTaken) (ykThrown := ykThrown) (ykept := ykept) (ymethod := ymethod) (ypc := ypc) (yvariable := yvariable) (yhereI := yhereI) (yhereWay := yhereWay) (yhereLength := yhereLength) (yinto := yinto) (ykLoad := ykLoad) (ypart := ypart) v1 hP with ⟨m, hm, rfl, hs, hX, hY⟩ | ⟨hX, hY⟩
  · obtain ⟨e1, e2, e3⟩ := gp_sz hP hm
    have cm : (nI m).toNatClampNeg = m := nI_clamp (by omega)
    -- the points as they are set at first, and the line from outside to instruction 0
    have I0 : cn_I (pi_f 25 xpart) 0 (fun k => k) 0 (sz_f xsizes m) := cn_I0 e3 (fun j hj => pi_at hj) (fun k _ => rfl)
    have Y0 : ∀ j, j ≤ sz_f xsizes m → pi_f (sz_f xsizes m + 1) ypart j = nI ((fun k => k) j) := fun j hj => pi_at (by omega)
    have p0 : cn_ph (sz_f xsizes m) (sz_f xsizes m) = 24 := if_pos rfl
    have p1 : cn_ph (sz_f xsizes m) 0 = 0 := if_neg (by omega)
    have I1 := (cn_line I0 e3 (Nat.le_refl (sz_f xsizes m)) (Nat.zero_le _)).2
    rw [p0, p1] at I1
    have ne : ¬ pi_f 25 xpart 24 = pi_f 25 xpart 0 := by rw [pi_at (by omega), pi_at (by omega)]; decide
    have I2 := I1 ne
    have Y1 := uy_f e3 (Nat.le_refl (sz_f xsizes m)) (Nat.zero_le _) Y0 (fun j hj => hj)
    obtain ⟨r, Xq, Yq, gX, gY⟩ := co_R (xdepth := xdepth) (xsignal := xsignal) (xcarried := xcarried) (xlatest := xlatest) (xload := xload) (xsizes := xsizes) (xops := xops) (xargsA := xargsA) (xargsB := xargsB) (xlines := xlines) (xguards := xguards) (xfroms := xfroms) (xtos := xtos) (xats := xats) (xbegunCounts := xbegunCounts) (xthrownCounts := xthrownCounts) (xtakenCounts := xtakenCounts) (xslotUsed := xslotUsed) (xslotLoad := xslotLoad) (xstretchNumber := xstretchNumber) (xstretchGone := xstretchGone) (xstretchRow := xstretchRow) (xstretchWays := xstretchWays) (xatWork := xatWork) (xplace := xplace) (xvariables := xvariables) (xrow := xrow) (xrowWays := xrowWays) (xwayOn := xwayOn) (ydepth := ydepth) (ysteps := ysteps) (yresult := yresult) (youtcome := youtcome) (yload := yload) (yover := yover) (yop := yop) (ya := ya) (yb := yb) (yline := yline) (ylength := ylength) (yfrom := yfrom) (yto := yto) (yat := yat) (yhandlers := yhandlers) (ybegun := ybegun) (ytaken := ytaken) (ythrown := ythrown) (yrowI := yrowI) (yrowWay := yrowWay) (yrowLength := yrowLength) (ytimes := ytimes) (ytold := ytold) (ykOp := ykOp) (ykA := ykA) (ykB := ykB) (ykLine := ykLine) (ykLength := ykLength) (ykFrom := ykFrom) (ykTo := ykTo) (ykAt := ykAt) (ykHandlers := ykHandlers) (ykBegun := ykBegun) (ykTaken := ykTaken) (ykThrown := ykThrown) (ykept := ykept) (ymethod := ymethod) (ypc := ypc) (yvariable := yvariable) (yhereI := yhereI) (yhereWay := yhereWay) (yhereLength := yhereLength) (yinto := yinto) (ykLoad := ykLoad) hP hm rfl (sz_f xsizes m) 0 0 1 _ _ _ (by omega) I2 Y1
    have X1 : ∀ post : Int32 → SX → Prop, post r (xdepth, xsignal, xcarried, xlatest, xload, xsizes, xops, xargsA, xargsB, xlines, xguards, xfroms, xtos, xats, xbegunCounts, xthrownCounts, xtakenCounts, xslotUsed, xslotLoad, xstretchNumber, xstretchGone, xstretchRow, xstretchWays, xatWork, xplace, xvariables, xrow, xrowWays, xwayOn, Xq) → ∀ e j, j + e = 25 → wX_counters_12 post (nI m) xdepth xsignal xcarried xlatest xload (e + 1) (nI j) xsizes xops xargsA xargsB xlines xguards xfroms xtos xats xbegunCounts xthrownCounts xtakenCounts xslotUsed xslotLoad xstretchNumber xstretchGone xstretchRow xstretchWays xatWork xplace xvariables xrow xrowWays xwayOn (pi_f j xpart) := by
      intro post h e
      induction e with
      | zero =>
        intro j hj
        have z : j = 25 := by omega
        subst z
        rw [wX_counters_12]
        refine br_t (by decide) (jx_R (A := 24) (B := 0) (Or.inl ⟨rfl, rfl⟩) (Or.inr ⟨rfl, by omega⟩) ⟨fun y => absurd y ne, fun _ => ?_⟩)
        exact ⟨_, gX post h⟩
      | succ e ih =>
        intro j hj
        have h2 := ih (j + 1) (by omega)
        rw [wX_counters_12]
        refine br_f (nI_ge (b := 25) (by omega) (by decide)) ⟨vp_in_nI (by omega) (by decide), ?_⟩
        rw [nI_clamp (by omega)]
        exact nm_r pi_s (nm_r (nI_1 j) h2)
    have Y2 : ∀ post : Int32 → SY → Prop, post r (ydepth, ysteps, yresult, youtcome, yload, yover, yop, ya, yb, yline, ylength, yfrom, yto, yat, yhandlers, ybegun, ytaken, ythrown, yrowI, yrowWay, yrowLength, ytimes, ytold, ykOp, ykA, ykB, ykLine, ykLength, ykFrom, ykTo, ykAt, ykHandlers, ykBegun, ykTaken, ykThrown, ykept, ymethod, ypc, yvariable, yhereI, yhereWay, yhereLength, yinto, ykLoad, Yq) → ∀ e j, j + e = sz_f xsizes m + 1 → wY_counters_25 post (nI m) (nI (sz_f xsizes m)) 1 0 ydepth ysteps yresult youtcome yload yover (e + 1) (nI j) yop ya yb yline ylength yfrom yto yat yhandlers ybegun ytaken ythrown yrowI yrowWay yrowLength ytimes ytold ykOp ykA ykB ykLine ykLength ykFrom ykTo ykAt ykHandlers ykBegun ykTaken ykThrown ykept ymethod ypc yvariable yhereI yhereWay yhereLength yinto ykLoad (pi_f j ypart) := by
      intro post h e
      induction e with
      | zero =>
        intro j hj
        have z : j = sz_f xsizes m + 1 := by omega
        subst z
        rw [wY_counters_25]
        refine br_t (nI_lt (by omega) (by omega)) (uy_R (q := 0) e3 (Nat.le_refl _) (Nat.zero_le _) Y0 (fun j hj => hj) ?_)
        exact ⟨_, gY post h⟩
      | succ e ih =>
        intro j hj
        have h2 := ih (j + 1) (by omega)
        rw [wY_counters_25]
        refine br_f (nI_nlt (by omega) (by omega)) ⟨vp_in_nI (by omega) (by decide), ?_⟩
        rw [nI_clamp (by omega)]
        exact nm_r pi_s (nm_r (nI_1 j) h2)
    refine hX _ (br_f (by decide) ⟨25 + 1, ?_⟩)
    refine (pi_0 xpart) ▸ X1 (fun r u' => wpY_counters (fun r' v' => r' = r ∧ i_Rel (k + 5) u' v') (ydepth, ysteps, yresult, youtcome, yload, yover, yop, ya, yb, yline, ylength, yfrom, yto, yat, yhandlers, ybegun, ytaken, ythrown, yrowI, yrowWay, yrowLength, ytimes, ytold, ykOp, ykA, ykB, ykLine, ykLength, ykFrom, ykTo, ykAt, ykHandlers, ykBegun, ykTaken, ykThrown, ykept, ymethod, ypc, yvariable, yhereI, yhereWay, yhereLength, yinto, ykLoad, ypart) (nI m)) ?_ 25 0 rfl
    · unfold wpY_counters
      refine hY _ (br_f (by decide) ⟨vp_in_nI (by omega) (by decide), nm_r (e' := nI (sz_f xsizes m)) (by rw [cm]; exact e2) ⟨sz_f xsizes m + 1 + 1, ?_⟩⟩)
      have HY := Y2 (fun r' v' => r' = r ∧ i_Rel (k + 5) (xdepth, xsignal, xcarried, xlatest, xload, xsizes, xops, xargsA, xargsB, xlines, xguards, xfroms, xtos, xats, xbegunCounts, xthrownCounts, xtakenCounts, xslotUsed, xslotLoad, xstretchNumber, xstretchGone, xstretchRow, xstretchWays, xatWork, xplace, xvariables, xrow, xrowWays, xwayOn, Xq) v') ⟨rfl, ⟨L, h1, h2, h3, h4, hP, hC, hS, hT⟩⟩ (sz_f xsizes m + 1) 0 (by omega)
      rw [pi_0] at HY
      exact HY
  · refine hX _ (br_t rfl ?_)
    unfold wpY_counters
    exact hY _ (br_t rfl ⟨rfl, J⟩)
