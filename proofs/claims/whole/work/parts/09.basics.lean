/-! part 09: the small readers on both sides -/
theorem ix_c (m c : Nat) : nI m * nI c = nI (c * m) := by rw [pk_mul, Nat.mul_comm]
theorem ix_24 (m i : Nat) : nI m * 24 + nI i = nI (24 * m + i) := by rw [← nI_add]; exact congrArg (· + nI i) (ix_c m 24)
theorem ix_3 (m i : Nat) : nI m * 3 + nI i = nI (3 * m + i) := by rw [← nI_add]; exact congrArg (· + nI i) (ix_c m 3)
theorem ix_4 (m i : Nat) : nI m * 4 + nI i = nI (4 * m + i) := by rw [← nI_add]; exact congrArg (· + nI i) (ix_c m 4)
theorem ix_40 (m i : Nat) : nI m * 40 + nI i = nI (40 * m + i) := by rw [← nI_add]; exact congrArg (· + nI i) (ix_c m 40)
theorem iy_24 (m i : Nat) : 24 * nI m + nI i = nI (24 * m + i) := by rw [← nI_add]; exact congrArg (· + nI i) (pk_mul 24 m)
theorem iy_3 (m i : Nat) : 3 * nI m + nI i = nI (3 * m + i) := by rw [← nI_add]; exact congrArg (· + nI i) (pk_mul 3 m)
theorem iy_4 (m i : Nat) : 4 * nI m + nI i = nI (4 * m + i) := by rw [← nI_add]; exact congrArg (· + nI i) (pk_mul 4 m)
theorem iy_40 (m i : Nat) : 40 * nI m + nI i = nI (40 * m + i) := by rw [← nI_add]; exact congrArg (· + nI i) (pk_mul 40 m)
theorem iy_96 (m i : Nat) : 96 * nI m + nI i = nI (96 * m + i) := by rw [← nI_add]; exact congrArg (· + nI i) (pk_mul 96 m)
theorem iy_12 (m i : Nat) : 12 * nI m + nI i = nI (12 * m + i) := by rw [← nI_add]; exact congrArg (· + nI i) (pk_mul 12 m)
theorem ir_24 (m i : Nat) : nI i + 1 = nI (i + 1) := nI_1 i
/-- an index that is a natural: within, and read as it -/
theorem ix_in {x : Int32} {n N : Nat} (e : x = nI n) (h : n < N) (hN : N < 2 ^ 31) : vp_in x N := by rw [e]; exact vp_in_nI h hN
theorem ix_cl {x : Int32} {n : Nat} (e : x = nI n) (h : n < 2 ^ 31) : x.toNatClampNeg = n := by rw [e]; exact nI_clamp h
theorem wi_t {post : Int32 → Prop} {a n : Nat} (h : a < n) (hn : n < 2 ^ 31) (hp : post 1) : wpY_in post (nI a) (nI n) :=
  br_f (nI_pos (by omega)) (br_f (nI_ge h hn) hp)
theorem wi_f {post : Int32 → Prop} {x : Int32} {n : Nat} (h : x < 0 ∨ nI n ≤ x) (hp : post 0) : wpY_in post x (nI n) := by
  by_cases z : x < 0
  · exact br_t z hp
  · exact br_f z (br_t (by rcases h with y | y; exact absurd y z; exact y) hp)
theorem wi_ff {post : Int32 → Prop} {a n : Nat} (h : n ≤ a) (ha : a < 2 ^ 31) (hp : post 0) : wpY_in post (nI a) (nI n) := wi_f (Or.inr (nI_le h ha)) hp
section
variable {xdepth xsignal xcarried xlatest xload : Int32} {xsizes xops xargsA xargsB xlines xguards xfroms xtos xats xbegunCounts xthrownCounts xtakenCounts xslotUsed xslotLoad xstretchNumber xstretchGone xstretchRow xatWork xplace xvariables xrow xpart : Nat → Int32} {xstretchWays xrowWays xwayOn : Nat → Int64}
variable {ydepth ysteps yresult youtcome yload yover : Int32} {yop ya yb yline ylength yfrom yto yat yhandlers ybegun ytaken ythrown yrowI yrowWay yrowLength ytimes ytold ykOp ykA ykB ykLine ykLength ykFrom ykTo ykAt ykHandlers ykBegun ykTaken ykThrown ykept ymethod ypc yvariable yhereI yhereWay yhereLength yinto ykLoad ypart : Nat → Int32}
theorem xi_t {post : Int32 → Prop} {a n : Nat} (h : a < n) (hn : n < 2 ^ 31) (hp : post 1) : wpX_isWithin post (xdepth, xsignal, xcarried, xlatest, xload, xsizes, xops, xargsA, xargsB, xlines, xguards, xfroms, xtos, xats, xbegunCounts, xthrownCounts, xtakenCounts, xslotUsed, xslotLoad, xstretchNumber, xstretchGone, xstretchRow, xstretchWays, xatWork, xplace, xvariables, xrow, xrowWays, xwayOn, xpart) (nI a) (nI n) :=
  br_f (nI_pos (by omega)) (br_f (nI_ge h hn) hp)
theorem xi_f {post : Int32 → Prop} {x : Int32} {n : Nat} (h : x < 0 ∨ nI n ≤ x) (hp : post 0) : wpX_isWithin post (xdepth, xsignal, xcarried, xlatest, xload, xsizes, xops, xargsA, xargsB, xlines, xguards, xfroms, xtos, xats, xbegunCounts, xthrownCounts, xtakenCounts, xslotUsed, xslotLoad, xstretchNumber, xstretchGone, xstretchRow, xstretchWays, xatWork, xplace, xvariables, xrow, xrowWays, xwayOn, xpart) x (nI n) := by
  by_cases z : x < 0
  · exact br_t z hp
  · exact br_f z (br_t (by rcases h with y | y; exact absurd y z; exact y) hp)
/-- is there a method v? both sides say the same -/
theorem th_c (v : Int32) (h : (gp_R xsizes xops xargsA xargsB xlines xguards xfroms xtos xats yop ya yb yline ylength yfrom yto yat yhandlers ykOp ykA ykB ykLine ykLength ykFrom ykTo ykAt ykHandlers)) :
    (∃ m, m < 4 ∧ v = nI m ∧ 0 < sz_f xsizes m ∧ (∀ post : Int32 → Prop, post 1 → wpX_isThere post (xdepth, xsignal, xcarried, xlatest, xload, xsizes, xops, xargsA, xargsB, xlines, xguards, xfroms, xtos, xats, xbegunCounts, xthrownCounts, xtakenCounts, xslotUsed, xslotLoad, xstretchNumber, xstretchGone, xstretchRow, xstretchWays, xatWork, xplace, xvariables, xrow, xrowWays, xwayOn, xpart) v) ∧ (∀ post : Int32 → Prop, post 1 → wpY_isThere post (ydepth, ysteps, yresult, youtcome, yload, yover, yop, ya, yb, yline, ylength, yfrom, yto, yat, yhandlers, ybegun, ytaken, ythrown, yrowI, yrowWay, yrowLength, ytimes, ytold, ykOp, ykA, ykB, ykLine, ykLength, ykFrom, ykTo, ykAt, ykHandlers, ykBegun, ykTaken, ykThrown, ykept, ymethod, ypc, yvariable, yhereI, yhereWay, yhereLength, yinto, ykLoad, ypart) v)) ∨
    ((∀ post : Int32 → Prop, post 0 → wpX_isThere post (xdepth, xsignal, xcarried, xlatest, xload, xsizes, xops, xargsA, xargsB, xlines, xguards, xfroms, xtos, xats, xbegunCounts, xthrownCounts, xtakenCounts, xslotUsed, xslotLoad, xstretchNumber, xstretchGone, xstretchRow, xstretchWays, xatWork, xplace, xvariables, xrow, xrowWays, xwayOn, xpart) v) ∧ (∀ post : Int32 → Prop, post 0 → wpY_isThere post (ydepth, ysteps, yresult, youtcome, yload, yover, yop, ya, yb, yline, ylength, yfrom, yto, yat, yhandlers, ybegun, ytaken, ythrown, yrowI, yrowWay, yrowLength, ytimes, ytold, ykOp, ykA, ykB, ykLine, ykLength, ykFrom, ykTo, ykAt, ykHandlers, ykBegun, ykTaken, ykThrown, ykept, ymethod, ypc, yvariable, yhereI, yhereWay, yhereLength, yinto, ykLoad, ypart) v)) := by
  rcases pk_ix v (n := 4) (by decide) with z | z | ⟨m, hm, rfl⟩
  · refine Or.inr ⟨fun post hp => ?_, fun post hp => ?_⟩
    · unfold wpX_isThere
      exact xi_f (n := 4) (Or.inl z) (br_t rfl hp)
    · unfold wpY_isThere
      exact wi_f (n := 4) (Or.inl z) (br_t rfl hp)
  · refine Or.inr ⟨fun post hp => ?_, fun post hp => ?_⟩
    · unfold wpX_isThere
      exact xi_f (n := 4) (Or.inr z) (br_t rfl hp)
    · unfold wpY_isThere
      exact wi_f (n := 4) (Or.inr z) (br_t rfl hp)
  · obtain ⟨e1, e2, e3⟩ := gp_sz h hm
    have c : (nI m).toNatClampNeg = m := nI_clamp (by omega)
    rcases Nat.eq_zero_or_pos (sz_f xsizes m) with z | z
    · have f1 : xsizes (nI m).toNatClampNeg ≤ 0 := by rw [c, e1, z]; decide
      have f2 : ylength (nI m).toNatClampNeg ≤ 0 := by rw [c, e2, z]; decide
      refine Or.inr ⟨fun post hp => ?_, fun post hp => ?_⟩
      · unfold wpX_isThere
        exact xi_t (n := 4) hm (by decide) (br_f (by decide) ⟨vp_in_nI (by omega) (by decide), br_t f1 hp⟩)
      · unfold wpY_isThere
        exact wi_t (n := 4) hm (by decide) (br_f (by decide) ⟨vp_in_nI (by omega) (by decide), br_t f2 hp⟩)
    · have f1 : ¬ xsizes (nI m).toNatClampNeg ≤ 0 := by rw [c, e1]; exact nI_nle z (by omega)
      have f2 : ¬ ylength (nI m).toNatClampNeg ≤ 0 := by rw [c, e2]; exact nI_nle z (by omega)
      refine Or.inl ⟨m, hm, rfl, z, fun post hp => ?_, fun post hp => ?_⟩
      · unfold wpX_isThere
        exact xi_t (n := 4) hm (by decide) (br_f (by decide) ⟨vp_in_nI (by omega) (by decide), br_f f1 hp⟩)
      · unfold wpY_isThere
        exact wi_t (n := 4) hm (by decide) (br_f (by decide) ⟨vp_in_nI (by omega) (by decide), br_f f2 hp⟩)
/-- is there an instruction w of method v? -/
theorem th_i (v w : Int32) (h : (gp_R xsizes xops xargsA xargsB xlines xguards xfroms xtos xats yop ya yb yline ylength yfrom yto yat yhandlers ykOp ykA ykB ykLine ykLength ykFrom ykTo ykAt ykHandlers)) :
    (∃ m i, m < 4 ∧ v = nI m ∧ i < sz_f xsizes m ∧ i < 24 ∧ w = nI i ∧ (∀ post : Int32 → Prop, post 1 → wpX_isInstruction post (xdepth, xsignal, xcarried, xlatest, xload, xsizes, xops, xargsA, xargsB, xlines, xguards, xfroms, xtos, xats, xbegunCounts, xthrownCounts, xtakenCounts, xslotUsed, xslotLoad, xstretchNumber, xstretchGone, xstretchRow, xstretchWays, xatWork, xplace, xvariables, xrow, xrowWays, xwayOn, xpart) v w) ∧ (∀ post : Int32 → Prop, post 1 → wpY_isOne post (ydepth, ysteps, yresult, youtcome, yload, yover, yop, ya, yb, yline, ylength, yfrom, yto, yat, yhandlers, ybegun, ytaken, ythrown, yrowI, yrowWay, yrowLength, ytimes, ytold, ykOp, ykA, ykB, ykLine, ykLength, ykFrom, ykTo, ykAt, ykHandlers, ykBegun, ykTaken, ykThrown, ykept, ymethod, ypc, yvariable, yhereI, yhereWay, yhereLength, yinto, ykLoad, ypart) v w)) ∨
    ((∀ post : Int32 → Prop, post 0 → wpX_isInstruction post (xdepth, xsignal, xcarried, xlatest, xload, xsizes, xops, xargsA, xargsB, xlines, xguards, xfroms, xtos, xats, xbegunCounts, xthrownCounts, xtakenCounts, xslotUsed, xslotLoad, xstretchNumber, xstretchGone, xstretchRow, xstretchWays, xatWork, xplace, xvariables, xrow, xrowWays, xwayOn, xpart) v w) ∧ (∀ post : Int32 → Prop, post 0 → wpY_isOne post (ydepth, ysteps, yresult, youtcome, yload, yover, yop, ya, yb, yline, ylength, yfrom, yto, yat, yhandlers, ybegun, ytaken, ythrown, yrowI, yrowWay, yrowLength, ytimes, ytold, ykOp, ykA, ykB, ykLine, ykLength, ykFrom, ykTo, ykAt, ykHandlers, ykBegun, ykTaken, ykThrown, ykept, ymethod, ypc, yvariable, yhereI, yhereWay, yhereLength, yinto, ykLoad, ypart) v w)) := by
  rcases th_c (xdepth := xdepth) (xsignal := xsignal) (xcarried := xcarried) (xlatest := xlatest) (xload := xload) (xsizes := xsizes) (xops := xops) (xargsA := xargsA) (xargsB := xargsB) (xlines := xlines) (xguards := xguards) (xfroms := xfroms) (xtos := xtos) (xats := xats) (xbegunCounts := xbegunCounts) (xthrownCounts := xthrownCounts) (xtakenCounts := xtakenCounts) (xslotUsed := xslotUsed) (xslotLoad := xslotLoad) (xstretchNumber := xstretchNumber) (xstretchGone := xstretchGone) (xstretchRow := xstretchRow) (xstretchWays := xstretchWays) (xatWork := xatWork) (xplace := xplace) (xvariables := xvariables) (xrow := xrow) (xrowWays := xrowWays) (xwayOn := xwayOn) (xpart := xpart) (ydepth := ydepth) (ysteps := ysteps) (yresult := yresult) (youtcome := youtcome) (yload := yload) (yover := yover) (yop := yop) (ya := ya) (yb := yb) (yline := yline) (ylength := ylength) (yfrom := yfrom) (yto := yto) (yat := yat) (yhandlers := yhandlers) (ybegun := ybegun) (ytaken := ytaken) (ythrown := ythrown) (yrowI := yrowI) (yrowWay := yrowWay) (yrowLength := yrowLength) (ytimes := ytimes) (ytold := ytold) (ykOp := ykOp) (ykA := ykA) (ykB := ykB) (ykLine := ykLine) (ykLength := ykLength) (ykFrom := ykFrom) (ykTo := ykTo) (ykAt := ykAt) (ykHandlers := ykHandlers) (ykBegun := ykBegun) (ykTaken := ykTaken) (ykThrown := ykThrown) (ykept := ykept) (ymethod := ymethod) (ypc := ypc) (yvariable := yvariable) (yhereI := yhereI) (yhereWay := yhereWay) (yhereLength := yhereLength) (yinto := yinto) (ykLoad := ykLoad) (ypart := ypart) v h with ⟨m, hm, rfl, hs, hX, hY⟩ | ⟨hX, hY⟩
  · obtain ⟨e1, e2, e3⟩ := gp_sz h hm
    have c : (nI m).toNatClampNeg = m := nI_clamp (by omega)
    have f1 : xsizes (nI m).toNatClampNeg = nI (sz_f xsizes m) := by rw [c]; exact e1
    have f2 : ylength (nI m).toNatClampNeg = nI (sz_f xsizes m) := by rw [c]; exact e2
    have b : sz_f xsizes m < 2 ^ 31 := by omega
    rcases pk_ix w b with z | z | ⟨i, hi, rfl⟩
    · refine Or.inr ⟨fun post hp => ?_, fun post hp => ?_⟩
      · unfold wpX_isInstruction
        refine hX _ (br_f (by decide) ⟨vp_in_nI (by omega) (by decide), ?_⟩)
        rw [f1]
        exact xi_f (Or.inl z) (br_t rfl hp)
      · unfold wpY_isOne
        refine hY _ (br_f (by decide) ⟨vp_in_nI (by omega) (by decide), ?_⟩)
        rw [f2]
        exact wi_f (Or.inl z) (br_t rfl hp)
    · refine Or.inr ⟨fun post hp => ?_, fun post hp => ?_⟩
      · unfold wpX_isInstruction
        refine hX _ (br_f (by decide) ⟨vp_in_nI (by omega) (by decide), ?_⟩)
        rw [f1]
        exact xi_f (Or.inr z) (br_t rfl hp)
      · unfold wpY_isOne
        refine hY _ (br_f (by decide) ⟨vp_in_nI (by omega) (by decide), ?_⟩)
        rw [f2]
        exact wi_f (Or.inr z) (br_t rfl hp)
    · refine Or.inl ⟨m, i, hm, rfl, hi, by omega, rfl, fun post hp => ?_, fun post hp => ?_⟩
      · unfold wpX_isInstruction
        refine hX _ (br_f (by decide) ⟨vp_in_nI (by omega) (by decide), ?_⟩)
        rw [f1]
        exact xi_t hi b (br_f (by decide) hp)
      · unfold wpY_isOne
        refine hY _ (br_f (by decide) ⟨vp_in_nI (by omega) (by decide), ?_⟩)
        rw [f2]
        exact wi_t hi b (br_f (by decide) hp)
  · refine Or.inr ⟨fun post hp => ?_, fun post hp => ?_⟩
    · unfold wpX_isInstruction
      exact hX _ (br_t rfl hp)
    · unfold wpY_isOne
      exact hY _ (br_t rfl hp)
end
theorem i_vc_result {k : Nat} {u : SX} {v : SY} (I : i_Rel k u v) (hk : k + 5 ≤ 2560) : wpX_result (fun r => wpY_result (fun r' => r' = r ∧ i_Rel (k + 5) u v) v) u := by
  obtain ⟨xdepth, xsignal, xcarried, xlatest, xload, xsizes, xops, xargsA, xargsB, xlines, xguards, xfroms, xtos, xats, xbegunCounts, xthrownCounts, xtakenCounts, xslotUsed, xslotLoad, xstretchNumber, xstretchGone, xstretchRow, xstretchWays, xatWork, xplace, xvariables, xrow, xrowWays, xwayOn, xpart⟩ := u
  obtain ⟨ydepth, ysteps, yresult, youtcome, yload, yover, yop, ya, yb, yline, ylength, yfrom, yto, yat, yhandlers, ybegun, ytaken, ythrown, yrowI, yrowWay, yrowLength, ytimes, ytold, ykOp, ykA, ykB, ykLine, ykLength, ykFrom, ykTo, ykAt, ykHandlers, ykBegun, ykTaken, ykThrown, ykept, ymethod, ypc, yvariable, yhereI, yhereWay, yhereLength, yinto, ykLoad, ypart⟩ := v
  have J := I
  obtain ⟨L, h1, h2, h3, h4, _⟩ := I
  exact ⟨h4.symm, J⟩
theorem i_vc_begun {k : Nat} {u : SX} {v : SY} (I : i_Rel k u v) (hk : k + 5 ≤ 2560) (v1 : Int32) (v2 : Int32) : wpX_begun (fun r => wpY_begun (fun r' => r' = r ∧ i_Rel (k + 5) u v) v v1 v2) u v1 v2 := by
  obtain ⟨xdepth, xsignal, xcarried, xlatest, xload, xsizes, xops, xargsA, xargsB, xlines, xguards, xfroms, xtos, xats, xbegunCounts, xthrownCounts, xtakenCounts, xslotUsed, xslotLoad, xstretchNumber, xstretchGone, xstretchRow, xstretchWays, xatWork, xplace, xvariables, xrow, xrowWays, xwayOn, xpart⟩ := u
  obtain ⟨ydepth, ysteps, yresult, youtcome, yload, yover, yop, ya, yb, yline, ylength, yfrom, yto, yat, yhandlers, ybegun, ytaken, ythrown, yrowI, yrowWay, yrowLength, ytimes, ytold, ykOp, ykA, ykB, ykLine, ykLength, ykFrom, ykTo, ykAt, ykHandlers, ykBegun, ykTaken, ykThrown, ykept, ymethod, ypc, yvariable, yhereI, yhereWay, yhereLength, yinto, ykLoad, ypart⟩ := v
  have J := I
  obtain ⟨L, h1, h2, h3, h4, hP, hC, hS, hT⟩ := I
  unfold wpX_begun wpY_begun
  rcases th_i (xdepth := xdepth) (xsignal := xsignal) (xcarried := xcarried) (xlatest := xlatest) (xload := xload) (xsizes := xsizes) (xops := xops) (xargsA := xargsA) (xargsB := xargsB) (xlines := xlines) (xguards := xguards) (xfroms := xfroms) (xtos := xtos) (xats := xats) (xbegunCounts := xbegunCounts) (xthrownCounts := xthrownCounts) (xtakenCounts := xtakenCounts) (xslotUsed := xslotUsed) (xslotLoad := xslotLoad) (xstretchNumber := xstretchNumber) (xstretchGone := xstretchGone) (xstretchRow := xstretchRow) (xstretchWays := xstretchWays) (xatWork := xatWork) (xplace := xplace) (xvariables := xvariables) (xrow := xrow) (xrowWays := xrowWays) (xwayOn := xwayOn) (xpart := xpart) (ydepth := ydepth) (ysteps := ysteps) (yresult := yresult) (youtcome := youtcome) (yload := yload) (yover := yover) (yop := yop) (ya := ya) (yb := yb) (yline := yline) (ylength := ylength) (yfrom := yfrom) (yto := yto) (yat := yat) (yhandlers := yhandlers) (ybegun := ybegun) (ytaken := ytaken) (ythrown := ythrown) (yrowI := yrowI) (yrowWay := yrowWay) (yrowLength := yrowLength) (ytimes := ytimes) (ytold := ytold) (ykOp := ykOp) (ykA := ykA) (ykB := ykB) (ykLine := ykLine) (ykLength := ykLength) (ykFrom := ykFrom) (ykTo := ykTo) (ykAt := ykAt) (ykHandlers := ykHandlers) (ykBegun := ykBegun) (ykTaken := ykTaken) (ykThrown := ykThrown) (ykept := ykept) (ymethod := ymethod) (ypc := ypc) (yvariable := yvariable) (yhereI := yhereI) (yhereWay := yhereWay) (yhereLength := yhereLength) (yinto := yinto) (ykLoad := ykLoad) (ypart := ypart) v1 v2 hP with ⟨m, i, hm, rfl, hi, h24, rfl, hX, hY⟩ | ⟨hX, hY⟩
  · refine hX _ (br_f (by decide) ⟨ix_in (ix_24 m i) (by omega) (by decide), ?_⟩)
    refine hY _ (br_f (by decide) ⟨ix_in (iy_24 m i) (by omega) (by decide), ?_, J⟩)
    rw [ix_cl (ix_24 m i) (by omega), ix_cl (iy_24 m i) (by omega)]
    exact (ct_at1 hC.1 hm hi).symm
  · exact hX _ (br_t rfl (hY _ (br_t rfl ⟨rfl, J⟩)))
theorem i_vc_thrown {k : Nat} {u : SX} {v : SY} (I : i_Rel k u v) (hk : k + 5 ≤ 2560) (v1 : Int32) (v2 : Int32) : wpX_thrown (fun r => wpY_thrown (fun r' => r' = r ∧ i_Rel (k + 5) u v) v v1 v2) u v1 v2 := by
  obtain ⟨xdepth, xsignal, xcarried, xlatest, xload, xsizes, xops, xargsA, xargsB, xlines, xguards, xfroms, xtos, xats, xbegunCounts, xthrownCounts, xtakenCounts, xslotUsed, xslotLoad, xstretchNumber, xstretchGone, xstretchRow, xstretchWays, xatWork, xplace, xvariables, xrow, xrowWays, xwayOn, xpart⟩ := u
  obtain ⟨ydepth, ysteps, yresult, youtcome, yload, yover, yop, ya, yb, yline, ylength, yfrom, yto, yat, yhandlers, ybegun, ytaken, ythrown, yrowI, yrowWay, yrowLength, ytimes, ytold, ykOp, ykA, ykB, ykLine, ykLength, ykFrom, ykTo, ykAt, ykHandlers, ykBegun, ykTaken, ykThrown, ykept, ymethod, ypc, yvariable, yhereI, yhereWay, yhereLength, yinto, ykLoad, ypart⟩ := v
  have J := I
  obtain ⟨L, h1, h2, h3, h4, hP, hC, hS, hT⟩ := I
  unfold wpX_thrown wpY_thrown
  rcases th_i (xdepth := xdepth) (xsignal := xsignal) (xcarried := xcarried) (xlatest := xlatest) (xload := xload) (xsizes := xsizes) (xops := xops) (xargsA := xargsA) (xargsB := xargsB) (xlines := xlines) (xguards := xguards) (xfroms := xfroms) (xtos := xtos) (xats := xats) (xbegunCounts := xbegunCounts) (xthrownCounts := xthrownCounts) (xtakenCounts := xtakenCounts) (xslotUsed := xslotUsed) (xslotLoad := xslotLoad) (xstretchNumber := xstretchNumber) (xstretchGone := xstretchGone) (xstretchRow := xstretchRow) (xstretchWays := xstretchWays) (xatWork := xatWork) (xplace := xplace) (xvariables := xvariables) (xrow := xrow) (xrowWays := xrowWays) (xwayOn := xwayOn) (xpart := xpart) (ydepth := ydepth) (ysteps := ysteps) (yresult := yresult) (youtcome := youtcome) (yload := yload) (yover := yover) (yop := yop) (ya := ya) (yb := yb) (yline := yline) (ylength := ylength) (yfrom := yfrom) (yto := yto) (yat := yat) (yhandlers := yhandlers) (ybegun := ybegun) (ytaken := ytaken) (ythrown := ythrown) (yrowI := yrowI) (yrowWay := yrowWay) (yrowLength := yrowLength) (ytimes := ytimes) (ytold := ytold) (ykOp := ykOp) (ykA := ykA) (ykB := ykB) (ykLine := ykLine) (ykLength := ykLength) (ykFrom := ykFrom) (ykTo := ykTo) (ykAt := ykAt) (ykHandlers := ykHandlers) (ykBegun := ykBegun) (ykTaken := ykTaken) (ykThrown := ykThrown) (ykept := ykept) (ymethod := ymethod) (ypc := ypc) (yvariable := yvariable) (yhereI := yhereI) (yhereWay := yhereWay) (yhereLength := yhereLength) (yinto := yinto) (ykLoad := ykLoad) (ypart := ypart) v1 v2 hP with ⟨m, i, hm, rfl, hi, h24, rfl, hX, hY⟩ | ⟨hX, hY⟩
  · refine hX _ (br_f (by decide) ⟨ix_in (ix_24 m i) (by omega) (by decide), ?_⟩)
    refine hY _ (br_f (by decide) ⟨ix_in (iy_24 m i) (by omega) (by decide), ?_, J⟩)
    rw [ix_cl (ix_24 m i) (by omega), ix_cl (iy_24 m i) (by omega)]
    exact (ct_at1 hC.2.1 hm hi).symm
  · exact hX _ (br_t rfl (hY _ (br_t rfl ⟨rfl, J⟩)))
