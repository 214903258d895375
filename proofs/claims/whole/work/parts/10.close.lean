/-! part 10: closeRow of the class, endStretch of the reference -/
section
variable {xdepth xsignal xcarried xlatest xload : Int32} {xsizes xops xargsA xargsB xlines xguards xfroms xtos xats xbegunCounts xthrownCounts xtakenCounts xslotUsed xslotLoad xstretchNumber xstretchGone xstretchRow xatWork xplace xvariables xrow xpart : Nat → Int32} {xstretchWays xrowWays xwayOn : Nat → Int64}
variable {ydepth ysteps yresult youtcome yload yover : Int32} {yop ya yb yline ylength yfrom yto yat yhandlers ybegun ytaken ythrown yrowI yrowWay yrowLength ytimes ytold ykOp ykA ykB ykLine ykLength ykFrom ykTo ykAt ykHandlers ykBegun ykTaken ykThrown ykept ymethod ypc yvariable yhereI yhereWay yhereLength yinto ykLoad ypart : Nat → Int32}
theorem xc_clr {post : SX → Prop} {d : Nat} (hd : d < 6) (hp : post (xdepth, xsignal, xcarried, xlatest, xload, xsizes, xops, xargsA, xargsB, xlines, xguards, xfroms, xtos, xats, xbegunCounts, xthrownCounts, xtakenCounts, xslotUsed, xslotLoad, xstretchNumber, xstretchGone, xstretchRow, xstretchWays, xatWork, xplace, xvariables, upd xrow d 0, vp_updL xrowWays d 0, vp_updL xwayOn d 0, xpart)) : wpX_clearRow post (xdepth, xsignal, xcarried, xlatest, xload, xsizes, xops, xargsA, xargsB, xlines, xguards, xfroms, xtos, xats, xbegunCounts, xthrownCounts, xtakenCounts, xslotUsed, xslotLoad, xstretchNumber, xstretchGone, xstretchRow, xstretchWays, xatWork, xplace, xvariables, xrow, xrowWays, xwayOn, xpart) (nI d) := by
  have e : (nI d).toNatClampNeg = d := nI_clamp (by omega)
  have w : vp_in (nI d) 6 := vp_in_nI hd (by omega)
  exact ⟨w, nm_r (e' := upd xrow d 0) (by rw [e]) ⟨w, nm_r (e' := vp_updL xrowWays d 0) (by rw [e]) ⟨w, nm_r (e' := vp_updL xwayOn d 0) (by rw [e]) hp⟩⟩⟩
/-- the class's search passes over what differs -/
theorem xc_skip {post : SX → Prop} {R : Int32} {V : Int64} {m t n k : Nat} (hm : m < 4) (ht : t ≤ 40) (hk : k ≤ t) : ∀ e j, j + e = k → (∀ i, j ≤ i → i < k → ¬ (xstretchRow (40 * m + i) = R ∧ xstretchWays (40 * m + i) = V)) →
    wX_countStretch_17 post (nI m) R V (nI (40 * m)) (nI t) xdepth xsignal xcarried xlatest xload xsizes xops xargsA xargsB xlines xguards xfroms xtos xats xbegunCounts xthrownCounts xtakenCounts xslotUsed xslotLoad xstretchNumber xstretchGone xstretchRow xstretchWays xatWork xplace xvariables xrow xrowWays xwayOn xpart n (nI k) → wX_countStretch_17 post (nI m) R V (nI (40 * m)) (nI t) xdepth xsignal xcarried xlatest xload xsizes xops xargsA xargsB xlines xguards xfroms xtos xats xbegunCounts xthrownCounts xtakenCounts xslotUsed xslotLoad xstretchNumber xstretchGone xstretchRow xstretchWays xatWork xplace xvariables xrow xrowWays xwayOn xpart (n + e) (nI j) := by
  intro e
  induction e with
  | zero => intro j hj _ h; rw [show j = k from hj]; exact h
  | succ e ih =>
    intro j hj hd h
    have h2 := ih (j + 1) (by omega) (fun i h1 h2 => hd i (by omega) (by omega)) h
    have ei : nI (40 * m) + nI j = nI (40 * m + j) := nI_add _ _
    have ec : (nI (40 * m) + nI j).toNatClampNeg = 40 * m + j := ix_cl ei (by omega)
    have w : vp_in (nI (40 * m) + nI j) 160 := ix_in ei (by omega) (by omega)
    have hn := hd j (by omega) (by omega)
    rw [show n + (e + 1) = (n + e) + 1 from by omega, wX_countStretch_17]
    refine br_f (nI_ge (by omega) (by omega)) ⟨w, ?_⟩
    rw [ec]
    by_cases z : xstretchRow (40 * m + j) = R
    · refine br_t z ⟨w, br_f (fun y => hn ⟨z, y⟩) (nm_r (nI_1 j) h2)⟩
    · exact br_f z (nm_r (nI_1 j) h2)
theorem xc_hit {post : SX → Prop} {R : Int32} {V : Int64} {m t k n : Nat} (hm : m < 4) (ht : t ≤ 40) (hk : k < t) (h1 : xstretchRow (40 * m + k) = R) (h2 : xstretchWays (40 * m + k) = V)
    (hp : post (xdepth, xsignal, xcarried, xlatest, xload, xsizes, xops, xargsA, xargsB, xlines, xguards, xfroms, xtos, xats, xbegunCounts, xthrownCounts, xtakenCounts, xslotUsed, xslotLoad, xstretchNumber, upd xstretchGone (40 * m + k) (xstretchGone (40 * m + k) + 1), xstretchRow, xstretchWays, xatWork, xplace, xvariables, xrow, xrowWays, xwayOn, xpart)) : wX_countStretch_17 post (nI m) R V (nI (40 * m)) (nI t) xdepth xsignal xcarried xlatest xload xsizes xops xargsA xargsB xlines xguards xfroms xtos xats xbegunCounts xthrownCounts xtakenCounts xslotUsed xslotLoad xstretchNumber xstretchGone xstretchRow xstretchWays xatWork xplace xvariables xrow xrowWays xwayOn xpart (n + 1) (nI k) := by
  have ei : nI (40 * m) + nI k = nI (40 * m + k) := nI_add _ _
  have ec : (nI (40 * m) + nI k).toNatClampNeg = 40 * m + k := ix_cl ei (by omega)
  have w : vp_in (nI (40 * m) + nI k) 160 := ix_in ei (by omega) (by omega)
  rw [wX_countStretch_17]
  refine br_f (nI_ge (by omega) (by omega)) ⟨w, ?_⟩
  rw [ec]
  exact br_t h1 ⟨w, br_t h2 ⟨w, w, nm_e hp⟩⟩
theorem xc_full {post : SX → Prop} {R : Int32} {V : Int64} {m n : Nat} (hp : post (xdepth, xsignal, xcarried, xlatest, xload, xsizes, xops, xargsA, xargsB, xlines, xguards, xfroms, xtos, xats, xbegunCounts, xthrownCounts, xtakenCounts, xslotUsed, xslotLoad, xstretchNumber, xstretchGone, xstretchRow, xstretchWays, xatWork, xplace, xvariables, xrow, xrowWays, xwayOn, xpart)) : wX_countStretch_17 post (nI m) R V (nI (40 * m)) (nI 40) xdepth xsignal xcarried xlatest xload xsizes xops xargsA xargsB xlines xguards xfroms xtos xats xbegunCounts xthrownCounts xtakenCounts xslotUsed xslotLoad xstretchNumber xstretchGone xstretchRow xstretchWays xatWork xplace xvariables xrow xrowWays xwayOn xpart (n + 1) (nI 40) := by
  rw [wX_countStretch_17]
  exact br_t (by decide) (br_t (by decide) hp)
theorem xc_new {post : SX → Prop} {R : Int32} {V : Int64} {m t n : Nat} (hm : m < 4) (ht : t < 40)
    (hp : post (xdepth, xsignal, xcarried, xlatest, xload, xsizes, xops, xargsA, xargsB, xlines, xguards, xfroms, xtos, xats, xbegunCounts, xthrownCounts, xtakenCounts, xslotUsed, xslotLoad, upd xstretchNumber m (nI (t + 1)), upd xstretchGone (40 * m + t) 1, upd xstretchRow (40 * m + t) R, vp_updL xstretchWays (40 * m + t) V, xatWork, xplace, xvariables, xrow, xrowWays, xwayOn, xpart)) :
    wX_countStretch_17 post (nI m) R V (nI (40 * m)) (nI t) xdepth xsignal xcarried xlatest xload xsizes xops xargsA xargsB xlines xguards xfroms xtos xats xbegunCounts xthrownCounts xtakenCounts xslotUsed xslotLoad xstretchNumber xstretchGone xstretchRow xstretchWays xatWork xplace xvariables xrow xrowWays xwayOn xpart (n + 1) (nI t) := by
  have ei : nI (40 * m) + nI t = nI (40 * m + t) := nI_add _ _
  have ec : (nI (40 * m) + nI t).toNatClampNeg = 40 * m + t := ix_cl ei (by omega)
  have w : vp_in (nI (40 * m) + nI t) 160 := ix_in ei (by omega) (by omega)
  have em : (nI m).toNatClampNeg = m := nI_clamp (by omega)
  rw [wX_countStretch_17]
  refine br_t (nI_le (by omega) (by omega)) (br_f (nI_ge (b := 40) ht (by decide)) ?_)
  rw [ec, em, nI_1]
  exact ⟨w, nm_e ⟨w, nm_e ⟨w, nm_e ⟨vp_in_nI hm (by omega), nm_e hp⟩⟩⟩⟩
/-- the reference compares two rows: the same -/
theorem yc_eq {post : Int32 → Prop} {s d n : Nat} (hs : s < 160) (hd : d < 6) (hn : n ≤ 24) : ∀ e j, j + e = n → (∀ i, j ≤ i → i < n → yrowI (24 * s + i) = yhereI (24 * d + i) ∧ yrowWay (24 * s + i) = yhereWay (24 * d + i)) → post 1 →
    wY_isSame_15 post (nI s) (nI d) (nI n) ydepth ysteps yresult youtcome yload yover yop ya yb yline ylength yfrom yto yat yhandlers ybegun ytaken ythrown yrowI yrowWay yrowLength ytimes ytold ykOp ykA ykB ykLine ykLength ykFrom ykTo ykAt ykHandlers ykBegun ykTaken ykThrown ykept ymethod ypc yvariable yhereI yhereWay yhereLength yinto ykLoad ypart (e + 1) (nI j) := by
  intro e
  induction e with
  | zero =>
    intro j hj _ hp
    rw [wY_isSame_15]
    exact br_t (nI_le (by omega) (by omega)) hp
  | succ e ih =>
    intro j hj h hp
    have h2 := ih (j + 1) (by omega) (fun i h1 h2 => h i (by omega) h2) hp
    obtain ⟨a, b⟩ := h j (by omega) (by omega)
    rw [wY_isSame_15]
    dsimp only
    rw [ix_cl (iy_24 s j) (by omega), ix_cl (iy_24 d j) (by omega)]
    have w1 : vp_in (24 * nI s + nI j) 3840 := ix_in (iy_24 s j) (by omega) (by omega)
    have w2 : vp_in (24 * nI d + nI j) 144 := ix_in (iy_24 d j) (by omega) (by omega)
    exact br_f (nI_ge (by omega) (by omega)) ⟨w1, w2, br_t a ⟨w1, w2, br_t b (nm_r (nI_1 j) h2)⟩⟩
theorem yc_ne {post : Int32 → Prop} {s d n : Nat} (hs : s < 160) (hd : d < 6) (hn : n ≤ 24) : ∀ e j, j + e = n → ¬ (∀ i, j ≤ i → i < n → yrowI (24 * s + i) = yhereI (24 * d + i) ∧ yrowWay (24 * s + i) = yhereWay (24 * d + i)) → post 0 →
    wY_isSame_15 post (nI s) (nI d) (nI n) ydepth ysteps yresult youtcome yload yover yop ya yb yline ylength yfrom yto yat yhandlers ybegun ytaken ythrown yrowI yrowWay yrowLength ytimes ytold ykOp ykA ykB ykLine ykLength ykFrom ykTo ykAt ykHandlers ykBegun ykTaken ykThrown ykept ymethod ypc yvariable yhereI yhereWay yhereLength yinto ykLoad ypart (e + 1) (nI j) := by
  intro e
  induction e with
  | zero =>
    intro j hj h hp
    exact absurd (fun i h1 h2 => absurd h2 (by omega)) h
  | succ e ih =>
    intro j hj h hp
    rw [wY_isSame_15]
    dsimp only
    rw [ix_cl (iy_24 s j) (by omega), ix_cl (iy_24 d j) (by omega)]
    have w1 : vp_in (24 * nI s + nI j) 3840 := ix_in (iy_24 s j) (by omega) (by omega)
    have w2 : vp_in (24 * nI d + nI j) 144 := ix_in (iy_24 d j) (by omega) (by omega)
    refine br_f (nI_ge (by omega) (by omega)) ⟨w1, w2, ?_⟩
    by_cases a : yrowI (24 * s + j) = yhereI (24 * d + j)
    · by_cases b : yrowWay (24 * s + j) = yhereWay (24 * d + j)
      · refine br_t a ⟨w1, w2, br_t b (nm_r (nI_1 j) (ih (j + 1) (by omega) (fun y => h (fun i h1 h2 => ?_)) hp))⟩
        rcases Nat.lt_or_ge j i with z | z
        · exact y i z h2
        · have e : i = j := by omega
          rw [e]; exact ⟨a, b⟩
      · exact br_t a ⟨w1, w2, br_f b hp⟩
    · exact br_f a hp
theorem yc_same {post : Int32 → Prop} {s d n : Nat} (hs : s < 160) (hd : d < 6) (hn : n ≤ 24) (h : yrowLength s = nI n ∧ ∀ i, i < n → yrowI (24 * s + i) = yhereI (24 * d + i) ∧ yrowWay (24 * s + i) = yhereWay (24 * d + i)) (hp : post 1) :
    wpY_isSame post (ydepth, ysteps, yresult, youtcome, yload, yover, yop, ya, yb, yline, ylength, yfrom, yto, yat, yhandlers, ybegun, ytaken, ythrown, yrowI, yrowWay, yrowLength, ytimes, ytold, ykOp, ykA, ykB, ykLine, ykLength, ykFrom, ykTo, ykAt, ykHandlers, ykBegun, ykTaken, ykThrown, ykept, ymethod, ypc, yvariable, yhereI, yhereWay, yhereLength, yinto, ykLoad, ypart) (nI s) (nI d) (nI n) := by
  have e : (nI s).toNatClampNeg = s := nI_clamp (by omega)
  refine ⟨vp_in_nI hs (by omega), br_t (by rw [e]; exact h.1) ⟨n + 1, ?_⟩⟩
  exact yc_eq hs hd hn n 0 (by omega) (fun i _ h2 => h.2 i h2) hp
theorem yc_diff {post : Int32 → Prop} {s d n : Nat} (hs : s < 160) (hd : d < 6) (hn : n ≤ 24) (h : ¬ (yrowLength s = nI n ∧ ∀ i, i < n → yrowI (24 * s + i) = yhereI (24 * d + i) ∧ yrowWay (24 * s + i) = yhereWay (24 * d + i))) (hp : post 0) :
    wpY_isSame post (ydepth, ysteps, yresult, youtcome, yload, yover, yop, ya, yb, yline, ylength, yfrom, yto, yat, yhandlers, ybegun, ytaken, ythrown, yrowI, yrowWay, yrowLength, ytimes, ytold, ykOp, ykA, ykB, ykLine, ykLength, ykFrom, ykTo, ykAt, ykHandlers, ykBegun, ykTaken, ykThrown, ykept, ymethod, ypc, yvariable, yhereI, yhereWay, yhereLength, yinto, ykLoad, ypart) (nI s) (nI d) (nI n) := by
  have e : (nI s).toNatClampNeg = s := nI_clamp (by omega)
  refine ⟨vp_in_nI hs (by omega), ?_⟩
  rw [e]
  by_cases z : yrowLength s = nI n
  · refine br_t z ⟨n + 1, ?_⟩
    exact yc_ne hs hd hn n 0 (by omega) (fun y => h ⟨z, fun i h2 => y i (by omega) h2⟩) hp
  · exact br_f z hp
theorem yc_skip {post : SY → Prop} {m d t l n k : Nat} (hm : m < 4) (hd : d < 6) (hl : l ≤ 24) (ht : t ≤ 40) (hk : k ≤ t) (et : ytold m = nI t) : ∀ e j, j + e = k → (∀ i, j ≤ i → i < k → ¬ (yrowLength (40 * m + i) = nI l ∧ ∀ q, q < l → yrowI (24 * (40 * m + i) + q) = yhereI (24 * d + q) ∧ yrowWay (24 * (40 * m + i) + q) = yhereWay (24 * d + q))) →
    wY_endStretch_39 post (nI d) (nI m) (nI l) ydepth ysteps yresult youtcome yload yover yop ya yb yline ylength yfrom yto yat yhandlers ybegun ytaken ythrown yrowI yrowWay yrowLength ytimes ytold ykOp ykA ykB ykLine ykLength ykFrom ykTo ykAt ykHandlers ykBegun ykTaken ykThrown ykept ymethod ypc yvariable yhereI yhereWay yhereLength yinto ykLoad ypart n (nI (40 * m + k)) → wY_endStretch_39 post (nI d) (nI m) (nI l) ydepth ysteps yresult youtcome yload yover yop ya yb yline ylength yfrom yto yat yhandlers ybegun ytaken ythrown yrowI yrowWay yrowLength ytimes ytold ykOp ykA ykB ykLine ykLength ykFrom ykTo ykAt ykHandlers ykBegun ykTaken ykThrown ykept ymethod ypc yvariable yhereI yhereWay yhereLength yinto ykLoad ypart (n + e) (nI (40 * m + j)) := by
  intro e
  induction e with
  | zero => intro j hj _ h; rw [show j = k from hj]; exact h
  | succ e ih =>
    intro j hj hd' h
    have h2 := ih (j + 1) (by omega) (fun i h1 h2 => hd' i (by omega) (by omega)) h
    have em : (nI m).toNatClampNeg = m := nI_clamp (by omega)
    have et2 : 40 * nI m + nI t = nI (40 * m + t) := iy_40 m t
    rw [show n + (e + 1) = (n + e) + 1 from by omega, wY_endStretch_39]
    dsimp only
    rw [em, et, et2]
    refine ⟨vp_in_nI hm (by omega), br_f (nI_ge (by omega) (by omega)) ?_⟩
    exact yc_diff (by omega) hd hl (hd' j (by omega) (by omega)) (br_t rfl (nm_r (nI_1 _) h2))
theorem yc_hit {post : SY → Prop} {m d t l n k : Nat} (hm : m < 4) (hd : d < 6) (hl : l ≤ 24) (ht : t ≤ 40) (et : ytold m = nI t) (hk : k < t)
    (h : yrowLength (40 * m + k) = nI l ∧ ∀ q, q < l → yrowI (24 * (40 * m + k) + q) = yhereI (24 * d + q) ∧ yrowWay (24 * (40 * m + k) + q) = yhereWay (24 * d + q))
    (hp : post (ydepth, ysteps, yresult, youtcome, yload, yover, yop, ya, yb, yline, ylength, yfrom, yto, yat, yhandlers, ybegun, ytaken, ythrown, yrowI, yrowWay, yrowLength, upd ytimes (40 * m + k) (ytimes (40 * m + k) + 1), ytold, ykOp, ykA, ykB, ykLine, ykLength, ykFrom, ykTo, ykAt, ykHandlers, ykBegun, ykTaken, ykThrown, ykept, ymethod, ypc, yvariable, yhereI, yhereWay, yhereLength, yinto, ykLoad, ypart)) : wY_endStretch_39 post (nI d) (nI m) (nI l) ydepth ysteps yresult youtcome yload yover yop ya yb yline ylength yfrom yto yat yhandlers ybegun ytaken ythrown yrowI yrowWay yrowLength ytimes ytold ykOp ykA ykB ykLine ykLength ykFrom ykTo ykAt ykHandlers ykBegun ykTaken ykThrown ykept ymethod ypc yvariable yhereI yhereWay yhereLength yinto ykLoad ypart (n + 1) (nI (40 * m + k)) := by
  have em : (nI m).toNatClampNeg = m := nI_clamp (by omega)
  have ek : (nI (40 * m + k)).toNatClampNeg = 40 * m + k := nI_clamp (by omega)
  have et2 : 40 * nI m + nI t = nI (40 * m + t) := iy_40 m t
  have w : vp_in (nI (40 * m + k)) 160 := vp_in_nI (by omega) (by omega)
  rw [wY_endStretch_39]
  dsimp only
  rw [em, et, et2]
  refine ⟨vp_in_nI hm (by omega), br_f (nI_ge (by omega) (by omega)) ?_⟩
  refine yc_same (by omega) hd hl h (br_f (by decide) ⟨w, w, nm_r (e' := upd ytimes (40 * m + k) (ytimes (40 * m + k) + 1)) (by rw [ek]) hp⟩)
theorem yc_full {post : SY → Prop} {m d l n : Nat} (hm : m < 4) (et : ytold m = nI 40) (hp : post (ydepth, ysteps, yresult, youtcome, yload, yover, yop, ya, yb, yline, ylength, yfrom, yto, yat, yhandlers, ybegun, ytaken, ythrown, yrowI, yrowWay, yrowLength, ytimes, ytold, ykOp, ykA, ykB, ykLine, ykLength, ykFrom, ykTo, ykAt, ykHandlers, ykBegun, ykTaken, ykThrown, ykept, ymethod, ypc, yvariable, yhereI, yhereWay, yhereLength, yinto, ykLoad, ypart)) : wY_endStretch_39 post (nI d) (nI m) (nI l) ydepth ysteps yresult youtcome yload yover yop ya yb yline ylength yfrom yto yat yhandlers ybegun ytaken ythrown yrowI yrowWay yrowLength ytimes ytold ykOp ykA ykB ykLine ykLength ykFrom ykTo ykAt ykHandlers ykBegun ykTaken ykThrown ykept ymethod ypc yvariable yhereI yhereWay yhereLength yinto ykLoad ypart (n + 1) (nI (40 * m + 40)) := by
  have em : (nI m).toNatClampNeg = m := nI_clamp (by omega)
  have et2 : 40 * nI m + nI 40 = nI (40 * m + 40) := iy_40 m 40
  have w : vp_in (nI m) 4 := vp_in_nI hm (by omega)
  rw [wY_endStretch_39]
  dsimp only
  rw [em, et, et2]
  exact ⟨w, br_t (nI_le (by omega) (by omega)) ⟨w, br_t rfl hp⟩⟩
theorem yc_cp {post : SY → Prop} {m d l s t : Nat} (hm : m < 4) (hd : d < 6) (hl : l ≤ 24) (hs : s < 160) (et : ytold m = nI t)
    (hp : post (ydepth, ysteps, yresult, youtcome, yload, yover, yop, ya, yb, yline, ylength, yfrom, yto, yat, yhandlers, ybegun, ytaken, ythrown, cy_f (24 * d) (24 * s) l yrowI yhereI, cy_f (24 * d) (24 * s) l yrowWay yhereWay, upd yrowLength s (nI l), upd ytimes s 1, upd ytold m (nI (t + 1)), ykOp, ykA, ykB, ykLine, ykLength, ykFrom, ykTo, ykAt, ykHandlers, ykBegun, ykTaken, ykThrown, ykept, ymethod, ypc, yvariable, yhereI, yhereWay, yhereLength, yinto, ykLoad, ypart)) :
    ∀ e j, j + e = l → wY_endStretch_115 post (nI d) (nI m) (nI l) (nI s) ydepth ysteps yresult youtcome yload yover (e + 1) (nI j) yop ya yb yline ylength yfrom yto yat yhandlers ybegun ytaken ythrown (cy_f (24 * d) (24 * s) j yrowI yhereI) (cy_f (24 * d) (24 * s) j yrowWay yhereWay) yrowLength ytimes ytold ykOp ykA ykB ykLine ykLength ykFrom ykTo ykAt ykHandlers ykBegun ykTaken ykThrown ykept ymethod ypc yvariable yhereI yhereWay yhereLength yinto ykLoad ypart := by
  intro e
  induction e with
  | zero =>
    intro j hj
    have hj : j = l := by omega
    subst hj
    have em : (nI m).toNatClampNeg = m := nI_clamp (by omega)
    have es : (nI s).toNatClampNeg = s := nI_clamp (by omega)
    have w : vp_in (nI m) 4 := vp_in_nI hm (by omega)
    have w2 : vp_in (nI s) 160 := vp_in_nI hs (by omega)
    rw [wY_endStretch_115]
    dsimp only
    rw [em, es, et, nI_1]
    exact br_t (nI_le (by omega) (by omega)) ⟨w2, nm_e ⟨w2, nm_e ⟨w, w, nm_e hp⟩⟩⟩
  | succ e ih =>
    intro j hj
    have h2 := ih (j + 1) (by omega)
    rw [wY_endStretch_115]
    dsimp only
    rw [ix_cl (iy_24 s j) (by omega), ix_cl (iy_24 d j) (by omega)]
    have w1 : vp_in (24 * nI s + nI j) 3840 := ix_in (iy_24 s j) (by omega) (by omega)
    have w2 : vp_in (24 * nI d + nI j) 144 := ix_in (iy_24 d j) (by omega) (by omega)
    exact br_f (nI_ge (by omega) (by omega)) ⟨w2, w1, nm_r cy_s ⟨w2, w1, nm_r cy_s (nm_r (nI_1 j) h2)⟩⟩
theorem yc_new {post : SY → Prop} {m d l t n : Nat} (hm : m < 4) (hd : d < 6) (hl : l ≤ 24) (ht : t < 40) (et : ytold m = nI t)
    (hp : post (ydepth, ysteps, yresult, youtcome, yload, yover, yop, ya, yb, yline, ylength, yfrom, yto, yat, yhandlers, ybegun, ytaken, ythrown, cy_f (24 * d) (24 * (40 * m + t)) l yrowI yhereI, cy_f (24 * d) (24 * (40 * m + t)) l yrowWay yhereWay, upd yrowLength (40 * m + t) (nI l), upd ytimes (40 * m + t) 1, upd ytold m (nI (t + 1)), ykOp, ykA, ykB, ykLine, ykLength, ykFrom, ykTo, ykAt, ykHandlers, ykBegun, ykTaken, ykThrown, ykept, ymethod, ypc, yvariable, yhereI, yhereWay, yhereLength, yinto, ykLoad, ypart)) :
    wY_endStretch_39 post (nI d) (nI m) (nI l) ydepth ysteps yresult youtcome yload yover yop ya yb yline ylength yfrom yto yat yhandlers ybegun ytaken ythrown yrowI yrowWay yrowLength ytimes ytold ykOp ykA ykB ykLine ykLength ykFrom ykTo ykAt ykHandlers ykBegun ykTaken ykThrown ykept ymethod ypc yvariable yhereI yhereWay yhereLength yinto ykLoad ypart (n + 1) (nI (40 * m + t)) := by
  have em : (nI m).toNatClampNeg = m := nI_clamp (by omega)
  have et2 : 40 * nI m + nI t = nI (40 * m + t) := iy_40 m t
  have w : vp_in (nI m) 4 := vp_in_nI hm (by omega)
  have z : ¬ nI t = 40 := fun y => by
    have := (nI_eq (a := t) (b := 40) (by omega) (by omega)).mp y
    omega
  have H := yc_cp (post := post) (s := 40 * m + t) hm hd hl (by omega) et hp l 0 (by omega)
  rw [cy_0, cy_0] at H
  rw [wY_endStretch_39]
  dsimp only
  rw [em, et, et2]
  exact ⟨w, br_t (nI_le (by omega) (by omega)) ⟨w, br_f z ⟨w, nm_e ⟨l + 1, H⟩⟩⟩⟩
/-- closeRow and endStretch keep the tables alike -/
theorem cl_R {d m n : Nat} {I W : Nat → Nat} (hd : d < 6) (hm : m < 4) (ha : xatWork d = nI m) (hme : ymethod d = nI m) (hl : yhereLength d = nI n) (he : en_R yhereI yhereWay (24 * d) n (xrow d) (xrowWays d) I W) (hS : (st_R xstretchNumber xstretchGone xstretchRow xstretchWays yrowI yrowWay yrowLength ytimes ytold)) (hD : ydepth = nI (d + 1)) :
    ∃ (sn sg sr : Nat → Int32) (sw : Nat → Int64) (ri rv rl ti tl : Nat → Int32),
      (∀ post : SX → Prop, post (xdepth, xsignal, xcarried, xlatest, xload, xsizes, xops, xargsA, xargsB, xlines, xguards, xfroms, xtos, xats, xbegunCounts, xthrownCounts, xtakenCounts, xslotUsed, xslotLoad, sn, sg, sr, sw, xatWork, xplace, xvariables, upd xrow d 0, vp_updL xrowWays d 0, vp_updL xwayOn d 0, xpart) → wpX_closeRow post (xdepth, xsignal, xcarried, xlatest, xload, xsizes, xops, xargsA, xargsB, xlines, xguards, xfroms, xtos, xats, xbegunCounts, xthrownCounts, xtakenCounts, xslotUsed, xslotLoad, xstretchNumber, xstretchGone, xstretchRow, xstretchWays, xatWork, xplace, xvariables, xrow, xrowWays, xwayOn, xpart) (nI d)) ∧
      (∀ post : SY → Prop, post (ydepth, ysteps, yresult, youtcome, yload, yover, yop, ya, yb, yline, ylength, yfrom, yto, yat, yhandlers, ybegun, ytaken, ythrown, ri, rv, rl, ti, tl, ykOp, ykA, ykB, ykLine, ykLength, ykFrom, ykTo, ykAt, ykHandlers, ykBegun, ykTaken, ykThrown, ykept, ymethod, ypc, yvariable, yhereI, yhereWay, upd yhereLength d 0, yinto, ykLoad, ypart) → wpY_endStretch post (ydepth, ysteps, yresult, youtcome, yload, yover, yop, ya, yb, yline, ylength, yfrom, yto, yat, yhandlers, ybegun, ytaken, ythrown, yrowI, yrowWay, yrowLength, ytimes, ytold, ykOp, ykA, ykB, ykLine, ykLength, ykFrom, ykTo, ykAt, ykHandlers, ykBegun, ykTaken, ykThrown, ykept, ymethod, ypc, yvariable, yhereI, yhereWay, yhereLength, yinto, ykLoad, ypart)) ∧ st_R sn sg sr sw ri rv rl ti tl := by
  have ed : (nI d).toNatClampNeg = d := nI_clamp (by omega)
  have em : (nI m).toNatClampNeg = m := nI_clamp (by omega)
  have w : vp_in (nI d) 6 := vp_in_nI hd (by omega)
  have w4 : vp_in (nI m) 4 := vp_in_nI hm (by omega)
  have e1 : ydepth - 1 = nI d := by rw [hD]; exact nI_pred d
  have l24 := sr_len he.1
  rcases Nat.eq_zero_or_pos n with z | z
  · subst z
    refine ⟨xstretchNumber, xstretchGone, xstretchRow, xstretchWays, yrowI, yrowWay, yrowLength, ytimes, ytold, fun post hp => ?_, fun post hp => ?_, hS⟩
    · have f : xrow (nI d).toNatClampNeg = 0 := by rw [ed]; exact he.2.2.1
      exact ⟨w, br_t f (xc_clr hd hp)⟩
    · refine nm_r e1 ⟨w, nm_r (e' := nI m) (by rw [ed]; exact hme) ⟨w, nm_r (e' := nI 0) (by rw [ed]; exact hl) ⟨w, nm_r (e' := upd yhereLength d 0) (by rw [ed]) ?_⟩⟩⟩
      exact br_t rfl hp
  · have hr : ¬ xrow d = 0 := en_pos he z
    obtain ⟨t, ht, s1, s2, s3⟩ := hS m hm
    obtain ⟨k, k1, k2, k3⟩ := st_find (fun i => xstretchRow (40 * m + i) = xrow d ∧ xstretchWays (40 * m + i) = xrowWays d) t
    have same : ∀ i, i < t → ((xstretchRow (40 * m + i) = xrow d ∧ xstretchWays (40 * m + i) = xrowWays d) ↔ (yrowLength (40 * m + i) = nI n ∧ ∀ j, j < n → yrowI (24 * (40 * m + i) + j) = yhereI (24 * d + j) ∧ yrowWay (24 * (40 * m + i) + j) = yhereWay (24 * d + j))) :=
      fun i hi => st_same (s3 i hi) he
    have f : ¬ xrow (nI d).toNatClampNeg = 0 := by rw [ed]; exact hr
    have nz : ¬ nI n = 0 := nI_ne0 z (by omega)
    have X0 : ∀ post : SX → Prop, (∀ q, wX_countStretch_17 (fun u => match u with | (xdepth, xsignal, xcarried, xlatest, xload, xsizes, xops, xargsA, xargsB, xlines, xguards, xfroms, xtos, xats, xbegunCounts, xthrownCounts, xtakenCounts, xslotUsed, xslotLoad, xstretchNumber, xstretchGone, xstretchRow, xstretchWays, xatWork, xplace, xvariables, xrow, xrowWays, xwayOn, xpart) => wX_closeRow_31 post (nI d) xdepth xsignal xcarried xlatest xload xsizes xops xargsA xargsB xlines xguards xfroms xtos xats xbegunCounts xthrownCounts xtakenCounts xslotUsed xslotLoad xstretchNumber xstretchGone xstretchRow xstretchWays xatWork xplace xvariables xrow xrowWays xwayOn xpart) (nI m) (xrow d) (xrowWays d) (nI (40 * m)) (nI t) xdepth xsignal xcarried xlatest xload xsizes xops xargsA xargsB xlines xguards xfroms xtos xats xbegunCounts xthrownCounts xtakenCounts xslotUsed xslotLoad xstretchNumber xstretchGone xstretchRow xstretchWays xatWork xplace xvariables xrow xrowWays xwayOn xpart (q + 1) (nI k)) → wpX_closeRow post (xdepth, xsignal, xcarried, xlatest, xload, xsizes, xops, xargsA, xargsB, xlines, xguards, xfroms, xtos, xats, xbegunCounts, xthrownCounts, xtakenCounts, xslotUsed, xslotLoad, xstretchNumber, xstretchGone, xstretchRow, xstretchWays, xatWork, xplace, xvariables, xrow, xrowWays, xwayOn, xpart) (nI d) := by
      intro post h
      refine ⟨w, br_f f ⟨w, w, w, ?_⟩⟩
      rw [ed, ha]
      refine nm_r (e' := nI (40 * m)) (ix_c m 40) ⟨w4, nm_r (e' := nI t) (by rw [em]; exact s1) ⟨0 + 1 + k, ?_⟩⟩
      exact xc_skip (xdepth := xdepth) (xsignal := xsignal) (xcarried := xcarried) (xlatest := xlatest) (xload := xload) (xsizes := xsizes) (xops := xops) (xargsA := xargsA) (xargsB := xargsB) (xlines := xlines) (xguards := xguards) (xfroms := xfroms) (xtos := xtos) (xats := xats) (xbegunCounts := xbegunCounts) (xthrownCounts := xthrownCounts) (xtakenCounts := xtakenCounts) (xslotUsed := xslotUsed) (xslotLoad := xslotLoad) (xstretchNumber := xstretchNumber) (xstretchGone := xstretchGone) (xstretchRow := xstretchRow) (xstretchWays := xstretchWays) (xatWork := xatWork) (xplace := xplace) (xvariables := xvariables) (xrow := xrow) (xrowWays := xrowWays) (xwayOn := xwayOn) (xpart := xpart) hm ht k1 k 0 (by omega) (fun i _ h2 => k2 i h2) (h 0)
    have Y0 : ∀ post : SY → Prop, (∀ q, wY_endStretch_39 post (nI d) (nI m) (nI n) ydepth ysteps yresult youtcome yload yover yop ya yb yline ylength yfrom yto yat yhandlers ybegun ytaken ythrown yrowI yrowWay yrowLength ytimes ytold ykOp ykA ykB ykLine ykLength ykFrom ykTo ykAt ykHandlers ykBegun ykTaken ykThrown ykept ymethod ypc yvariable yhereI yhereWay (upd yhereLength d 0) yinto ykLoad ypart (q + 1) (nI (40 * m + k))) → wpY_endStretch post (ydepth, ysteps, yresult, youtcome, yload, yover, yop, ya, yb, yline, ylength, yfrom, yto, yat, yhandlers, ybegun, ytaken, ythrown, yrowI, yrowWay, yrowLength, ytimes, ytold, ykOp, ykA, ykB, ykLine, ykLength, ykFrom, ykTo, ykAt, ykHandlers, ykBegun, ykTaken, ykThrown, ykept, ymethod, ypc, yvariable, yhereI, yhereWay, yhereLength, yinto, ykLoad, ypart) := by
      intro post h
      refine nm_r e1 ⟨w, nm_r (e' := nI m) (by rw [ed]; exact hme) ⟨w, nm_r (e' := nI n) (by rw [ed]; exact hl) ⟨w, nm_r (e' := upd yhereLength d 0) (by rw [ed]) ?_⟩⟩⟩
      refine br_f nz (nm_r (e' := nI (40 * m)) (pk_mul 40 m) ⟨0 + 1 + k, ?_⟩)
      exact yc_skip hm hd l24 ht k1 s2 k 0 (by omega) (fun i _ h2 y => k2 i h2 ((same i (by omega)).mpr y)) (h 0)
    rcases Nat.lt_or_ge k t with y | y
    · have c := k3 y
      refine ⟨xstretchNumber, _, xstretchRow, xstretchWays, yrowI, yrowWay, yrowLength, _, ytold, fun post hp => X0 post (fun q => ?_), fun post hp => Y0 post (fun q => ?_), st_again hS (s3 k y).1⟩
      · exact xc_hit hm ht y c.1 c.2 (xc_clr hd hp)
      · exact yc_hit hm hd l24 ht s2 y ((same k y).mp c) hp
    · have ek : k = t := by omega
      subst ek
      rcases Nat.lt_or_ge k 40 with q4 | q4
      · refine ⟨_, _, _, _, _, _, _, _, _, fun post hp => X0 post (fun q => ?_), fun post hp => Y0 post (fun q => ?_), st_new hS hm s1 q4 he z⟩
        · exact xc_new hm q4 (xc_clr hd hp)
        · exact yc_new hm hd l24 q4 s2 hp
      · have e4 : k = 40 := by omega
        subst e4
        refine ⟨xstretchNumber, xstretchGone, xstretchRow, xstretchWays, yrowI, yrowWay, yrowLength, ytimes, ytold, fun post hp => X0 post (fun q => ?_), fun post hp => Y0 post (fun q => ?_), hS⟩
        · exact xc_full (xc_clr hd hp)
        · exact yc_full hm s2 hp
end
