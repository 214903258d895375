/-! part 24: merge -/
theorem pk_sub_toInt {a b : Nat} (ha : a < 2 ^ 30) (hb : b < 2 ^ 30) : (nI a - nI b).toInt = (a : Int) - b := by
  rw [Int32.toInt_sub, nI_toInt (by omega), nI_toInt (by omega)]
  exact Int.bmod_eq_of_le (by omega) (by omega)
theorem ml_le {K L : Nat} (hK : K ≤ 1000000200) (hL : L ≤ 1000000200) : nI K ≤ 1000000000 - nI L ↔ K + L ≤ 1000000000 := by
  have e : ((1000000000 : Int32) - nI L).toInt = ((1000000000 : Nat) : Int) - L := pk_sub_toInt (a := 1000000000) (by decide) (by omega)
  rw [Int32.le_iff_toInt_le, e, nI_toInt (by omega)]
  omega
/-- what the taken counts may have become when methods below m are merged -/
def mb_R (m L K : Nat) (tk : Nat → Int32) : Prop := ∀ j, j < 384 → ∃ t, tk j = nI t ∧ (j < 96 * m → t ≤ L + K) ∧ (96 * m ≤ j → t ≤ L)
theorem mb_0 {L K : Nat} {tk : Nat → Int32} (h : tb_R 0 L tk) : mb_R 0 L K tk := fun j hj => by
  obtain ⟨t, a, b⟩ := h j hj
  exact ⟨t, a, fun z => absurd z (by omega), fun _ => by omega⟩
theorem mb_4 {L K : Nat} {tk : Nat → Int32} (h : mb_R 4 L K tk) : tb_R 0 (L + K) tk := fun j hj => by
  obtain ⟨t, a, b, c⟩ := h j hj
  have := b (by omega)
  exact ⟨t, a, by omega⟩
theorem mb_s {m L K : Nat} {tk : Nat → Int32} (h : mb_R m L K tk) : mb_R (m + 1) L K tk := fun j hj => by
  obtain ⟨t, a, b, c⟩ := h j hj
  refine ⟨t, a, fun z => ?_, fun z => c (by omega)⟩
  rcases Nat.lt_or_ge j (96 * m) with y | y
  · exact b y
  · have := c y
    omega
theorem mb_a {s m L K : Nat} {tk : Nat → Int32} (hm : m < 4) (h : mb_R m L K tk) (hk : kt_R s K tk) : mb_R (m + 1) L K (ad_f (96 * (4 + 4 * s + m)) (96 * m) 96 tk tk) := fun j hj => by
  obtain ⟨t, a, b, c⟩ := h j hj
  by_cases w : 96 * m ≤ j ∧ j < 96 * m + 96
  · obtain ⟨t', a', b'⟩ := hk j hj
    rw [ad_in w.1 w.2, show 96 * (4 + 4 * s + m) + (j - 96 * m) = 384 + 384 * s + j from by omega, a, b', nI_add]
    have := c w.1
    exact ⟨t + t', rfl, fun _ => by omega, fun z => absurd z (by omega)⟩
  · rw [ad_out (by omega)]
    exact ⟨t, a, fun z => b (by omega), fun z => c (by omega)⟩
section
variable {xdepth xsignal xcarried xlatest xload : Int32} {xsizes xops xargsA xargsB xlines xguards xfroms xtos xats xbegunCounts xthrownCounts xtakenCounts xslotUsed xslotLoad xstretchNumber xstretchGone xstretchRow xatWork xplace xvariables xrow xpart : Nat → Int32} {xstretchWays xrowWays xwayOn : Nat → Int64}
variable {ydepth ysteps yresult youtcome yload yover : Int32} {yop ya yb yline ylength yfrom yto yat yhandlers ybegun ytaken ythrown yrowI yrowWay yrowLength ytimes ytold ykOp ykA ykB ykLine ykLength ykFrom ykTo ykAt ykHandlers ykBegun ykTaken ykThrown ykept ymethod ypc yvariable yhereI yhereWay yhereLength yinto ykLoad ypart : Nat → Int32}
def sx_24 (xops xargsA xargsB xlines : Nat → Int32) (m b i : Nat) : Prop := xops (24 * m + i) = xops (24 * b + i) ∧ xargsA (24 * m + i) = xargsA (24 * b + i) ∧ xargsB (24 * m + i) = xargsB (24 * b + i) ∧ xlines (24 * m + i) = xlines (24 * b + i)
def sx_3 (xfroms xtos xats : Nat → Int32) (m b i : Nat) : Prop := xfroms (3 * m + i) = xfroms (3 * b + i) ∧ xtos (3 * m + i) = xtos (3 * b + i) ∧ xats (3 * m + i) = xats (3 * b + i)
theorem sx_0 {post : Int32 → Prop} {x1 x2 x4 : Int32} {n : Nat} (hp : post 0) : wX_sameProgram_155 post x1 x2 xdepth xsignal xcarried xlatest xload xsizes xops xargsA xargsB xlines xguards xfroms xtos xats xbegunCounts xthrownCounts xtakenCounts xslotUsed xslotLoad xstretchNumber xstretchGone xstretchRow xstretchWays xatWork xplace xvariables xrow xrowWays xwayOn xpart (n + 1) 0 x4 := by
  rw [wX_sameProgram_155]
  exact br_t rfl ⟨rfl, hp⟩
theorem sx_00 {post : Int32 → Prop} {x1 x2 x4 : Int32} {n : Nat} (hp : post 0) : wX_sameProgram_39 post x1 x2 xdepth xsignal xcarried xlatest xload xsizes xops xargsA xargsB xlines xguards xfroms xtos xats xbegunCounts xthrownCounts xtakenCounts xslotUsed xslotLoad xstretchNumber xstretchGone xstretchRow xstretchWays xatWork xplace xvariables xrow xrowWays xwayOn xpart (n + 1) 0 x4 := by
  rw [wX_sameProgram_39]
  exact br_t rfl ⟨0 + 1, sx_0 hp⟩
theorem sx_L3 {post : Int32 → Prop} {m b g : Nat} (hm : m < 17) (hb : b < 17) (hg : xguards m = nI g) (hg3 : g ≤ 3) : ∀ e j, j + e = g → ((∀ q, j ≤ q → q < g → sx_3 xfroms xtos xats m b q) → post 1) → (¬ (∀ q, j ≤ q → q < g → sx_3 xfroms xtos xats m b q) → post 0) →
    wX_sameProgram_155 post (nI m) (nI b) xdepth xsignal xcarried xlatest xload xsizes xops xargsA xargsB xlines xguards xfroms xtos xats xbegunCounts xthrownCounts xtakenCounts xslotUsed xslotLoad xstretchNumber xstretchGone xstretchRow xstretchWays xatWork xplace xvariables xrow xrowWays xwayOn xpart (e + 1) 1 (nI j) := by
  have cm : (nI m).toNatClampNeg = m := nI_clamp (by omega)
  have wm : vp_in (nI m) 17 := vp_in_nI hm (by decide)
  intro e
  induction e with
  | zero =>
    intro j hj h1 h0
    rw [wX_sameProgram_155]
    refine br_f (by decide) ⟨wm, ?_⟩
    rw [cm, hg]
    exact br_t (nI_le (by omega) (by omega)) ⟨rfl, h1 (fun q a b => absurd b (by omega))⟩
  | succ e ih =>
    intro j hj h1 h0
    have ws : vp_in (nI (3 * m + j)) 51 := vp_in_nI (by omega) (by decide)
    have wt : vp_in (nI (3 * b + j)) 51 := vp_in_nI (by omega) (by decide)
    rw [wX_sameProgram_155]
    refine br_f (by decide) ⟨wm, ?_⟩
    rw [cm, hg]
    refine br_f (nI_ge (by omega) (by omega)) (nm_r (ix_3 m j) (nm_r (ix_3 b j) ⟨ws, wt, ?_⟩))
    rw [nI_clamp (n := 3 * m + j) (by omega), nI_clamp (n := 3 * b + j) (by omega)]
    have bad : ¬ sx_3 xfroms xtos xats m b j → post 0 := fun y => h0 (fun z => y (z j (Nat.le_refl j) (by omega)))
    by_cases a1 : xfroms (3 * m + j) = xfroms (3 * b + j)
    · by_cases a2 : xtos (3 * m + j) = xtos (3 * b + j)
      · by_cases a3 : xats (3 * m + j) = xats (3 * b + j)
        · refine br_t a1 ⟨ws, wt, br_t a2 ⟨ws, wt, br_t a3 (nm_r (nI_1 j) (ih (j + 1) (by omega) (fun y => h1 (fun q p1 p2 => ?_)) (fun y => h0 (fun z => y (fun q p1 p2 => z q (by omega) p2)))))⟩⟩
          rcases Nat.lt_or_ge j q with v | v
          · exact y q v p2
          · have eq : q = j := by omega
            rw [eq]; exact ⟨a1, a2, a3⟩
        · exact br_t a1 ⟨ws, wt, br_t a2 ⟨ws, wt, br_f a3 (nm_e (sx_0 (bad (fun y => a3 y.2.2))))⟩⟩
      · exact br_t a1 ⟨ws, wt, br_f a2 (nm_e (sx_0 (bad (fun y => a2 y.2.1))))⟩
    · exact br_f a1 (nm_e (sx_0 (bad (fun y => a1 y.1))))
theorem sx_L24 {post : Int32 → Prop} {m b g z : Nat} (hm : m < 17) (hb : b < 17) (hz : xsizes m = nI z) (hz24 : z ≤ 24) (hg : xguards m = nI g) (hg3 : g ≤ 3) : ∀ e j, j + e = z → (((∀ q, j ≤ q → q < z → sx_24 xops xargsA xargsB xlines m b q) ∧ (∀ q, q < g → sx_3 xfroms xtos xats m b q)) → post 1) → (¬ ((∀ q, j ≤ q → q < z → sx_24 xops xargsA xargsB xlines m b q) ∧ (∀ q, q < g → sx_3 xfroms xtos xats m b q)) → post 0) →
    wX_sameProgram_39 post (nI m) (nI b) xdepth xsignal xcarried xlatest xload xsizes xops xargsA xargsB xlines xguards xfroms xtos xats xbegunCounts xthrownCounts xtakenCounts xslotUsed xslotLoad xstretchNumber xstretchGone xstretchRow xstretchWays xatWork xplace xvariables xrow xrowWays xwayOn xpart (e + 1) 1 (nI j) := by
  have cm : (nI m).toNatClampNeg = m := nI_clamp (by omega)
  have wm : vp_in (nI m) 17 := vp_in_nI hm (by decide)
  intro e
  induction e with
  | zero =>
    intro j hj h1 h0
    rw [wX_sameProgram_39]
    refine br_f (by decide) ⟨wm, ?_⟩
    rw [cm, hz]
    refine br_t (nI_le (by omega) (by omega)) ⟨g + 1, sx_L3 hm hb hg hg3 g 0 (by omega) (fun y => h1 ⟨fun q a b => absurd b (by omega), fun q hq => y q (by omega) hq⟩) (fun y => h0 (fun w => y (fun q _ hq => w.2 q hq)))⟩
  | succ e ih =>
    intro j hj h1 h0
    have ws : vp_in (nI (24 * m + j)) 408 := vp_in_nI (by omega) (by decide)
    have wt : vp_in (nI (24 * b + j)) 408 := vp_in_nI (by omega) (by decide)
    rw [wX_sameProgram_39]
    refine br_f (by decide) ⟨wm, ?_⟩
    rw [cm, hz]
    refine br_f (nI_ge (by omega) (by omega)) (nm_r (ix_24 m j) (nm_r (ix_24 b j) ⟨ws, wt, ?_⟩))
    rw [nI_clamp (n := 24 * m + j) (by omega), nI_clamp (n := 24 * b + j) (by omega)]
    have bad : ¬ sx_24 xops xargsA xargsB xlines m b j → post 0 := fun y => h0 (fun w => y (w.1 j (Nat.le_refl j) (by omega)))
    by_cases a1 : xops (24 * m + j) = xops (24 * b + j)
    · by_cases a2 : xargsA (24 * m + j) = xargsA (24 * b + j)
      · by_cases a3 : xargsB (24 * m + j) = xargsB (24 * b + j)
        · by_cases a4 : xlines (24 * m + j) = xlines (24 * b + j)
          · refine br_t a1 ⟨ws, wt, br_t a2 ⟨ws, wt, br_t a3 ⟨ws, wt, br_t a4 (nm_r (nI_1 j) (ih (j + 1) (by omega) (fun y => h1 ⟨fun q p1 p2 => ?_, y.2⟩) (fun y => h0 (fun w => y ⟨fun q p1 p2 => w.1 q (by omega) p2, w.2⟩))))⟩⟩⟩
            rcases Nat.lt_or_ge j q with v | v
            · exact y.1 q v p2
            · have eq : q = j := by omega
              rw [eq]; exact ⟨a1, a2, a3, a4⟩
          · exact br_t a1 ⟨ws, wt, br_t a2 ⟨ws, wt, br_t a3 ⟨ws, wt, br_f a4 (nm_e (sx_00 (bad (fun y => a4 y.2.2.2))))⟩⟩⟩
        · exact br_t a1 ⟨ws, wt, br_t a2 ⟨ws, wt, br_f a3 (nm_e (sx_00 (bad (fun y => a3 y.2.2.1))))⟩⟩
      · exact br_t a1 ⟨ws, wt, br_f a2 (nm_e (sx_00 (bad (fun y => a2 y.2.1))))⟩
    · exact br_f a1 (nm_e (sx_00 (bad (fun y => a1 y.1))))
/-- sameProgram of the class -/
theorem sx_R {post : Int32 → Prop} {m b g z : Nat} (hm : m < 17) (hb : b < 17) (hz : xsizes m = nI z) (hz24 : z ≤ 24) (hg : xguards m = nI g) (hg3 : g ≤ 3)
    (h1 : (xsizes m = xsizes b ∧ xguards m = xguards b ∧ (∀ q, q < z → sx_24 xops xargsA xargsB xlines m b q) ∧ (∀ q, q < g → sx_3 xfroms xtos xats m b q)) → post 1)
    (h0 : ¬ (xsizes m = xsizes b ∧ xguards m = xguards b ∧ (∀ q, q < z → sx_24 xops xargsA xargsB xlines m b q) ∧ (∀ q, q < g → sx_3 xfroms xtos xats m b q)) → post 0) : wpX_sameProgram post (xdepth, xsignal, xcarried, xlatest, xload, xsizes, xops, xargsA, xargsB, xlines, xguards, xfroms, xtos, xats, xbegunCounts, xthrownCounts, xtakenCounts, xslotUsed, xslotLoad, xstretchNumber, xstretchGone, xstretchRow, xstretchWays, xatWork, xplace, xvariables, xrow, xrowWays, xwayOn, xpart) (nI m) (nI b) := by
  have cm : (nI m).toNatClampNeg = m := nI_clamp (by omega)
  have wm : vp_in (nI m) 17 := vp_in_nI hm (by decide)
  have cb : (nI b).toNatClampNeg = b := nI_clamp (by omega)
  have wb : vp_in (nI b) 17 := vp_in_nI hb (by decide)
  unfold wpX_sameProgram
  dsimp only
  rw [cm, cb]
  refine ⟨wm, wb, ?_⟩
  by_cases a1 : xsizes m = xsizes b
  · refine br_t a1 ⟨wm, wb, ?_⟩
    by_cases a2 : xguards m = xguards b
    · refine br_t a2 ⟨z + 1, sx_L24 hm hb hz hz24 hg hg3 z 0 (by omega) (fun y => h1 ⟨a1, a2, fun q hq => y.1 q (by omega) hq, y.2⟩) (fun y => h0 (fun w => y ⟨fun q _ hq => w.2.2.1 q hq, w.2.2.2⟩))⟩
    · exact br_f a2 ⟨0 + 1, sx_00 (h0 (fun w => a2 w.2.1))⟩
  · exact br_f a1 ⟨0 + 1, sx_00 (h0 (fun w => a1 w.1))⟩
def sy_24 (yop ya yb yline ykOp ykA ykB ykLine : Nat → Int32) (s m i : Nat) : Prop := ykOp (96 * s + (24 * m + i)) = yop (24 * m + i) ∧ ykA (96 * s + (24 * m + i)) = ya (24 * m + i) ∧ ykB (96 * s + (24 * m + i)) = yb (24 * m + i) ∧ ykLine (96 * s + (24 * m + i)) = yline (24 * m + i)
def sy_3 (yfrom yto yat ykFrom ykTo ykAt : Nat → Int32) (s m i : Nat) : Prop := ykFrom (12 * s + (3 * m + i)) = yfrom (3 * m + i) ∧ ykTo (12 * s + (3 * m + i)) = yto (3 * m + i) ∧ ykAt (12 * s + (3 * m + i)) = yat (3 * m + i)
theorem sy_L3 {post : Int32 → Prop} {s m g : Nat} (hs : s < 3) (hm : m < 4) (hg : yhandlers m = nI g) (hg3 : g ≤ 3) : ∀ e j, j + e = g → ((∀ q, j ≤ q → q < g → sy_3 yfrom yto yat ykFrom ykTo ykAt s m q) → post 1) → (¬ (∀ q, j ≤ q → q < g → sy_3 yfrom yto yat ykFrom ykTo ykAt s m q) → post 0) →
    wY_isKept_153 post (nI s) (nI m) ydepth ysteps yresult youtcome yload yover yop ya yb yline ylength yfrom yto yat yhandlers ybegun ytaken ythrown yrowI yrowWay yrowLength ytimes ytold ykOp ykA ykB ykLine ykLength ykFrom ykTo ykAt ykHandlers ykBegun ykTaken ykThrown ykept ymethod ypc yvariable yhereI yhereWay yhereLength yinto ykLoad ypart (e + 1) (nI (3 * m + j)) := by
  have cm : (nI m).toNatClampNeg = m := nI_clamp (by omega)
  have wm : vp_in (nI m) 5 := vp_in_nI (by omega) (by decide)
  intro e
  induction e with
  | zero =>
    intro j hj h1 h0
    rw [wY_isKept_153]
    refine ⟨wm, ?_⟩
    rw [cm, hg, iy_3]
    exact br_t (nI_le (by omega) (by omega)) (h1 (fun q a b => absurd b (by omega)))
  | succ e ih =>
    intro j hj h1 h0
    have ws : vp_in (nI (3 * m + j)) 15 := vp_in_nI (by omega) (by decide)
    have wt : vp_in (nI (12 * s + (3 * m + j))) 36 := vp_in_nI (by omega) (by decide)
    rw [wY_isKept_153]
    refine ⟨wm, ?_⟩
    rw [cm, hg, iy_3]
    refine br_f (nI_ge (by omega) (by omega)) (nm_r (iy_12 s (3 * m + j)) ⟨wt, ws, ?_⟩)
    rw [nI_clamp (n := 3 * m + j) (by omega), nI_clamp (n := 12 * s + (3 * m + j)) (by omega)]
    have bad : ¬ sy_3 yfrom yto yat ykFrom ykTo ykAt s m j → post 0 := fun y => h0 (fun z => y (z j (Nat.le_refl j) (by omega)))
    by_cases a1 : ykFrom (12 * s + (3 * m + j)) = yfrom (3 * m + j)
    · by_cases a2 : ykTo (12 * s + (3 * m + j)) = yto (3 * m + j)
      · by_cases a3 : ykAt (12 * s + (3 * m + j)) = yat (3 * m + j)
        · refine br_t a1 ⟨wt, ws, br_t a2 ⟨wt, ws, br_t a3 (nm_r (nI_1 _) (ih (j + 1) (by omega) (fun y => h1 (fun q p1 p2 => ?_)) (fun y => h0 (fun z => y (fun q p1 p2 => z q (by omega) p2)))))⟩⟩
          rcases Nat.lt_or_ge j q with v | v
          · exact y q v p2
          · have eq : q = j := by omega
            rw [eq]; exact ⟨a1, a2, a3⟩
        · exact br_t a1 ⟨wt, ws, br_t a2 ⟨wt, ws, br_f a3 (bad (fun y => a3 y.2.2))⟩⟩
      · exact br_t a1 ⟨wt, ws, br_f a2 (bad (fun y => a2 y.2.1))⟩
    · exact br_f a1 (bad (fun y => a1 y.1))
theorem sy_L24 {post : Int32 → Prop} {s m g z : Nat} (hs : s < 3) (hm : m < 4) (hz : ylength m = nI z) (hz24 : z ≤ 24) (hg : yhandlers m = nI g) (hg3 : g ≤ 3) : ∀ e j, j + e = z → (((∀ q, j ≤ q → q < z → sy_24 yop ya yb yline ykOp ykA ykB ykLine s m q) ∧ (∀ q, q < g → sy_3 yfrom yto yat ykFrom ykTo ykAt s m q)) → post 1) → (¬ ((∀ q, j ≤ q → q < z → sy_24 yop ya yb yline ykOp ykA ykB ykLine s m q) ∧ (∀ q, q < g → sy_3 yfrom yto yat ykFrom ykTo ykAt s m q)) → post 0) →
    wY_isKept_54 post (nI s) (nI m) ydepth ysteps yresult youtcome yload yover yop ya yb yline ylength yfrom yto yat yhandlers ybegun ytaken ythrown yrowI yrowWay yrowLength ytimes ytold ykOp ykA ykB ykLine ykLength ykFrom ykTo ykAt ykHandlers ykBegun ykTaken ykThrown ykept ymethod ypc yvariable yhereI yhereWay yhereLength yinto ykLoad ypart (e + 1) (nI (24 * m + j)) := by
  have cm : (nI m).toNatClampNeg = m := nI_clamp (by omega)
  have wm : vp_in (nI m) 5 := vp_in_nI (by omega) (by decide)
  intro e
  induction e with
  | zero =>
    intro j hj h1 h0
    rw [wY_isKept_54]
    refine ⟨wm, ?_⟩
    rw [cm, hz, iy_24]
    refine br_t (nI_le (by omega) (by omega)) (nm_r (e' := nI (3 * m)) (pk_mul 3 m) ⟨g + 1, sy_L3 hs hm hg hg3 g 0 (by omega) (fun y => h1 ⟨fun q a b => absurd b (by omega), fun q hq => y q (by omega) hq⟩) (fun y => h0 (fun w => y (fun q _ hq => w.2 q hq)))⟩)
  | succ e ih =>
    intro j hj h1 h0
    have ws : vp_in (nI (24 * m + j)) 120 := vp_in_nI (by omega) (by decide)
    have wt : vp_in (nI (96 * s + (24 * m + j))) 288 := vp_in_nI (by omega) (by decide)
    rw [wY_isKept_54]
    refine ⟨wm, ?_⟩
    rw [cm, hz, iy_24]
    refine br_f (nI_ge (by omega) (by omega)) (nm_r (iy_96 s (24 * m + j)) ⟨wt, ws, ?_⟩)
    rw [nI_clamp (n := 24 * m + j) (by omega), nI_clamp (n := 96 * s + (24 * m + j)) (by omega)]
    have bad : ¬ sy_24 yop ya yb yline ykOp ykA ykB ykLine s m j → post 0 := fun y => h0 (fun w => y (w.1 j (Nat.le_refl j) (by omega)))
    by_cases a1 : ykOp (96 * s + (24 * m + j)) = yop (24 * m + j)
    · by_cases a2 : ykA (96 * s + (24 * m + j)) = ya (24 * m + j)
      · by_cases a3 : ykB (96 * s + (24 * m + j)) = yb (24 * m + j)
        · by_cases a4 : ykLine (96 * s + (24 * m + j)) = yline (24 * m + j)
          · refine br_t a1 ⟨wt, ws, br_t a2 ⟨wt, ws, br_t a3 ⟨wt, ws, br_t a4 (nm_r (nI_1 _) (ih (j + 1) (by omega) (fun y => h1 ⟨fun q p1 p2 => ?_, y.2⟩) (fun y => h0 (fun w => y ⟨fun q p1 p2 => w.1 q (by omega) p2, w.2⟩))))⟩⟩⟩
            rcases Nat.lt_or_ge j q with v | v
            · exact y.1 q v p2
            · have eq : q = j := by omega
              rw [eq]; exact ⟨a1, a2, a3, a4⟩
          · exact br_t a1 ⟨wt, ws, br_t a2 ⟨wt, ws, br_t a3 ⟨wt, ws, br_f a4 (bad (fun y => a4 y.2.2.2))⟩⟩⟩
        · exact br_t a1 ⟨wt, ws, br_t a2 ⟨wt, ws, br_f a3 (bad (fun y => a3 y.2.2.1))⟩⟩
      · exact br_t a1 ⟨wt, ws, br_f a2 (bad (fun y => a2 y.2.1))⟩
    · exact br_f a1 (bad (fun y => a1 y.1))
/-- isKept of the reference -/
theorem sy_R {post : Int32 → Prop} {s m g z : Nat} (hs : s < 3) (hm : m < 4) (hz : ylength m = nI z) (hz0 : 0 < z) (hz24 : z ≤ 24) (hg : yhandlers m = nI g) (hg3 : g ≤ 3)
    (h1 : (ykLength (4 * s + m) = ylength m ∧ ykHandlers (4 * s + m) = yhandlers m ∧ (∀ q, q < z → sy_24 yop ya yb yline ykOp ykA ykB ykLine s m q) ∧ (∀ q, q < g → sy_3 yfrom yto yat ykFrom ykTo ykAt s m q)) → post 1)
    (h0 : ¬ (ykLength (4 * s + m) = ylength m ∧ ykHandlers (4 * s + m) = yhandlers m ∧ (∀ q, q < z → sy_24 yop ya yb yline ykOp ykA ykB ykLine s m q) ∧ (∀ q, q < g → sy_3 yfrom yto yat ykFrom ykTo ykAt s m q)) → post 0) : wpY_isKept post (ydepth, ysteps, yresult, youtcome, yload, yover, yop, ya, yb, yline, ylength, yfrom, yto, yat, yhandlers, ybegun, ytaken, ythrown, yrowI, yrowWay, yrowLength, ytimes, ytold, ykOp, ykA, ykB, ykLine, ykLength, ykFrom, ykTo, ykAt, ykHandlers, ykBegun, ykTaken, ykThrown, ykept, ymethod, ypc, yvariable, yhereI, yhereWay, yhereLength, yinto, ykLoad, ypart) (nI s) (nI m) := by
  have cm : (nI m).toNatClampNeg = m := nI_clamp (by omega)
  have wm : vp_in (nI m) 5 := vp_in_nI (by omega) (by decide)
  have wk : vp_in (4 * nI s + nI m) 12 := ix_in (iy_4 s m) (by omega) (by decide)
  unfold wpY_isKept
  dsimp only
  rw [cm, ix_cl (iy_4 s m) (by omega)]
  refine ⟨wm, br_f (by rw [hz]; exact nI_ne0 hz0 (by omega)) ⟨wk, wm, ?_⟩⟩
  by_cases a1 : ykLength (4 * s + m) = ylength m
  · refine br_t a1 ⟨wk, wm, ?_⟩
    by_cases a2 : ykHandlers (4 * s + m) = yhandlers m
    · refine br_t a2 (nm_r (e' := nI (24 * m)) (pk_mul 24 m) ⟨z + 1, sy_L24 hs hm hz hz24 hg hg3 z 0 (by omega) (fun y => h1 ⟨a1, a2, fun q hq => y.1 q (by omega) hq, y.2⟩) (fun y => h0 (fun w => y ⟨fun q _ hq => w.2.2.1 q hq, w.2.2.2⟩))⟩)
    · exact br_f a2 (h0 (fun w => a2 w.2.1))
  · exact br_f a1 (h0 (fun w => a1 w.1))
/-- join of the reference, at instruction i of method m -/
theorem jn_Y {post : SY → Prop} {s m i : Nat} (hs : s < 3) (hm : m < 4) (hi : i < 24)
    (h : post (ydepth, ysteps, yresult, youtcome, yload, yover, yop, ya, yb, yline, ylength, yfrom, yto, yat, yhandlers, ad_f (24 * (4 * s + m)) (24 * m) (i + 1) ybegun ykBegun, ad_f (96 * (4 * s + m)) (96 * m) (4 * (i + 1)) ytaken ykTaken, ad_f (24 * (4 * s + m)) (24 * m) (i + 1) ythrown ykThrown, yrowI, yrowWay, yrowLength, ytimes, ytold, ykOp, ykA, ykB, ykLine, ykLength, ykFrom, ykTo, ykAt, ykHandlers, ykBegun, ykTaken, ykThrown, ykept, ymethod, ypc, yvariable, yhereI, yhereWay, yhereLength, yinto, ykLoad, ypart)) :
    wpY_join post (ydepth, ysteps, yresult, youtcome, yload, yover, yop, ya, yb, yline, ylength, yfrom, yto, yat, yhandlers, ad_f (24 * (4 * s + m)) (24 * m) i ybegun ykBegun, ad_f (96 * (4 * s + m)) (96 * m) (4 * i) ytaken ykTaken, ad_f (24 * (4 * s + m)) (24 * m) i ythrown ykThrown, yrowI, yrowWay, yrowLength, ytimes, ytold, ykOp, ykA, ykB, ykLine, ykLength, ykFrom, ykTo, ykAt, ykHandlers, ykBegun, ykTaken, ykThrown, ykept, ymethod, ypc, yvariable, yhereI, yhereWay, yhereLength, yinto, ykLoad, ypart) (nI (24 * (4 * s + m) + i)) (nI (24 * m + i)) := by
  have H : ∀ e k, k + e = 4 → wY_join_32 post (nI (24 * (4 * s + m) + i)) (nI (24 * m + i)) ydepth ysteps yresult youtcome yload yover (e + 1) (nI k) yop ya yb yline ylength yfrom yto yat yhandlers (ad_f (24 * (4 * s + m)) (24 * m) (i + 1) ybegun ykBegun) (ad_f (96 * (4 * s + m)) (96 * m) (4 * i + k) ytaken ykTaken) (ad_f (24 * (4 * s + m)) (24 * m) (i + 1) ythrown ykThrown) yrowI yrowWay yrowLength ytimes ytold ykOp ykA ykB ykLine ykLength ykFrom ykTo ykAt ykHandlers ykBegun ykTaken ykThrown ykept ymethod ypc yvariable yhereI yhereWay yhereLength yinto ykLoad ypart := by
    intro e
    induction e with
    | zero =>
      intro k hk
      have z : k = 4 := by omega
      subst z
      rw [wY_join_32]
      exact br_t (by decide) h
    | succ e ih =>
      intro k hk
      have h2 := ih (k + 1) (by omega)
      rw [wY_join_32]
      refine br_f (nI_ge (b := 4) (by omega) (by decide)) ?_
      rw [ix_cl (iy_z m i k) (by omega), ix_cl (iy_z (4 * s + m) i k) (by omega)]
      exact ⟨ix_in (iy_z m i k) (by omega) (by decide), ix_in (iy_z (4 * s + m) i k) (by omega) (by decide), ix_in (iy_z m i k) (by omega) (by decide), nm_r ad_s (nm_r (nI_1 k) h2)⟩
  have c1 : (nI (24 * m + i)).toNatClampNeg = 24 * m + i := nI_clamp (by omega)
  have c2 : (nI (24 * (4 * s + m) + i)).toNatClampNeg = 24 * (4 * s + m) + i := nI_clamp (by omega)
  have w1 : vp_in (nI (24 * m + i)) 96 := vp_in_nI (by omega) (by decide)
  have w2 : vp_in (nI (24 * (4 * s + m) + i)) 288 := vp_in_nI (by omega) (by decide)
  unfold wpY_join
  dsimp only
  rw [c1, c2]
  exact ⟨w1, w2, w1, nm_r ad_s ⟨w1, w2, w1, nm_r ad_s ⟨_, H 4 0 rfl⟩⟩⟩
theorem mj_Y {post : Int32 → SY → Prop} {J : _} {x2 : Int32} {s m z : Nat} (hs : s < 3) (hm : m < 4) (hz : ylength m = nI z) (hz24 : z ≤ 24)
    (h : J x2 (nI (m + 1)) ydepth ysteps yresult youtcome yload yover yop ya yb yline ylength yfrom yto yat yhandlers (ad_f (24 * (4 * s + m)) (24 * m) z ybegun ykBegun) (ad_f (96 * (4 * s + m)) (96 * m) (4 * z) ytaken ykTaken) (ad_f (24 * (4 * s + m)) (24 * m) z ythrown ykThrown) yrowI yrowWay yrowLength ytimes ytold ykOp ykA ykB ykLine ykLength ykFrom ykTo ykAt ykHandlers ykBegun ykTaken ykThrown ykept ymethod ypc yvariable yhereI yhereWay yhereLength yinto ykLoad ypart) :
    ∀ e i, i + e = z → wY_merge_80 post J (nI s) x2 (nI m) (e + 1) (nI (24 * m + i)) ydepth ysteps yresult youtcome yload yover yop ya yb yline ylength yfrom yto yat yhandlers (ad_f (24 * (4 * s + m)) (24 * m) i ybegun ykBegun) (ad_f (96 * (4 * s + m)) (96 * m) (4 * i) ytaken ykTaken) (ad_f (24 * (4 * s + m)) (24 * m) i ythrown ykThrown) yrowI yrowWay yrowLength ytimes ytold ykOp ykA ykB ykLine ykLength ykFrom ykTo ykAt ykHandlers ykBegun ykTaken ykThrown ykept ymethod ypc yvariable yhereI yhereWay yhereLength yinto ykLoad ypart := by
  have cm : (nI m).toNatClampNeg = m := nI_clamp (by omega)
  have wm : vp_in (nI m) 5 := vp_in_nI (by omega) (by decide)
  intro e
  induction e with
  | zero =>
    intro i hi
    have q : i = z := by omega
    subst q
    rw [wY_merge_80]
    refine ⟨wm, ?_⟩
    rw [cm, hz, iy_24]
    exact br_t (nI_le (by omega) (by omega)) (nm_r (nI_1 m) h)
  | succ e ih =>
    intro i hi
    have h2 := ih (i + 1) (by omega)
    have ek : 96 * nI s + nI (24 * m + i) = nI (24 * (4 * s + m) + i) := by
      rw [iy_96]
      exact congrArg nI (by omega)
    rw [wY_merge_80]
    refine ⟨wm, ?_⟩
    rw [cm, hz, iy_24, ek]
    exact br_f (nI_ge (by omega) (by omega)) (jn_Y hs hm (by omega) (nm_r (nI_1 _) h2))
/-- the four methods -/
theorem mg_R {s L K : Nat} (hs : s < 3) (hP : (gp_R xsizes xops xargsA xargsB xlines xguards xfroms xtos xats yop ya yb yline ylength yfrom yto yat yhandlers ykOp ykA ykB ykLine ykLength ykFrom ykTo ykAt ykHandlers)) (hsl : xslotLoad s = nI K) :
    ∀ (e m c : Nat) (xB xH xT yB yH yT : Nat → Int32), m + e = 4 → ct_R 1 xsizes xB yB ykBegun → ct_R 1 xsizes xH yH ykThrown → ct_R 4 xsizes xT yT ykTaken → mb_R m L K xT → sl_R xslotUsed xslotLoad xT ykept ykLoad → kt_R s K xT →
      ∃ (r : Int32) (xB' xH' xT' yB' yH' yT' : Nat → Int32), ct_R 1 xsizes xB' yB' ykBegun ∧ ct_R 1 xsizes xH' yH' ykThrown ∧ ct_R 4 xsizes xT' yT' ykTaken ∧ mb_R 4 L K xT' ∧ sl_R xslotUsed xslotLoad xT' ykept ykLoad ∧
        (∀ post : Int32 → SX → Prop, post r (xdepth, xsignal, xcarried, xlatest, xload + nI K, xsizes, xops, xargsA, xargsB, xlines, xguards, xfroms, xtos, xats, xB', xH', xT', xslotUsed, xslotLoad, xstretchNumber, xstretchGone, xstretchRow, xstretchWays, xatWork, xplace, xvariables, xrow, xrowWays, xwayOn, xpart) → wX_merge_40 post (nI s) (e + 1) (nI c) (nI m) xdepth xsignal xcarried xlatest xload xsizes xops xargsA xargsB xlines xguards xfroms xtos xats xB xH xT xslotUsed xslotLoad xstretchNumber xstretchGone xstretchRow xstretchWays xatWork xplace xvariables xrow xrowWays xwayOn xpart) ∧
        (∀ post : Int32 → SY → Prop, post r (ydepth, ysteps, yresult, youtcome, yload, yover, yop, ya, yb, yline, ylength, yfrom, yto, yat, yhandlers, yB', yT', yH', yrowI, yrowWay, yrowLength, ytimes, ytold, ykOp, ykA, ykB, ykLine, ykLength, ykFrom, ykTo, ykAt, ykHandlers, ykBegun, ykTaken, ykThrown, ykept, ymethod, ypc, yvariable, yhereI, yhereWay, yhereLength, yinto, ykLoad, ypart) → wY_merge_54 post (nI s) (e + 1) (nI c) (nI m) ydepth ysteps yresult youtcome yload yover yop ya yb yline ylength yfrom yto yat yhandlers yB yT yH yrowI yrowWay yrowLength ytimes ytold ykOp ykA ykB ykLine ykLength ykFrom ykTo ykAt ykHandlers ykBegun ykTaken ykThrown ykept ymethod ypc yvariable yhereI yhereWay yhereLength yinto ykLoad ypart) := by
  have cs : (nI s).toNatClampNeg = s := nI_clamp (by omega)
  have ws : vp_in (nI s) 3 := vp_in_nI hs (by decide)
  obtain ⟨p1, p2, p3, p4, p5, p6, p7, p8, p9, pa, pb, pc, pd⟩ := id hP
  have hz : ∀ b, b < 16 → sz_f xsizes b ≤ 24 := fun b hb => (rg_at pa (by decide) (by omega)).2
  intro e
  induction e with
  | zero =>
    intro m c xB xH xT yB yH yT hm hB hH hT hM hU hK
    have q : m = 4 := by omega
    subst q
    refine ⟨nI c, xB, xH, xT, yB, yH, yT, hB, hH, hT, hM, hU, fun post h => ?_, fun post h => ?_⟩
    · rw [wX_merge_40]
      exact br_t (by decide) ⟨ws, nm_r (e' := xload + nI K) (by rw [cs, hsl]) h⟩
    · rw [wY_merge_54]
      exact br_t (by decide) h
  | succ e ih =>
    intro m c xB xH xT yB yH yT hm hB hH hT hM hU hK
    have hm4 : m < 4 := by omega
    obtain ⟨e1, e2, e3⟩ := gp_sz hP hm4
    obtain ⟨g1, g2, g3⟩ := gp_gd hP hm4
    have eb : (4 + nI s * 4) + nI m = nI (4 + 4 * s + m) := by
      rw [show nI s * 4 = nI (4 * s) from ix_c s 4, show (4 : Int32) + nI (4 * s) = nI (4 + 4 * s) from nI_add 4 _, nI_add]
    rcases Nat.eq_zero_or_pos (sz_f xsizes m) with y | y
    · -- no such method
      obtain ⟨r, a1, a2, a3, a4, a5, a6, k1, k2, k3, k4, k5, iX, iY⟩ := ih (m + 1) c xB xH xT yB yH yT (by omega) hB hH hT (mb_s hM) hU hK
      refine ⟨r, a1, a2, a3, a4, a5, a6, k1, k2, k3, k4, k5, fun post h => ?_, fun post h => ?_⟩
      · rw [wX_merge_40]
        refine br_f (nI_ge (b := 4) hm4 (by decide)) ?_
        unfold wpX_keptBank
        dsimp only
        exact it_f hP hm4 y (br_t rfl (nm_r (nI_1 m) (iX post h)))
      · rw [wY_merge_54]
        refine br_f (nI_ge (b := 4) hm4 (by decide)) ?_
        refine ⟨vp_in_nI (by omega) (by decide), br_t (by rw [nI_clamp (by omega), e2, y]; rfl) (br_t rfl (nm_r (nI_1 m) (iY post h)))⟩
    · -- is it as it was kept?
      have EQ : (xsizes m = xsizes (4 + 4 * s + m) ∧ xguards m = xguards (4 + 4 * s + m) ∧ (∀ q, q < sz_f xsizes m → sx_24 xops xargsA xargsB xlines m (4 + 4 * s + m) q) ∧ (∀ q, q < sz_f xguards m → sx_3 xfroms xtos xats m (4 + 4 * s + m) q)) ↔
          (ykLength (4 * s + m) = ylength m ∧ ykHandlers (4 * s + m) = yhandlers m ∧ (∀ q, q < sz_f xsizes m → sy_24 yop ya yb yline ykOp ykA ykB ykLine s m q) ∧ (∀ q, q < sz_f xguards m → sy_3 yfrom yto yat ykFrom ykTo ykAt s m q)) := by
        have r1 : ∀ {x y k : Nat → Int32}, bk_R 1 x y k → (x m = x (4 + 4 * s + m) ↔ k (4 * s + m) = y m) := by
          intro x y k hb
          have u1 := hb.1 m (by omega)
          have u2 := hb.2.2 (4 * s + m) (by omega)
          rw [show 4 * 1 + (4 * s + m) = 4 + 4 * s + m from by omega] at u2
          rw [u1, u2]
          exact eq_comm
        have r24 : ∀ {x y k : Nat → Int32}, bk_R 24 x y k → ∀ q, q < 24 → (x (24 * m + q) = x (24 * (4 + 4 * s + m) + q) ↔ k (96 * s + (24 * m + q)) = y (24 * m + q)) := by
          intro x y k hb q hq
          have u1 := hb.1 (24 * m + q) (by omega)
          have u2 := hb.2.2 (96 * s + (24 * m + q)) (by omega)
          rw [show 4 * 24 + (96 * s + (24 * m + q)) = 24 * (4 + 4 * s + m) + q from by omega] at u2
          rw [u1, u2]
          exact eq_comm
        have r3 : ∀ {x y k : Nat → Int32}, bk_R 3 x y k → ∀ q, q < 3 → (x (3 * m + q) = x (3 * (4 + 4 * s + m) + q) ↔ k (12 * s + (3 * m + q)) = y (3 * m + q)) := by
          intro x y k hb q hq
          have u1 := hb.1 (3 * m + q) (by omega)
          have u2 := hb.2.2 (12 * s + (3 * m + q)) (by omega)
          rw [show 4 * 3 + (12 * s + (3 * m + q)) = 3 * (4 + 4 * s + m) + q from by omega] at u2
          rw [u1, u2]
          exact eq_comm
        have t24 : ∀ q, q < sz_f xsizes m → (sx_24 xops xargsA xargsB xlines m (4 + 4 * s + m) q ↔ sy_24 yop ya yb yline ykOp ykA ykB ykLine s m q) := fun q hq => by
          unfold sx_24 sy_24
          rw [r24 p3 q (by omega), r24 p4 q (by omega), r24 p5 q (by omega), r24 p6 q (by omega)]
        have t3 : ∀ q, q < sz_f xguards m → (sx_3 xfroms xtos xats m (4 + 4 * s + m) q ↔ sy_3 yfrom yto yat ykFrom ykTo ykAt s m q) := fun q hq => by
          unfold sx_3 sy_3
          rw [r3 p7 q (by omega), r3 p8 q (by omega), r3 p9 q (by omega)]
        rw [r1 p1, r1 p2]
        constructor
        · intro ⟨b1, b2, b3, b4⟩
          exact ⟨b1, b2, fun q hq => (t24 q hq).mp (b3 q hq), fun q hq => (t3 q hq).mp (b4 q hq)⟩
        · intro ⟨b1, b2, b3, b4⟩
          exact ⟨b1, b2, fun q hq => (t24 q hq).mpr (b3 q hq), fun q hq => (t3 q hq).mpr (b4 q hq)⟩
      by_cases S : (xsizes m = xsizes (4 + 4 * s + m) ∧ xguards m = xguards (4 + 4 * s + m) ∧ (∀ q, q < sz_f xsizes m → sx_24 xops xargsA xargsB xlines m (4 + 4 * s + m) q) ∧ (∀ q, q < sz_f xguards m → sx_3 xfroms xtos xats m (4 + 4 * s + m) q))
      · have ez : sz_f xsizes (4 + (4 * s + m)) = sz_f xsizes m := by
          unfold sz_f
          rw [show 4 + (4 * s + m) = 4 + 4 * s + m from by omega, ← S.1]
        have n24 : 96 + 24 * (4 * s + m) = 24 * (4 + 4 * s + m) := by omega
        have n96 : 384 + 96 * (4 * s + m) = 96 * (4 + 4 * s + m) := by omega
        have hB' := ct_mrg1 hB hm4 (show 4 * s + m < 12 by omega) hz ez
        have hH' := ct_mrg1 hH hm4 (show 4 * s + m < 12 by omega) hz ez
        have hT' := ct_mrg4 hT hm4 (show 4 * s + m < 12 by omega) hz ez
        rw [n24] at hB' hH'
        rw [n96] at hT'
        have far : ∀ j, 384 ≤ j → ad_f (96 * (4 + 4 * s + m)) (96 * m) 96 xT xT j = xT j := fun j hj => ad_out (by omega)
        have hK' : kt_R s K (ad_f (96 * (4 + 4 * s + m)) (96 * m) 96 xT xT) := fun j hj => by rw [far _ (by omega)]; exact hK j hj
        obtain ⟨r, a1, a2, a3, a4, a5, a6, k1, k2, k3, k4, k5, iX, iY⟩ := ih (m + 1) (c + 1) _ _ _ _ _ _ (by omega) hB' hH' hT' (mb_a hm4 hM hK) (sl_t hU far) hK'
        refine ⟨r, a1, a2, a3, a4, a5, a6, k1, k2, k3, k4, k5, fun post h => ?_, fun post h => ?_⟩
        · have h3 := iX post h
          rw [wX_merge_40]
          refine br_f (nI_ge (b := 4) hm4 (by decide)) ?_
          unfold wpX_keptBank
          dsimp only
          rw [eb]
          refine it_t hP hm4 y (br_f (by decide) (sx_R (by omega) (by omega) e1 e3 g1 g3 (fun _ => br_f (by decide) ?_) (fun w => absurd S w)))
          exact ac_X (by omega) (by omega) (by omega) (nm_r (nI_1 c) (nm_r (nI_1 m) h3))
        · have h3 := iY post h
          have H := mj_Y (ydepth := ydepth) (ysteps := ysteps) (yresult := yresult) (youtcome := youtcome) (yload := yload) (yover := yover) (yop := yop) (ya := ya) (yb := yb) (yline := yline) (ylength := ylength) (yfrom := yfrom) (yto := yto) (yat := yat) (yhandlers := yhandlers) (ybegun := yB) (ytaken := yT) (ythrown := yH) (yrowI := yrowI) (yrowWay := yrowWay) (yrowLength := yrowLength) (ytimes := ytimes) (ytold := ytold) (ykOp := ykOp) (ykA := ykA) (ykB := ykB) (ykLine := ykLine) (ykLength := ykLength) (ykFrom := ykFrom) (ykTo := ykTo) (ykAt := ykAt) (ykHandlers := ykHandlers) (ykBegun := ykBegun) (ykTaken := ykTaken) (ykThrown := ykThrown) (ykept := ykept) (ymethod := ymethod) (ypc := ypc) (yvariable := yvariable) (yhereI := yhereI) (yhereWay := yhereWay) (yhereLength := yhereLength) (yinto := yinto) (ykLoad := ykLoad) (ypart := ypart) (post := post) (J := wY_merge_54 post (nI s) (e + 1)) (x2 := nI (c + 1)) hs hm4 e2 e3 h3 (sz_f xsizes m) 0 (by omega)
          rw [Nat.mul_zero, ad_0, ad_0, ad_0] at H
          rw [wY_merge_54]
          refine br_f (nI_ge (b := 4) hm4 (by decide)) (sy_R hs hm4 e2 y e3 g2 g3 (fun _ => br_f (by decide) ?_) (fun w => absurd (EQ.mp S) w))
          exact nm_r (nI_1 c) (nm_r (e' := nI (24 * m)) (pk_mul 24 m) ⟨_, H⟩)
      · obtain ⟨r, a1, a2, a3, a4, a5, a6, k1, k2, k3, k4, k5, iX, iY⟩ := ih (m + 1) c xB xH xT yB yH yT (by omega) hB hH hT (mb_s hM) hU hK
        refine ⟨r, a1, a2, a3, a4, a5, a6, k1, k2, k3, k4, k5, fun post h => ?_, fun post h => ?_⟩
        · have h3 := iX post h
          rw [wX_merge_40]
          refine br_f (nI_ge (b := 4) hm4 (by decide)) ?_
          unfold wpX_keptBank
          dsimp only
          rw [eb]
          exact it_t hP hm4 y (br_f (by decide) (sx_R (by omega) (by omega) e1 e3 g1 g3 (fun w => absurd w S) (fun _ => br_t rfl (nm_r (nI_1 m) h3))))
        · have h3 := iY post h
          rw [wY_merge_54]
          exact br_f (nI_ge (b := 4) hm4 (by decide)) (sy_R hs hm4 e2 y e3 g2 g3 (fun w => absurd (EQ.mpr w) S) (fun _ => br_t rfl (nm_r (nI_1 m) h3)))
end
theorem i_vc_merge {k : Nat} {u : SX} {v : SY} (I : i_Rel k u v) (hk : k + 5 ≤ 2560) (v1 : Int32) : wpX_merge (fun r u' => wpY_merge (fun r' v' => r' = r ∧ i_Rel (k + 5) u' v') v v1) u v1 := by
  obtain ⟨xdepth, xsignal, xcarried, xlatest, xload, xsizes, xops, xargsA, xargsB, xlines, xguards, xfroms, xtos, xats, xbegunCounts, xthrownCounts, xtakenCounts, xslotUsed, xslotLoad, xstretchNumber, xstretchGone, xstretchRow, xstretchWays, xatWork, xplace, xvariables, xrow, xrowWays, xwayOn, xpart⟩ := u
  obtain ⟨ydepth, ysteps, yresult, youtcome, yload, yover, yop, ya, yb, yline, ylength, yfrom, yto, yat, yhandlers, ybegun, ytaken, ythrown, yrowI, yrowWay, yrowLength, ytimes, ytold, ykOp, ykA, ykB, ykLine, ykLength, ykFrom, ykTo, ykAt, ykHandlers, ykBegun, ykTaken, ykThrown, ykept, ymethod, ypc, yvariable, yhereI, yhereWay, yhereLength, yinto, ykLoad, ypart⟩ := v
  have J := I
  obtain ⟨L, h1, h2, h3, h4, hP, hC, hS, hT⟩ := I
  unfold wpX_merge wpY_merge
  rcases pk_ix v1 (n := 3) (by decide) with z | z | ⟨s, hs, rfl⟩
  · exact xi_f (n := 3) (Or.inl z) (br_t rfl (wi_f (n := 3) (Or.inl z) (br_t rfl ⟨rfl, J⟩)))
  · exact xi_f (n := 3) (Or.inr z) (br_t rfl (wi_f (n := 3) (Or.inr z) (br_t rfl ⟨rfl, J⟩)))
  · obtain ⟨g1, g2, K, g3, g4, g5, g6⟩ := hC.2.2.2 s hs
    have cs : (nI s).toNatClampNeg = s := nI_clamp (by omega)
    have ws : vp_in (nI s) 3 := vp_in_nI hs (by decide)
    refine xi_t (n := 3) hs (by decide) (br_f (by decide) ⟨ws, ?_⟩)
    rw [cs]
    by_cases a1 : xslotUsed s = 0
    · have a1y : ykept s = 0 := by rw [← g1]; exact a1
      exact br_t a1 (wi_t (n := 3) hs (by decide) (br_f (by decide) ⟨ws, br_t a1y ⟨rfl, J⟩⟩))
    · have a1y : ¬ ykept s = 0 := by rw [← g1]; exact a1
      by_cases a2 : K + L ≤ 1000000000
      · have x2 : xslotLoad s ≤ 1000000000 - xload := by rw [g4, h2, ml_le g3 h1]; exact a2
        have y2 : yload ≤ 1000000000 - ykLoad s := by rw [g5, h3, ml_le h1 g3]; omega
        obtain ⟨r, xB', xH', xT', yB', yH', yT', k1, k2, k3, k4, k5, iX, iY⟩ := mg_R (xdepth := xdepth) (xsignal := xsignal) (xcarried := xcarried) (xlatest := xlatest) (xload := xload) (xsizes := xsizes) (xops := xops) (xargsA := xargsA) (xargsB := xargsB) (xlines := xlines) (xguards := xguards) (xfroms := xfroms) (xtos := xtos) (xats := xats) (xslotUsed := xslotUsed) (xslotLoad := xslotLoad) (xstretchNumber := xstretchNumber) (xstretchGone := xstretchGone) (xstretchRow := xstretchRow) (xstretchWays := xstretchWays) (xatWork := xatWork) (xplace := xplace) (xvariables := xvariables) (xrow := xrow) (xrowWays := xrowWays) (xwayOn := xwayOn) (xpart := xpart) (ydepth := ydepth) (ysteps := ysteps) (yresult := yresult) (youtcome := youtcome) (yload := (yload + ykLoad s)) (yover := yover) (yop := yop) (ya := ya) (yb := yb) (yline := yline) (ylength := ylength) (yfrom := yfrom) (yto := yto) (yat := yat) (yhandlers := yhandlers) (yrowI := yrowI) (yrowWay := yrowWay) (yrowLength := yrowLength) (ytimes := ytimes) (ytold := ytold) (ykOp := ykOp) (ykA := ykA) (ykB := ykB) (ykLine := ykLine) (ykLength := ykLength) (ykFrom := ykFrom) (ykTo := ykTo) (ykAt := ykAt) (ykHandlers := ykHandlers) (ykBegun := ykBegun) (ykTaken := ykTaken) (ykThrown := ykThrown) (ykept := ykept) (ymethod := ymethod) (ypc := ypc) (yvariable := yvariable) (yhereI := yhereI) (yhereWay := yhereWay) (yhereLength := yhereLength) (yinto := yinto) (ykLoad := ykLoad) (ypart := ypart) hs hP g4 4 0 0 _ _ _ _ _ _ rfl hC.1 hC.2.1 hC.2.2.1 (mb_0 (K := K) hT) hC.2.2.2 g6
        refine br_f a1 ⟨ws, br_t x2 ⟨_, iX _ ?_⟩⟩
        refine wi_t (n := 3) hs (by decide) (br_f (by decide) ⟨ws, br_f a1y ⟨ws, br_t y2 ⟨ws, nm_e ⟨_, iY _ ⟨rfl, ?_⟩⟩⟩⟩⟩)
        exact ⟨L + K, by omega, by rw [h2, nI_add], by rw [h3, g5, nI_add], h4, hP, ⟨k1, k2, k3, k5⟩, hS, mb_4 k4⟩
      · have x2 : ¬ xslotLoad s ≤ 1000000000 - xload := by rw [g4, h2, ml_le g3 h1]; exact a2
        have y2 : ¬ yload ≤ 1000000000 - ykLoad s := by rw [g5, h3, ml_le h1 g3]; omega
        exact br_f a1 ⟨ws, br_f x2 (wi_t (n := 3) hs (by decide) (br_f (by decide) ⟨ws, br_f a1y ⟨ws, br_f y2 ⟨rfl, J⟩⟩⟩))⟩
