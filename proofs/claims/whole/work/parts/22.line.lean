/-! part 22: line -/
def bt_P (op : Int32) (tk : Nat → Int32) (s : Nat) : Prop := wy_f op ≤ 1 ∨ ∀ j, j < wy_f op → ¬ tk (4 * s + j) = 0
theorem wy_mid {op : Int32} (h : ¬ wy_f op ≤ 1) : ¬ op ≤ 4 ∧ ¬ 8 ≤ op := by
  unfold wy_f at h
  by_cases z : op = 10
  · rw [if_pos z] at h; omega
  rw [if_neg z] at h
  by_cases z : op = 5
  · subst z; decide
  rw [if_neg z] at h
  by_cases z : op = 6
  · subst z; decide
  rw [if_neg z] at h
  by_cases z : op = 7
  · subst z; decide
  rw [if_neg z] at h
  omega
theorem wy_out {op : Int32} (h : wy_f op = 1) : op ≤ 4 ∨ 8 ≤ op := by
  rcases pk_ix op (n := 8) (by decide) with z | z | ⟨k, hk, rfl⟩
  · exact Or.inl (Int32.le_of_lt (Int32.lt_trans z (by decide)))
  · exact Or.inr z
  · have hk' : k = 0 ∨ k = 1 ∨ k = 2 ∨ k = 3 ∨ k = 4 ∨ k = 5 ∨ k = 6 ∨ k = 7 := by omega
    rcases hk' with rfl | rfl | rfl | rfl | rfl | rfl | rfl | rfl
    · exact Or.inl (by decide)
    · exact Or.inl (by decide)
    · exact Or.inl (by decide)
    · exact Or.inl (by decide)
    · exact Or.inl (by decide)
    · exact absurd h (by decide)
    · exact absurd h (by decide)
    · exact absurd h (by decide)
section
variable {xdepth xsignal xcarried xlatest xload : Int32} {xsizes xops xargsA xargsB xlines xguards xfroms xtos xats xbegunCounts xthrownCounts xtakenCounts xslotUsed xslotLoad xstretchNumber xstretchGone xstretchRow xatWork xplace xvariables xrow xpart : Nat → Int32} {xstretchWays xrowWays xwayOn : Nat → Int64}
variable {ydepth ysteps yresult youtcome yload yover : Int32} {yop ya yb yline ylength yfrom yto yat yhandlers ybegun ytaken ythrown yrowI yrowWay yrowLength ytimes ytold ykOp ykA ykB ykLine ykLength ykFrom ykTo ykAt ykHandlers ykBegun ykTaken ykThrown ykept ymethod ypc yvariable yhereI yhereWay yhereLength yinto ykLoad ypart : Nat → Int32}
theorem bx_0 {post : Int32 → Prop} {s W : Nat} (hW : 1 < W) (hW4 : W ≤ 4) (hp : post 0) : ∀ e k, k + e = W → wX_branchesTaken_11 post (nI s) (nI W) xdepth xsignal xcarried xlatest xload xsizes xops xargsA xargsB xlines xguards xfroms xtos xats xbegunCounts xthrownCounts xtakenCounts xslotUsed xslotLoad xstretchNumber xstretchGone xstretchRow xstretchWays xatWork xplace xvariables xrow xrowWays xwayOn xpart (e + 1) 0 (nI k) := by
  have w1 : ¬ nI W ≤ 1 := nI_ge (a := 1) hW (by omega)
  intro e
  induction e with
  | zero =>
    intro k hk
    rw [wX_branchesTaken_11]
    exact br_f w1 (br_t (nI_le (by omega) (by omega)) ⟨rfl, hp⟩)
  | succ e ih =>
    intro k hk
    have h := ih (k + 1) (by omega)
    rw [wX_branchesTaken_11]
    exact br_f w1 (br_f (nI_ge (by omega) (by omega)) (br_t rfl (nm_r (nI_1 k) h)))
theorem bx_1 {post : Int32 → Prop} {s W : Nat} (hs : s < 96) (hW : 1 < W) (hW4 : W ≤ 4) (ht : ∀ j, j < 384 → ∃ t, xtakenCounts j = nI t ∧ t < 2 ^ 31) : ∀ e k, k + e = W → ((∀ j, k ≤ j → j < W → ¬ xtakenCounts (4 * s + j) = 0) → post 1) → (¬ (∀ j, k ≤ j → j < W → ¬ xtakenCounts (4 * s + j) = 0) → post 0) → wX_branchesTaken_11 post (nI s) (nI W) xdepth xsignal xcarried xlatest xload xsizes xops xargsA xargsB xlines xguards xfroms xtos xats xbegunCounts xthrownCounts xtakenCounts xslotUsed xslotLoad xstretchNumber xstretchGone xstretchRow xstretchWays xatWork xplace xvariables xrow xrowWays xwayOn xpart (e + 1) 1 (nI k) := by
  have w1 : ¬ nI W ≤ 1 := nI_ge (a := 1) hW (by omega)
  intro e
  induction e with
  | zero =>
    intro k hk h1 h0
    rw [wX_branchesTaken_11]
    exact br_f w1 (br_t (nI_le (by omega) (by omega)) ⟨rfl, h1 (fun j a b => absurd b (by omega))⟩)
  | succ e ih =>
    intro k hk h1 h0
    rw [wX_branchesTaken_11]
    refine br_f w1 (br_f (nI_ge (by omega) (by omega)) (br_f (by decide) ⟨ix_in (ix_4 s k) (by omega) (by decide), ?_⟩))
    rw [ix_cl (ix_4 s k) (by omega)]
    obtain ⟨t, et, ht'⟩ := ht (4 * s + k) (by omega)
    rcases Nat.eq_zero_or_pos t with z | z
    · have e0 : xtakenCounts (4 * s + k) = 0 := by rw [et, z]; rfl
      refine br_t (by rw [e0]; decide) (nm_r (nI_1 k) (bx_0 hW hW4 (h0 (fun y => y k (by omega) (by omega) e0)) e (k + 1) (by omega)))
    · have e0 : ¬ xtakenCounts (4 * s + k) ≤ 0 := by rw [et]; exact nI_nle z ht'
      have e1 : ¬ xtakenCounts (4 * s + k) = 0 := by rw [et]; exact nI_ne0 z ht'
      refine br_f e0 (nm_r (nI_1 k) (ih (k + 1) (by omega) (fun y => h1 (fun j a b => ?_)) (fun y => h0 (fun q => y (fun j a b => q j (by omega) b)))))
      rcases Nat.lt_or_ge k j with w | w
      · exact y j w b
      · have ej : j = k := by omega
        rw [ej]; exact e1
theorem bx_R {post : Int32 → Prop} {s : Nat} (hs : s < 96) (ht : ∀ j, j < 384 → ∃ t, xtakenCounts j = nI t ∧ t < 2 ^ 31) (h1 : bt_P (xops s) xtakenCounts s → post 1) (h0 : ¬ bt_P (xops s) xtakenCounts s → post 0) : wpX_branchesTaken post (xdepth, xsignal, xcarried, xlatest, xload, xsizes, xops, xargsA, xargsB, xlines, xguards, xfroms, xtos, xats, xbegunCounts, xthrownCounts, xtakenCounts, xslotUsed, xslotLoad, xstretchNumber, xstretchGone, xstretchRow, xstretchWays, xatWork, xplace, xvariables, xrow, xrowWays, xwayOn, xpart) (nI s) := by
  have w4 := wy_4 (xops s)
  unfold wpX_branchesTaken
  refine wy_X (by omega) ?_
  by_cases z : wy_f (xops s) ≤ 1
  · refine ⟨0 + 1, ?_⟩
    rw [wX_branchesTaken_11]
    exact br_t (nI_le (b := 1) z (by decide)) ⟨rfl, h1 (Or.inl z)⟩
  · refine ⟨wy_f (xops s) + 1, bx_1 hs (by omega) w4 ht _ 0 (by omega) (fun y => h1 (Or.inr (fun j hj => y j (by omega) hj))) (fun y => h0 (fun q => y (fun j _ hj => ?_)))⟩
    rcases q with q | q
    · exact absurd q z
    · exact q j hj
theorem by_R {post : Int32 → Prop} {J : _} {x1 x2 x3 x4 x5 : Int32} {s : Nat} (hs : s < 96) (h1 : bt_P (yop s) ytaken s → J x3 x4 x5 (nI (s + 1))) (h0 : ¬ bt_P (yop s) ytaken s → J x3 x4 0 (nI (s + 1))) :
    ∃ N, wY_line_82 post J x1 x2 x3 x4 (nI s) ydepth ysteps yresult youtcome yload yover yop ya yb yline ylength yfrom yto yat yhandlers ybegun ytaken ythrown yrowI yrowWay yrowLength ytimes ytold ykOp ykA ykB ykLine ykLength ykFrom ykTo ykAt ykHandlers ykBegun ykTaken ykThrown ykept ymethod ypc yvariable yhereI yhereWay yhereLength yinto ykLoad ypart N x5 0 := by
  have w4 := wy_4 (yop s)
  have cs : (nI s).toNatClampNeg = s := nI_clamp (by omega)
  have w : vp_in (nI s) 120 := vp_in_nI (by omega) (by decide)
  by_cases z : wy_f (yop s) ≤ 1
  · refine ⟨0 + 1, ?_⟩
    rw [wY_line_82]
    refine ⟨w, ?_⟩
    rw [cs]
    refine wy_Y ?_
    rcases Nat.eq_zero_or_pos (wy_f (yop s)) with y | y
    · rw [y]
      exact br_t (by decide) (nm_r (nI_1 s) (h1 (Or.inl z)))
    · have y1 : wy_f (yop s) = 1 := by omega
      rw [y1]
      refine br_f (by decide) ⟨w, ?_⟩
      by_cases q : yop s ≤ 4
      · exact br_t q (nm_r (nI_1 s) (h1 (Or.inl z)))
      · refine br_f q ⟨w, br_t ?_ (nm_r (nI_1 s) (h1 (Or.inl z)))⟩
        rcases wy_out y1 with p | p
        · exact absurd p q
        · exact p
  · obtain ⟨m1, m2⟩ := wy_mid z
    have H : ∀ e k (y5 : Int32), k + e = wy_f (yop s) → ((∀ j, k ≤ j → j < wy_f (yop s) → ¬ ytaken (4 * s + j) = 0) → J x3 x4 y5 (nI (s + 1))) → (¬ (∀ j, k ≤ j → j < wy_f (yop s) → ¬ ytaken (4 * s + j) = 0) → J x3 x4 0 (nI (s + 1))) → wY_line_82 post J x1 x2 x3 x4 (nI s) ydepth ysteps yresult youtcome yload yover yop ya yb yline ylength yfrom yto yat yhandlers ybegun ytaken ythrown yrowI yrowWay yrowLength ytimes ytold ykOp ykA ykB ykLine ykLength ykFrom ykTo ykAt ykHandlers ykBegun ykTaken ykThrown ykept ymethod ypc yvariable yhereI yhereWay yhereLength yinto ykLoad ypart (e + 1) y5 (nI k) := by
      intro e
      induction e with
      | zero =>
        intro k y5 hk g1 g0
        rw [wY_line_82]
        refine ⟨w, ?_⟩
        rw [cs]
        exact wy_Y (br_t (nI_le (by omega) (by omega)) (nm_r (nI_1 s) (g1 (fun j a b => absurd b (by omega)))))
      | succ e ih =>
        intro k y5 hk g1 g0
        rw [wY_line_82]
        refine ⟨w, ?_⟩
        rw [cs]
        refine wy_Y (br_f (nI_ge (by omega) (by omega)) ⟨w, br_f m1 ⟨w, br_f m2 ⟨ix_in (iy_4 s k) (by omega) (by decide), ?_⟩⟩⟩)
        rw [ix_cl (iy_4 s k) (by omega)]
        by_cases e0 : ytaken (4 * s + k) = 0
        · have K : J x3 x4 0 (nI (s + 1)) := g0 (fun y => y k (by omega) (by omega) e0)
          exact br_t e0 (nm_r (nI_1 k) (ih (k + 1) 0 (by omega) (fun _ => K) (fun _ => K)))
        · refine br_f e0 (nm_r (nI_1 k) (ih (k + 1) y5 (by omega) (fun y => g1 (fun j a b => ?_)) (fun y => g0 (fun q => y (fun j a b => q j (by omega) b)))))
          rcases Nat.lt_or_ge k j with v | v
          · exact y j v b
          · have ej : j = k := by omega
            rw [ej]; exact e0
    refine ⟨_, H _ 0 x5 (Nat.zero_add _) (fun y => h1 (Or.inr (fun j hj => y j (by omega) hj))) (fun y => h0 (fun q => y (fun j _ hj => ?_)))⟩
    rcases q with q | q
    · exact absurd q z
    · exact q j hj
theorem ln_R {m n L : Nat} {l : Int32} (hP : (gp_R xsizes xops xargsA xargsB xlines xguards xfroms xtos xats yop ya yb yline ylength yfrom yto yat yhandlers ykOp ykA ykB ykLine ykLength ykFrom ykTo ykAt ykHandlers)) (hC : (gc_R xsizes xbegunCounts xthrownCounts xtakenCounts xslotUsed xslotLoad ybegun ythrown ytaken ykBegun ykThrown ykTaken ykept ykLoad)) (hT : (tb_R 0 L xtakenCounts)) (hL : L ≤ 1000000200) (hm : m < 4) (hn : n = sz_f xsizes m) :
    ∀ (e i t g : Nat) (w : Int32), i + e = n → g ≤ t → t ≤ i → (w = 0 ∨ w = 1) →
      ∃ r : Int32, (∀ post : Int32 → Prop, post r → wX_line_31 post (nI m) l xdepth xsignal xcarried xlatest xload xsizes xops xargsA xargsB xlines xguards xfroms xtos xats xbegunCounts xthrownCounts xtakenCounts xslotUsed xslotLoad xstretchNumber xstretchGone xstretchRow xstretchWays xatWork xplace xvariables xrow xrowWays xwayOn xpart (e + 1) (nI t) (nI g) w (nI i)) ∧ (∀ post : Int32 → Prop, post r → wY_line_33 post (nI m) l ydepth ysteps yresult youtcome yload yover yop ya yb yline ylength yfrom yto yat yhandlers ybegun ytaken ythrown yrowI yrowWay yrowLength ytimes ytold ykOp ykA ykB ykLine ykLength ykFrom ykTo ykAt ykHandlers ykBegun ykTaken ykThrown ykept ymethod ypc yvariable yhereI yhereWay yhereLength yinto ykLoad ypart (e + 1) (nI g) (nI t) w (nI (24 * m + i))) := by
  obtain ⟨e1, e2, e3⟩ := gp_sz hP hm
  have cm : (nI m).toNatClampNeg = m := nI_clamp (by omega)
  have wm : vp_in (nI m) 17 := vp_in_nI (by omega) (by decide)
  have wm5 : vp_in (nI m) 5 := vp_in_nI (by omega) (by decide)
  have ht : ∀ j, j < 384 → ∃ t, xtakenCounts j = nI t ∧ t < 2 ^ 31 := fun j hj => by
    obtain ⟨t, a, b⟩ := hT j hj
    exact ⟨t, a, by omega⟩
  intro e
  induction e with
  | zero =>
    intro i t g w hi hg htt hw
    have X0 : ∀ post : Int32 → Prop, ((nI t = 0 → (post 0)) ∧ (¬ nI t = 0 → (((nI g = 0 → (post 1)) ∧ (¬ nI g = 0 → (((nI g = nI t → (((w = 0 → (post 2)) ∧ (¬ w = 0 → (post 3))))) ∧ (¬ nI g = nI t → (post 2))))))))) → wX_line_31 post (nI m) l xdepth xsignal xcarried xlatest xload xsizes xops xargsA xargsB xlines xguards xfroms xtos xats xbegunCounts xthrownCounts xtakenCounts xslotUsed xslotLoad xstretchNumber xstretchGone xstretchRow xstretchWays xatWork xplace xvariables xrow xrowWays xwayOn xpart (0 + 1) (nI t) (nI g) w (nI i) := by
      intro post h
      rw [wX_line_31]
      refine ⟨wm, ?_⟩
      rw [cm, e1]
      exact br_t (nI_le (by omega) (by omega)) h
    have Y0 : ∀ post : Int32 → Prop, ((nI t = 0 → (post 0)) ∧ (¬ nI t = 0 → (((nI g = 0 → (post 1)) ∧ (¬ nI g = 0 → (((nI g < nI t → (post 2)) ∧ (¬ nI g < nI t → (((w = 0 → (post 2)) ∧ (¬ w = 0 → (post 3)))))))))))) → wY_line_33 post (nI m) l ydepth ysteps yresult youtcome yload yover yop ya yb yline ylength yfrom yto yat yhandlers ybegun ytaken ythrown yrowI yrowWay yrowLength ytimes ytold ykOp ykA ykB ykLine ykLength ykFrom ykTo ykAt ykHandlers ykBegun ykTaken ykThrown ykept ymethod ypc yvariable yhereI yhereWay yhereLength yinto ykLoad ypart (0 + 1) (nI g) (nI t) w (nI (24 * m + i)) := by
      intro post h
      rw [wY_line_33]
      refine ⟨wm5, ?_⟩
      rw [cm, e2, iy_24]
      exact br_t (nI_le (by omega) (by omega)) h
    rcases Nat.eq_zero_or_pos t with z | z
    · subst z
      exact ⟨0, fun post h => X0 post (br_t rfl h), fun post h => Y0 post (br_t rfl h)⟩
    · have t0 : ¬ nI t = 0 := nI_ne0 z (by omega)
      rcases Nat.eq_zero_or_pos g with y | y
      · subst y
        exact ⟨1, fun post h => X0 post (br_f t0 (br_t rfl h)), fun post h => Y0 post (br_f t0 (br_t rfl h))⟩
      · have g0 : ¬ nI g = 0 := nI_ne0 y (by omega)
        rcases Nat.lt_or_ge g t with q | q
        · have gt : ¬ nI g = nI t := fun p => by
            have := (nI_eq (by omega) (by omega)).mp p
            omega
          exact ⟨2, fun post h => X0 post (br_f t0 (br_f g0 (br_f gt h))), fun post h => Y0 post (br_f t0 (br_f g0 (br_t (nI_lt q (by omega)) h)))⟩
        · have gt : nI g = nI t := by rw [show g = t from by omega]
          have nl : ¬ nI g < nI t := nI_nlt q (by omega)
          by_cases p : w = 0
          · exact ⟨2, fun post h => X0 post (br_f t0 (br_f g0 (br_t gt (br_t p h)))), fun post h => Y0 post (br_f t0 (br_f g0 (br_f nl (br_t p h))))⟩
          · exact ⟨3, fun post h => X0 post (br_f t0 (br_f g0 (br_t gt (br_f p h)))), fun post h => Y0 post (br_f t0 (br_f g0 (br_f nl (br_f p h))))⟩
  | succ e ih =>
    intro i t g w hi hg htt hw
    have hin : i < sz_f xsizes m := by omega
    have h24 : i < 24 := by omega
    have cs : (nI (24 * m + i)).toNatClampNeg = 24 * m + i := nI_clamp (by omega)
    have ws : vp_in (nI (24 * m + i)) 408 := vp_in_nI (by omega) (by decide)
    have w120 : vp_in (nI (24 * m + i)) 120 := vp_in_nI (by omega) (by decide)
    have w96 : vp_in (nI (24 * m + i)) 96 := vp_in_nI (by omega) (by decide)
    have el := gp_ln hP hm h24
    have eb := ct_at1 hC.1 hm hin
    have eo := gp_op hP hm h24
    have EP : bt_P (xops (24 * m + i)) xtakenCounts (24 * m + i) ↔ bt_P (yop (24 * m + i)) ytaken (24 * m + i) := by
      unfold bt_P
      rw [← eo]
      constructor
      · rintro (q | q)
        · exact Or.inl q
        · exact Or.inr (fun j hj => by rw [← ct_at4 hC.2.2.1 hm hin (by have := wy_4 (xops (24 * m + i)); omega)]; exact q j hj)
      · rintro (q | q)
        · exact Or.inl q
        · exact Or.inr (fun j hj => by rw [ct_at4 hC.2.2.1 hm hin (by have := wy_4 (xops (24 * m + i)); omega)]; exact q j hj)
    by_cases zl : xlines (24 * m + i) = l
    · -- an instruction of this line
      have zly : yline (24 * m + i) = l := by rw [← el]; exact zl
      -- what the flags become
      obtain ⟨w', hw', fX, fY⟩ : ∃ w' : Int32, (w' = 0 ∨ w' = 1) ∧
          (∀ (post : Int32 → Prop) (J : _) (x1 x2 x3 z0 z1 : Int32), (∀ x4 : Int32, x4 = z1 + z0 → J x3 x4 w' (nI (i + 1))) → wX_line_82 post J x1 x2 x3 w (nI i) (nI (24 * m + i)) z0 z1 xdepth xsignal xcarried xlatest xload xsizes xops xargsA xargsB xlines xguards xfroms xtos xats xbegunCounts xthrownCounts xtakenCounts xslotUsed xslotLoad xstretchNumber xstretchGone xstretchRow xstretchWays xatWork xplace xvariables xrow xrowWays xwayOn xpart) ∧
          (∀ (post : Int32 → Prop) (J : _) (x1 x2 x3 x4 : Int32), J x3 x4 w' (nI (24 * m + i + 1)) → ∃ N, wY_line_82 post J x1 x2 x3 x4 (nI (24 * m + i)) ydepth ysteps yresult youtcome yload yover yop ya yb yline ylength yfrom yto yat yhandlers ybegun ytaken ythrown yrowI yrowWay yrowLength ytimes ytold ykOp ykA ykB ykLine ykLength ykFrom ykTo ykAt ykHandlers ykBegun ykTaken ykThrown ykept ymethod ypc yvariable yhereI yhereWay yhereLength yinto ykLoad ypart N w 0) := by
        by_cases p : bt_P (xops (24 * m + i)) xtakenCounts (24 * m + i)
        · refine ⟨w, hw, fun post J x1 x2 x3 z0 z1 h => ?_, fun post J x1 x2 x3 x4 h => by_R (by omega) (fun _ => h) (fun q => absurd (EP.mp p) q)⟩
          intro x4 e4
          have h' := h x4 e4
          rcases hw with rfl | rfl
          · exact br_t rfl (nm_r (nI_1 i) h')
          · exact br_f (by decide) (bx_R (by omega) ht (fun _ => br_f (by decide) (nm_r (nI_1 i) h')) (fun q => absurd p q))
        · refine ⟨0, Or.inl rfl, fun post J x1 x2 x3 z0 z1 h => ?_, fun post J x1 x2 x3 x4 h => by_R (by omega) (fun q => absurd (EP.mpr q) p) (fun _ => h)⟩
          intro x4 e4
          have h' := h x4 e4
          rcases hw with rfl | rfl
          · exact br_t rfl (nm_r (nI_1 i) h')
          · exact br_f (by decide) (bx_R (by omega) ht (fun q => absurd q p) (fun _ => br_t rfl (nm_r (nI_1 i) h')))
      by_cases zb : xbegunCounts (24 * m + i) ≤ 0
      · obtain ⟨r, iX, iY⟩ := ih (i + 1) (t + 1) g w' (by omega) (by omega) (by omega) hw'
        refine ⟨r, fun post h => ?_, fun post h => ?_⟩
        · rw [wX_line_31]
          refine ⟨wm, ?_⟩
          rw [cm, e1]
          refine br_f (nI_ge (by omega) (by omega)) (nm_r (ix_24 m i) ⟨ws, ?_⟩)
          rw [cs]
          refine br_t zl (nm_r (nI_1 t) ⟨ws, br_t zb (fX post _ _ _ _ _ _ (fun x4 e4 => ?_))⟩)
          rw [e4, show nI g + 0 = nI g from Int32.add_zero _]
          exact iX post h
        · rw [wY_line_33]
          refine ⟨wm5, ?_⟩
          rw [cm, e2, iy_24, cs]
          refine br_f (nI_ge (by omega) (by omega)) ⟨w120, br_t zly (nm_r (nI_1 t) ⟨w96, br_t (by rw [← eb]; exact zb) (fY post _ _ _ _ _ (iY post h))⟩)⟩
      · obtain ⟨r, iX, iY⟩ := ih (i + 1) (t + 1) (g + 1) w' (by omega) (by omega) (by omega) hw'
        refine ⟨r, fun post h => ?_, fun post h => ?_⟩
        · rw [wX_line_31]
          refine ⟨wm, ?_⟩
          rw [cm, e1]
          refine br_f (nI_ge (by omega) (by omega)) (nm_r (ix_24 m i) ⟨ws, ?_⟩)
          rw [cs]
          refine br_t zl (nm_r (nI_1 t) ⟨ws, br_f zb (fX post _ _ _ _ _ _ (fun x4 e4 => ?_))⟩)
          rw [e4, nI_1]
          exact iX post h
        · rw [wY_line_33]
          refine ⟨wm5, ?_⟩
          rw [cm, e2, iy_24, cs]
          refine br_f (nI_ge (by omega) (by omega)) ⟨w120, br_t zly (nm_r (nI_1 t) ⟨w96, br_f (by rw [← eb]; exact zb) (nm_r (nI_1 g) (fY post _ _ _ _ _ (iY post h)))⟩)⟩
    · have zly : ¬ yline (24 * m + i) = l := by rw [← el]; exact zl
      obtain ⟨r, iX, iY⟩ := ih (i + 1) t g w (by omega) hg (by omega) hw
      refine ⟨r, fun post h => ?_, fun post h => ?_⟩
      · rw [wX_line_31]
        refine ⟨wm, ?_⟩
        rw [cm, e1]
        refine br_f (nI_ge (by omega) (by omega)) (nm_r (ix_24 m i) ⟨ws, ?_⟩)
        rw [cs]
        exact br_f zl (nm_r (nI_1 i) (iX post h))
      · rw [wY_line_33]
        refine ⟨wm5, ?_⟩
        rw [cm, e2, iy_24, cs]
        exact br_f (nI_ge (by omega) (by omega)) ⟨w120, br_f zly (nm_r (nI_1 _) (iY post h))⟩
end
theorem i_vc_line {k : Nat} {u : SX} {v : SY} (I : i_Rel k u v) (hk : k + 5 ≤ 2560) (v1 : Int32) (v2 : Int32) : wpX_line (fun r => wpY_line (fun r' => r' = r ∧ i_Rel (k + 5) u v) v v1 v2) u v1 v2 := by
  obtain ⟨xdepth, xsignal, xcarried, xlatest, xload, xsizes, xops, xargsA, xargsB, xlines, xguards, xfroms, xtos, xats, xbegunCounts, xthrownCounts, xtakenCounts, xslotUsed, xslotLoad, xstretchNumber, xstretchGone, xstretchRow, xstretchWays, xatWork, xplace, xvariables, xrow, xrowWays, xwayOn, xpart⟩ := u
  obtain ⟨ydepth, ysteps, yresult, youtcome, yload, yover, yop, ya, yb, yline, ylength, yfrom, yto, yat, yhandlers, ybegun, ytaken, ythrown, yrowI, yrowWay, yrowLength, ytimes, ytold, ykOp, ykA, ykB, ykLine, ykLength, ykFrom, ykTo, ykAt, ykHandlers, ykBegun, ykTaken, ykThrown, ykept, ymethod, ypc, yvariable, yhereI, yhereWay, yhereLength, yinto, ykLoad, ypart⟩ := v
  have J := I
  obtain ⟨L, h1, h2, h3, h4, hP, hC, hS, hT⟩ := I
  unfold wpX_line wpY_line
  rcases th_c (xdepth := xdepth) (xsignal := xsignal) (xcarried := xcarried) (xlatest := xlatest) (xload := xload) (xsizes := xsizes) (xops := xops) (xargsA := xargsA) (xargsB := xargsB) (xlines := xlines) (xguards := xguards) (xfroms := xfroms) (xtos := xtos) (xats := xats) (xbegunCounts := xbegunCounts) (xthrownCounts := xthrownCounts) (xtakenCounts := xtakenCounts) (xslotUsed := xslotUsed) (xslotLoad := xslotLoad) (xstretchNumber := xstretchNumber) (xstretchGone := xstretchGone) (xstretchRow := xstretchRow) (xstretchWays := xstretchWays) (xatWork := xatWork) (xplace := xplace) (xvariables := xvariables) (xrow := xrow) (xrowWays := xrowWays) (xwayOn := xwayOn) (xpart := xpart) (ydepth := ydepth) (ysteps := ysteps) (yresult := yresult) (youtcome := youtcome) (yload := yload) (yover := yover) (yop := yop) (ya := ya) (yb := yb) (yline := yline) (ylength := ylength) (yfrom := yfrom) (yto := yto) (yat := yat) (yhandlers := yhandlers) (ybegun := ybegun) (ytaken := ytaken) (ythrown := ythrown) (yrowI := yrowI) (yrowWay := yrowWay) (yrowLength := yrowLength) (ytimes := ytimes) (ytold := ytold) (ykOp := ykOp) (ykA := ykA) (ykB := ykB) (ykLine := ykLine) (ykLength := ykLength) (ykFrom := ykFrom) (ykTo := ykTo) (ykAt := ykAt) (ykHandlers := ykHandlers) (ykBegun := ykBegun) (ykTaken := ykTaken) (ykThrown := ykThrown) (ykept := ykept) (ymethod := ymethod) (ypc := ypc) (yvariable := yvariable) (yhereI := yhereI) (yhereWay := yhereWay) (yhereLength := yhereLength) (yinto := yinto) (ykLoad := ykLoad) (ypart := ypart) v1 hP with ⟨m, hm, rfl, hs, hX, hY⟩ | ⟨hX, hY⟩
  · refine hX _ (br_f (by decide) ?_)
    rcases pk_ix v2 (n := 16) (by decide) with z | z | ⟨l, hl, rfl⟩
    · exact xi_f (n := 16) (Or.inl z) (br_t rfl (hY _ (br_f (by decide) (wi_f (n := 16) (Or.inl z) (br_t rfl ⟨rfl, J⟩)))))
    · exact xi_f (n := 16) (Or.inr z) (br_t rfl (hY _ (br_f (by decide) (wi_f (n := 16) (Or.inr z) (br_t rfl ⟨rfl, J⟩)))))
    · obtain ⟨r, iX, iY⟩ := ln_R (xdepth := xdepth) (xsignal := xsignal) (xcarried := xcarried) (xlatest := xlatest) (xload := xload) (xsizes := xsizes) (xops := xops) (xargsA := xargsA) (xargsB := xargsB) (xlines := xlines) (xguards := xguards) (xfroms := xfroms) (xtos := xtos) (xats := xats) (xbegunCounts := xbegunCounts) (xthrownCounts := xthrownCounts) (xtakenCounts := xtakenCounts) (xslotUsed := xslotUsed) (xslotLoad := xslotLoad) (xstretchNumber := xstretchNumber) (xstretchGone := xstretchGone) (xstretchRow := xstretchRow) (xstretchWays := xstretchWays) (xatWork := xatWork) (xplace := xplace) (xvariables := xvariables) (xrow := xrow) (xrowWays := xrowWays) (xwayOn := xwayOn) (xpart := xpart) (ydepth := ydepth) (ysteps := ysteps) (yresult := yresult) (youtcome := youtcome) (yload := yload) (yover := yover) (yop := yop) (ya := ya) (yb := yb) (yline := yline) (ylength := ylength) (yfrom := yfrom) (yto := yto) (yat := yat) (yhandlers := yhandlers) (ybegun := ybegun) (ytaken := ytaken) (ythrown := ythrown) (yrowI := yrowI) (yrowWay := yrowWay) (yrowLength := yrowLength) (ytimes := ytimes) (ytold := ytold) (ykOp := ykOp) (ykA := ykA) (ykB := ykB) (ykLine := ykLine) (ykLength := ykLength) (ykFrom := ykFrom) (ykTo := ykTo) (ykAt := ykAt) (ykHandlers := ykHandlers) (ykBegun := ykBegun) (ykTaken := ykTaken) (ykThrown := ykThrown) (ykept := ykept) (ymethod := ymethod) (ypc := ypc) (yvariable := yvariable) (yhereI := yhereI) (yhereWay := yhereWay) (yhereLength := yhereLength) (yinto := yinto) (ykLoad := ykLoad) (ypart := ypart) (l := nI l) hP hC hT h1 hm rfl (sz_f xsizes m) 0 0 0 1 (by omega) (Nat.le_refl 0) (Nat.le_refl 0) (Or.inr rfl)
      refine xi_t (n := 16) hl (by decide) (br_f (by decide) ⟨_, iX _ ?_⟩)
      exact hY _ (br_f (by decide) (wi_t (n := 16) hl (by decide) (br_f (by decide) (nm_r (e' := nI (24 * m)) (pk_mul 24 m) ⟨_, iY _ ⟨rfl, J⟩⟩))))
  · exact hX _ (br_t rfl (hY _ (br_t rfl ⟨rfl, J⟩)))
