/-! part 19: the constructors, add, guard, taken, stretches, stretch -/
theorem i_vc0 : wpX_init (fun u => wpY_init (fun v => i_Rel 0 u v)) := by
  have b : ∀ c, bk_R c (fun _ => 0) (fun _ => 0) (fun _ => 0) := fun c => ⟨fun _ _ => rfl, fun _ _ => rfl, fun _ _ => rfl⟩
  exact ⟨0, by omega, rfl, rfl, rfl, ⟨b 1, b 1, b 24, b 24, b 24, b 24, b 3, b 3, b 3, rg_0 _ _, rg_0 _ _, rg_0 _ _, rg_0 _ _⟩,
    ⟨ct_0 _ _, ct_0 _ _, ct_0 _ _, fun s hs => ⟨rfl, Or.inl rfl, 0, by omega, rfl, rfl, fun j hj => ⟨0, by omega, rfl⟩⟩⟩, st_init, fun j hj => ⟨0, rfl, by omega⟩⟩
section
variable {xdepth xsignal xcarried xlatest xload : Int32} {xsizes xops xargsA xargsB xlines xguards xfroms xtos xats xbegunCounts xthrownCounts xtakenCounts xslotUsed xslotLoad xstretchNumber xstretchGone xstretchRow xatWork xplace xvariables xrow xpart : Nat → Int32} {xstretchWays xrowWays xwayOn : Nat → Int64}
variable {ydepth ysteps yresult youtcome yload yover : Int32} {yop ya yb yline ylength yfrom yto yat yhandlers ybegun ytaken ythrown yrowI yrowWay yrowLength ytimes ytold ykOp ykA ykB ykLine ykLength ykFrom ykTo ykAt ykHandlers ykBegun ykTaken ykThrown ykept ymethod ypc yvariable yhereI yhereWay yhereLength yinto ykLoad ypart : Nat → Int32}
theorem gp_16 (h : (gp_R xsizes xops xargsA xargsB xlines xguards xfroms xtos xats yop ya yb yline ylength yfrom yto yat yhandlers ykOp ykA ykB ykLine ykLength ykFrom ykTo ykAt ykHandlers)) : xsizes 16 = nI (sz_f xsizes 16) ∧ ylength 4 = nI (sz_f xsizes 16) ∧ sz_f xsizes 16 ≤ 24 := by
  obtain ⟨h1, h2⟩ := rg_at h.2.2.2.2.2.2.2.2.2.1 (by decide) (show 16 < 17 by omega)
  exact ⟨h1, (h.1.2.1 0 (by omega)).symm.trans h1, h2⟩
theorem gp_g16 (h : (gp_R xsizes xops xargsA xargsB xlines xguards xfroms xtos xats yop ya yb yline ylength yfrom yto yat yhandlers ykOp ykA ykB ykLine ykLength ykFrom ykTo ykAt ykHandlers)) : xguards 16 = nI (sz_f xguards 16) ∧ yhandlers 4 = nI (sz_f xguards 16) ∧ sz_f xguards 16 ≤ 3 := by
  obtain ⟨h1, h2⟩ := rg_at h.2.2.2.2.2.2.2.2.2.2.1 (by decide) (show 16 < 17 by omega)
  exact ⟨h1, (h.2.1.2.1 0 (by omega)).symm.trans h1, h2⟩
end
theorem i_vc_add {k : Nat} {u : SX} {v : SY} (I : i_Rel k u v) (hk : k + 5 ≤ 2560) (v1 : Int32) (v2 : Int32) (v3 : Int32) (v4 : Int32) : wpX_add (fun r u' => wpY_add (fun r' v' => r' = r ∧ i_Rel (k + 5) u' v') v v1 v2 v3 v4) u v1 v2 v3 v4 := by
  obtain ⟨xdepth, xsignal, xcarried, xlatest, xload, xsizes, xops, xargsA, xargsB, xlines, xguards, xfroms, xtos, xats, xbegunCounts, xthrownCounts, xtakenCounts, xslotUsed, xslotLoad, xstretchNumber, xstretchGone, xstretchRow, xstretchWays, xatWork, xplace, xvariables, xrow, xrowWays, xwayOn, xpart⟩ := u
  obtain ⟨ydepth, ysteps, yresult, youtcome, yload, yover, yop, ya, yb, yline, ylength, yfrom, yto, yat, yhandlers, ybegun, ytaken, ythrown, yrowI, yrowWay, yrowLength, ytimes, ytold, ykOp, ykA, ykB, ykLine, ykLength, ykFrom, ykTo, ykAt, ykHandlers, ykBegun, ykTaken, ykThrown, ykept, ymethod, ypc, yvariable, yhereI, yhereWay, yhereLength, yinto, ykLoad, ypart⟩ := v
  have J := I
  obtain ⟨L, h1, h2, h3, h4, hP, hC, hS, hT⟩ := I
  obtain ⟨s1, s2, s3⟩ := gp_16 hP
  unfold wpX_add wpY_add
  refine nm_r s1 ?_
  rcases pk_ix v1 (n := 12) (by decide) with z | z | ⟨o, ho, rfl⟩
  · exact br_t z (wi_f (n := 12) (Or.inl z) (br_t rfl ⟨rfl, J⟩))
  · have y : ¬ v1 < 0 := fun w => by
      have := Int32.lt_of_le_of_lt z w
      exact absurd this (by decide)
    exact br_f y (br_t (Int32.lt_of_lt_of_le (by decide) z) (wi_f (n := 12) (Or.inr z) (br_t rfl ⟨rfl, J⟩)))
  · refine br_f (nI_pos (by omega)) (br_f (nI_nlt (a := 11) (by omega) (by decide)) ?_)
    rcases pk_ix v2 (n := 4) (by decide) with z | z | ⟨a, ha, rfl⟩
    · exact xi_f (n := 4) (Or.inl z) (br_t rfl (wi_t (n := 12) ho (by decide) (br_f (by decide) (wi_f (n := 4) (Or.inl z) (br_t rfl ⟨rfl, J⟩)))))
    · exact xi_f (n := 4) (Or.inr z) (br_t rfl (wi_t (n := 12) ho (by decide) (br_f (by decide) (wi_f (n := 4) (Or.inr z) (br_t rfl ⟨rfl, J⟩)))))
    · refine xi_t (n := 4) ha (by decide) (br_f (by decide) ?_)
      rcases pk_ix v4 (n := 16) (by decide) with z | z | ⟨l, hl, rfl⟩
      · exact xi_f (n := 16) (Or.inl z) (br_t rfl (wi_t (n := 12) ho (by decide) (br_f (by decide) (wi_t (n := 4) ha (by decide) (br_f (by decide) (wi_f (n := 16) (Or.inl z) (br_t rfl ⟨rfl, J⟩)))))))
      · exact xi_f (n := 16) (Or.inr z) (br_t rfl (wi_t (n := 12) ho (by decide) (br_f (by decide) (wi_t (n := 4) ha (by decide) (br_f (by decide) (wi_f (n := 16) (Or.inr z) (br_t rfl ⟨rfl, J⟩)))))))
      · refine xi_t (n := 16) hl (by decide) (br_f (by decide) ?_)
        rcases Nat.lt_or_ge (sz_f xsizes 16) 24 with z | z
        · have ex : 384 + nI (sz_f xsizes 16) = nI (384 + sz_f xsizes 16) := nI_add 384 _
          have ey : 96 + nI (sz_f xsizes 16) = nI (96 + sz_f xsizes 16) := nI_add 96 _
          have wx : vp_in (nI (384 + sz_f xsizes 16)) 408 := vp_in_nI (by omega) (by decide)
          have wy : vp_in (nI (96 + sz_f xsizes 16)) 120 := vp_in_nI (by omega) (by decide)
          have cx : (nI (384 + sz_f xsizes 16)).toNatClampNeg = 384 + sz_f xsizes 16 := nI_clamp (by omega)
          have cy : (nI (96 + sz_f xsizes 16)).toNatClampNeg = 96 + sz_f xsizes 16 := nI_clamp (by omega)
          have n24 : ¬ ylength 4 = 24 := fun y => by
            rw [s2] at y
            have := (nI_eq (a := sz_f xsizes 16) (b := 24) (by omega) (by omega)).mp y
            omega
          refine br_t (nI_lt (b := 24) z (by decide)) (nm_r ex ?_)
          rw [cx, nI_1]
          refine ⟨wx, nm_e ⟨wx, nm_e ⟨wx, nm_e ⟨wx, nm_e (nm_e ?_)⟩⟩⟩⟩
          refine wi_t (n := 12) ho (by decide) (br_f (by decide) (wi_t (n := 4) ha (by decide) (br_f (by decide) (wi_t (n := 16) hl (by decide) (br_f (by decide) (br_f n24 ?_))))))
          rw [s2]
          refine nm_r ey ?_
          rw [cy, nI_1]
          refine ⟨wy, nm_e ⟨wy, nm_e ⟨wy, nm_e ⟨wy, nm_e (nm_e ⟨rfl, ?_⟩)⟩⟩⟩⟩
          have e : ∀ b, b < 16 → sz_f (upd xsizes 16 (nI (sz_f xsizes 16 + 1))) b = sz_f xsizes b := fun b hb => sz_un (by omega)
          obtain ⟨p1, p2, p3, p4, p5, p6, p7, p8, p9, pa, pb, pc, pd⟩ := hP
          refine ⟨L, h1, h2, h3, h4, ⟨bk_add (c := 1) (i := 0) p1 (by omega), p2, bk_add (c := 24) p3 z, bk_add (c := 24) p4 z, bk_add (c := 24) p5 z, bk_add (c := 24) p6 z, p7, p8, p9, rg_u pa (by omega), pb, rg_u pc (by omega), pd⟩, ⟨ct_sz hC.1 e, ct_sz hC.2.1 e, ct_sz hC.2.2.1 e, hC.2.2.2⟩, hS, hT⟩
        · have z24 : sz_f xsizes 16 = 24 := by omega
          rw [z24] at s2
          rw [z24]
          exact br_f (by decide) (wi_t (n := 12) ho (by decide) (br_f (by decide) (wi_t (n := 4) ha (by decide) (br_f (by decide) (wi_t (n := 16) hl (by decide) (br_f (by decide) (br_t s2 ⟨rfl, J⟩)))))))
theorem i_vc_guard {k : Nat} {u : SX} {v : SY} (I : i_Rel k u v) (hk : k + 5 ≤ 2560) (v1 : Int32) (v2 : Int32) (v3 : Int32) : wpX_guard (fun r u' => wpY_guard (fun r' v' => r' = r ∧ i_Rel (k + 5) u' v') v v1 v2 v3) u v1 v2 v3 := by
  obtain ⟨xdepth, xsignal, xcarried, xlatest, xload, xsizes, xops, xargsA, xargsB, xlines, xguards, xfroms, xtos, xats, xbegunCounts, xthrownCounts, xtakenCounts, xslotUsed, xslotLoad, xstretchNumber, xstretchGone, xstretchRow, xstretchWays, xatWork, xplace, xvariables, xrow, xrowWays, xwayOn, xpart⟩ := u
  obtain ⟨ydepth, ysteps, yresult, youtcome, yload, yover, yop, ya, yb, yline, ylength, yfrom, yto, yat, yhandlers, ybegun, ytaken, ythrown, yrowI, yrowWay, yrowLength, ytimes, ytold, ykOp, ykA, ykB, ykLine, ykLength, ykFrom, ykTo, ykAt, ykHandlers, ykBegun, ykTaken, ykThrown, ykept, ymethod, ypc, yvariable, yhereI, yhereWay, yhereLength, yinto, ykLoad, ypart⟩ := v
  have J := I
  obtain ⟨L, h1, h2, h3, h4, hP, hC, hS, hT⟩ := I
  obtain ⟨s1, s2, s3⟩ := gp_g16 hP
  by_cases V : (∃ a, a < 24 ∧ v1 = nI a) ∧ (∃ b, b < 24 ∧ v2 = nI b) ∧ (∃ c, c < 24 ∧ v3 = nI c) ∧ ¬ v2 < v1 ∧ sz_f xguards 16 < 3
  · obtain ⟨⟨a, ha, rfl⟩, ⟨b, hb, rfl⟩, ⟨c, hc, rfl⟩, hab, z⟩ := V
    have ex : 48 + nI (sz_f xguards 16) = nI (48 + sz_f xguards 16) := nI_add 48 _
    have ey : 12 + nI (sz_f xguards 16) = nI (12 + sz_f xguards 16) := nI_add 12 _
    have wx : vp_in (nI (48 + sz_f xguards 16)) 51 := vp_in_nI (by omega) (by decide)
    have wy : vp_in (nI (12 + sz_f xguards 16)) 15 := vp_in_nI (by omega) (by decide)
    have cx : (nI (48 + sz_f xguards 16)).toNatClampNeg = 48 + sz_f xguards 16 := nI_clamp (by omega)
    have cy : (nI (12 + sz_f xguards 16)).toNatClampNeg = 12 + sz_f xguards 16 := nI_clamp (by omega)
    have n3 : ¬ yhandlers 4 = 3 := fun y => by
      rw [s2] at y
      have := (nI_eq (a := sz_f xguards 16) (b := 3) (by omega) (by omega)).mp y
      omega
    unfold wpX_guard wpY_guard
    refine nm_r s1 (br_f (nI_pos (by omega)) (br_f hab (br_f (nI_ge (b := 24) hb (by decide)) (xi_t (n := 24) hc (by decide) (br_f (by decide) (br_t (nI_lt (b := 3) z (by decide)) (nm_r ex ?_)))))))
    rw [cx, nI_1]
    refine ⟨wx, nm_e ⟨wx, nm_e ⟨wx, nm_e (nm_e ?_)⟩⟩⟩
    refine wi_t (n := 24) ha (by decide) (br_f (by decide) (wi_t (n := 24) hb (by decide) (br_f (by decide) (wi_t (n := 24) hc (by decide) (br_f (by decide) (br_f hab (br_f n3 ?_)))))))
    rw [s2]
    refine nm_r ey ?_
    rw [cy, nI_1]
    refine ⟨wy, nm_e ⟨wy, nm_e ⟨wy, nm_e (nm_e ⟨rfl, ?_⟩)⟩⟩⟩
    obtain ⟨p1, p2, p3, p4, p5, p6, p7, p8, p9, pa, pb, pc, pd⟩ := hP
    exact ⟨L, h1, h2, h3, h4, ⟨p1, bk_add (c := 1) (i := 0) p2 (by omega), p3, p4, p5, p6, bk_add (c := 3) p7 z, bk_add (c := 3) p8 z, bk_add (c := 3) p9 z, pa, rg_u pb (by omega), pc, rg_u pd (by omega)⟩, hC, hS, hT⟩
  · have X0 : ∀ post : Int32 → SX → Prop, post 0 (xdepth, xsignal, xcarried, xlatest, xload, xsizes, xops, xargsA, xargsB, xlines, xguards, xfroms, xtos, xats, xbegunCounts, xthrownCounts, xtakenCounts, xslotUsed, xslotLoad, xstretchNumber, xstretchGone, xstretchRow, xstretchWays, xatWork, xplace, xvariables, xrow, xrowWays, xwayOn, xpart) → wpX_guard post (xdepth, xsignal, xcarried, xlatest, xload, xsizes, xops, xargsA, xargsB, xlines, xguards, xfroms, xtos, xats, xbegunCounts, xthrownCounts, xtakenCounts, xslotUsed, xslotLoad, xstretchNumber, xstretchGone, xstretchRow, xstretchWays, xatWork, xplace, xvariables, xrow, xrowWays, xwayOn, xpart) v1 v2 v3 := by
      intro post h
      unfold wpX_guard
      refine nm_r s1 ?_
      by_cases a1 : v1 < 0
      · exact br_t a1 h
      by_cases a2 : v2 < v1
      · exact br_f a1 (br_t a2 h)
      by_cases a3 : (24 : Int32) ≤ v2
      · exact br_f a1 (br_f a2 (br_t a3 h))
      refine br_f a1 (br_f a2 (br_f a3 ?_))
      rcases pk_ix v3 (n := 24) (by decide) with z | z | ⟨c, hc, rfl⟩
      · exact xi_f (n := 24) (Or.inl z) (br_t rfl h)
      · exact xi_f (n := 24) (Or.inr z) (br_t rfl h)
      · refine xi_t (n := 24) hc (by decide) (br_f (by decide) ?_)
        by_cases a4 : sz_f xguards 16 < 3
        · exfalso
          apply V
          obtain ⟨a, ha, rfl⟩ := nI_of a1
          have b0 : ¬ v2 < 0 := fun w => a2 (Int32.lt_of_lt_of_le w (Int32.not_lt.mp a1))
          obtain ⟨b, hb, rfl⟩ := nI_of b0
          have hb24 : b < 24 := by
            rcases Nat.lt_or_ge b 24 with y | y
            · exact y
            · exact absurd (nI_le (a := 24) y hb) a3
          have hab : a ≤ b := by
            rcases Nat.lt_or_ge b a with y | y
            · exact absurd (nI_lt y ha) a2
            · exact y
          exact ⟨⟨a, by omega, rfl⟩, ⟨b, hb24, rfl⟩, ⟨c, hc, rfl⟩, a2, a4⟩
        · have z3 : sz_f xguards 16 = 3 := by omega
          rw [z3]
          exact br_f (by decide) h
    have Y0 : ∀ post : Int32 → SY → Prop, post 0 (ydepth, ysteps, yresult, youtcome, yload, yover, yop, ya, yb, yline, ylength, yfrom, yto, yat, yhandlers, ybegun, ytaken, ythrown, yrowI, yrowWay, yrowLength, ytimes, ytold, ykOp, ykA, ykB, ykLine, ykLength, ykFrom, ykTo, ykAt, ykHandlers, ykBegun, ykTaken, ykThrown, ykept, ymethod, ypc, yvariable, yhereI, yhereWay, yhereLength, yinto, ykLoad, ypart) → wpY_guard post (ydepth, ysteps, yresult, youtcome, yload, yover, yop, ya, yb, yline, ylength, yfrom, yto, yat, yhandlers, ybegun, ytaken, ythrown, yrowI, yrowWay, yrowLength, ytimes, ytold, ykOp, ykA, ykB, ykLine, ykLength, ykFrom, ykTo, ykAt, ykHandlers, ykBegun, ykTaken, ykThrown, ykept, ymethod, ypc, yvariable, yhereI, yhereWay, yhereLength, yinto, ykLoad, ypart) v1 v2 v3 := by
      intro post h
      unfold wpY_guard
      rcases pk_ix v1 (n := 24) (by decide) with z | z | ⟨a, ha, rfl⟩
      · exact wi_f (n := 24) (Or.inl z) (br_t rfl h)
      · exact wi_f (n := 24) (Or.inr z) (br_t rfl h)
      · refine wi_t (n := 24) ha (by decide) (br_f (by decide) ?_)
        rcases pk_ix v2 (n := 24) (by decide) with z | z | ⟨b, hb, rfl⟩
        · exact wi_f (n := 24) (Or.inl z) (br_t rfl h)
        · exact wi_f (n := 24) (Or.inr z) (br_t rfl h)
        · refine wi_t (n := 24) hb (by decide) (br_f (by decide) ?_)
          rcases pk_ix v3 (n := 24) (by decide) with z | z | ⟨c, hc, rfl⟩
          · exact wi_f (n := 24) (Or.inl z) (br_t rfl h)
          · exact wi_f (n := 24) (Or.inr z) (br_t rfl h)
          · refine wi_t (n := 24) hc (by decide) (br_f (by decide) ?_)
            by_cases a2 : nI b < nI a
            · exact br_t a2 h
            · refine br_f a2 ?_
              by_cases a4 : sz_f xguards 16 < 3
              · exact absurd ⟨⟨a, ha, rfl⟩, ⟨b, hb, rfl⟩, ⟨c, hc, rfl⟩, a2, a4⟩ V
              · have z3 : sz_f xguards 16 = 3 := by omega
                rw [z3] at s2
                exact br_t s2 h
    exact X0 _ (Y0 _ ⟨rfl, J⟩)
/-! how many ways -/
def wy_f (op : Int32) : Nat := if op = 10 then 0 else if op = 5 then 2 else if op = 6 then 2 else if op = 7 then 4 else 1
theorem wy_4 (op : Int32) : wy_f op ≤ 4 := by
  unfold wy_f
  split
  · omega
  split
  · omega
  split
  · omega
  split <;> omega
theorem wy_Y {post : Int32 → Prop} {op : Int32} (h : post (nI (wy_f op))) : wpY_ways post op := by
  unfold wy_f at h
  unfold wpY_ways
  by_cases z : op = 10
  · rw [if_pos z] at h; exact br_t z h
  rw [if_neg z] at h
  refine br_f z ?_
  by_cases z : op = 5
  · rw [if_pos z] at h; exact br_t z h
  rw [if_neg z] at h
  refine br_f z ?_
  by_cases z : op = 6
  · rw [if_pos z] at h; exact br_t z h
  rw [if_neg z] at h
  refine br_f z ?_
  by_cases z : op = 7
  · rw [if_pos z] at h; exact br_t z h
  rw [if_neg z] at h
  exact br_f z h
section
variable {xdepth xsignal xcarried xlatest xload : Int32} {xsizes xops xargsA xargsB xlines xguards xfroms xtos xats xbegunCounts xthrownCounts xtakenCounts xslotUsed xslotLoad xstretchNumber xstretchGone xstretchRow xatWork xplace xvariables xrow xpart : Nat → Int32} {xstretchWays xrowWays xwayOn : Nat → Int64}
variable {ydepth ysteps yresult youtcome yload yover : Int32} {yop ya yb yline ylength yfrom yto yat yhandlers ybegun ytaken ythrown yrowI yrowWay yrowLength ytimes ytold ykOp ykA ykB ykLine ykLength ykFrom ykTo ykAt ykHandlers ykBegun ykTaken ykThrown ykept ymethod ypc yvariable yhereI yhereWay yhereLength yinto ykLoad ypart : Nat → Int32}
theorem wy_X {post : Int32 → Prop} {s : Nat} (hs : s < 408) (h : post (nI (wy_f (xops s)))) : wpX_waysFrom post (xdepth, xsignal, xcarried, xlatest, xload, xsizes, xops, xargsA, xargsB, xlines, xguards, xfroms, xtos, xats, xbegunCounts, xthrownCounts, xtakenCounts, xslotUsed, xslotLoad, xstretchNumber, xstretchGone, xstretchRow, xstretchWays, xatWork, xplace, xvariables, xrow, xrowWays, xwayOn, xpart) (nI s) := by
  have cs : (nI s).toNatClampNeg = s := nI_clamp (by omega)
  refine ⟨vp_in_nI hs (by decide), nm_r (e' := xops s) (by rw [cs]) ?_⟩
  generalize xops s = op at h
  unfold wy_f at h
  by_cases z : op = 10
  · rw [if_pos z] at h
    subst z
    exact br_f (by decide) (br_f (by decide) (br_f (by decide) (br_f (by decide) (br_f (by decide) (br_f (by decide) (br_f (by decide) (br_t rfl h)))))))
  rw [if_neg z] at h
  by_cases z5 : op = 5
  · rw [if_pos z5] at h
    subst z5
    exact br_f (by decide) (br_f (by decide) (br_t rfl h))
  rw [if_neg z5] at h
  by_cases z6 : op = 6
  · rw [if_pos z6] at h
    subst z6
    exact br_f (by decide) (br_f (by decide) (br_f (by decide) (br_t rfl h)))
  rw [if_neg z6] at h
  by_cases z7 : op = 7
  · rw [if_pos z7] at h
    subst z7
    exact br_f (by decide) (br_f (by decide) (br_f (by decide) (br_f (by decide) (br_t rfl h))))
  rw [if_neg z7] at h
  exact br_c (fun _ => h) (fun _ => br_c (fun _ => h) (fun _ => br_f z5 (br_f z6 (br_f z7 (br_c (fun _ => h) (fun _ => br_c (fun _ => h) (fun _ => br_f z trivial)))))))
end
theorem i_vc_taken {k : Nat} {u : SX} {v : SY} (I : i_Rel k u v) (hk : k + 5 ≤ 2560) (v1 : Int32) (v2 : Int32) (v3 : Int32) : wpX_taken (fun r => wpY_taken (fun r' => r' = r ∧ i_Rel (k + 5) u v) v v1 v2 v3) u v1 v2 v3 := by
  obtain ⟨xdepth, xsignal, xcarried, xlatest, xload, xsizes, xops, xargsA, xargsB, xlines, xguards, xfroms, xtos, xats, xbegunCounts, xthrownCounts, xtakenCounts, xslotUsed, xslotLoad, xstretchNumber, xstretchGone, xstretchRow, xstretchWays, xatWork, xplace, xvariables, xrow, xrowWays, xwayOn, xpart⟩ := u
  obtain ⟨ydepth, ysteps, yresult, youtcome, yload, yover, yop, ya, yb, yline, ylength, yfrom, yto, yat, yhandlers, ybegun, ytaken, ythrown, yrowI, yrowWay, yrowLength, ytimes, ytold, ykOp, ykA, ykB, ykLine, ykLength, ykFrom, ykTo, ykAt, ykHandlers, ykBegun, ykTaken, ykThrown, ykept, ymethod, ypc, yvariable, yhereI, yhereWay, yhereLength, yinto, ykLoad, ypart⟩ := v
  have J := I
  obtain ⟨L, h1, h2, h3, h4, hP, hC, hS, hT⟩ := I
  unfold wpX_taken wpY_taken
  rcases th_i (xdepth := xdepth) (xsignal := xsignal) (xcarried := xcarried) (xlatest := xlatest) (xload := xload) (xsizes := xsizes) (xops := xops) (xargsA := xargsA) (xargsB := xargsB) (xlines := xlines) (xguards := xguards) (xfroms := xfroms) (xtos := xtos) (xats := xats) (xbegunCounts := xbegunCounts) (xthrownCounts := xthrownCounts) (xtakenCounts := xtakenCounts) (xslotUsed := xslotUsed) (xslotLoad := xslotLoad) (xstretchNumber := xstretchNumber) (xstretchGone := xstretchGone) (xstretchRow := xstretchRow) (xstretchWays := xstretchWays) (xatWork := xatWork) (xplace := xplace) (xvariables := xvariables) (xrow := xrow) (xrowWays := xrowWays) (xwayOn := xwayOn) (xpart := xpart) (ydepth := ydepth) (ysteps := ysteps) (yresult := yresult) (youtcome := youtcome) (yload := yload) (yover := yover) (yop := yop) (ya := ya) (yb := yb) (yline := yline) (ylength := ylength) (yfrom := yfrom) (yto := yto) (yat := yat) (yhandlers := yhandlers) (ybegun := ybegun) (ytaken := ytaken) (ythrown := ythrown) (yrowI := yrowI) (yrowWay := yrowWay) (yrowLength := yrowLength) (ytimes := ytimes) (ytold := ytold) (ykOp := ykOp) (ykA := ykA) (ykB := ykB) (ykLine := ykLine) (ykLength := ykLength) (ykFrom := ykFrom) (ykTo := ykTo) (ykAt := ykAt) (ykHandlers := ykHandlers) (ykBegun := ykBegun) (ykTaken := ykTaken) (ykThrown := ykThrown) (ykept := ykept) (ymethod := ymethod) (ypc := ypc) (yvariable := yvariable) (yhereI := yhereI) (yhereWay := yhereWay) (yhereLength := yhereLength) (yinto := yinto) (ykLoad := ykLoad) (ypart := ypart) v1 v2 hP with ⟨m, i, hm, rfl, hi, h24, rfl, hX, hY⟩ | ⟨hX, hY⟩
  · refine hX _ (br_f (by decide) (nm_r (ix_24 m i) (wy_X (by omega) ?_)))
    have w4 := wy_4 (xops (24 * m + i))
    have cy : (24 * nI m + nI i).toNatClampNeg = 24 * m + i := ix_cl (iy_24 m i) (by omega)
    have wy : vp_in (24 * nI m + nI i) 120 := ix_in (iy_24 m i) (by omega) (by decide)
    rcases pk_ix v3 (n := wy_f (xops (24 * m + i))) (by omega) with z | z | ⟨j, hj, rfl⟩
    · refine xi_f (Or.inl z) (br_t rfl (hY _ (br_f (by decide) ⟨wy, ?_⟩)))
      rw [cy, ← gp_op hP hm h24]
      exact wy_Y (wi_f (Or.inl z) (br_t rfl ⟨rfl, J⟩))
    · refine xi_f (Or.inr z) (br_t rfl (hY _ (br_f (by decide) ⟨wy, ?_⟩)))
      rw [cy, ← gp_op hP hm h24]
      exact wy_Y (wi_f (Or.inr z) (br_t rfl ⟨rfl, J⟩))
    · refine xi_t hj (by omega) (br_f (by decide) ⟨ix_in (ix_4 (24 * m + i) j) (by omega) (by decide), hY _ (br_f (by decide) ⟨wy, ?_⟩)⟩)
      rw [cy, ← gp_op hP hm h24]
      refine wy_Y (wi_t hj (by omega) (br_f (by decide) ⟨ix_in (iy_t m i j) (by omega) (by decide), ?_, J⟩))
      rw [ix_cl (iy_t m i j) (by omega), ix_cl (ix_4 (24 * m + i) j) (by omega)]
      exact (ct_at4 hC.2.2.1 hm hi (by omega)).symm
  · exact hX _ (br_t rfl (hY _ (br_t rfl ⟨rfl, J⟩)))
theorem i_vc_stretches {k : Nat} {u : SX} {v : SY} (I : i_Rel k u v) (hk : k + 5 ≤ 2560) (v1 : Int32) : wpX_stretches (fun r => wpY_stretches (fun r' => r' = r ∧ i_Rel (k + 5) u v) v v1) u v1 := by
  obtain ⟨xdepth, xsignal, xcarried, xlatest, xload, xsizes, xops, xargsA, xargsB, xlines, xguards, xfroms, xtos, xats, xbegunCounts, xthrownCounts, xtakenCounts, xslotUsed, xslotLoad, xstretchNumber, xstretchGone, xstretchRow, xstretchWays, xatWork, xplace, xvariables, xrow, xrowWays, xwayOn, xpart⟩ := u
  obtain ⟨ydepth, ysteps, yresult, youtcome, yload, yover, yop, ya, yb, yline, ylength, yfrom, yto, yat, yhandlers, ybegun, ytaken, ythrown, yrowI, yrowWay, yrowLength, ytimes, ytold, ykOp, ykA, ykB, ykLine, ykLength, ykFrom, ykTo, ykAt, ykHandlers, ykBegun, ykTaken, ykThrown, ykept, ymethod, ypc, yvariable, yhereI, yhereWay, yhereLength, yinto, ykLoad, ypart⟩ := v
  have J := I
  obtain ⟨L, h1, h2, h3, h4, hP, hC, hS, hT⟩ := I
  unfold wpX_stretches wpY_stretches
  rcases th_c (xdepth := xdepth) (xsignal := xsignal) (xcarried := xcarried) (xlatest := xlatest) (xload := xload) (xsizes := xsizes) (xops := xops) (xargsA := xargsA) (xargsB := xargsB) (xlines := xlines) (xguards := xguards) (xfroms := xfroms) (xtos := xtos) (xats := xats) (xbegunCounts := xbegunCounts) (xthrownCounts := xthrownCounts) (xtakenCounts := xtakenCounts) (xslotUsed := xslotUsed) (xslotLoad := xslotLoad) (xstretchNumber := xstretchNumber) (xstretchGone := xstretchGone) (xstretchRow := xstretchRow) (xstretchWays := xstretchWays) (xatWork := xatWork) (xplace := xplace) (xvariables := xvariables) (xrow := xrow) (xrowWays := xrowWays) (xwayOn := xwayOn) (xpart := xpart) (ydepth := ydepth) (ysteps := ysteps) (yresult := yresult) (youtcome := youtcome) (yload := yload) (yover := yover) (yop := yop) (ya := ya) (yb := yb) (yline := yline) (ylength := ylength) (yfrom := yfrom) (yto := yto) (yat := yat) (yhandlers := yhandlers) (ybegun := ybegun) (ytaken := ytaken) (ythrown := ythrown) (yrowI := yrowI) (yrowWay := yrowWay) (yrowLength := yrowLength) (ytimes := ytimes) (ytold := ytold) (ykOp := ykOp) (ykA := ykA) (ykB := ykB) (ykLine := ykLine) (ykLength := ykLength) (ykFrom := ykFrom) (ykTo := ykTo) (ykAt := ykAt) (ykHandlers := ykHandlers) (ykBegun := ykBegun) (ykTaken := ykTaken) (ykThrown := ykThrown) (ykept := ykept) (ymethod := ymethod) (ypc := ypc) (yvariable := yvariable) (yhereI := yhereI) (yhereWay := yhereWay) (yhereLength := yhereLength) (yinto := yinto) (ykLoad := ykLoad) (ypart := ypart) v1 hP with ⟨m, hm, rfl, hs, hX, hY⟩ | ⟨hX, hY⟩
  · obtain ⟨t, t1, t2, t3, t4⟩ := hS m hm
    refine hX _ (br_f (by decide) ⟨vp_in_nI hm (by decide), hY _ (br_f (by decide) ⟨vp_in_nI hm (by decide), ?_, J⟩)⟩)
    rw [nI_clamp (by omega), t2, t3]
  · exact hX _ (br_t rfl (hY _ (br_t rfl ⟨rfl, J⟩)))
section
variable {xdepth xsignal xcarried xlatest xload : Int32} {xsizes xops xargsA xargsB xlines xguards xfroms xtos xats xbegunCounts xthrownCounts xtakenCounts xslotUsed xslotLoad xstretchNumber xstretchGone xstretchRow xatWork xplace xvariables xrow xpart : Nat → Int32} {xstretchWays xrowWays xwayOn : Nat → Int64}
theorem xl_len {post : Int32 → Prop} {M : Nat} (hM : M < 2 ^ 24) (hp : post (nI (sr_pc M 24))) : ∀ e j, j + e = 24 → wX_lengthOf_4 post (nI M) xdepth xsignal xcarried xlatest xload xsizes xops xargsA xargsB xlines xguards xfroms xtos xats xbegunCounts xthrownCounts xtakenCounts xslotUsed xslotLoad xstretchNumber xstretchGone xstretchRow xstretchWays xatWork xplace xvariables xrow xrowWays xwayOn xpart (e + 1) (nI (sr_pc M j)) (nI j) := by
  intro e
  induction e with
  | zero =>
    intro j hj
    have z : j = 24 := by omega
    subst z
    rw [wX_lengthOf_4]
    exact br_t (by decide) hp
  | succ e ih =>
    intro j hj
    have h := ih (j + 1) (by omega)
    rw [wX_lengthOf_4]
    refine br_f (nI_ge (b := 24) (by omega) (by decide)) (nm_r (e' := nI (sr_pc M (j + 1))) ?_ (nm_r (nI_1 j) h))
    rw [nu_bit hM (by omega), nI_add]
    rfl
theorem xl_first {post : Int32 → Prop} {M f : Nat} (hM : M < 2 ^ 24) (hf : f < 24) (h0 : ∀ i, i < f → M / 2 ^ i % 2 = 0) (h1 : M / 2 ^ f % 2 = 1) (hp : post (nI f)) : ∀ e j, j + e = f → wX_firstOf_2 post (nI M) xdepth xsignal xcarried xlatest xload xsizes xops xargsA xargsB xlines xguards xfroms xtos xats xbegunCounts xthrownCounts xtakenCounts xslotUsed xslotLoad xstretchNumber xstretchGone xstretchRow xstretchWays xatWork xplace xvariables xrow xrowWays xwayOn xpart (e + 1) (nI j) := by
  intro e
  induction e with
  | zero =>
    intro j hj
    have z : j = f := by omega
    subst z
    rw [wX_firstOf_2]
    refine br_c (fun _ => hp) (fun _ => br_f ?_ hp)
    rw [nu_bit hM hf, h1]
    decide
  | succ e ih =>
    intro j hj
    have h := ih (j + 1) (by omega)
    rw [wX_firstOf_2]
    refine br_f (nI_ge (b := 23) (by omega) (by decide)) (br_t ?_ (nm_r (nI_1 j) h))
    rw [nu_bit hM (by omega), h0 j (by omega)]
    rfl
theorem xl_last {post : Int32 → Prop} {M f : Nat} (hM : M < 2 ^ 24) (hf : f < 24) (h0 : ∀ i, f < i → M / 2 ^ i % 2 = 0) (h1 : M / 2 ^ f % 2 = 1) (hp : post (nI f)) : ∀ e, f + e < 24 → wX_lastOf_3 post (nI M) xdepth xsignal xcarried xlatest xload xsizes xops xargsA xargsB xlines xguards xfroms xtos xats xbegunCounts xthrownCounts xtakenCounts xslotUsed xslotLoad xstretchNumber xstretchGone xstretchRow xstretchWays xatWork xplace xvariables xrow xrowWays xwayOn xpart (e + 1) (nI (f + e)) := by
  intro e
  induction e with
  | zero =>
    intro hj
    rw [wX_lastOf_3]
    refine br_c (fun _ => hp) (fun _ => br_f ?_ hp)
    show ¬ (nI M >>> (nI f &&& 31)) &&& 1 = 0
    rw [nu_bit hM hf, h1]
    decide
  | succ e ih =>
    intro hj
    have h := ih (by omega)
    rw [wX_lastOf_3]
    refine br_f (nI_nle (by omega) (by omega)) (br_t ?_ (nm_r (pk_m1 (f + e)) h))
    rw [nu_bit hM (by omega), h0 _ (by omega)]
    rfl
end
theorem wi_te {post : Int32 → Prop} {a n : Nat} {N : Int32} (e : N = nI n) (h : a < n) (hn : n < 2 ^ 31) (hp : post 1) : wpY_in post (nI a) N := by
  rw [e]; exact wi_t h hn hp
theorem wi_fe {post : Int32 → Prop} {x N : Int32} {n : Nat} (e : N = nI n) (h : x < 0 ∨ nI n ≤ x) (hp : post 0) : wpY_in post x N := by
  rw [e]; exact wi_f h hp
theorem i_vc_stretch {k : Nat} {u : SX} {v : SY} (I : i_Rel k u v) (hk : k + 5 ≤ 2560) (v1 : Int32) (v2 : Int32) (v3 : Int32) : wpX_stretch (fun r => wpY_stretch (fun r' => r' = r ∧ i_Rel (k + 5) u v) v v1 v2 v3) u v1 v2 v3 := by
  obtain ⟨xdepth, xsignal, xcarried, xlatest, xload, xsizes, xops, xargsA, xargsB, xlines, xguards, xfroms, xtos, xats, xbegunCounts, xthrownCounts, xtakenCounts, xslotUsed, xslotLoad, xstretchNumber, xstretchGone, xstretchRow, xstretchWays, xatWork, xplace, xvariables, xrow, xrowWays, xwayOn, xpart⟩ := u
  obtain ⟨ydepth, ysteps, yresult, youtcome, yload, yover, yop, ya, yb, yline, ylength, yfrom, yto, yat, yhandlers, ybegun, ytaken, ythrown, yrowI, yrowWay, yrowLength, ytimes, ytold, ykOp, ykA, ykB, ykLine, ykLength, ykFrom, ykTo, ykAt, ykHandlers, ykBegun, ykTaken, ykThrown, ykept, ymethod, ypc, yvariable, yhereI, yhereWay, yhereLength, yinto, ykLoad, ypart⟩ := v
  have J := I
  obtain ⟨L, h1, h2, h3, h4, hP, hC, hS, hT⟩ := I
  unfold wpX_stretch wpY_stretch
  rcases th_c (xdepth := xdepth) (xsignal := xsignal) (xcarried := xcarried) (xlatest := xlatest) (xload := xload) (xsizes := xsizes) (xops := xops) (xargsA := xargsA) (xargsB := xargsB) (xlines := xlines) (xguards := xguards) (xfroms := xfroms) (xtos := xtos) (xats := xats) (xbegunCounts := xbegunCounts) (xthrownCounts := xthrownCounts) (xtakenCounts := xtakenCounts) (xslotUsed := xslotUsed) (xslotLoad := xslotLoad) (xstretchNumber := xstretchNumber) (xstretchGone := xstretchGone) (xstretchRow := xstretchRow) (xstretchWays := xstretchWays) (xatWork := xatWork) (xplace := xplace) (xvariables := xvariables) (xrow := xrow) (xrowWays := xrowWays) (xwayOn := xwayOn) (xpart := xpart) (ydepth := ydepth) (ysteps := ysteps) (yresult := yresult) (youtcome := youtcome) (yload := yload) (yover := yover) (yop := yop) (ya := ya) (yb := yb) (yline := yline) (ylength := ylength) (yfrom := yfrom) (yto := yto) (yat := yat) (yhandlers := yhandlers) (ybegun := ybegun) (ytaken := ytaken) (ythrown := ythrown) (yrowI := yrowI) (yrowWay := yrowWay) (yrowLength := yrowLength) (ytimes := ytimes) (ytold := ytold) (ykOp := ykOp) (ykA := ykA) (ykB := ykB) (ykLine := ykLine) (ykLength := ykLength) (ykFrom := ykFrom) (ykTo := ykTo) (ykAt := ykAt) (ykHandlers := ykHandlers) (ykBegun := ykBegun) (ykTaken := ykTaken) (ykThrown := ykThrown) (ykept := ykept) (ymethod := ymethod) (ypc := ypc) (yvariable := yvariable) (yhereI := yhereI) (yhereWay := yhereWay) (yhereLength := yhereLength) (yinto := yinto) (ykLoad := ykLoad) (ypart := ypart) v1 hP with ⟨m, hm, rfl, hs, hX, hY⟩ | ⟨hX, hY⟩
  · obtain ⟨t, t1, t2, t3, t4⟩ := hS m hm
    have cm : (nI m).toNatClampNeg = m := nI_clamp (by omega)
    have wm : vp_in (nI m) 4 := vp_in_nI hm (by decide)
    refine hX _ (br_f (by decide) ⟨wm, ?_⟩)
    rw [cm, t2]
    rcases pk_ix v2 (n := t) (by omega) with z | z | ⟨j, hj, rfl⟩
    · exact xi_f (Or.inl z) (br_t rfl (hY _ (br_f (by decide) ⟨wm, wi_fe t3 (Or.inl z) (br_t rfl ⟨rfl, J⟩)⟩)))
    · exact xi_f (Or.inr z) (br_t rfl (hY _ (br_f (by decide) ⟨wm, wi_fe t3 (Or.inr z) (br_t rfl ⟨rfl, J⟩)⟩)))
    · obtain ⟨g1, q, I, W, g2, g3, g4⟩ := t4 j hj
      have l24 := sr_len g4.1
      have ws : vp_in (nI (40 * m + j)) 160 := vp_in_nI (by omega) (by decide)
      have cs : (nI (40 * m + j)).toNatClampNeg = 40 * m + j := nI_clamp (by omega)
      refine xi_t hj (by omega) (br_f (by decide) (nm_r (ix_40 m j) ?_))
      rw [cs]
      rcases pk_ix v3 (n := 4) (by decide) with z | z | ⟨f, hf, rfl⟩
      · exact br_t z (hY _ (br_f (by decide) ⟨wm, wi_te t3 hj (by omega) (br_f (by decide) (wi_f (n := 4) (Or.inl z) (br_t rfl ⟨rfl, J⟩)))⟩))
      · have y : ¬ v3 < 0 := fun w => absurd (Int32.lt_of_le_of_lt z w) (by decide)
        exact br_f y (br_t (Int32.lt_of_lt_of_le (by decide) z) (hY _ (br_f (by decide) ⟨wm, wi_te t3 hj (by omega) (br_f (by decide) (wi_f (n := 4) (Or.inr z) (br_t rfl ⟨rfl, J⟩)))⟩)))
      · have hM := sr_mk_24 g4.1
        have hf' : f = 0 ∨ f = 1 ∨ f = 2 ∨ f = 3 := by omega
        rcases hf' with rfl | rfl | rfl | rfl
        · refine br_f (by decide) (br_f (by decide) (br_t rfl ⟨ws, hY _ (br_f (by decide) ⟨wm, wi_te t3 hj (by omega) (br_f (by decide) (wi_t (n := 4) hf (by decide) (br_f (by decide) (nm_r (iy_40 m j) (br_t rfl ⟨ws, ?_, J⟩)))))⟩)⟩))
          rw [cs, g1]
        · refine br_f (by decide) (br_f (by decide) (br_f (by decide) (br_t rfl ⟨ws, ?_⟩)))
          rw [g4.2.2.1]
          refine ⟨25, xl_len hM ?_ 24 0 rfl⟩
          rw [sr_pc_mk q g4.1]
          refine hY _ (br_f (by decide) ⟨wm, wi_te t3 hj (by omega) (br_f (by decide) (wi_t (n := 4) hf (by decide) (br_f (by decide) (nm_r (iy_40 m j) (br_f (by decide) (br_t rfl ⟨ws, ?_, J⟩))))))⟩)
          rw [cs, g3]
        · refine br_f (by decide) (br_f (by decide) (br_f (by decide) (br_f (by decide) (br_t rfl ⟨ws, ?_⟩))))
          rw [g4.2.2.1]
          have i24 := (g4.1.1 0 g2).1
          refine ⟨I 0 + 1, xl_first hM i24 (fun i hi => sr_first g4.1 hi) (sr_bit_1 q g4.1 0 g2) ?_ (I 0) 0 (by omega)⟩
          have e24 : 24 * nI (40 * m + j) = nI (24 * (40 * m + j)) := pk_mul 24 _
          refine hY _ (br_f (by decide) ⟨wm, wi_te t3 hj (by omega) (br_f (by decide) (wi_t (n := 4) hf (by decide) (br_f (by decide) (nm_r (iy_40 m j) (br_f (by decide) (br_f (by decide) (br_t rfl ⟨ix_in e24 (by omega) (by decide), ?_, J⟩)))))))⟩)
          rw [ix_cl e24 (by omega)]
          exact (g4.2.1 0 g2).1
        · refine br_f (by decide) (br_f (by decide) (br_f (by decide) (br_f (by decide) (br_f (by decide) (br_t rfl ⟨ws, ?_⟩)))))
          rw [g4.2.2.1]
          obtain ⟨p, rfl⟩ : ∃ p, q = p + 1 := ⟨q - 1, by omega⟩
          have i24 := (g4.1.1 p (by omega)).1
          refine ⟨23 - I p + 1, ?_⟩
          have e23 : (23 : Int32) = nI (I p + (23 - I p)) := by rw [show I p + (23 - I p) = 23 from by omega]; rfl
          rw [e23]
          refine xl_last hM i24 (fun i hi => sr_last g4.1 hi) (sr_bit_1 (p + 1) g4.1 p (by omega)) ?_ (23 - I p) (by omega)
          have e24 : 24 * nI (40 * m + j) + nI (p + 1) - 1 = nI (24 * (40 * m + j) + p) := by rw [iy_24]; exact nI_pred _
          refine hY _ (br_f (by decide) ⟨wm, wi_te t3 hj (by omega) (br_f (by decide) (wi_t (n := 4) hf (by decide) (br_f (by decide) (nm_r (iy_40 m j) (br_f (by decide) (br_f (by decide) (br_f (by decide) ?_)))))))⟩)
          rw [cs, g3, ix_cl e24 (by omega)]
          exact ⟨ws, ix_in e24 (by omega) (by decide), (g4.2.1 p (by omega)).1, J⟩
  · exact hX _ (br_t rfl (hY _ (br_t rfl ⟨rfl, J⟩)))
