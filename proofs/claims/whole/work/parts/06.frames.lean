/-! part 06: invocations at work on both sides; bounds of the counts (pure) -/
/-- equal below n -/
def lo_R {α : Type} (n : Nat) (x y : Nat → α) : Prop := ∀ j, j < n → y j = x j
theorem lo_r {α : Type} {n : Nat} {x : Nat → α} : lo_R n x x := fun _ _ => rfl
theorem lo_u {n k : Nat} {x : Nat → Int32} {v : Int32} (h : n ≤ k) : lo_R n x (upd x k v) := fun _ hj => pk_un (by omega)
theorem lo_uL {n k : Nat} {x : Nat → Int64} {v : Int64} (h : n ≤ k) : lo_R n x (vp_updL x k v) := fun _ hj => pk_uLn (by omega)
theorem lo_t {α : Type} {n : Nat} {x y z : Nat → α} (h : lo_R n x y) (h' : lo_R n y z) : lo_R n x z := fun j hj => (h' j hj).trans (h j hj)
/-- invocation d: of method m, at instruction i, its variables -/
def fr_c (sz : Nat → Nat) (aw pl vs me pc vr : Nat → Int32) (d m i : Nat) : Prop :=
  m < 4 ∧ i < sz m ∧ aw d = nI m ∧ me d = nI m ∧ pl d = nI i ∧ pc d = nI i ∧ ∀ k, k < 4 → vs (4 * d + k) = vr (4 * d + k)
/-- its instruction i has been begun -/
def fr_b (sz : Nat → Nat) (aw pl vs rr : Nat → Int32) (rW : Nat → Int64) (me pc vr hi hw hl : Nat → Int32) (d m i : Nat) : Prop :=
  fr_c sz aw pl vs me pc vr d m i ∧ ∃ (n : Nat) (I W : Nat → Nat), hl d = nI (n + 1) ∧ en_R hi hw (24 * d) (n + 1) (rr d) (rW d) I W ∧ I n = i
/-- its instruction i is the next to be begun -/
def fr_a (sz : Nat → Nat) (aw pl vs rr : Nat → Int32) (rW wo : Nat → Int64) (me pc vr hi hw hl it : Nat → Int32) (d m i : Nat) : Prop :=
  fr_c sz aw pl vs me pc vr d m i ∧ ∃ (n : Nat) (I W : Nat → Nat), hl d = nI n ∧ en_R hi hw (24 * d) n (rr d) (rW d) I W ∧
    ((n = 0 ∧ wo d = 0) ∨ (0 < n ∧ I (n - 1) < i ∧ ∃ w, w < 4 ∧ it d = nI w ∧ wo d = lN (w * 4 ^ I (n - 1))))
theorem fr_c_lo {sz : Nat → Nat} {aw pl vs me pc vr aw' pl' vs' me' pc' vr' : Nat → Int32} {D d m i : Nat} (h : fr_c sz aw pl vs me pc vr d m i) (hd : d < D)
    (h1 : lo_R D aw aw') (h2 : lo_R D pl pl') (h3 : lo_R (4 * D) vs vs') (h4 : lo_R D me me') (h5 : lo_R D pc pc') (h6 : lo_R (4 * D) vr vr') : fr_c sz aw' pl' vs' me' pc' vr' d m i := by
  obtain ⟨a, b, c, e, f, g, k⟩ := h
  exact ⟨a, b, (h1 d hd).trans c, (h4 d hd).trans e, (h2 d hd).trans f, (h5 d hd).trans g, fun j hj => by rw [h3 _ (by omega), h6 _ (by omega)]; exact k j hj⟩
/-- all invocations below D, each with its instruction begun -/
def fr_L (sz : Nat → Nat) (aw pl vs rr : Nat → Int32) (rW : Nat → Int64) (me pc vr hi hw hl : Nat → Int32) (D : Nat) : Prop :=
  ∀ d, d < D → ∃ m i, fr_b sz aw pl vs rr rW me pc vr hi hw hl d m i
theorem fr_L_le {sz : Nat → Nat} {aw pl vs rr : Nat → Int32} {rW : Nat → Int64} {me pc vr hi hw hl : Nat → Int32} {D D' : Nat} (h : fr_L sz aw pl vs rr rW me pc vr hi hw hl D) (hd : D' ≤ D) : fr_L sz aw pl vs rr rW me pc vr hi hw hl D' :=
  fun d hd' => h d (by omega)
theorem fr_L_lo {sz : Nat → Nat} {aw pl vs rr : Nat → Int32} {rW : Nat → Int64} {me pc vr hi hw hl aw' pl' vs' rr' : Nat → Int32} {rW' : Nat → Int64} {me' pc' vr' hi' hw' hl' : Nat → Int32} {D : Nat} (h : fr_L sz aw pl vs rr rW me pc vr hi hw hl D)
    (h1 : lo_R D aw aw') (h2 : lo_R D pl pl') (h3 : lo_R (4 * D) vs vs') (h4 : lo_R D rr rr') (h5 : lo_R D rW rW') (h6 : lo_R D me me') (h7 : lo_R D pc pc') (h8 : lo_R (4 * D) vr vr') (h9 : lo_R (24 * D) hi hi') (hA : lo_R (24 * D) hw hw') (hB : lo_R D hl hl') :
    fr_L sz aw' pl' vs' rr' rW' me' pc' vr' hi' hw' hl' D := by
  intro d hd
  obtain ⟨m, i, hc, n, I, W, e1, e2, e3⟩ := h d hd
  have l := sr_len e2.1
  refine ⟨m, i, fr_c_lo hc hd h1 h2 h3 h6 h7 h8, n, I, W, (hB d hd).trans e1, ?_, e3⟩
  rw [h4 d hd, h5 d hd]
  exact en_keep e2 (fun j hj => h9 _ (by omega)) (fun j hj => hA _ (by omega))
theorem fr_L_s {sz : Nat → Nat} {aw pl vs rr : Nat → Int32} {rW : Nat → Int64} {me pc vr hi hw hl : Nat → Int32} {D m i : Nat} (h : fr_L sz aw pl vs rr rW me pc vr hi hw hl D) (hb : fr_b sz aw pl vs rr rW me pc vr hi hw hl D m i) : fr_L sz aw pl vs rr rW me pc vr hi hw hl (D + 1) := by
  intro d hd
  rcases Nat.lt_or_ge d D with z | z
  · exact h d z
  · have e : d = D := by omega
    rw [e]; exact ⟨m, i, hb⟩
/-- begin: the row grows by the instruction -/
theorem fr_begin {sz : Nat → Nat} {aw pl vs rr : Nat → Int32} {rW wo : Nat → Int64} {me pc vr hi hw hl it : Nat → Int32} {d m i : Nat} (hs : sz m ≤ 24) (h : fr_a sz aw pl vs rr rW wo me pc vr hi hw hl it d m i) :
    ∃ n, n < 24 ∧ hl d = nI n ∧ fr_b sz aw pl vs (upd rr d (rr d ||| ((1 : Int32) <<< (pl d &&& 31)))) (vp_updL rW d (rW d ||| wo d)) me pc vr (upd hi (24 * d + n) (pc d)) (upd hw (24 * d + n) (if n = 0 then 0 else it d)) (upd hl d (nI (n + 1))) d m i := by
  obtain ⟨hc, n, I, W, e1, e2, e3⟩ := h
  obtain ⟨hm, hi', ha, hme, hp, hpc, hv⟩ := id hc
  have l24 : i < 24 := by omega
  have hlast : 0 < n → I (n - 1) < i := fun z => by
    rcases e3 with ⟨y, _⟩ | ⟨_, y, _⟩
    · omega
    · exact y
  have hn : n < 24 := by
    rcases Nat.eq_zero_or_pos n with z | z
    · omega
    · have := sr_ge e2.1 (n - 1) (by omega)
      have := hlast z
      omega
  obtain ⟨w, hw4, hw0, hwv, hwo⟩ : ∃ w, w < 4 ∧ (n = 0 → w = 0) ∧ (if n = 0 then 0 else it d) = nI w ∧ (rW d ||| wo d) = lN (sr_we I W n + (if n = 0 then 0 else w * 4 ^ I (n - 1))) := by
    rcases e3 with ⟨y, y2⟩ | ⟨y, y2, w, y3, y4, y5⟩
    · subst y
      refine ⟨0, by omega, fun _ => rfl, rfl, ?_⟩
      rw [e2.2.2.2, y2, if_pos rfl]
      show lN 0 ||| (0 : Int64) = lN 0
      decide
    · refine ⟨w, y3, fun z => by omega, by rw [if_neg (by omega)]; exact y4, ?_⟩
      obtain ⟨n', rfl⟩ : ∃ n', n = n' + 1 := ⟨n - 1, by omega⟩
      rw [if_neg (by omega), e2.2.2.2, y5]
      have h1 := sr_we_lt n' e2.1
      rw [Nat.add_sub_cancel] at y2 ⊢
      have h2 : 4 ^ (I n' + 1) ≤ 4 ^ 24 := Nat.pow_le_pow_right (by decide) (by omega)
      have h3 : w * 4 ^ I n' ≤ 3 * 4 ^ I n' := Nat.mul_le_mul_right _ (by omega)
      rw [Nat.pow_succ] at h2
      have h4 : (4 : Nat) ^ 24 < 2 ^ 60 := by decide
      exact g_or' (k := 2 * I n') (by rw [Nat.pow_mul]) h1 (by omega)
  have hk := sr_ok_s e2.1 l24 hw4 hlast hw0
  have hcg := sr_cong (I := I) (W := W) (J := fun j => if j = n then i else I j) (V := fun j => if j = n then w else W j) n (fun j hj => by
    have : ¬ j = n := by omega
    simp only [if_neg this]; exact ⟨trivial, trivial⟩)
  have hmk : sr_mk I n < 2 ^ i := sr_mk_lt n i e2.1 (fun j hj => by
    rcases Nat.lt_or_ge j (n - 1) with z | z
    · have h1 := sr_mono e2.1 (n - 1) j z (by omega)
      have h2 := hlast (by omega)
      omega
    · have e : j = n - 1 := by omega
      rw [e]; exact hlast (by omega))
  refine ⟨n, hn, e1, hc, n, fun j => if j = n then i else I j, fun j => if j = n then w else W j, pk_us, ⟨hk, fun j hj => ?_, ?_, ?_⟩, ?_⟩
  · by_cases z : j = n
    · subst z
      rw [pk_us, pk_us, hpc, hwv]
      simp
    · rw [pk_un (by omega), pk_un (by omega)]
      simp only [if_neg z]
      exact e2.2.1 j (by omega)
  · rw [pk_us, hp, e2.2.2.1, nu_orbit l24 hmk, sr_mk_s, ← hcg.1]
    simp
  · rw [pk_uLs, hwo]
    cases n with
    | zero => rfl
    | succ n =>
      rw [sr_we_s, ← hcg.2]
      have : ¬ n = n + 1 := by omega
      simp [this]
  · simp
/-! bounds: no count outgrows the load -/
def tb_R (D L : Nat) (tk : Nat → Int32) : Prop := ∀ j, j < 384 → ∃ t, tk j = nI t ∧ t + D ≤ L
theorem tb_w {D L D' L' : Nat} {tk : Nat → Int32} (h : tb_R D L tk) (hd : D' + L ≤ D + L') : tb_R D' L' tk :=
  fun j hj => by
    obtain ⟨t, a, b⟩ := h j hj
    exact ⟨t, a, by omega⟩
theorem tb_inc {D L k : Nat} {tk : Nat → Int32} (h : tb_R D L tk) (hk : k < 384) : tb_R D (L + 1) (upd tk k (tk k + 1)) := by
  intro j hj
  by_cases z : j = k
  · obtain ⟨t, a, b⟩ := h k hk
    rw [z, pk_us, a, nI_1]
    exact ⟨t + 1, rfl, by omega⟩
  · obtain ⟨t, a, b⟩ := h j hj
    rw [pk_un z]
    exact ⟨t, a, by omega⟩
