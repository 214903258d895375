/-! part 05: the tables of stretches on both sides (pure) -/
theorem sr_ge {I W : Nat → Nat} {n : Nat} (h : sr_ok I W n) : ∀ j, j < n → j ≤ I j := by
  intro j
  induction j with
  | zero => intro _; exact Nat.zero_le _
  | succ j ih =>
    intro hj
    have h1 := ih (by omega)
    have h2 := h.2.1 j hj
    omega
theorem sr_len {I W : Nat → Nat} {n : Nat} (h : sr_ok I W n) : n ≤ 24 := by
  rcases Nat.eq_zero_or_pos n with z | z
  · omega
  · have h1 := sr_ge h (n - 1) (by omega)
    have h2 := (h.1 (n - 1) (by omega)).1
    omega
/-- cells base .. base + n - 1 of A and B hold the row I, W; R and V are its mask and its packed ways -/
def en_R (A B : Nat → Int32) (base n : Nat) (R : Int32) (V : Int64) (I W : Nat → Nat) : Prop :=
  sr_ok I W n ∧ (∀ j, j < n → A (base + j) = nI (I j) ∧ B (base + j) = nI (W j)) ∧ R = nI (sr_mk I n) ∧ V = lN (sr_we I W n)
theorem en_keep {A B A' B' : Nat → Int32} {base n : Nat} {R : Int32} {V : Int64} {I W : Nat → Nat} (h : en_R A B base n R V I W) (ha : ∀ j, j < n → A' (base + j) = A (base + j)) (hb : ∀ j, j < n → B' (base + j) = B (base + j)) : en_R A' B' base n R V I W :=
  ⟨h.1, fun j hj => ⟨(ha j hj).trans (h.2.1 j hj).1, (hb j hj).trans (h.2.1 j hj).2⟩, h.2.2⟩
theorem en_move {A B A' B' : Nat → Int32} {base base' n : Nat} {R : Int32} {V : Int64} {I W : Nat → Nat} (h : en_R A B base n R V I W) (ha : ∀ j, j < n → A' (base' + j) = A (base + j)) (hb : ∀ j, j < n → B' (base' + j) = B (base + j)) : en_R A' B' base' n R V I W :=
  ⟨h.1, fun j hj => ⟨(ha j hj).trans (h.2.1 j hj).1, (hb j hj).trans (h.2.1 j hj).2⟩, h.2.2⟩
theorem en_0 (A B : Nat → Int32) (base : Nat) (I W : Nat → Nat) : en_R A B base 0 0 0 I W :=
  ⟨sr_ok0 I W, fun j hj => absurd hj (by omega), rfl, rfl⟩
theorem en_pos {A B : Nat → Int32} {base n : Nat} {R : Int32} {V : Int64} {I W : Nat → Nat} (h : en_R A B base n R V I W) (hn : 0 < n) : ¬ R = 0 := by
  rw [h.2.2.1]
  exact nI_ne0 (sr_mk_pos I hn) (Nat.lt_trans (sr_mk_24 h.1) (by decide))
/-- equal masks and ways: equal rows -/
theorem en_same {A B A' B' : Nat → Int32} {base base' n n' : Nat} {R R' : Int32} {V V' : Int64} {I W I' W' : Nat → Nat} (h : en_R A B base n R V I W) (h' : en_R A' B' base' n' R' V' I' W') :
    (R = R' ∧ V = V') ↔ (n = n' ∧ ∀ j, j < n → A (base + j) = A' (base' + j) ∧ B (base + j) = B' (base' + j)) := by
  have l1 := sr_mk_24 h.1
  have l2 := sr_mk_24 h'.1
  have l3 := sr_we_48 h.1
  have l4 := sr_we_48 h'.1
  constructor
  · intro ⟨e1, e2⟩
    rw [h.2.2.1, h'.2.2.1, nI_eq (by omega) (by omega)] at e1
    rw [h.2.2.2, h'.2.2.2, pk_lEQ (by omega) (by omega)] at e2
    obtain ⟨e3, e4⟩ := sr_inj n n' h.1 h'.1 e1 e2
    refine ⟨e3, fun j hj => ?_⟩
    obtain ⟨a, b⟩ := e4 j hj
    rw [(h.2.1 j hj).1, (h.2.1 j hj).2, (h'.2.1 j (by omega)).1, (h'.2.1 j (by omega)).2, a, b]
    exact ⟨rfl, rfl⟩
  · intro ⟨e1, e2⟩
    subst e1
    have e : ∀ j, j < n → I j = I' j ∧ W j = W' j := by
      intro j hj
      have k1 := h.1.1 j hj
      have k2 := h'.1.1 j hj
      obtain ⟨a, b⟩ := e2 j hj
      rw [(h.2.1 j hj).1, (h'.2.1 j hj).1, nI_eq (by omega) (by omega)] at a
      rw [(h.2.1 j hj).2, (h'.2.1 j hj).2, nI_eq (by omega) (by omega)] at b
      exact ⟨a, b⟩
    obtain ⟨c1, c2⟩ := sr_cong n e
    rw [h.2.2.1, h'.2.2.1, h.2.2.2, h'.2.2.2, c1, c2]
    exact ⟨rfl, rfl⟩
/-- one stretch told apart: cell s on both sides -/
def st_1 (sg sr : Nat → Int32) (sw : Nat → Int64) (ri rv rl ti : Nat → Int32) (s : Nat) : Prop :=
  sg s = ti s ∧ ∃ (n : Nat) (I W : Nat → Nat), 0 < n ∧ rl s = nI n ∧ en_R ri rv (24 * s) n (sr s) (sw s) I W
def st_R (sn sg sr : Nat → Int32) (sw : Nat → Int64) (ri rv rl ti to : Nat → Int32) : Prop :=
  ∀ m, m < 4 → ∃ t, t ≤ 40 ∧ sn m = nI t ∧ to m = nI t ∧ ∀ k, k < t → st_1 sg sr sw ri rv rl ti (40 * m + k)
theorem st_same {sg sr : Nat → Int32} {sw : Nat → Int64} {ri rv rl ti A B : Nat → Int32} {s base n : Nat} {R : Int32} {V : Int64} {I W : Nat → Nat} (h : st_1 sg sr sw ri rv rl ti s) (h' : en_R A B base n R V I W) :
    (sr s = R ∧ sw s = V) ↔ (rl s = nI n ∧ ∀ j, j < n → ri (24 * s + j) = A (base + j) ∧ rv (24 * s + j) = B (base + j)) := by
  obtain ⟨_, n', I', W', h0, h1, h2⟩ := h
  have l1 := sr_len h2.1
  have l2 := sr_len h'.1
  rw [en_same h2 h', h1, nI_eq (by omega) (by omega)]
  constructor
  · intro ⟨a, b⟩; exact ⟨a, fun j hj => b j (by omega)⟩
  · intro ⟨a, b⟩; exact ⟨a, fun j hj => b j (by omega)⟩
/-- the first of t that meets C, or none -/
theorem st_find (C : Nat → Prop) : ∀ t : Nat, ∃ k, k ≤ t ∧ (∀ j, j < k → ¬ C j) ∧ (k < t → C k) := by
  intro t
  induction t with
  | zero => exact ⟨0, by omega, fun j hj => absurd hj (by omega), fun h => absurd h (by omega)⟩
  | succ t ih =>
    obtain ⟨k, h1, h2, h3⟩ := ih
    rcases Nat.lt_or_ge k t with z | z
    · exact ⟨k, by omega, h2, fun _ => h3 z⟩
    · have e : k = t := by omega
      subst e
      rcases Classical.em (C k) with y | y
      · exact ⟨k, by omega, h2, fun _ => y⟩
      · exact ⟨k + 1, by omega, fun j hj => by
          rcases Nat.lt_or_ge j k with w | w
          · exact h2 j w
          · have : j = k := by omega
            rw [this]; exact y, fun h => absurd h (by omega)⟩
/-- a stretch gone once more -/
theorem st_again {sn sg sr : Nat → Int32} {sw : Nat → Int64} {ri rv rl ti to : Nat → Int32} {s : Nat} (h : st_R sn sg sr sw ri rv rl ti to) (e : sg s = ti s) :
    st_R sn (upd sg s (sg s + 1)) sr sw ri rv rl (upd ti s (ti s + 1)) to := by
  intro m hm
  obtain ⟨t, h1, h2, h3, h4⟩ := h m hm
  refine ⟨t, h1, h2, h3, fun k hk => ?_⟩
  obtain ⟨h5, h6⟩ := h4 k hk
  refine ⟨?_, h6⟩
  by_cases z : 40 * m + k = s
  · rw [z, pk_us, pk_us, e]
  · rw [pk_un z, pk_un z, h5]
/-- a new stretch -/
theorem st_new {sn sg sr : Nat → Int32} {sw : Nat → Int64} {ri rv rl ti to A B : Nat → Int32} {m t base n : Nat} {R : Int32} {V : Int64} {I W : Nat → Nat} (h : st_R sn sg sr sw ri rv rl ti to) (hm : m < 4) (ht : sn m = nI t) (ht4 : t < 40)
    (hr : en_R A B base n R V I W) (hn : 0 < n) :
    st_R (upd sn m (nI (t + 1))) (upd sg (40 * m + t) 1) (upd sr (40 * m + t) R) (vp_updL sw (40 * m + t) V) (cy_f base (24 * (40 * m + t)) n ri A) (cy_f base (24 * (40 * m + t)) n rv B) (upd rl (40 * m + t) (nI n)) (upd ti (40 * m + t) 1) (upd to m (nI (t + 1))) := by
  have l := sr_len hr.1
  have old : ∀ m' k t', m' < 4 → t' ≤ 40 → sn m' = nI t' → k < t' → st_1 sg sr sw ri rv rl ti (40 * m' + k) → st_1 (upd sg (40 * m + t) 1) (upd sr (40 * m + t) R) (vp_updL sw (40 * m + t) V) (cy_f base (24 * (40 * m + t)) n ri A) (cy_f base (24 * (40 * m + t)) n rv B) (upd rl (40 * m + t) (nI n)) (upd ti (40 * m + t) 1) (40 * m' + k) := by
    intro m' k t' hm' ht' e hk ⟨h5, n', I', W', h6, h7, h8⟩
    have z : 40 * m' + k ≠ 40 * m + t := by
      by_cases y : m' = m
      · subst y
        rw [ht, nI_eq (by omega) (by omega)] at e
        omega
      · omega
    have l' := sr_len h8.1
    refine ⟨by rw [pk_un z, pk_un z]; exact h5, n', I', W', h6, by rw [pk_un z]; exact h7, ?_⟩
    rw [pk_un z, pk_uLn z]
    refine en_keep h8 (fun j hj => cy_out ?_) (fun j hj => cy_out ?_)
    · omega
    · omega
  intro m' hm'
  obtain ⟨t', h1, h2, h3, h4⟩ := h m' hm'
  by_cases y : m' = m
  · subst y
    have e : t' = t := by
      rw [ht, nI_eq (by omega) (by omega)] at h2
      exact h2.symm
    subst e
    refine ⟨t' + 1, by omega, pk_us, pk_us, fun k hk => ?_⟩
    rcases Nat.lt_or_ge k t' with z | z
    · exact old m' k t' hm' h1 h2 z (h4 k z)
    · have z : k = t' := by omega
      subst z
      refine ⟨by rw [pk_us, pk_us], n, I, W, hn, pk_us, ?_⟩
      rw [pk_us, pk_uLs]
      refine en_move hr (fun j hj => ?_) (fun j hj => ?_)
      · rw [cy_in (by omega) (by omega), Nat.add_sub_cancel_left]
      · rw [cy_in (by omega) (by omega), Nat.add_sub_cancel_left]
  · refine ⟨t', h1, by rw [pk_un y]; exact h2, by rw [pk_un y]; exact h3, fun k hk => old m' k t' hm' h1 h2 hk (h4 k hk)⟩
/-- no stretches of m any more -/
theorem st_none {sn sg sr : Nat → Int32} {sw : Nat → Int64} {ri rv rl ti to : Nat → Int32} {m : Nat} (h : st_R sn sg sr sw ri rv rl ti to) : st_R (upd sn m 0) sg sr sw ri rv rl ti (upd to m 0) := by
  intro m' hm'
  by_cases y : m' = m
  · subst y
    exact ⟨0, by omega, pk_us, pk_us, fun k hk => absurd hk (by omega)⟩
  · obtain ⟨t', h1, h2, h3, h4⟩ := h m' hm'
    exact ⟨t', h1, by rw [pk_un y]; exact h2, by rw [pk_un y]; exact h3, h4⟩
theorem st_init {sg sr : Nat → Int32} {sw : Nat → Int64} {ri rv rl ti : Nat → Int32} : st_R (fun _ => 0) sg sr sw ri rv rl ti (fun _ => 0) :=
  fun _ _ => ⟨0, by omega, rfl, rfl, fun k hk => absurd hk (by omega)⟩
