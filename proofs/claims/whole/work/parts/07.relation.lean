/-! part 07: the relation's groups and what keeps them (pure) -/
def sz_f (x : Nat → Int32) (b : Nat) : Nat := (x b).toNatClampNeg
/-- the first N cells hold naturals up to M -/
def rg_R (N M : Nat) (x : Nat → Int32) : Prop := ∀ b, b < N → ∃ n, n ≤ M ∧ x b = nI n
theorem rg_at {N M : Nat} {x : Nat → Int32} (h : rg_R N M x) (hM : M < 2 ^ 31) {b : Nat} (hb : b < N) : x b = nI (sz_f x b) ∧ sz_f x b ≤ M := by
  obtain ⟨n, h1, h2⟩ := h b hb
  have e : sz_f x b = n := by unfold sz_f; rw [h2]; exact nI_clamp (by omega)
  rw [e]
  exact ⟨h2, h1⟩
theorem rg_u {N M k n : Nat} {x : Nat → Int32} (h : rg_R N M x) (hn : n ≤ M) : rg_R N M (upd x k (nI n)) := by
  intro b hb
  by_cases z : b = k
  · rw [z, pk_us]; exact ⟨n, hn, rfl⟩
  · rw [pk_un z]; exact h b hb
theorem rg_cy {N M S T i : Nat} {x : Nat → Int32} (h : rg_R N M x) (hs : S + i ≤ N) : rg_R N M (cy_f S T i x x) := by
  intro b hb
  by_cases w : T ≤ b ∧ b < T + i
  · rw [cy_in w.1 w.2]; exact h _ (by omega)
  · rw [cy_out (by omega)]; exact h b hb
theorem rg_0 (N M : Nat) : rg_R N M (fun _ => 0) := fun _ _ => ⟨0, by omega, rfl⟩
theorem sz_us {x : Nat → Int32} {k n : Nat} (h : n < 2 ^ 31) : sz_f (upd x k (nI n)) k = n := by unfold sz_f; rw [pk_us]; exact nI_clamp h
theorem sz_un {x : Nat → Int32} {k b : Nat} {v : Int32} (h : b ≠ k) : sz_f (upd x k v) b = sz_f x b := by unfold sz_f; rw [pk_un h]
/-- counts, w cells an instruction: equal where the instruction is there, in use and kept -/
def ct_R (w : Nat) (xs xc yc kc : Nat → Int32) : Prop :=
  (∀ m, m < 4 → ∀ i, i < w * sz_f xs m → xc (24 * w * m + i) = yc (24 * w * m + i)) ∧
  (∀ b, b < 12 → ∀ i, i < w * sz_f xs (4 + b) → xc (96 * w + 24 * w * b + i) = kc (24 * w * b + i))
theorem ct_0 (w : Nat) (xs : Nat → Int32) : ct_R w xs (fun _ => 0) (fun _ => 0) (fun _ => 0) := ⟨fun _ _ _ _ => rfl, fun _ _ _ _ => rfl⟩
theorem ct_u1 {xs xc yc kc : Nat → Int32} {k : Nat} {v : Int32} (h : ct_R 1 xs xc yc kc) (hk : k < 96) : ct_R 1 xs (upd xc k v) (upd yc k v) kc := by
  refine ⟨fun m hm i hi => ?_, fun b hb i hi => ?_⟩
  · by_cases z : 24 * 1 * m + i = k
    · rw [z, pk_us, pk_us]
    · rw [pk_un z, pk_un z]; exact h.1 m hm i hi
  · rw [pk_un (by omega)]; exact h.2 b hb i hi
theorem ct_u4 {xs xc yc kc : Nat → Int32} {k : Nat} {v : Int32} (h : ct_R 4 xs xc yc kc) (hk : k < 384) : ct_R 4 xs (upd xc k v) (upd yc k v) kc := by
  refine ⟨fun m hm i hi => ?_, fun b hb i hi => ?_⟩
  · by_cases z : 24 * 4 * m + i = k
    · rw [z, pk_us, pk_us]
    · rw [pk_un z, pk_un z]; exact h.1 m hm i hi
  · rw [pk_un (by omega)]; exact h.2 b hb i hi
theorem ct_at1 {xs xc yc kc : Nat → Int32} {m i : Nat} (h : ct_R 1 xs xc yc kc) (hm : m < 4) (hi : i < sz_f xs m) : xc (24 * m + i) = yc (24 * m + i) := by
  have := h.1 m hm i (by omega)
  rw [Nat.mul_one] at this
  exact this
theorem ct_at4 {xs xc yc kc : Nat → Int32} {m i k : Nat} (h : ct_R 4 xs xc yc kc) (hm : m < 4) (hi : i < sz_f xs m) (hk : k < 4) : xc (4 * (24 * m + i) + k) = yc (4 * (24 * m + i) + k) := by
  have := h.1 m hm (4 * i + k) (by omega)
  rw [show 24 * 4 * m + (4 * i + k) = 4 * (24 * m + i) + k from by omega] at this
  exact this
/-- count one more -/
theorem ct_inc1 {xs xc yc kc : Nat → Int32} {m i : Nat} (h : ct_R 1 xs xc yc kc) (hm : m < 4) (hi : i < sz_f xs m) (h24 : i < 24) : ct_R 1 xs (upd xc (24 * m + i) (xc (24 * m + i) + 1)) (upd yc (24 * m + i) (yc (24 * m + i) + 1)) kc := by
  rw [← ct_at1 h hm hi]
  exact ct_u1 h (by omega)
theorem ct_inc4 {xs xc yc kc : Nat → Int32} {m i k : Nat} (h : ct_R 4 xs xc yc kc) (hm : m < 4) (hi : i < sz_f xs m) (h24 : i < 24) (hk : k < 4) : ct_R 4 xs (upd xc (4 * (24 * m + i) + k) (xc (4 * (24 * m + i) + k) + 1)) (upd yc (4 * (24 * m + i) + k) (yc (4 * (24 * m + i) + k) + 1)) kc := by
  rw [← ct_at4 h hm hi hk]
  exact ct_u4 h (by omega)
/-- sizes may change where no counts are left, or fall to 0; here: the draft's -/
theorem ct_sz {w : Nat} {xs xs' xc yc kc : Nat → Int32} (h : ct_R w xs xc yc kc) (e : ∀ b, b < 16 → sz_f xs' b = sz_f xs b) : ct_R w xs' xc yc kc := by
  refine ⟨fun m hm i hi => ?_, fun b hb i hi => ?_⟩
  · rw [e m (by omega)] at hi; exact h.1 m hm i hi
  · rw [e (4 + b) (by omega)] at hi; exact h.2 b hb i hi
/-- method m cleared on both sides, its size anything up to 24 -/
theorem ct_clr1 {xs xs' xc yc kc : Nat → Int32} {m : Nat} (h : ct_R 1 xs xc yc kc) (hm : m < 4) (hs : ∀ b, b < 16 → sz_f xs' b ≤ 24) (e : ∀ b, b < 16 → b ≠ m → sz_f xs' b = sz_f xs b) : ct_R 1 xs' (zr_f (24 * m) 24 xc) (zr_f (24 * m) 24 yc) kc := by
  refine ⟨fun m' hm' i hi => ?_, fun b hb i hi => ?_⟩
  · have hb := hs m' (by omega)
    by_cases z : m' = m
    · subst z
      rw [zr_in (by omega) (by omega), zr_in (by omega) (by omega)]
    · rw [e m' (by omega) z] at hi hb
      rw [zr_out (by omega), zr_out (by omega)]
      exact h.1 m' hm' i hi
  · rw [e (4 + b) (by omega) (by omega)] at hi
    rw [zr_out (by omega)]
    exact h.2 b hb i hi
theorem ct_clr4 {xs xs' xc yc kc : Nat → Int32} {m : Nat} (h : ct_R 4 xs xc yc kc) (hm : m < 4) (hs : ∀ b, b < 16 → sz_f xs' b ≤ 24) (e : ∀ b, b < 16 → b ≠ m → sz_f xs' b = sz_f xs b) : ct_R 4 xs' (zr_f (96 * m) 96 xc) (zr_f (96 * m) 96 yc) kc := by
  refine ⟨fun m' hm' i hi => ?_, fun b hb i hi => ?_⟩
  · have hb := hs m' (by omega)
    by_cases z : m' = m
    · subst z
      rw [zr_in (by omega) (by omega), zr_in (by omega) (by omega)]
    · rw [e m' (by omega) z] at hi hb
      rw [zr_out (by omega), zr_out (by omega)]
      exact h.1 m' hm' i hi
  · rw [e (4 + b) (by omega) (by omega)] at hi
    rw [zr_out (by omega)]
    exact h.2 b hb i hi
/-- kept: slot s of both sides holds what is in use -/
theorem ct_keep1 {xs xs' xc yc kc : Nat → Int32} {s : Nat} (h : ct_R 1 xs xc yc kc) (hs : s < 3) (hz : ∀ b, b < 16 → sz_f xs b ≤ 24) (e : ∀ b, b < 4 + 4 * s ∨ 8 + 4 * s ≤ b → sz_f xs' b = sz_f xs b) (e2 : ∀ m, m < 4 → sz_f xs' (4 + 4 * s + m) = sz_f xs m) :
    ct_R 1 xs' (cy_f 0 (96 + 96 * s) 96 xc xc) yc (cy_f 0 (96 * s) 96 kc yc) := by
  refine ⟨fun m hm i hi => ?_, fun b hb i hi => ?_⟩
  · rw [e m (by omega)] at hi
    have := hz m (by omega)
    rw [cy_out (by omega)]
    exact h.1 m hm i hi
  · by_cases w : 4 * s ≤ b ∧ b < 4 * s + 4
    · obtain ⟨m, rfl⟩ : ∃ m, b = 4 * s + m := ⟨b - 4 * s, by omega⟩
      rw [show 4 + (4 * s + m) = 4 + 4 * s + m from by omega, e2 m (by omega)] at hi
      have := hz m (by omega)
      rw [cy_in (by omega) (by omega), cy_in (by omega) (by omega)]
      have := h.1 m (by omega) i hi
      rw [show 0 + (96 * 1 + 24 * 1 * (4 * s + m) + i - (96 + 96 * s)) = 24 * 1 * m + i from by omega, show 0 + (24 * 1 * (4 * s + m) + i - 96 * s) = 24 * 1 * m + i from by omega]
      exact this
    · rw [e (4 + b) (by omega)] at hi
      have := hz (4 + b) (by omega)
      rw [cy_out (by omega), cy_out (by omega)]
      exact h.2 b hb i hi
theorem ct_keep4 {xs xs' xc yc kc : Nat → Int32} {s : Nat} (h : ct_R 4 xs xc yc kc) (hs : s < 3) (hz : ∀ b, b < 16 → sz_f xs b ≤ 24) (e : ∀ b, b < 4 + 4 * s ∨ 8 + 4 * s ≤ b → sz_f xs' b = sz_f xs b) (e2 : ∀ m, m < 4 → sz_f xs' (4 + 4 * s + m) = sz_f xs m) :
    ct_R 4 xs' (cy_f 0 (384 + 384 * s) 384 xc xc) yc (cy_f 0 (384 * s) 384 kc yc) := by
  refine ⟨fun m hm i hi => ?_, fun b hb i hi => ?_⟩
  · rw [e m (by omega)] at hi
    have := hz m (by omega)
    rw [cy_out (by omega)]
    exact h.1 m hm i hi
  · by_cases w : 4 * s ≤ b ∧ b < 4 * s + 4
    · obtain ⟨m, rfl⟩ : ∃ m, b = 4 * s + m := ⟨b - 4 * s, by omega⟩
      rw [show 4 + (4 * s + m) = 4 + 4 * s + m from by omega, e2 m (by omega)] at hi
      have := hz m (by omega)
      rw [cy_in (by omega) (by omega), cy_in (by omega) (by omega)]
      have := h.1 m (by omega) i hi
      rw [show 0 + (96 * 4 + 24 * 4 * (4 * s + m) + i - (384 + 384 * s)) = 24 * 4 * m + i from by omega, show 0 + (24 * 4 * (4 * s + m) + i - 384 * s) = 24 * 4 * m + i from by omega]
      exact this
    · rw [e (4 + b) (by omega)] at hi
      have := hz (4 + b) (by omega)
      rw [cy_out (by omega), cy_out (by omega)]
      exact h.2 b hb i hi
/-- merged: method m gets what is kept at bank 4 + b of the same size -/
theorem ct_mrg1 {xs xc yc kc : Nat → Int32} {m b : Nat} (h : ct_R 1 xs xc yc kc) (hm : m < 4) (hb : b < 12) (hz : ∀ b, b < 16 → sz_f xs b ≤ 24) (e : sz_f xs (4 + b) = sz_f xs m) :
    ct_R 1 xs (ad_f (96 + 24 * b) (24 * m) 24 xc xc) (ad_f (24 * b) (24 * m) (sz_f xs m) yc kc) kc := by
  refine ⟨fun m' hm' i hi => ?_, fun b' hb' i hi => ?_⟩
  · have := hz m' (by omega)
    have := hz m (by omega)
    by_cases z : m' = m
    · subst z
      rw [ad_in (by omega) (by omega), ad_in (by omega) (by omega), h.1 m' hm' i hi]
      have := h.2 b hb i (by omega)
      rw [show 96 + 24 * b + (24 * 1 * m' + i - 24 * m') = 96 * 1 + 24 * 1 * b + i from by omega, show 24 * b + (24 * 1 * m' + i - 24 * m') = 24 * 1 * b + i from by omega, this]
    · rw [ad_out (by omega), ad_out (by omega)]
      exact h.1 m' hm' i hi
  · rw [ad_out (by omega)]
    exact h.2 b' hb' i hi
theorem ct_mrg4 {xs xc yc kc : Nat → Int32} {m b : Nat} (h : ct_R 4 xs xc yc kc) (hm : m < 4) (hb : b < 12) (hz : ∀ b, b < 16 → sz_f xs b ≤ 24) (e : sz_f xs (4 + b) = sz_f xs m) :
    ct_R 4 xs (ad_f (384 + 96 * b) (96 * m) 96 xc xc) (ad_f (96 * b) (96 * m) (4 * sz_f xs m) yc kc) kc := by
  refine ⟨fun m' hm' i hi => ?_, fun b' hb' i hi => ?_⟩
  · have := hz m' (by omega)
    have := hz m (by omega)
    by_cases z : m' = m
    · subst z
      rw [ad_in (by omega) (by omega), ad_in (by omega) (by omega), h.1 m' hm' i hi]
      have := h.2 b hb i (by omega)
      rw [show 384 + 96 * b + (24 * 4 * m' + i - 96 * m') = 96 * 4 + 24 * 4 * b + i from by omega, show 96 * b + (24 * 4 * m' + i - 96 * m') = 24 * 4 * b + i from by omega, this]
    · rw [ad_out (by omega), ad_out (by omega)]
      exact h.1 m' hm' i hi
  · rw [ad_out (by omega)]
    exact h.2 b' hb' i hi
theorem ad_zr {S T c : Nat} {x : Nat → Int32} (h : S + c ≤ T ∨ T + c ≤ S) : ad_f S T c (zr_f T c x) (zr_f T c x) = cy_f S T c x x := by
  funext j
  by_cases w : T ≤ j ∧ j < T + c
  · rw [ad_in w.1 w.2, cy_in w.1 w.2, zr_in w.1 w.2, zr_out (by omega), Int32.zero_add]
  · rw [ad_out (by omega), cy_out (by omega), zr_out (by omega)]
/-- what is kept of the taken counts stays below the load kept with it -/
def kt_R (s K : Nat) (xt : Nat → Int32) : Prop := ∀ j, j < 384 → ∃ t, t ≤ K ∧ xt (384 + 384 * s + j) = nI t
theorem kt_lo {s K k : Nat} {xt : Nat → Int32} {v : Int32} (h : kt_R s K xt) (hk : k < 384) : kt_R s K (upd xt k v) := fun j hj => by
  rw [pk_un (by omega)]; exact h j hj
/-- slots -/
def sl_R (xu xl xt yk yl : Nat → Int32) : Prop := ∀ s, s < 3 → xu s = yk s ∧ (xu s = 0 ∨ xu s = 1) ∧ ∃ K, K ≤ 1000000200 ∧ xl s = nI K ∧ yl s = nI K ∧ kt_R s K xt
theorem sl_t {xu xl xt xt' yk yl : Nat → Int32} (h : sl_R xu xl xt yk yl) (e : ∀ j, 384 ≤ j → xt' j = xt j) : sl_R xu xl xt' yk yl := fun s hs => by
  obtain ⟨h1, h2, K, h3, h4, h5, h6⟩ := h s hs
  exact ⟨h1, h2, K, h3, h4, h5, fun j hj => by rw [e _ (by omega)]; exact h6 j hj⟩
