/-! part 02: numbers, and the rows of a stretch as a mask and as packed ways (pure) -/
theorem nu_or (a b : Nat) : nI a ||| nI b = nI (a ||| b) := by
  apply Int32.toBitVec_inj.1
  show BitVec.ofNat 32 a ||| BitVec.ofNat 32 b = BitVec.ofNat 32 (a ||| b)
  apply BitVec.eq_of_getLsbD_eq
  intro i hi
  simp [hi]
theorem nu_inj {a b : Nat} (h : nI a = nI b) (ha : a < 2 ^ 31) (hb : b < 2 ^ 31) : a = b := (nI_eq ha hb).mp h
/-- 1 << p -/
theorem nu_sh {p : Nat} (hp : p < 24) : (1 : Int32) <<< (nI p &&& 31) = nI (2 ^ p) := by
  have h : (2 : Nat) ^ p < 2 ^ 24 := Nat.pow_lt_pow_right (by decide) hp
  have := pk_shlN (n := 1) (nI p &&& 31) p (s_l p (by omega)) (by omega)
  rw [Nat.one_mul] at this
  exact this
/-- a mask and one bit above all of its own -/
theorem nu_orbit {a p : Nat} (hp : p < 24) (ha : a < 2 ^ p) : nI a ||| ((1 : Int32) <<< (nI p &&& 31)) = nI (a + 2 ^ p) := by
  rw [nu_sh hp, nu_or]
  have h := Nat.two_pow_add_eq_or_of_lt ha 1
  rw [Nat.mul_one] at h
  rw [Nat.or_comm, ← h, Nat.add_comm]
/-- the bit at i, as the class reads it -/
theorem nu_bit {M i : Nat} (hM : M < 2 ^ 24) (hi : i < 24) : (nI M >>> (nI i &&& 31)) &&& 1 = nI (M / 2 ^ i % 2) := by
  rw [pk_shrN (by omega) (nI i &&& 31) i (s_l i (by omega))]
  have h : M / 2 ^ i ≤ M := Nat.div_le_self _ _
  exact pk_andN (n := M / 2 ^ i) (by omega) 1 (by decide)
/-- the way packed at its instruction -/
theorem nu_way {k i : Nat} (hk : k < 4) (hi : i < 24) : (nI k).toInt64 <<< ((nI (2 * i)).toInt64 &&& 63) = lN (k * 4 ^ i) := by
  rw [nI_l (by omega), wb_shl k (by omega), Nat.pow_mul]

def sr_mk (I : Nat → Nat) : Nat → Nat
  | 0 => 0
  | n + 1 => sr_mk I n + 2 ^ I n
def sr_we (I W : Nat → Nat) : Nat → Nat
  | 0 => 0
  | n + 1 => sr_we I W n + (if n = 0 then 0 else W n * 4 ^ I (n - 1))
theorem sr_mk_s (I : Nat → Nat) (n : Nat) : sr_mk I (n + 1) = sr_mk I n + 2 ^ I n := rfl
theorem sr_we_1 (I W : Nat → Nat) : sr_we I W 1 = 0 := rfl
theorem sr_we_s (I W : Nat → Nat) (n : Nat) : sr_we I W (n + 2) = sr_we I W (n + 1) + W (n + 1) * 4 ^ I n := rfl
/-- a row: numbers below 24 that rise, ways below 4, the first way 0 -/
def sr_ok (I W : Nat → Nat) (n : Nat) : Prop := (∀ j, j < n → I j < 24 ∧ W j < 4) ∧ (∀ j, j + 1 < n → I j < I (j + 1)) ∧ (0 < n → W 0 = 0)
theorem sr_ok0 (I W : Nat → Nat) : sr_ok I W 0 := ⟨fun j h => absurd h (by omega), fun j h => absurd h (by omega), fun h => absurd h (by omega)⟩
theorem sr_okp {I W : Nat → Nat} {n : Nat} (h : sr_ok I W (n + 1)) : sr_ok I W n :=
  ⟨fun j hj => h.1 j (by omega), fun j hj => h.2.1 j (by omega), fun _ => h.2.2 (by omega)⟩
theorem sr_mono {I W : Nat → Nat} {n : Nat} (h : sr_ok I W n) : ∀ b a, a < b → b < n → I a < I b := by
  intro b
  induction b with
  | zero => intro a ha; omega
  | succ b ih =>
    intro a ha hb
    have h1 := h.2.1 b hb
    rcases Nat.lt_or_ge a b with z | z
    · exact Nat.lt_trans (ih a z (by omega)) h1
    · have : a = b := by omega
      rw [this]; exact h1
theorem sr_pow2 (p : Nat) : 2 ^ (p + 1) = 2 ^ p + 2 ^ p := by rw [Nat.pow_succ]; omega
theorem sr_mk_lt {I W : Nat → Nat} : ∀ n p, sr_ok I W n → (∀ j, j < n → I j < p) → sr_mk I n < 2 ^ p := by
  intro n
  induction n with
  | zero => intro p _ _; exact Nat.two_pow_pos p
  | succ n ih =>
    intro p h hp
    have h1 := ih (I n) (sr_okp h) (fun j hj => sr_mono h n j hj (by omega))
    have h2 : I n + 1 ≤ p := hp n (by omega)
    have h3 : 2 ^ (I n + 1) ≤ 2 ^ p := Nat.pow_le_pow_right (by decide) h2
    rw [sr_pow2] at h3
    rw [sr_mk_s]
    omega
theorem sr_mk_ltI {I W : Nat → Nat} {n : Nat} (h : sr_ok I W (n + 1)) : sr_mk I n < 2 ^ I n :=
  sr_mk_lt n (I n) (sr_okp h) (fun j hj => sr_mono h n j hj (by omega))
theorem sr_mk_24 {I W : Nat → Nat} {n : Nat} (h : sr_ok I W n) : sr_mk I n < 2 ^ 24 :=
  sr_mk_lt n 24 h (fun j hj => (h.1 j hj).1)
theorem sr_mk_pos (I : Nat → Nat) {n : Nat} (h : 0 < n) : 0 < sr_mk I n := by
  obtain ⟨m, rfl⟩ : ∃ m, n = m + 1 := ⟨n - 1, by omega⟩
  rw [sr_mk_s]
  have := Nat.two_pow_pos (I m)
  omega
theorem sr_we_lt {I W : Nat → Nat} : ∀ n, sr_ok I W (n + 1) → sr_we I W (n + 1) < 4 ^ I n := by
  intro n
  induction n with
  | zero => intro _; rw [sr_we_1]; exact Nat.pow_pos (by decide)
  | succ n ih =>
    intro h
    have h1 := ih (sr_okp h)
    have h2 : I n + 1 ≤ I (n + 1) := h.2.1 n (by omega)
    have h3 : 4 ^ (I n + 1) ≤ 4 ^ I (n + 1) := Nat.pow_le_pow_right (by decide) h2
    have h4 : W (n + 1) * 4 ^ I n ≤ 3 * 4 ^ I n := Nat.mul_le_mul_right _ (by have := (h.1 (n + 1) (by omega)).2; omega)
    rw [Nat.pow_succ] at h3
    rw [sr_we_s]
    omega
/-- the packed ways of a row fit a long -/
theorem sr_we_48 {I W : Nat → Nat} {n : Nat} (h : sr_ok I W n) : sr_we I W n < 2 ^ 48 := by
  cases n with
  | zero => exact Nat.two_pow_pos 48
  | succ n =>
    have h1 := sr_we_lt n h
    have h2 : 4 ^ I n ≤ 4 ^ 24 := Nat.pow_le_pow_right (by decide) (by have := (h.1 n (by omega)).1; omega)
    exact Nat.lt_of_lt_of_le h1 (Nat.le_trans h2 (by decide))
theorem sr_dm {a b w v p : Nat} (ha : a < p) (hb : b < p) (h : a + w * p = b + v * p) : w = v ∧ a = b := by
  have h1 : (a + w * p) / p = (b + v * p) / p := by rw [h]
  rw [Nat.add_mul_div_right _ _ (by omega), Nat.add_mul_div_right _ _ (by omega), Nat.div_eq_of_lt ha, Nat.div_eq_of_lt hb] at h1
  have h2 : w = v := by omega
  rw [h2] at h
  exact ⟨h2, by omega⟩
/-- the highest bit of two equal sums -/
theorem sr_top {a b p q : Nat} (ha : a < 2 ^ p) (hb : b < 2 ^ q) (h : a + 2 ^ p = b + 2 ^ q) : p = q ∧ a = b := by
  have e : p = q := by
    rcases Nat.lt_trichotomy p q with z | z | z
    · have := Nat.pow_le_pow_right (show 0 < 2 by decide) (show p + 1 ≤ q from z)
      rw [sr_pow2] at this
      omega
    · exact z
    · have := Nat.pow_le_pow_right (show 0 < 2 by decide) (show q + 1 ≤ p from z)
      rw [sr_pow2] at this
      omega
  rw [e] at h
  exact ⟨e, by omega⟩
/-- mask and packed ways tell rows apart -/
theorem sr_inj {I W J V : Nat → Nat} : ∀ n m, sr_ok I W n → sr_ok J V m → sr_mk I n = sr_mk J m → sr_we I W n = sr_we J V m → n = m ∧ ∀ j, j < n → I j = J j ∧ W j = V j := by
  intro n
  induction n with
  | zero =>
    intro m _ _ h _
    rcases Nat.eq_zero_or_pos m with z | z
    · exact ⟨z.symm, fun j hj => absurd hj (by omega)⟩
    · have := sr_mk_pos J z
      rw [← h] at this
      exact absurd this (by show ¬ 0 < 0; omega)
  | succ n ih =>
    intro m hI hJ h hw
    cases m with
    | zero =>
      have := sr_mk_pos I (Nat.succ_pos n)
      rw [h] at this
      exact absurd this (by show ¬ 0 < 0; omega)
    | succ m =>
      rw [sr_mk_s, sr_mk_s] at h
      obtain ⟨e1, e2⟩ := sr_top (sr_mk_ltI hI) (sr_mk_ltI hJ) h
      cases n with
      | zero =>
        have z : m = 0 := by
          rcases Nat.eq_zero_or_pos m with z | z
          · exact z
          · have := sr_mk_pos J z
            rw [← e2] at this
            exact absurd this (by show ¬ 0 < 0; omega)
        subst z
        refine ⟨rfl, fun j hj => ?_⟩
        have z : j = 0 := by omega
        subst z
        exact ⟨e1, by rw [hI.2.2 (by omega), hJ.2.2 (by omega)]⟩
      | succ n =>
        cases m with
        | zero =>
          have := sr_mk_pos I (Nat.succ_pos n)
          rw [e2] at this
          exact absurd this (by show ¬ 0 < 0; omega)
        | succ m =>
          have e3 := e2
          rw [sr_mk_s, sr_mk_s] at e3
          obtain ⟨e4, _⟩ := sr_top (sr_mk_ltI (sr_okp hI)) (sr_mk_ltI (sr_okp hJ)) e3
          rw [sr_we_s, sr_we_s, e4] at hw
          have hl := sr_we_lt n (sr_okp hI)
          rw [e4] at hl
          obtain ⟨e5, e6⟩ := sr_dm hl (sr_we_lt m (sr_okp hJ)) hw
          obtain ⟨e7, e8⟩ := ih (m + 1) (sr_okp hI) (sr_okp hJ) e2 e6
          refine ⟨by omega, fun j hj => ?_⟩
          have z : n = m := by omega
          subst z
          rcases Nat.lt_or_ge j (n + 1) with y | y
          · exact e8 j y
          · have z : j = n + 1 := by omega
            subst z
            exact ⟨e1, e5⟩
theorem sr_cong {I W J V : Nat → Nat} : ∀ n, (∀ j, j < n → I j = J j ∧ W j = V j) → sr_mk I n = sr_mk J n ∧ sr_we I W n = sr_we J V n := by
  intro n
  induction n with
  | zero => intro _; exact ⟨rfl, rfl⟩
  | succ n ih =>
    intro h
    obtain ⟨h1, h2⟩ := ih (fun j hj => h j (by omega))
    refine ⟨by rw [sr_mk_s, sr_mk_s, h1, (h n (by omega)).1], ?_⟩
    cases n with
    | zero => rfl
    | succ n => rw [sr_we_s, sr_we_s, h2, (h (n + 1) (by omega)).2, (h n (by omega)).1]
/-- one instruction more -/
theorem sr_ok_s {I W : Nat → Nat} {n i w : Nat} (h : sr_ok I W n) (hi : i < 24) (hw : w < 4) (hl : 0 < n → I (n - 1) < i) (h0 : n = 0 → w = 0) :
    sr_ok (fun j => if j = n then i else I j) (fun j => if j = n then w else W j) (n + 1) := by
  refine ⟨fun j hj => ?_, fun j hj => ?_, fun _ => ?_⟩
  · by_cases z : j = n
    · simp only [if_pos z]; exact ⟨hi, hw⟩
    · simp only [if_neg z]; exact h.1 j (by omega)
  · by_cases z : j + 1 = n
    · have y : ¬ j = n := by omega
      simp only [if_pos z, if_neg y]
      have := hl (by omega)
      have e : n - 1 = j := by omega
      rw [e] at this
      exact this
    · have y : ¬ j = n := by omega
      simp only [if_neg z, if_neg y]; exact h.2.1 j (by omega)
  · by_cases z : 0 = n
    · simp only [if_pos z]; exact h0 z.symm
    · simp only [if_neg z]; exact h.2.2 (by omega)
/-! bits -/
def sr_pc (M : Nat) : Nat → Nat
  | 0 => 0
  | b + 1 => sr_pc M b + M / 2 ^ b % 2
theorem sr_bit_lo {M p i : Nat} (h : i < p) : (M + 2 ^ p) / 2 ^ i % 2 = M / 2 ^ i % 2 := by
  have e : 2 ^ p = 2 ^ i * (2 * 2 ^ (p - i - 1)) := by
    rw [← Nat.mul_assoc, Nat.mul_comm (2 ^ i) 2, Nat.mul_assoc, ← Nat.pow_add, ← Nat.pow_succ']
    congr 1
    omega
  rw [e, Nat.add_mul_div_left _ _ (Nat.two_pow_pos i)]
  omega
theorem sr_bit_eq {M p : Nat} (hM : M < 2 ^ p) : (M + 2 ^ p) / 2 ^ p % 2 = 1 := by
  rw [Nat.add_div_right _ (Nat.two_pow_pos p), Nat.div_eq_of_lt hM]
theorem sr_bit_hi {M p i : Nat} (hM : M < 2 ^ p) (h : p < i) : (M + 2 ^ p) / 2 ^ i % 2 = 0 := by
  have := Nat.pow_le_pow_right (show 0 < 2 by decide) (show p + 1 ≤ i from h)
  rw [sr_pow2] at this
  rw [Nat.div_eq_of_lt (by omega)]
theorem sr_bit_z {M p i : Nat} (hM : M < 2 ^ p) (h : p ≤ i) : M / 2 ^ i % 2 = 0 := by
  have := Nat.pow_le_pow_right (show 0 < 2 by decide) h
  rw [Nat.div_eq_of_lt (by omega)]
theorem sr_pc_0 (b : Nat) : sr_pc 0 b = 0 := by
  induction b with
  | zero => rfl
  | succ b ih => show sr_pc 0 b + 0 / 2 ^ b % 2 = 0; rw [ih, Nat.zero_div]
theorem sr_pc_add {M p : Nat} (hM : M < 2 ^ p) : ∀ b, sr_pc (M + 2 ^ p) b = sr_pc M b + if p < b then 1 else 0 := by
  intro b
  induction b with
  | zero => rw [if_neg (by omega)]; rfl
  | succ b ih =>
    show sr_pc (M + 2 ^ p) b + (M + 2 ^ p) / 2 ^ b % 2 = sr_pc M b + M / 2 ^ b % 2 + _
    rw [ih]
    rcases Nat.lt_trichotomy b p with z | z | z
    · rw [sr_bit_lo z, if_neg (by omega), if_neg (by omega)]
      simp only [Nat.add_zero]
    · subst z
      rw [sr_bit_eq hM, if_neg (by omega), if_pos (by omega), sr_bit_z hM (by omega)]
    · rw [sr_bit_hi hM z, if_pos z, if_pos (by omega), sr_bit_z hM (by omega)]
/-- how many bits a row's mask has -/
theorem sr_pc_mk {I W : Nat → Nat} : ∀ n, sr_ok I W n → sr_pc (sr_mk I n) 24 = n := by
  intro n
  induction n with
  | zero => intro _; exact sr_pc_0 24
  | succ n ih =>
    intro h
    rw [sr_mk_s, sr_pc_add (sr_mk_ltI h), ih (sr_okp h), if_pos (h.1 n (by omega)).1]
theorem sr_bit_1 {I W : Nat → Nat} : ∀ n, sr_ok I W n → ∀ j, j < n → sr_mk I n / 2 ^ I j % 2 = 1 := by
  intro n
  induction n with
  | zero => intro _ j hj; omega
  | succ n ih =>
    intro h j hj
    rw [sr_mk_s]
    rcases Nat.lt_or_ge j n with z | z
    · rw [sr_bit_lo (sr_mono h n j z (by omega))]
      exact ih (sr_okp h) j z
    · have e : j = n := by omega
      rw [e]
      exact sr_bit_eq (sr_mk_ltI h)
theorem sr_bit_0 {I W : Nat → Nat} : ∀ n, sr_ok I W n → ∀ i, (∀ j, j < n → I j ≠ i) → sr_mk I n / 2 ^ i % 2 = 0 := by
  intro n
  induction n with
  | zero => intro _ i _; show 0 / 2 ^ i % 2 = 0; rw [Nat.zero_div]
  | succ n ih =>
    intro h i hi
    rw [sr_mk_s]
    rcases Nat.lt_trichotomy i (I n) with z | z | z
    · rw [sr_bit_lo z]
      exact ih (sr_okp h) i (fun j hj => hi j (by omega))
    · exact absurd z.symm (hi n (by omega))
    · exact sr_bit_hi (sr_mk_ltI h) z
theorem sr_first {I W : Nat → Nat} {n : Nat} (h : sr_ok I W n) {i : Nat} (hi : i < I 0) : sr_mk I n / 2 ^ i % 2 = 0 := by
  refine sr_bit_0 n h i (fun j hj => ?_)
  rcases Nat.eq_zero_or_pos j with z | z
  · rw [z]; omega
  · have := sr_mono h j 0 z hj
    omega
theorem sr_last {I W : Nat → Nat} {n : Nat} (h : sr_ok I W (n + 1)) {i : Nat} (hi : I n < i) : sr_mk I (n + 1) / 2 ^ i % 2 = 0 := by
  refine sr_bit_0 (n + 1) h i (fun j hj => ?_)
  rcases Nat.lt_or_ge j n with z | z
  · have := sr_mono h n j z (by omega)
    omega
  · have : j = n := by omega
    rw [this]; omega
