section
/-! part 01: rows of kit/rows, taken as they stand -/
theorem pk_us {f : Nat → Int32} {k : Nat} {x : Int32} : upd f k x k = x := if_pos rfl
theorem pk_un {f : Nat → Int32} {k j : Nat} {x : Int32} (h : j ≠ k) : upd f k x j = f j := if_neg h
theorem pk_uLs {f : Nat → Int64} {k : Nat} {x : Int64} : vp_updL f k x k = x := if_pos rfl
theorem pk_uLn {f : Nat → Int64} {k j : Nat} {x : Int64} (h : j ≠ k) : vp_updL f k x j = f j := if_neg h
theorem pk_sub {a b : Nat} (h : b ≤ a) : nI a - nI b = nI (a - b) := by
  obtain ⟨c, rfl⟩ : ∃ c, a = c + b := ⟨a - b, by omega⟩
  rw [← nI_add, Int32.add_sub_cancel, Nat.add_sub_cancel]
theorem pk_m1 (n : Nat) : nI (n + 1) + (-1) = nI n := by
  rw [← nI_1, Int32.add_assoc, show (1 : Int32) + (-1) = 0 from rfl, Int32.add_zero]
theorem pk_mul (a b : Nat) : nI a * nI b = nI (a * b) := (Int32.ofNat_mul a b).symm
theorem pk_ix (x : Int32) {n : Nat} (hn : n < 2 ^ 31) : x < 0 ∨ nI n ≤ x ∨ ∃ j : Nat, j < n ∧ x = nI j := by
  by_cases h : x < 0
  · exact Or.inl h
  · obtain ⟨j, hj, rfl⟩ := nI_of h
    by_cases h2 : j < n
    · exact Or.inr (Or.inr ⟨j, h2, rfl⟩)
    · exact Or.inr (Or.inl (nI_le (by omega) hj))
theorem pk_le {x y : Int32} {A B : Prop} (a b : Nat) (f : a ≤ b → A) (g : b < a → B) (hx : x = nI a := by rfl) (hy : y = nI b := by rfl) (ha : a < 2 ^ 31 := by omega) (hb : b < 2 ^ 31 := by omega) : (x ≤ y → A) ∧ (¬ x ≤ y → B) := by
  subst hx hy
  rw [nI_leI ha hb]
  exact ⟨f, fun z => g (by omega)⟩
theorem pk_lt {x y : Int32} {A B : Prop} (a b : Nat) (f : a < b → A) (g : b ≤ a → B) (hx : x = nI a := by rfl) (hy : y = nI b := by rfl) (ha : a < 2 ^ 31 := by omega) (hb : b < 2 ^ 31 := by omega) : (x < y → A) ∧ (¬ x < y → B) := by
  subst hx hy
  rw [nI_ltI ha hb]
  exact ⟨f, fun z => g (by omega)⟩
theorem pk_eq {x y : Int32} {A B : Prop} (a b : Nat) (f : a = b → A) (g : a ≠ b → B) (hx : x = nI a := by rfl) (hy : y = nI b := by rfl) (ha : a < 2 ^ 31 := by omega) (hb : b < 2 ^ 31 := by omega) : (x = y → A) ∧ (¬ x = y → B) := by
  subst hx hy
  rw [nI_eq ha hb]
  exact ⟨f, g⟩
theorem pk_in {x : Int32} (n N : Nat) (h : n < N) (hx : x = nI n := by rfl) (hN : N < 2 ^ 31 := by omega) : vp_in x N := by
  subst hx
  exact vp_in_nI h hN
theorem pk_cl {x : Int32} (n : Nat) (hx : x = nI n := by rfl) (h : n < 2 ^ 31 := by omega) : x.toNatClampNeg = n := by
  subst hx
  exact nI_clamp h
theorem pk_tn {n : Nat} (h : n < 2 ^ 32) : (nI n).toBitVec.toNat = n := Nat.mod_eq_of_lt h
theorem pk_and (x : Int32) {m : Int32} (k : Nat) (hm : m.toBitVec.toNat = 2 ^ k - 1) : x &&& m = nI (x.toBitVec.toNat % 2 ^ k) := by
  apply Int32.toBitVec_inj.mp
  apply BitVec.eq_of_toNat_eq
  rw [Int32.toBitVec_and, BitVec.toNat_and, hm, Nat.and_two_pow_sub_one_eq_mod]
  show _ = (BitVec.ofNat 32 _).toNat
  rw [BitVec.toNat_ofNat]
  exact (Nat.mod_eq_of_lt (Nat.lt_of_le_of_lt (Nat.mod_le _ _) x.toBitVec.isLt)).symm
theorem pk_andN {n : Nat} (h : n < 2 ^ 32) {m : Int32} (k : Nat) (hm : m.toBitVec.toNat = 2 ^ k - 1) : nI n &&& m = nI (n % 2 ^ k) := by
  rw [pk_and _ k hm, pk_tn h]
theorem pk_andE (x : Int32) {m : Int32} (k : Nat) (hm : m.toBitVec.toNat = 2 ^ k - 1) : ∃ j : Nat, j < 2 ^ k ∧ x &&& m = nI j := ⟨_, Nat.mod_lt _ (Nat.two_pow_pos k), pk_and x k hm⟩
theorem pk_andIn (x : Int32) {m : Int32} (k : Nat) (hm : m.toBitVec.toNat = 2 ^ k - 1) (hk : k ≤ 30) : vp_in (x &&& m) (2 ^ k) := by
  obtain ⟨j, hj, e⟩ := pk_andE x k hm
  rw [e]
  exact vp_in_nI hj (Nat.lt_of_le_of_lt (Nat.pow_le_pow_right (by decide) hk) (by decide))
theorem pk_shl (a s : Int32) (k : Nat) (hs : (s.toBitVec.smod 32).toNat = k) : (a <<< s).toBitVec.toNat = a.toBitVec.toNat * 2 ^ k % 2 ^ 32 := by
  show (a.toBitVec <<< (s.toBitVec.smod 32).toNat).toNat = _
  rw [hs, BitVec.toNat_shiftLeft, Nat.shiftLeft_eq]
theorem pk_shlN {n : Nat} (s : Int32) (k : Nat) (hs : (s.toBitVec.smod 32).toNat = k) (h : n * 2 ^ k < 2 ^ 32) : nI n <<< s = nI (n * 2 ^ k) := by
  apply Int32.toBitVec_inj.mp
  apply BitVec.eq_of_toNat_eq
  have hn : n < 2 ^ 32 := Nat.lt_of_le_of_lt (Nat.le_mul_of_pos_right n (Nat.two_pow_pos k)) h
  rw [pk_shl _ _ k hs, pk_tn hn, pk_tn h, Nat.mod_eq_of_lt h]
theorem pk_shr (a s : Int32) (k : Nat) (hs : (s.toBitVec.smod 32).toNat = k) : (a >>> s).toInt = a.toInt >>> k := by
  show (a.toBitVec.sshiftRight (s.toBitVec.smod 32).toNat).toInt = _
  rw [hs, BitVec.toInt_sshiftRight]
  rfl
theorem pk_shrN {n : Nat} (h : n < 2 ^ 31) (s : Int32) (k : Nat) (hs : (s.toBitVec.smod 32).toNat = k) : nI n >>> s = nI (n / 2 ^ k) := by
  apply Int32.toInt_inj.mp
  have h2 : n / 2 ^ k ≤ n := Nat.div_le_self _ _
  rw [pk_shr _ _ k hs, nI_toInt h, nI_toInt (by omega), Int.shiftRight_eq_div_pow]
  rfl
theorem pk_lT {n : Nat} (h : n < 2 ^ 63) : (lN n).toInt = (n : Int) := lg_ofNat_toInt h
theorem pk_lEQ {a b : Nat} (ha : a < 2 ^ 63) (hb : b < 2 ^ 63) : lN a = lN b ↔ a = b := by
  rw [← Int64.toInt_inj, pk_lT ha, pk_lT hb]; omega
theorem s_l : ∀ n, n < 32 → ((nI n &&& 31).toBitVec.smod 32).toNat = n := by decide +kernel
theorem nx_and (a b : Nat) : nI a &&& nI b = nI (a &&& b) := by
  apply Int32.toBitVec_inj.1
  show BitVec.ofNat 32 a &&& BitVec.ofNat 32 b = BitVec.ofNat 32 (a &&& b)
  apply BitVec.eq_of_getLsbD_eq
  intro i hi
  simp [hi]
theorem wb_tb (n : Nat) : (lN n).toBitVec = BitVec.ofNat 64 n := rfl
theorem wb_inj {a b : Int64} (h : a.toBitVec = b.toBitVec) : a = b := Int64.toBitVec_inj.mp h
theorem wb_tn {n : Nat} (h : n < 2 ^ 64) : (lN n).toBitVec.toNat = n := by rw [wb_tb, BitVec.toNat_ofNat, Nat.mod_eq_of_lt h]
theorem wb_c : ∀ k, k < 64 → ((nI k).toInt64 &&& 63) = lN k := by decide +kernel
theorem wb_sm : ∀ k, k < 64 → (BitVec.ofNat 64 k).smod 64 = BitVec.ofNat 64 k := by decide +kernel
theorem wb_pw {a b : Nat} (h : a ≤ b) : 2 ^ b = 2 ^ a * 2 ^ (b - a) := by rw [← Nat.pow_add]; congr 1; omega
theorem wb_shl (n : Nat) {k : Nat} (hk : k < 64) : lN n <<< ((nI k).toInt64 &&& 63) = lN (n * 2 ^ k) := by
  rw [wb_c k hk]
  apply wb_inj
  rw [Int64.toBitVec_shiftLeft, wb_tb, wb_tb, wb_tb, wb_sm k hk]
  apply BitVec.eq_of_toNat_eq
  rw [BitVec.shiftLeft_eq', BitVec.toNat_shiftLeft, BitVec.toNat_ofNat, BitVec.toNat_ofNat, BitVec.toNat_ofNat, Nat.mod_eq_of_lt (show k < 2 ^ 64 by omega), Nat.shiftLeft_eq, Nat.mul_mod, Nat.mod_mod, ← Nat.mul_mod]
theorem wb_or {a b : Nat} (ha : a < 2 ^ 64) (hb : b < 2 ^ 64) : lN a ||| lN b = lN (a ||| b) := by
  apply wb_inj
  rw [Int64.toBitVec_or, wb_tb, wb_tb, wb_tb]
  apply BitVec.eq_of_toNat_eq
  rw [BitVec.toNat_or, BitVec.toNat_ofNat, BitVec.toNat_ofNat, BitVec.toNat_ofNat, Nat.mod_eq_of_lt ha, Nat.mod_eq_of_lt hb, Nat.mod_eq_of_lt (Nat.or_lt_two_pow ha hb)]
theorem u_tn {n : Nat} (h : n < 2 ^ 64) : (UInt64.ofNat n).toNat = n := Nat.mod_eq_of_lt h
theorem g_or {k p a b : Nat} (hp : 2 ^ k = p) (ha : a < p) (h : b * p + a < 2 ^ 64) : lN (b * p) ||| lN a = lN (b * p + a) := by
  subst hp
  have h1 : b * 2 ^ k ||| a = b * 2 ^ k + a := by rw [← Nat.shiftLeft_eq, Nat.shiftLeft_add_eq_or_of_lt ha]
  have h3 : UInt64.ofNat (b * 2 ^ k) ||| UInt64.ofNat a = UInt64.ofNat (b * 2 ^ k + a) := UInt64.toNat_inj.mp (by rw [UInt64.toNat_or, u_tn (by omega), u_tn (by omega), u_tn h, h1])
  have h2 := congrArg UInt64.toInt64 h3
  exact h2
theorem g_or' {k p a b : Nat} (hp : 2 ^ k = p) (ha : a < p) (h : a + b * p < 2 ^ 64) : lN a ||| lN (b * p) = lN (a + b * p) := by
  rw [Int64.or_comm, g_or hp ha (by omega), Nat.add_comm]
end
section
/-! part 02: numbers, and the rows of a stretch as a mask and as packed ways (pure) -/
theorem nu_or (a b : Nat) : nI a ||| nI b = nI (a ||| b) := by
  apply Int32.toBitVec_inj.1
  show BitVec.ofNat 32 a ||| BitVec.ofNat 32 b = BitVec.ofNat 32 (a ||| b)
  apply BitVec.eq_of_getLsbD_eq
  intro i hi
  simp [hi]
theorem nu_inj {a b : Nat} (h : nI a = nI b) (ha : a < 2 ^ 31) (hb : b < 2 ^ 31) : a = b := (nI_eq ha hb).mp h
/-- 1 << p -/
theorem nu_sh {p : Nat} (hp : p < 24) : (1 : Int32) <<< (nI p &&& 31) = nI (2 ^ p) := by
  have h : (2 : Nat) ^ p < 2 ^ 24 := Nat.pow_lt_pow_right (by decide) hp
  have := pk_shlN (n := 1) (nI p &&& 31) p (s_l p (by omega)) (by omega)
  rw [Nat.one_mul] at this
  exact this
/-- a mask and one bit above all of its own -/
theorem nu_orbit {a p : Nat} (hp : p < 24) (ha : a < 2 ^ p) : nI a ||| ((1 : Int32) <<< (nI p &&& 31)) = nI (a + 2 ^ p) := by
  rw [nu_sh hp, nu_or]
  have h := Nat.two_pow_add_eq_or_of_lt ha 1
  rw [Nat.mul_one] at h
  rw [Nat.or_comm, ← h, Nat.add_comm]
/-- the bit at i, as the class reads it -/
theorem nu_bit {M i : Nat} (hM : M < 2 ^ 24) (hi : i < 24) : (nI M >>> (nI i &&& 31)) &&& 1 = nI (M / 2 ^ i % 2) := by
  rw [pk_shrN (by omega) (nI i &&& 31) i (s_l i (by omega))]
  have h : M / 2 ^ i ≤ M := Nat.div_le_self _ _
  exact pk_andN (n := M / 2 ^ i) (by omega) 1 (by decide)
/-- the way packed at its instruction -/
theorem nu_way {k i : Nat} (hk : k < 4) (hi : i < 24) : (nI k).toInt64 <<< ((nI (2 * i)).toInt64 &&& 63) = lN (k * 4 ^ i) := by
  rw [nI_l (by omega), wb_shl k (by omega), Nat.pow_mul]

def sr_mk (I : Nat → Nat) : Nat → Nat
  | 0 => 0
  | n + 1 => sr_mk I n + 2 ^ I n
def sr_we (I W : Nat → Nat) : Nat → Nat
  | 0 => 0
  | n + 1 => sr_we I W n + (if n = 0 then 0 else W n * 4 ^ I (n - 1))
theorem sr_mk_s (I : Nat → Nat) (n : Nat) : sr_mk I (n + 1) = sr_mk I n + 2 ^ I n := rfl
theorem sr_we_1 (I W : Nat → Nat) : sr_we I W 1 = 0 := rfl
theorem sr_we_s (I W : Nat → Nat) (n : Nat) : sr_we I W (n + 2) = sr_we I W (n + 1) + W (n + 1) * 4 ^ I n := rfl
/-- a row: numbers below 24 that rise, ways below 4, the first way 0 -/
def sr_ok (I W : Nat → Nat) (n : Nat) : Prop := (∀ j, j < n → I j < 24 ∧ W j < 4) ∧ (∀ j, j + 1 < n → I j < I (j + 1)) ∧ (0 < n → W 0 = 0)
theorem sr_ok0 (I W : Nat → Nat) : sr_ok I W 0 := ⟨fun j h => absurd h (by omega), fun j h => absurd h (by omega), fun h => absurd h (by omega)⟩
theorem sr_okp {I W : Nat → Nat} {n : Nat} (h : sr_ok I W (n + 1)) : sr_ok I W n :=
  ⟨fun j hj => h.1 j (by omega), fun j hj => h.2.1 j (by omega), fun _ => h.2.2 (by omega)⟩
theorem sr_mono {I W : Nat → Nat} {n : Nat} (h : sr_ok I W n) : ∀ b a, a < b → b < n → I a < I b := by
  intro b
  induction b with
  | zero => intro a ha; omega
  | succ b ih =>
    intro a ha hb
    have h1 := h.2.1 b hb
    rcases Nat.lt_or_ge a b with z | z
    · exact Nat.lt_trans (ih a z (by omega)) h1
    · have : a = b := by omega
      rw [this]; exact h1
theorem sr_pow2 (p : Nat) : 2 ^ (p + 1) = 2 ^ p + 2 ^ p := by rw [Nat.pow_succ]; omega
theorem sr_mk_lt {I W : Nat → Nat} : ∀ n p, sr_ok I W n → (∀ j, j < n → I j < p) → sr_mk I n < 2 ^ p := by
  intro n
  induction n with
  | zero => intro p _ _; exact Nat.two_pow_pos p
  | succ n ih =>
    intro p h hp
    have h1 := ih (I n) (sr_okp h) (fun j hj => sr_mono h n j hj (by omega))
    have h2 : I n + 1 ≤ p := hp n (by omega)
    have h3 : 2 ^ (I n + 1) ≤ 2 ^ p := Nat.pow_le_pow_right (by decide) h2
    rw [sr_pow2] at h3
    rw [sr_mk_s]
    omega
theorem sr_mk_ltI {I W : Nat → Nat} {n : Nat} (h : sr_ok I W (n + 1)) : sr_mk I n < 2 ^ I n :=
  sr_mk_lt n (I n) (sr_okp h) (fun j hj => sr_mono h n j hj (by omega))
theorem sr_mk_24 {I W : Nat → Nat} {n : Nat} (h : sr_ok I W n) : sr_mk I n < 2 ^ 24 :=
  sr_mk_lt n 24 h (fun j hj => (h.1 j hj).1)
theorem sr_mk_pos (I : Nat → Nat) {n : Nat} (h : 0 < n) : 0 < sr_mk I n := by
  obtain ⟨m, rfl⟩ : ∃ m, n = m + 1 := ⟨n - 1, by omega⟩
  rw [sr_mk_s]
  have := Nat.two_pow_pos (I m)
  omega
theorem sr_we_lt {I W : Nat → Nat} : ∀ n, sr_ok I W (n + 1) → sr_we I W (n + 1) < 4 ^ I n := by
  intro n
  induction n with
  | zero => intro _; rw [sr_we_1]; exact Nat.pow_pos (by decide)
  | succ n ih =>
    intro h
    have h1 := ih (sr_okp h)
    have h2 : I n + 1 ≤ I (n + 1) := h.2.1 n (by omega)
    have h3 : 4 ^ (I n + 1) ≤ 4 ^ I (n + 1) := Nat.pow_le_pow_right (by decide) h2
    have h4 : W (n + 1) * 4 ^ I n ≤ 3 * 4 ^ I n := Nat.mul_le_mul_right _ (by have := (h.1 (n + 1) (by omega)).2; omega)
    rw [Nat.pow_succ] at h3
    rw [sr_we_s]
    omega
/-- the packed ways of a row fit a long -/
theorem sr_we_48 {I W : Nat → Nat} {n : Nat} (h : sr_ok I W n) : sr_we I W n < 2 ^ 48 := by
  cases n with
  | zero => exact Nat.two_pow_pos 48
  | succ n =>
    have h1 := sr_we_lt n h
    have h2 : 4 ^ I n ≤ 4 ^ 24 := Nat.pow_le_pow_right (by decide) (by have := (h.1 n (by omega)).1; omega)
    exact Nat.lt_of_lt_of_le h1 (Nat.le_trans h2 (by decide))
theorem sr_dm {a b w v p : Nat} (ha : a < p) (hb : b < p) (h : a + w * p = b + v * p) : w = v ∧ a = b := by
  have h1 : (a + w * p) / p = (b + v * p) / p := by rw [h]
  rw [Nat.add_mul_div_right _ _ (by omega), Nat.add_mul_div_right _ _ (by omega), Nat.div_eq_of_lt ha, Nat.div_eq_of_lt hb] at h1
  have h2 : w = v := by omega
  rw [h2] at h
  exact ⟨h2, by omega⟩
/-- the highest bit of two equal sums -/
theorem sr_top {a b p q : Nat} (ha : a < 2 ^ p) (hb : b < 2 ^ q) (h : a + 2 ^ p = b + 2 ^ q) : p = q ∧ a = b := by
  have e : p = q := by
    rcases Nat.lt_trichotomy p q with z | z | z
    · have := Nat.pow_le_pow_right (show 0 < 2 by decide) (show p + 1 ≤ q from z)
      rw [sr_pow2] at this
      omega
    · exact z
    · have := Nat.pow_le_pow_right (show 0 < 2 by decide) (show q + 1 ≤ p from z)
      rw [sr_pow2] at this
      omega
  rw [e] at h
  exact ⟨e, by omega⟩
/-- mask and packed ways tell rows apart -/
theorem sr_inj {I W J V : Nat → Nat} : ∀ n m, sr_ok I W n → sr_ok J V m → sr_mk I n = sr_mk J m → sr_we I W n = sr_we J V m → n = m ∧ ∀ j, j < n → I j = J j ∧ W j = V j := by
  intro n
  induction n with
  | zero =>
    intro m _ _ h _
    rcases Nat.eq_zero_or_pos m with z | z
    · exact ⟨z.symm, fun j hj => absurd hj (by omega)⟩
    · have := sr_mk_pos J z
      rw [← h] at this
      exact absurd this (by show ¬ 0 < 0; omega)
  | succ n ih =>
    intro m hI hJ h hw
    cases m with
    | zero =>
      have := sr_mk_pos I (Nat.succ_pos n)
      rw [h] at this
      exact absurd this (by show ¬ 0 < 0; omega)
    | succ m =>
      rw [sr_mk_s, sr_mk_s] at h
      obtain ⟨e1, e2⟩ := sr_top (sr_mk_ltI hI) (sr_mk_ltI hJ) h
      cases n with
      | zero =>
        have z : m = 0 := by
          rcases Nat.eq_zero_or_pos m with z | z
          · exact z
          · have := sr_mk_pos J z
            rw [← e2] at this
            exact absurd this (by show ¬ 0 < 0; omega)
        subst z
        refine ⟨rfl, fun j hj => ?_⟩
        have z : j = 0 := by omega
        subst z
        exact ⟨e1, by rw [hI.2.2 (by omega), hJ.2.2 (by omega)]⟩
      | succ n =>
        cases m with
        | zero =>
          have := sr_mk_pos I (Nat.succ_pos n)
          rw [e2] at this
          exact absurd this (by show ¬ 0 < 0; omega)
        | succ m =>
          have e3 := e2
          rw [sr_mk_s, sr_mk_s] at e3
          obtain ⟨e4, _⟩ := sr_top (sr_mk_ltI (sr_okp hI)) (sr_mk_ltI (sr_okp hJ)) e3
          rw [sr_we_s, sr_we_s, e4] at hw
          have hl := sr_we_lt n (sr_okp hI)
          rw [e4] at hl
          obtain ⟨e5, e6⟩ := sr_dm hl (sr_we_lt m (sr_okp hJ)) hw
          obtain ⟨e7, e8⟩ := ih (m + 1) (sr_okp hI) (sr_okp hJ) e2 e6
          refine ⟨by omega, fun j hj => ?_⟩
          have z : n = m := by omega
          subst z
          rcases Nat.lt_or_ge j (n + 1) with y | y
          · exact e8 j y
          · have z : j = n + 1 := by omega
            subst z
            exact ⟨e1, e5⟩
theorem sr_cong {I W J V : Nat → Nat} : ∀ n, (∀ j, j < n → I j = J j ∧ W j = V j) → sr_mk I n = sr_mk J n ∧ sr_we I W n = sr_we J V n := by
  intro n
  induction n with
  | zero => intro _; exact ⟨rfl, rfl⟩
  | succ n ih =>
    intro h
    obtain ⟨h1, h2⟩ := ih (fun j hj => h j (by omega))
    refine ⟨by rw [sr_mk_s, sr_mk_s, h1, (h n (by omega)).1], ?_⟩
    cases n with
    | zero => rfl
    | succ n => rw [sr_we_s, sr_we_s, h2, (h (n + 1) (by omega)).2, (h n (by omega)).1]
/-- one instruction more -/
theorem sr_ok_s {I W : Nat → Nat} {n i w : Nat} (h : sr_ok I W n) (hi : i < 24) (hw : w < 4) (hl : 0 < n → I (n - 1) < i) (h0 : n = 0 → w = 0) :
    sr_ok (fun j => if j = n then i else I j) (fun j => if j = n then w else W j) (n + 1) := by
  refine ⟨fun j hj => ?_, fun j hj => ?_, fun _ => ?_⟩
  · by_cases z : j = n
    · simp only [if_pos z]; exact ⟨hi, hw⟩
    · simp only [if_neg z]; exact h.1 j (by omega)
  · by_cases z : j + 1 = n
    · have y : ¬ j = n := by omega
      simp only [if_pos z, if_neg y]
      have := hl (by omega)
      have e : n - 1 = j := by omega
      rw [e] at this
      exact this
    · have y : ¬ j = n := by omega
      simp only [if_neg z, if_neg y]; exact h.2.1 j (by omega)
  · by_cases z : 0 = n
    · simp only [if_pos z]; exact h0 z.symm
    · simp only [if_neg z]; exact h.2.2 (by omega)
/-! bits -/
def sr_pc (M : Nat) : Nat → Nat
  | 0 => 0
  | b + 1 => sr_pc M b + M / 2 ^ b % 2
theorem sr_bit_lo {M p i : Nat} (h : i < p) : (M + 2 ^ p) / 2 ^ i % 2 = M / 2 ^ i % 2 := by
  have e : 2 ^ p = 2 ^ i * (2 * 2 ^ (p - i - 1)) := by
    rw [← Nat.mul_assoc, Nat.mul_comm (2 ^ i) 2, Nat.mul_assoc, ← Nat.pow_add, ← Nat.pow_succ']
    congr 1
    omega
  rw [e, Nat.add_mul_div_left _ _ (Nat.two_pow_pos i)]
  omega
theorem sr_bit_eq {M p : Nat} (hM : M < 2 ^ p) : (M + 2 ^ p) / 2 ^ p % 2 = 1 := by
  rw [Nat.add_div_right _ (Nat.two_pow_pos p), Nat.div_eq_of_lt hM]
theorem sr_bit_hi {M p i : Nat} (hM : M < 2 ^ p) (h : p < i) : (M + 2 ^ p) / 2 ^ i % 2 = 0 := by
  have := Nat.pow_le_pow_right (show 0 < 2 by decide) (show p + 1 ≤ i from h)
  rw [sr_pow2] at this
  rw [Nat.div_eq_of_lt (by omega)]
theorem sr_bit_z {M p i : Nat} (hM : M < 2 ^ p) (h : p ≤ i) : M / 2 ^ i % 2 = 0 := by
  have := Nat.pow_le_pow_right (show 0 < 2 by decide) h
  rw [Nat.div_eq_of_lt (by omega)]
theorem sr_pc_0 (b : Nat) : sr_pc 0 b = 0 := by
  induction b with
  | zero => rfl
  | succ b ih => show sr_pc 0 b + 0 / 2 ^ b % 2 = 0; rw [ih, Nat.zero_div]
theorem sr_pc_add {M p : Nat} (hM : M < 2 ^ p) : ∀ b, sr_pc (M + 2 ^ p) b = sr_pc M b + if p < b then 1 else 0 := by
  intro b
  induction b with
  | zero => rw [if_neg (by omega)]; rfl
  | succ b ih =>
    show sr_pc (M + 2 ^ p) b + (M + 2 ^ p) / 2 ^ b % 2 = sr_pc M b + M / 2 ^ b % 2 + _
    rw [ih]
    rcases Nat.lt_trichotomy b p with z | z | z
    · rw [sr_bit_lo z, if_neg (by omega), if_neg (by omega)]
      simp only [Nat.add_zero]
    · subst z
      rw [sr_bit_eq hM, if_neg (by omega), if_pos (by omega), sr_bit_z hM (by omega)]
    · rw [sr_bit_hi hM z, if_pos z, if_pos (by omega), sr_bit_z hM (by omega)]
/-- how many bits a row's mask has -/
theorem sr_pc_mk {I W : Nat → Nat} : ∀ n, sr_ok I W n → sr_pc (sr_mk I n) 24 = n := by
  intro n
  induction n with
  | zero => intro _; exact sr_pc_0 24
  | succ n ih =>
    intro h
    rw [sr_mk_s, sr_pc_add (sr_mk_ltI h), ih (sr_okp h), if_pos (h.1 n (by omega)).1]
theorem sr_bit_1 {I W : Nat → Nat} : ∀ n, sr_ok I W n → ∀ j, j < n → sr_mk I n / 2 ^ I j % 2 = 1 := by
  intro n
  induction n with
  | zero => intro _ j hj; omega
  | succ n ih =>
    intro h j hj
    rw [sr_mk_s]
    rcases Nat.lt_or_ge j n with z | z
    · rw [sr_bit_lo (sr_mono h n j z (by omega))]
      exact ih (sr_okp h) j z
    · have e : j = n := by omega
      rw [e]
      exact sr_bit_eq (sr_mk_ltI h)
theorem sr_bit_0 {I W : Nat → Nat} : ∀ n, sr_ok I W n → ∀ i, (∀ j, j < n → I j ≠ i) → sr_mk I n / 2 ^ i % 2 = 0 := by
  intro n
  induction n with
  | zero => intro _ i _; show 0 / 2 ^ i % 2 = 0; rw [Nat.zero_div]
  | succ n ih =>
    intro h i hi
    rw [sr_mk_s]
    rcases Nat.lt_trichotomy i (I n) with z | z | z
    · rw [sr_bit_lo z]
      exact ih (sr_okp h) i (fun j hj => hi j (by omega))
    · exact absurd z.symm (hi n (by omega))
    · exact sr_bit_hi (sr_mk_ltI h) z
theorem sr_first {I W : Nat → Nat} {n : Nat} (h : sr_ok I W n) {i : Nat} (hi : i < I 0) : sr_mk I n / 2 ^ i % 2 = 0 := by
  refine sr_bit_0 n h i (fun j hj => ?_)
  rcases Nat.eq_zero_or_pos j with z | z
  · rw [z]; omega
  · have := sr_mono h j 0 z hj
    omega
theorem sr_last {I W : Nat → Nat} {n : Nat} (h : sr_ok I W (n + 1)) {i : Nat} (hi : I n < i) : sr_mk I (n + 1) / 2 ^ i % 2 = 0 := by
  refine sr_bit_0 (n + 1) h i (fun j hj => ?_)
  rcases Nat.lt_or_ge j n with z | z
  · have := sr_mono h n j z (by omega)
    omega
  · have : j = n := by omega
    rw [this]; omega
end
section
/-! part 03: counters: two ways of keeping which points hang together (pure) -/
def cn_ct (P : Nat → Bool) : Nat → Nat
  | 0 => 0
  | n + 1 => cn_ct P n + if P n = true then 1 else 0
theorem cn_ct_s (P : Nat → Bool) (n : Nat) : cn_ct P (n + 1) = cn_ct P n + if P n = true then 1 else 0 := rfl
theorem cn_ct_c {P Q : Nat → Bool} : ∀ n, (∀ k, k < n → P k = Q k) → cn_ct P n = cn_ct Q n := by
  intro n
  induction n with
  | zero => intro _; rfl
  | succ n ih =>
    intro h
    rw [cn_ct_s, cn_ct_s, ih (fun k hk => h k (by omega)), h n (by omega)]
theorem cn_ct_1 {P Q : Nat → Bool} {y : Nat} (hp : P y = true) (hq : Q y = false) (h : ∀ k, k ≠ y → P k = Q k) : ∀ n, y < n → cn_ct Q n + 1 = cn_ct P n := by
  intro n
  induction n with
  | zero => intro z; omega
  | succ n ih =>
    intro hy
    rw [cn_ct_s, cn_ct_s]
    rcases Nat.lt_or_ge y n with z | z
    · have := ih z
      rw [h n (by omega)]
      omega
    · have e : n = y := by omega
      rw [cn_ct_c (P := Q) (Q := P) n (fun k hk => (h k (by omega)).symm), e, hp, hq]
      simp
theorem cn_ct_t : ∀ n, cn_ct (fun _ => true) n = n := by
  intro n
  induction n with
  | zero => rfl
  | succ n ih => rw [cn_ct_s, ih, if_pos rfl]
theorem cn_ct_le (P : Nat → Bool) : ∀ n, cn_ct P n ≤ n := by
  intro n
  induction n with
  | zero => exact Nat.le_refl _
  | succ n ih =>
    rw [cn_ct_s]
    by_cases z : P n = true
    · rw [if_pos z]; omega
    · rw [if_neg z]; omega
/-- how many of 0 .. n stand for their part -/
def cn_rp (f : Nat → Nat) (n : Nat) : Nat := cn_ct (fun k => decide (f k = k)) (n + 1)
def cn_u (f : Nat → Nat) (x y : Nat) : Nat → Nat := fun k => if f k = y then x else f k
def cn_id (f : Nat → Nat) (n : Nat) : Prop := ∀ k, k ≤ n → f k ≤ n ∧ f (f k) = f k
theorem cn_id_u {f : Nat → Nat} {n x y : Nat} (h : cn_id f n) (hx : x ≤ n) (hxx : f x = x) (hy : x ≠ y) : cn_id (cn_u f x y) n := by
  intro k hk
  obtain ⟨h1, h2⟩ := h k hk
  unfold cn_u
  by_cases z : f k = y
  · simp only [if_pos z]
    exact ⟨hx, by rw [hxx, if_neg hy]⟩
  · simp only [if_neg z]
    exact ⟨h1, by rw [h2, if_neg z]⟩
theorem cn_u_same (f : Nat → Nat) (x : Nat) : cn_u f x x = f := by
  funext k
  unfold cn_u
  by_cases z : f k = x
  · rw [if_pos z, z]
  · rw [if_neg z]
theorem cn_rp_u {f : Nat → Nat} {n x y : Nat} (hy : y ≤ n) (hxx : f x = x) (hyy : f y = y) (hxy : x ≠ y) : cn_rp (cn_u f x y) n + 1 = cn_rp f n := by
  refine cn_ct_1 (y := y) (by simp [hyy]) ?_ ?_ (n + 1) (by omega)
  · have : cn_u f x y y = x := if_pos hyy
    simp only [this]
    exact decide_eq_false hxy
  · intro k hk
    have e : (f k = k) ↔ (cn_u f x y k = k) := by
      unfold cn_u
      by_cases z : f k = y
      · rw [if_pos z]
        constructor
        · intro w; exact absurd (w.symm.trans z) hk
        · intro w
          rw [← w, hxx] at z
          exact absurd z hxy
      · rw [if_neg z]
    simp only [e]
theorem cn_lab {A B P Q : Int32} {a b p q : Nat} (hab : A = B ↔ a = b) (hap : A = P ↔ a = p) (haq : A = Q ↔ a = q) (hbp : B = P ↔ b = p) (hbq : B = Q ↔ b = q) (hpq : P = Q ↔ p = q) :
    ((if A = P then Q else A) = (if B = P then Q else B) ↔ (if a = q then p else a) = (if b = q then p else b)) ∧
    ((if A = P then Q else A) = (if B = P then Q else B) ↔ (if a = p then q else a) = (if b = p then q else b)) := by
  constructor <;> grind
/-- the class's name for point a of n + 1 -/
def cn_ph (n a : Nat) : Nat := if a = n then 24 else a
theorem cn_ph_lt {n a : Nat} (hn : n ≤ 24) (ha : a ≤ n) : cn_ph n a < 25 := by
  unfold cn_ph
  by_cases z : a = n
  · rw [if_pos z]; omega
  · rw [if_neg z]; omega
def cn_rl (X : Nat → Int32) (L R : Int32) (i : Nat) : Nat → Int32 := fun j => if j < i ∧ X j = L then R else X j
theorem cn_rl_at {X : Nat → Int32} {L R : Int32} {j : Nat} (h : j < 25) : cn_rl X L R 25 j = if X j = L then R else X j := by
  unfold cn_rl
  by_cases z : X j = L
  · rw [if_pos ⟨h, z⟩, if_pos z]
  · rw [if_neg (fun w => z w.2), if_neg z]
theorem cn_rl_0 (X : Nat → Int32) (L R : Int32) : cn_rl X L R 0 = X := by
  funext j
  exact if_neg (fun w => absurd w.1 (by omega))
theorem cn_rl_at' {X : Nat → Int32} {L R : Int32} {i : Nat} : cn_rl X L R i i = X i := if_neg (fun w => absurd w.1 (by omega))
theorem cn_rl_t {X : Nat → Int32} {L R : Int32} {i : Nat} (h : X i = L) : upd (cn_rl X L R i) i R = cn_rl X L R (i + 1) := by
  funext j
  unfold upd cn_rl
  by_cases z : j = i
  · rw [if_pos z, if_pos ⟨by omega, by rw [z]; exact h⟩]
  · rw [if_neg z]
    have e : (j < i ∧ X j = L) ↔ (j < i + 1 ∧ X j = L) := ⟨fun w => ⟨by omega, w.2⟩, fun w => ⟨by omega, w.2⟩⟩
    simp only [e]
theorem cn_rl_f {X : Nat → Int32} {L R : Int32} {i : Nat} (h : ¬ X i = L) : cn_rl X L R i = cn_rl X L R (i + 1) := by
  funext j
  unfold cn_rl
  have e : (j < i ∧ X j = L) ↔ (j < i + 1 ∧ X j = L) := by
    constructor
    · exact fun w => ⟨by omega, w.2⟩
    · intro w
      refine ⟨?_, w.2⟩
      rcases Nat.lt_or_ge j i with z | z
      · exact z
      · have : j = i := by omega
        rw [this] at w
        exact absurd w.2 h
  simp only [e]
def cn_E (X : Nat → Int32) (f : Nat → Nat) (n : Nat) : Prop := ∀ a b, a ≤ n → b ≤ n → (X (cn_ph n a) = X (cn_ph n b) ↔ f a = f b)
def cn_lo (f : Nat → Nat) (p q : Nat) : Nat := if f p < f q then f p else f q
def cn_hi (f : Nat → Nat) (p q : Nat) : Nat := if f p < f q then f q else f p
theorem cn_E_u {X : Nat → Int32} {f : Nat → Nat} {n p q : Nat} (h : cn_E X f n) (hn : n ≤ 24) (hp : p ≤ n) (hq : q ≤ n) :
    cn_E (cn_rl X (X (cn_ph n p)) (X (cn_ph n q)) 25) (cn_u f (cn_lo f p q) (cn_hi f p q)) n := by
  intro a b ha hb
  rw [cn_rl_at (cn_ph_lt hn ha), cn_rl_at (cn_ph_lt hn hb)]
  have H := cn_lab (h a b ha hb) (h a p ha hp) (h a q ha hq) (h b p hb hp) (h b q hb hq) (h p q hp hq)
  unfold cn_u cn_lo cn_hi
  by_cases z : f p < f q
  · simp only [if_pos z]; exact H.1
  · simp only [if_neg z]; exact H.2
/-- the class's labels and count, the reference's labels and lines -/
def cn_I (X : Nat → Int32) (nd : Nat) (f : Nat → Nat) (ln n : Nat) : Prop := cn_E X f n ∧ cn_id f n ∧ nd + (n + 1) = ln + cn_rp f n
theorem cn_I0 {X : Nat → Int32} {f : Nat → Nat} {n : Nat} (hn : n ≤ 24) (hX : ∀ j, j < 25 → X j = nI j) (hf : ∀ k, k ≤ n → f k = k) : cn_I X 0 f 0 n := by
  refine ⟨?_, ?_, ?_⟩
  · intro a b ha hb
    have h1 := cn_ph_lt hn ha
    have h2 := cn_ph_lt hn hb
    rw [hX _ h1, hX _ h2, nI_eq (by omega) (by omega), hf a ha, hf b hb]
    unfold cn_ph
    by_cases z : a = n <;> by_cases y : b = n <;> simp [z, y] <;> omega
  · intro k hk
    rw [hf k hk]
    exact ⟨hk, hf k hk⟩
  · have : cn_rp f n = n + 1 := by
      unfold cn_rp
      rw [cn_ct_c (Q := fun _ => true) (n + 1) (fun k hk => by simp [hf k (by omega)]), cn_ct_t]
    omega
theorem cn_line {X : Nat → Int32} {f : Nat → Nat} {nd ln n p q : Nat} (h : cn_I X nd f ln n) (hn : n ≤ 24) (hp : p ≤ n) (hq : q ≤ n) :
    (X (cn_ph n p) = X (cn_ph n q) → cn_I (cn_rl X (X (cn_ph n p)) (X (cn_ph n q)) 25) (nd + 1) (cn_u f (cn_lo f p q) (cn_hi f p q)) (ln + 1) n) ∧
    (¬ X (cn_ph n p) = X (cn_ph n q) → cn_I (cn_rl X (X (cn_ph n p)) (X (cn_ph n q)) 25) nd (cn_u f (cn_lo f p q) (cn_hi f p q)) (ln + 1) n) := by
  obtain ⟨h1, h2, h3⟩ := h
  have hE := cn_E_u h1 hn hp hq
  have e := h1 p q hp hq
  constructor
  · intro z
    have y := e.mp z
    have e1 : cn_lo f p q = f p := by unfold cn_lo; rw [if_neg (by omega)]; exact y.symm
    have e2 : cn_hi f p q = f p := by unfold cn_hi; rw [if_neg (by omega)]
    refine ⟨hE, ?_, ?_⟩
    · rw [e1, e2, cn_u_same]; exact h2
    · rw [e1, e2, cn_u_same]; omega
  · intro z
    have y : ¬ f p = f q := fun w => z (e.mpr w)
    have ip := h2 p hp
    have iq := h2 q hq
    have hlo : cn_lo f p q ≤ n ∧ f (cn_lo f p q) = cn_lo f p q := by
      unfold cn_lo
      by_cases w : f p < f q
      · rw [if_pos w]; exact ip
      · rw [if_neg w]; exact iq
    have hhi : cn_hi f p q ≤ n ∧ f (cn_hi f p q) = cn_hi f p q := by
      unfold cn_hi
      by_cases w : f p < f q
      · rw [if_pos w]; exact iq
      · rw [if_neg w]; exact ip
    have hne : cn_lo f p q ≠ cn_hi f p q := by
      unfold cn_lo cn_hi
      by_cases w : f p < f q
      · rw [if_pos w, if_pos w]; exact y
      · rw [if_neg w, if_neg w]; exact fun v => y v.symm
    refine ⟨hE, cn_id_u h2 hlo.1 hlo.2 hne, ?_⟩
    have := cn_rp_u hhi.1 hlo.2 hhi.2 hne
    omega
/-- the reference's last reckoning -/
theorem cn_end {nd ln rp n : Nat} (h : nd + (n + 1) = ln + rp) : nI ln - (nI n + 1) + nI rp = nI nd := by
  have e : nI nd + (nI n + 1) = nI ln + nI rp := by rw [nI_1, nI_add, nI_add, h]
  generalize nI nd = A at e ⊢
  generalize nI ln = B at e ⊢
  generalize nI rp = C at e ⊢
  generalize nI n + 1 = D at e ⊢
  grind
end
section
/-! part 04: copies, clearings, sums over a segment of an array; banks (pure) -/
def cy_f (S T i : Nat) (x y : Nat → Int32) : Nat → Int32 := fun j => if T ≤ j ∧ j < T + i then y (S + (j - T)) else x j
theorem cy_0 (S T : Nat) (x y : Nat → Int32) : cy_f S T 0 x y = x := by
  funext j
  exact if_neg (fun w => absurd w.2 (by omega))
theorem cy_in {S T i j : Nat} {x y : Nat → Int32} (h : T ≤ j) (h2 : j < T + i) : cy_f S T i x y j = y (S + (j - T)) := if_pos ⟨h, h2⟩
theorem cy_out {S T i j : Nat} {x y : Nat → Int32} (h : j < T ∨ T + i ≤ j) : cy_f S T i x y j = x j := if_neg (fun w => absurd w (by omega))
theorem cy_s {S T i : Nat} {x y : Nat → Int32} : upd (cy_f S T i x y) (T + i) (y (S + i)) = cy_f S T (i + 1) x y := by
  funext j
  unfold upd
  by_cases z : j = T + i
  · rw [if_pos z, cy_in (by omega) (by omega), z, Nat.add_sub_cancel_left]
  · rw [if_neg z]
    by_cases w : T ≤ j ∧ j < T + i
    · rw [cy_in w.1 w.2, cy_in w.1 (by omega)]
    · rw [cy_out (by omega), cy_out (by omega)]
/-- within one array, source and target apart -/
theorem cy_self {S T i c : Nat} {x : Nat → Int32} (h : S + c ≤ T ∨ T + c ≤ S) (hi : i < c) : upd (cy_f S T i x x) (T + i) (cy_f S T i x x (S + i)) = cy_f S T (i + 1) x x := by
  rw [cy_out (j := S + i) (by omega)]
  exact cy_s
def zr_f (T i : Nat) (x : Nat → Int32) : Nat → Int32 := fun j => if T ≤ j ∧ j < T + i then 0 else x j
theorem zr_0 (T : Nat) (x : Nat → Int32) : zr_f T 0 x = x := by
  funext j
  exact if_neg (fun w => absurd w.2 (by omega))
theorem zr_in {T i j : Nat} {x : Nat → Int32} (h : T ≤ j) (h2 : j < T + i) : zr_f T i x j = 0 := if_pos ⟨h, h2⟩
theorem zr_out {T i j : Nat} {x : Nat → Int32} (h : j < T ∨ T + i ≤ j) : zr_f T i x j = x j := if_neg (fun w => absurd w (by omega))
theorem zr_s {T i : Nat} {x : Nat → Int32} : upd (zr_f T i x) (T + i) 0 = zr_f T (i + 1) x := by
  funext j
  unfold upd
  by_cases z : j = T + i
  · rw [if_pos z, zr_in (by omega) (by omega)]
  · rw [if_neg z]
    by_cases w : T ≤ j ∧ j < T + i
    · rw [zr_in w.1 w.2, zr_in w.1 (by omega)]
    · rw [zr_out (by omega), zr_out (by omega)]
def ad_f (S T i : Nat) (x y : Nat → Int32) : Nat → Int32 := fun j => if T ≤ j ∧ j < T + i then x j + y (S + (j - T)) else x j
theorem ad_0 (S T : Nat) (x y : Nat → Int32) : ad_f S T 0 x y = x := by
  funext j
  exact if_neg (fun w => absurd w.2 (by omega))
theorem ad_in {S T i j : Nat} {x y : Nat → Int32} (h : T ≤ j) (h2 : j < T + i) : ad_f S T i x y j = x j + y (S + (j - T)) := if_pos ⟨h, h2⟩
theorem ad_out {S T i j : Nat} {x y : Nat → Int32} (h : j < T ∨ T + i ≤ j) : ad_f S T i x y j = x j := if_neg (fun w => absurd w (by omega))
theorem ad_s {S T i : Nat} {x y : Nat → Int32} : upd (ad_f S T i x y) (T + i) (ad_f S T i x y (T + i) + y (S + i)) = ad_f S T (i + 1) x y := by
  funext j
  unfold upd
  by_cases z : j = T + i
  · rw [if_pos z, ad_out (j := T + i) (by omega), ad_in (by omega) (by omega), z, Nat.add_sub_cancel_left]
  · rw [if_neg z]
    by_cases w : T ≤ j ∧ j < T + i
    · rw [ad_in w.1 w.2, ad_in w.1 (by omega)]
    · rw [ad_out (by omega), ad_out (by omega)]
theorem ad_self {S T i c : Nat} {x : Nat → Int32} (h : S + c ≤ T ∨ T + c ≤ S) (hi : i < c) : upd (ad_f S T i x x) (T + i) (ad_f S T i x x (T + i) + ad_f S T i x x (S + i)) = ad_f S T (i + 1) x x := by
  rw [ad_out (j := S + i) (by omega)]
  exact ad_s
/-! a bank table: c cells a bank; the class has 4 in use, 12 kept, the draft; the reference 4 in use and the draft, and 12 kept elsewhere -/
def bk_R (c : Nat) (x y k : Nat → Int32) : Prop := (∀ j, j < 4 * c → x j = y j) ∧ (∀ j, j < c → x (16 * c + j) = y (4 * c + j)) ∧ (∀ j, j < 12 * c → x (4 * c + j) = k j)
theorem bk_def {c M : Nat} {x y k : Nat → Int32} (h : bk_R c x y k) (hM : M + c ≤ 4 * c) : bk_R c (cy_f (16 * c) M c x x) (cy_f (4 * c) M c y y) k := by
  refine ⟨fun j hj => ?_, fun j hj => ?_, fun j hj => ?_⟩
  · by_cases w : M ≤ j ∧ j < M + c
    · rw [cy_in w.1 w.2, cy_in w.1 w.2]
      exact h.2.1 (j - M) (by omega)
    · rw [cy_out (by omega), cy_out (by omega)]
      exact h.1 j hj
  · rw [cy_out (by omega), cy_out (by omega)]
    exact h.2.1 j hj
  · rw [cy_out (by omega)]
    exact h.2.2 j hj
theorem bk_add {c i : Nat} {x y k : Nat → Int32} {v : Int32} (h : bk_R c x y k) (hi : i < c) : bk_R c (upd x (16 * c + i) v) (upd y (4 * c + i) v) k := by
  refine ⟨fun j hj => ?_, fun j hj => ?_, fun j hj => ?_⟩
  · rw [pk_un (by omega), pk_un (by omega)]; exact h.1 j hj
  · by_cases z : j = i
    · rw [z, pk_us, pk_us]
    · rw [pk_un (by omega), pk_un (by omega)]; exact h.2.1 j hj
  · rw [pk_un (by omega)]; exact h.2.2 j hj
theorem bk_more {c A K : Nat} {x : Nat → Int32} (h : A + c ≤ K) : cy_f A (K + A) c (cy_f 0 K A x x) (cy_f 0 K A x x) = cy_f 0 K (A + c) x x := by
  funext j
  by_cases w : K + A ≤ j ∧ j < K + A + c
  · rw [cy_in w.1 w.2, cy_out (by omega), cy_in (by omega) (by omega)]
    congr 1
    omega
  · rw [cy_out (by omega)]
    by_cases v : K ≤ j ∧ j < K + A
    · rw [cy_in v.1 v.2, cy_in v.1 (by omega)]
    · rw [cy_out (by omega), cy_out (by omega)]
theorem bk_keep {c T : Nat} {x y k : Nat → Int32} (h : bk_R c x y k) (hT : T + 4 * c ≤ 12 * c) : bk_R c (cy_f 0 (4 * c + T) (4 * c) x x) y (cy_f 0 T (4 * c) k y) := by
  refine ⟨fun j hj => ?_, fun j hj => ?_, fun j hj => ?_⟩
  · rw [cy_out (by omega)]; exact h.1 j hj
  · rw [cy_out (by omega)]; exact h.2.1 j hj
  · by_cases w : T ≤ j ∧ j < T + 4 * c
    · rw [cy_in (by omega) (by omega), cy_in w.1 w.2]
      rw [show 0 + (4 * c + j - (4 * c + T)) = 0 + (j - T) from by omega]
      exact h.1 _ (by omega)
    · rw [cy_out (by omega), cy_out (by omega)]
      exact h.2.2 j hj
end
section
/-! part 05: the tables of stretches on both sides (pure) -/
theorem sr_ge {I W : Nat → Nat} {n : Nat} (h : sr_ok I W n) : ∀ j, j < n → j ≤ I j := by
  intro j
  induction j with
  | zero => intro _; exact Nat.zero_le _
  | succ j ih =>
    intro hj
    have h1 := ih (by omega)
    have h2 := h.2.1 j hj
    omega
theorem sr_len {I W : Nat → Nat} {n : Nat} (h : sr_ok I W n) : n ≤ 24 := by
  rcases Nat.eq_zero_or_pos n with z | z
  · omega
  · have h1 := sr_ge h (n - 1) (by omega)
    have h2 := (h.1 (n - 1) (by omega)).1
    omega
/-- cells base .. base + n - 1 of A and B hold the row I, W; R and V are its mask and its packed ways -/
def en_R (A B : Nat → Int32) (base n : Nat) (R : Int32) (V : Int64) (I W : Nat → Nat) : Prop :=
  sr_ok I W n ∧ (∀ j, j < n → A (base + j) = nI (I j) ∧ B (base + j) = nI (W j)) ∧ R = nI (sr_mk I n) ∧ V = lN (sr_we I W n)
theorem en_keep {A B A' B' : Nat → Int32} {base n : Nat} {R : Int32} {V : Int64} {I W : Nat → Nat} (h : en_R A B base n R V I W) (ha : ∀ j, j < n → A' (base + j) = A (base + j)) (hb : ∀ j, j < n → B' (base + j) = B (base + j)) : en_R A' B' base n R V I W :=
  ⟨h.1, fun j hj => ⟨(ha j hj).trans (h.2.1 j hj).1, (hb j hj).trans (h.2.1 j hj).2⟩, h.2.2⟩
theorem en_move {A B A' B' : Nat → Int32} {base base' n : Nat} {R : Int32} {V : Int64} {I W : Nat → Nat} (h : en_R A B base n R V I W) (ha : ∀ j, j < n → A' (base' + j) = A (base + j)) (hb : ∀ j, j < n → B' (base' + j) = B (base + j)) : en_R A' B' base' n R V I W :=
  ⟨h.1, fun j hj => ⟨(ha j hj).trans (h.2.1 j hj).1, (hb j hj).trans (h.2.1 j hj).2⟩, h.2.2⟩
theorem en_0 (A B : Nat → Int32) (base : Nat) (I W : Nat → Nat) : en_R A B base 0 0 0 I W :=
  ⟨sr_ok0 I W, fun j hj => absurd hj (by omega), rfl, rfl⟩
theorem en_pos {A B : Nat → Int32} {base n : Nat} {R : Int32} {V : Int64} {I W : Nat → Nat} (h : en_R A B base n R V I W) (hn : 0 < n) : ¬ R = 0 := by
  rw [h.2.2.1]
  exact nI_ne0 (sr_mk_pos I hn) (Nat.lt_trans (sr_mk_24 h.1) (by decide))
/-- equal masks and ways: equal rows -/
theorem en_same {A B A' B' : Nat → Int32} {base base' n n' : Nat} {R R' : Int32} {V V' : Int64} {I W I' W' : Nat → Nat} (h : en_R A B base n R V I W) (h' : en_R A' B' base' n' R' V' I' W') :
    (R = R' ∧ V = V') ↔ (n = n' ∧ ∀ j, j < n → A (base + j) = A' (base' + j) ∧ B (base + j) = B' (base' + j)) := by
  have l1 := sr_mk_24 h.1
  have l2 := sr_mk_24 h'.1
  have l3 := sr_we_48 h.1
  have l4 := sr_we_48 h'.1
  constructor
  · intro ⟨e1, e2⟩
    rw [h.2.2.1, h'.2.2.1, nI_eq (by omega) (by omega)] at e1
    rw [h.2.2.2, h'.2.2.2, pk_lEQ (by omega) (by omega)] at e2
    obtain ⟨e3, e4⟩ := sr_inj n n' h.1 h'.1 e1 e2
    refine ⟨e3, fun j hj => ?_⟩
    obtain ⟨a, b⟩ := e4 j hj
    rw [(h.2.1 j hj).1, (h.2.1 j hj).2, (h'.2.1 j (by omega)).1, (h'.2.1 j (by omega)).2, a, b]
    exact ⟨rfl, rfl⟩
  · intro ⟨e1, e2⟩
    subst e1
    have e : ∀ j, j < n → I j = I' j ∧ W j = W' j := by
      intro j hj
      have k1 := h.1.1 j hj
      have k2 := h'.1.1 j hj
      obtain ⟨a, b⟩ := e2 j hj
      rw [(h.2.1 j hj).1, (h'.2.1 j hj).1, nI_eq (by omega) (by omega)] at a
      rw [(h.2.1 j hj).2, (h'.2.1 j hj).2, nI_eq (by omega) (by omega)] at b
      exact ⟨a, b⟩
    obtain ⟨c1, c2⟩ := sr_cong n e
    rw [h.2.2.1, h'.2.2.1, h.2.2.2, h'.2.2.2, c1, c2]
    exact ⟨rfl, rfl⟩
/-- one stretch told apart: cell s on both sides -/
def st_1 (sg sr : Nat → Int32) (sw : Nat → Int64) (ri rv rl ti : Nat → Int32) (s : Nat) : Prop :=
  sg s = ti s ∧ ∃ (n : Nat) (I W : Nat → Nat), 0 < n ∧ rl s = nI n ∧ en_R ri rv (24 * s) n (sr s) (sw s) I W
def st_R (sn sg sr : Nat → Int32) (sw : Nat → Int64) (ri rv rl ti to : Nat → Int32) : Prop :=
  ∀ m, m < 4 → ∃ t, t ≤ 40 ∧ sn m = nI t ∧ to m = nI t ∧ ∀ k, k < t → st_1 sg sr sw ri rv rl ti (40 * m + k)
theorem st_same {sg sr : Nat → Int32} {sw : Nat → Int64} {ri rv rl ti A B : Nat → Int32} {s base n : Nat} {R : Int32} {V : Int64} {I W : Nat → Nat} (h : st_1 sg sr sw ri rv rl ti s) (h' : en_R A B base n R V I W) :
    (sr s = R ∧ sw s = V) ↔ (rl s = nI n ∧ ∀ j, j < n → ri (24 * s + j) = A (base + j) ∧ rv (24 * s + j) = B (base + j)) := by
  obtain ⟨_, n', I', W', h0, h1, h2⟩ := h
  have l1 := sr_len h2.1
  have l2 := sr_len h'.1
  rw [en_same h2 h', h1, nI_eq (by omega) (by omega)]
  constructor
  · intro ⟨a, b⟩; exact ⟨a, fun j hj => b j (by omega)⟩
  · intro ⟨a, b⟩; exact ⟨a, fun j hj => b j (by omega)⟩
/-- the first of t that meets C, or none -/
theorem st_find (C : Nat → Prop) : ∀ t : Nat, ∃ k, k ≤ t ∧ (∀ j, j < k → ¬ C j) ∧ (k < t → C k) := by
  intro t
  induction t with
  | zero => exact ⟨0, by omega, fun j hj => absurd hj (by omega), fun h => absurd h (by omega)⟩
  | succ t ih =>
    obtain ⟨k, h1, h2, h3⟩ := ih
    rcases Nat.lt_or_ge k t with z | z
    · exact ⟨k, by omega, h2, fun _ => h3 z⟩
    · have e : k = t := by omega
      subst e
      rcases Classical.em (C k) with y | y
      · exact ⟨k, by omega, h2, fun _ => y⟩
      · exact ⟨k + 1, by omega, fun j hj => by
          rcases Nat.lt_or_ge j k with w | w
          · exact h2 j w
          · have : j = k := by omega
            rw [this]; exact y, fun h => absurd h (by omega)⟩
/-- a stretch gone once more -/
theorem st_again {sn sg sr : Nat → Int32} {sw : Nat → Int64} {ri rv rl ti to : Nat → Int32} {s : Nat} (h : st_R sn sg sr sw ri rv rl ti to) (e : sg s = ti s) :
    st_R sn (upd sg s (sg s + 1)) sr sw ri rv rl (upd ti s (ti s + 1)) to := by
  intro m hm
  obtain ⟨t, h1, h2, h3, h4⟩ := h m hm
  refine ⟨t, h1, h2, h3, fun k hk => ?_⟩
  obtain ⟨h5, h6⟩ := h4 k hk
  refine ⟨?_, h6⟩
  by_cases z : 40 * m + k = s
  · rw [z, pk_us, pk_us, e]
  · rw [pk_un z, pk_un z, h5]
/-- a new stretch -/
theorem st_new {sn sg sr : Nat → Int32} {sw : Nat → Int64} {ri rv rl ti to A B : Nat → Int32} {m t base n : Nat} {R : Int32} {V : Int64} {I W : Nat → Nat} (h : st_R sn sg sr sw ri rv rl ti to) (hm : m < 4) (ht : sn m = nI t) (ht4 : t < 40)
    (hr : en_R A B base n R V I W) (hn : 0 < n) :
    st_R (upd sn m (nI (t + 1))) (upd sg (40 * m + t) 1) (upd sr (40 * m + t) R) (vp_updL sw (40 * m + t) V) (cy_f base (24 * (40 * m + t)) n ri A) (cy_f base (24 * (40 * m + t)) n rv B) (upd rl (40 * m + t) (nI n)) (upd ti (40 * m + t) 1) (upd to m (nI (t + 1))) := by
  have l := sr_len hr.1
  have old : ∀ m' k t', m' < 4 → t' ≤ 40 → sn m' = nI t' → k < t' → st_1 sg sr sw ri rv rl ti (40 * m' + k) → st_1 (upd sg (40 * m + t) 1) (upd sr (40 * m + t) R) (vp_updL sw (40 * m + t) V) (cy_f base (24 * (40 * m + t)) n ri A) (cy_f base (24 * (40 * m + t)) n rv B) (upd rl (40 * m + t) (nI n)) (upd ti (40 * m + t) 1) (40 * m' + k) := by
    intro m' k t' hm' ht' e hk ⟨h5, n', I', W', h6, h7, h8⟩
    have z : 40 * m' + k ≠ 40 * m + t := by
      by_cases y : m' = m
      · subst y
        rw [ht, nI_eq (by omega) (by omega)] at e
        omega
      · omega
    have l' := sr_len h8.1
    refine ⟨by rw [pk_un z, pk_un z]; exact h5, n', I', W', h6, by rw [pk_un z]; exact h7, ?_⟩
    rw [pk_un z, pk_uLn z]
    refine en_keep h8 (fun j hj => cy_out ?_) (fun j hj => cy_out ?_)
    · omega
    · omega
  intro m' hm'
  obtain ⟨t', h1, h2, h3, h4⟩ := h m' hm'
  by_cases y : m' = m
  · subst y
    have e : t' = t := by
      rw [ht, nI_eq (by omega) (by omega)] at h2
      exact h2.symm
    subst e
    refine ⟨t' + 1, by omega, pk_us, pk_us, fun k hk => ?_⟩
    rcases Nat.lt_or_ge k t' with z | z
    · exact old m' k t' hm' h1 h2 z (h4 k z)
    · have z : k = t' := by omega
      subst z
      refine ⟨by rw [pk_us, pk_us], n, I, W, hn, pk_us, ?_⟩
      rw [pk_us, pk_uLs]
      refine en_move hr (fun j hj => ?_) (fun j hj => ?_)
      · rw [cy_in (by omega) (by omega), Nat.add_sub_cancel_left]
      · rw [cy_in (by omega) (by omega), Nat.add_sub_cancel_left]
  · refine ⟨t', h1, by rw [pk_un y]; exact h2, by rw [pk_un y]; exact h3, fun k hk => old m' k t' hm' h1 h2 hk (h4 k hk)⟩
/-- no stretches of m any more -/
theorem st_none {sn sg sr : Nat → Int32} {sw : Nat → Int64} {ri rv rl ti to : Nat → Int32} {m : Nat} (h : st_R sn sg sr sw ri rv rl ti to) : st_R (upd sn m 0) sg sr sw ri rv rl ti (upd to m 0) := by
  intro m' hm'
  by_cases y : m' = m
  · subst y
    exact ⟨0, by omega, pk_us, pk_us, fun k hk => absurd hk (by omega)⟩
  · obtain ⟨t', h1, h2, h3, h4⟩ := h m' hm'
    exact ⟨t', h1, by rw [pk_un y]; exact h2, by rw [pk_un y]; exact h3, h4⟩
theorem st_init {sg sr : Nat → Int32} {sw : Nat → Int64} {ri rv rl ti : Nat → Int32} : st_R (fun _ => 0) sg sr sw ri rv rl ti (fun _ => 0) :=
  fun _ _ => ⟨0, by omega, rfl, rfl, fun k hk => absurd hk (by omega)⟩
end
section
/-! part 06: invocations at work on both sides; bounds of the counts (pure) -/
/-- equal below n -/
def lo_R {α : Type} (n : Nat) (x y : Nat → α) : Prop := ∀ j, j < n → y j = x j
theorem lo_r {α : Type} {n : Nat} {x : Nat → α} : lo_R n x x := fun _ _ => rfl
theorem lo_u {n k : Nat} {x : Nat → Int32} {v : Int32} (h : n ≤ k) : lo_R n x (upd x k v) := fun _ hj => pk_un (by omega)
theorem lo_uL {n k : Nat} {x : Nat → Int64} {v : Int64} (h : n ≤ k) : lo_R n x (vp_updL x k v) := fun _ hj => pk_uLn (by omega)
theorem lo_t {α : Type} {n : Nat} {x y z : Nat → α} (h : lo_R n x y) (h' : lo_R n y z) : lo_R n x z := fun j hj => (h' j hj).trans (h j hj)
/-- invocation d: of method m, at instruction i, its variables -/
def fr_c (sz : Nat → Nat) (aw pl vs me pc vr : Nat → Int32) (d m i : Nat) : Prop :=
  m < 4 ∧ i < sz m ∧ aw d = nI m ∧ me d = nI m ∧ pl d = nI i ∧ pc d = nI i ∧ ∀ k, k < 4 → vs (4 * d + k) = vr (4 * d + k)
/-- its instruction i has been begun -/
def fr_b (sz : Nat → Nat) (aw pl vs rr : Nat → Int32) (rW : Nat → Int64) (me pc vr hi hw hl : Nat → Int32) (d m i : Nat) : Prop :=
  fr_c sz aw pl vs me pc vr d m i ∧ ∃ (n : Nat) (I W : Nat → Nat), hl d = nI (n + 1) ∧ en_R hi hw (24 * d) (n + 1) (rr d) (rW d) I W ∧ I n = i
/-- its instruction i is the next to be begun -/
def fr_a (sz : Nat → Nat) (aw pl vs rr : Nat → Int32) (rW wo : Nat → Int64) (me pc vr hi hw hl it : Nat → Int32) (d m i : Nat) : Prop :=
  fr_c sz aw pl vs me pc vr d m i ∧ ∃ (n : Nat) (I W : Nat → Nat), hl d = nI n ∧ en_R hi hw (24 * d) n (rr d) (rW d) I W ∧
    ((n = 0 ∧ wo d = 0) ∨ (0 < n ∧ I (n - 1) < i ∧ ∃ w, w < 4 ∧ it d = nI w ∧ wo d = lN (w * 4 ^ I (n - 1))))
theorem fr_c_lo {sz : Nat → Nat} {aw pl vs me pc vr aw' pl' vs' me' pc' vr' : Nat → Int32} {D d m i : Nat} (h : fr_c sz aw pl vs me pc vr d m i) (hd : d < D)
    (h1 : lo_R D aw aw') (h2 : lo_R D pl pl') (h3 : lo_R (4 * D) vs vs') (h4 : lo_R D me me') (h5 : lo_R D pc pc') (h6 : lo_R (4 * D) vr vr') : fr_c sz aw' pl' vs' me' pc' vr' d m i := by
  obtain ⟨a, b, c, e, f, g, k⟩ := h
  exact ⟨a, b, (h1 d hd).trans c, (h4 d hd).trans e, (h2 d hd).trans f, (h5 d hd).trans g, fun j hj => by rw [h3 _ (by omega), h6 _ (by omega)]; exact k j hj⟩
/-- all invocations below D, each with its instruction begun -/
def fr_L (sz : Nat → Nat) (aw pl vs rr : Nat → Int32) (rW : Nat → Int64) (me pc vr hi hw hl : Nat → Int32) (D : Nat) : Prop :=
  ∀ d, d < D → ∃ m i, fr_b sz aw pl vs rr rW me pc vr hi hw hl d m i
theorem fr_L_le {sz : Nat → Nat} {aw pl vs rr : Nat → Int32} {rW : Nat → Int64} {me pc vr hi hw hl : Nat → Int32} {D D' : Nat} (h : fr_L sz aw pl vs rr rW me pc vr hi hw hl D) (hd : D' ≤ D) : fr_L sz aw pl vs rr rW me pc vr hi hw hl D' :=
  fun d hd' => h d (by omega)
theorem fr_L_lo {sz : Nat → Nat} {aw pl vs rr : Nat → Int32} {rW : Nat → Int64} {me pc vr hi hw hl aw' pl' vs' rr' : Nat → Int32} {rW' : Nat → Int64} {me' pc' vr' hi' hw' hl' : Nat → Int32} {D : Nat} (h : fr_L sz aw pl vs rr rW me pc vr hi hw hl D)
    (h1 : lo_R D aw aw') (h2 : lo_R D pl pl') (h3 : lo_R (4 * D) vs vs') (h4 : lo_R D rr rr') (h5 : lo_R D rW rW') (h6 : lo_R D me me') (h7 : lo_R D pc pc') (h8 : lo_R (4 * D) vr vr') (h9 : lo_R (24 * D) hi hi') (hA : lo_R (24 * D) hw hw') (hB : lo_R D hl hl') :
    fr_L sz aw' pl' vs' rr' rW' me' pc' vr' hi' hw' hl' D := by
  intro d hd
  obtain ⟨m, i, hc, n, I, W, e1, e2, e3⟩ := h d hd
  have l := sr_len e2.1
  refine ⟨m, i, fr_c_lo hc hd h1 h2 h3 h6 h7 h8, n, I, W, (hB d hd).trans e1, ?_, e3⟩
  rw [h4 d hd, h5 d hd]
  exact en_keep e2 (fun j hj => h9 _ (by omega)) (fun j hj => hA _ (by omega))
theorem fr_L_s {sz : Nat → Nat} {aw pl vs rr : Nat → Int32} {rW : Nat → Int64} {me pc vr hi hw hl : Nat → Int32} {D m i : Nat} (h : fr_L sz aw pl vs rr rW me pc vr hi hw hl D) (hb : fr_b sz aw pl vs rr rW me pc vr hi hw hl D m i) : fr_L sz aw pl vs rr rW me pc vr hi hw hl (D + 1) := by
  intro d hd
  rcases Nat.lt_or_ge d D with z | z
  · exact h d z
  · have e : d = D := by omega
    rw [e]; exact ⟨m, i, hb⟩
/-- begin: the row grows by the instruction -/
theorem fr_begin {sz : Nat → Nat} {aw pl vs rr : Nat → Int32} {rW wo : Nat → Int64} {me pc vr hi hw hl it : Nat → Int32} {d m i : Nat} (hs : sz m ≤ 24) (h : fr_a sz aw pl vs rr rW wo me pc vr hi hw hl it d m i) :
    ∃ n, n < 24 ∧ hl d = nI n ∧ fr_b sz aw pl vs (upd rr d (rr d ||| ((1 : Int32) <<< (pl d &&& 31)))) (vp_updL rW d (rW d ||| wo d)) me pc vr (upd hi (24 * d + n) (pc d)) (upd hw (24 * d + n) (if n = 0 then 0 else it d)) (upd hl d (nI (n + 1))) d m i := by
  obtain ⟨hc, n, I, W, e1, e2, e3⟩ := h
  obtain ⟨hm, hi', ha, hme, hp, hpc, hv⟩ := id hc
  have l24 : i < 24 := by omega
  have hlast : 0 < n → I (n - 1) < i := fun z => by
    rcases e3 with ⟨y, _⟩ | ⟨_, y, _⟩
    · omega
    · exact y
  have hn : n < 24 := by
    rcases Nat.eq_zero_or_pos n with z | z
    · omega
    · have := sr_ge e2.1 (n - 1) (by omega)
      have := hlast z
      omega
  obtain ⟨w, hw4, hw0, hwv, hwo⟩ : ∃ w, w < 4 ∧ (n = 0 → w = 0) ∧ (if n = 0 then 0 else it d) = nI w ∧ (rW d ||| wo d) = lN (sr_we I W n + (if n = 0 then 0 else w * 4 ^ I (n - 1))) := by
    rcases e3 with ⟨y, y2⟩ | ⟨y, y2, w, y3, y4, y5⟩
    · subst y
      refine ⟨0, by omega, fun _ => rfl, rfl, ?_⟩
      rw [e2.2.2.2, y2, if_pos rfl]
      show lN 0 ||| (0 : Int64) = lN 0
      decide
    · refine ⟨w, y3, fun z => by omega, by rw [if_neg (by omega)]; exact y4, ?_⟩
      obtain ⟨n', rfl⟩ : ∃ n', n = n' + 1 := ⟨n - 1, by omega⟩
      rw [if_neg (by omega), e2.2.2.2, y5]
      have h1 := sr_we_lt n' e2.1
      rw [Nat.add_sub_cancel] at y2 ⊢
      have h2 : 4 ^ (I n' + 1) ≤ 4 ^ 24 := Nat.pow_le_pow_right (by decide) (by omega)
      have h3 : w * 4 ^ I n' ≤ 3 * 4 ^ I n' := Nat.mul_le_mul_right _ (by omega)
      rw [Nat.pow_succ] at h2
      have h4 : (4 : Nat) ^ 24 < 2 ^ 60 := by decide
      exact g_or' (k := 2 * I n') (by rw [Nat.pow_mul]) h1 (by omega)
  have hk := sr_ok_s e2.1 l24 hw4 hlast hw0
  have hcg := sr_cong (I := I) (W := W) (J := fun j => if j = n then i else I j) (V := fun j => if j = n then w else W j) n (fun j hj => by
    have : ¬ j = n := by omega
    simp only [if_neg this]; exact ⟨trivial, trivial⟩)
  have hmk : sr_mk I n < 2 ^ i := sr_mk_lt n i e2.1 (fun j hj => by
    rcases Nat.lt_or_ge j (n - 1) with z | z
    · have h1 := sr_mono e2.1 (n - 1) j z (by omega)
      have h2 := hlast (by omega)
      omega
    · have e : j = n - 1 := by omega
      rw [e]; exact hlast (by omega))
  refine ⟨n, hn, e1, hc, n, fun j => if j = n then i else I j, fun j => if j = n then w else W j, pk_us, ⟨hk, fun j hj => ?_, ?_, ?_⟩, ?_⟩
  · by_cases z : j = n
    · subst z
      rw [pk_us, pk_us, hpc, hwv]
      simp
    · rw [pk_un (by omega), pk_un (by omega)]
      simp only [if_neg z]
      exact e2.2.1 j (by omega)
  · rw [pk_us, hp, e2.2.2.1, nu_orbit l24 hmk, sr_mk_s, ← hcg.1]
    simp
  · rw [pk_uLs, hwo]
    cases n with
    | zero => rfl
    | succ n =>
      rw [sr_we_s, ← hcg.2]
      have : ¬ n = n + 1 := by omega
      simp [this]
  · simp
/-! bounds: no count outgrows the load -/
def tb_R (D L : Nat) (tk : Nat → Int32) : Prop := ∀ j, j < 384 → ∃ t, tk j = nI t ∧ t + D ≤ L
theorem tb_w {D L D' L' : Nat} {tk : Nat → Int32} (h : tb_R D L tk) (hd : D' + L ≤ D + L') : tb_R D' L' tk :=
  fun j hj => by
    obtain ⟨t, a, b⟩ := h j hj
    exact ⟨t, a, by omega⟩
theorem tb_inc {D L k : Nat} {tk : Nat → Int32} (h : tb_R D L tk) (hk : k < 384) : tb_R D (L + 1) (upd tk k (tk k + 1)) := by
  intro j hj
  by_cases z : j = k
  · obtain ⟨t, a, b⟩ := h k hk
    rw [z, pk_us, a, nI_1]
    exact ⟨t + 1, rfl, by omega⟩
  · obtain ⟨t, a, b⟩ := h j hj
    rw [pk_un z]
    exact ⟨t, a, by omega⟩
end
section
/-! part 07: the relation's groups and what keeps them (pure) -/
def sz_f (x : Nat → Int32) (b : Nat) : Nat := (x b).toNatClampNeg
/-- the first N cells hold naturals up to M -/
def rg_R (N M : Nat) (x : Nat → Int32) : Prop := ∀ b, b < N → ∃ n, n ≤ M ∧ x b = nI n
theorem rg_at {N M : Nat} {x : Nat → Int32} (h : rg_R N M x) (hM : M < 2 ^ 31) {b : Nat} (hb : b < N) : x b = nI (sz_f x b) ∧ sz_f x b ≤ M := by
  obtain ⟨n, h1, h2⟩ := h b hb
  have e : sz_f x b = n := by unfold sz_f; rw [h2]; exact nI_clamp (by omega)
  rw [e]
  exact ⟨h2, h1⟩
theorem rg_u {N M k n : Nat} {x : Nat → Int32} (h : rg_R N M x) (hn : n ≤ M) : rg_R N M (upd x k (nI n)) := by
  intro b hb
  by_cases z : b = k
  · rw [z, pk_us]; exact ⟨n, hn, rfl⟩
  · rw [pk_un z]; exact h b hb
theorem rg_cy {N M S T i : Nat} {x : Nat → Int32} (h : rg_R N M x) (hs : S + i ≤ N) : rg_R N M (cy_f S T i x x) := by
  intro b hb
  by_cases w : T ≤ b ∧ b < T + i
  · rw [cy_in w.1 w.2]; exact h _ (by omega)
  · rw [cy_out (by omega)]; exact h b hb
theorem rg_0 (N M : Nat) : rg_R N M (fun _ => 0) := fun _ _ => ⟨0, by omega, rfl⟩
theorem sz_us {x : Nat → Int32} {k n : Nat} (h : n < 2 ^ 31) : sz_f (upd x k (nI n)) k = n := by unfold sz_f; rw [pk_us]; exact nI_clamp h
theorem sz_un {x : Nat → Int32} {k b : Nat} {v : Int32} (h : b ≠ k) : sz_f (upd x k v) b = sz_f x b := by unfold sz_f; rw [pk_un h]
/-- counts, w cells an instruction: equal where the instruction is there, in use and kept -/
def ct_R (w : Nat) (xs xc yc kc : Nat → Int32) : Prop :=
  (∀ m, m < 4 → ∀ i, i < w * sz_f xs m → xc (24 * w * m + i) = yc (24 * w * m + i)) ∧
  (∀ b, b < 12 → ∀ i, i < w * sz_f xs (4 + b) → xc (96 * w + 24 * w * b + i) = kc (24 * w * b + i))
theorem ct_0 (w : Nat) (xs : Nat → Int32) : ct_R w xs (fun _ => 0) (fun _ => 0) (fun _ => 0) := ⟨fun _ _ _ _ => rfl, fun _ _ _ _ => rfl⟩
theorem ct_u1 {xs xc yc kc : Nat → Int32} {k : Nat} {v : Int32} (h : ct_R 1 xs xc yc kc) (hk : k < 96) : ct_R 1 xs (upd xc k v) (upd yc k v) kc := by
  refine ⟨fun m hm i hi => ?_, fun b hb i hi => ?_⟩
  · by_cases z : 24 * 1 * m + i = k
    · rw [z, pk_us, pk_us]
    · rw [pk_un z, pk_un z]; exact h.1 m hm i hi
  · rw [pk_un (by omega)]; exact h.2 b hb i hi
theorem ct_u4 {xs xc yc kc : Nat → Int32} {k : Nat} {v : Int32} (h : ct_R 4 xs xc yc kc) (hk : k < 384) : ct_R 4 xs (upd xc k v) (upd yc k v) kc := by
  refine ⟨fun m hm i hi => ?_, fun b hb i hi => ?_⟩
  · by_cases z : 24 * 4 * m + i = k
    · rw [z, pk_us, pk_us]
    · rw [pk_un z, pk_un z]; exact h.1 m hm i hi
  · rw [pk_un (by omega)]; exact h.2 b hb i hi
theorem ct_at1 {xs xc yc kc : Nat → Int32} {m i : Nat} (h : ct_R 1 xs xc yc kc) (hm : m < 4) (hi : i < sz_f xs m) : xc (24 * m + i) = yc (24 * m + i) := by
  have := h.1 m hm i (by omega)
  rw [Nat.mul_one] at this
  exact this
theorem ct_at4 {xs xc yc kc : Nat → Int32} {m i k : Nat} (h : ct_R 4 xs xc yc kc) (hm : m < 4) (hi : i < sz_f xs m) (hk : k < 4) : xc (4 * (24 * m + i) + k) = yc (4 * (24 * m + i) + k) := by
  have := h.1 m hm (4 * i + k) (by omega)
  rw [show 24 * 4 * m + (4 * i + k) = 4 * (24 * m + i) + k from by omega] at this
  exact this
/-- count one more -/
theorem ct_inc1 {xs xc yc kc : Nat → Int32} {m i : Nat} (h : ct_R 1 xs xc yc kc) (hm : m < 4) (hi : i < sz_f xs m) (h24 : i < 24) : ct_R 1 xs (upd xc (24 * m + i) (xc (24 * m + i) + 1)) (upd yc (24 * m + i) (yc (24 * m + i) + 1)) kc := by
  rw [← ct_at1 h hm hi]
  exact ct_u1 h (by omega)
theorem ct_inc4 {xs xc yc kc : Nat → Int32} {m i k : Nat} (h : ct_R 4 xs xc yc kc) (hm : m < 4) (hi : i < sz_f xs m) (h24 : i < 24) (hk : k < 4) : ct_R 4 xs (upd xc (4 * (24 * m + i) + k) (xc (4 * (24 * m + i) + k) + 1)) (upd yc (4 * (24 * m + i) + k) (yc (4 * (24 * m + i) + k) + 1)) kc := by
  rw [← ct_at4 h hm hi hk]
  exact ct_u4 h (by omega)
/-- sizes may change where no counts are left, or fall to 0; here: the draft's -/
theorem ct_sz {w : Nat} {xs xs' xc yc kc : Nat → Int32} (h : ct_R w xs xc yc kc) (e : ∀ b, b < 16 → sz_f xs' b = sz_f xs b) : ct_R w xs' xc yc kc := by
  refine ⟨fun m hm i hi => ?_, fun b hb i hi => ?_⟩
  · rw [e m (by omega)] at hi; exact h.1 m hm i hi
  · rw [e (4 + b) (by omega)] at hi; exact h.2 b hb i hi
/-- method m cleared on both sides, its size anything up to 24 -/
theorem ct_clr1 {xs xs' xc yc kc : Nat → Int32} {m : Nat} (h : ct_R 1 xs xc yc kc) (hm : m < 4) (hs : ∀ b, b < 16 → sz_f xs' b ≤ 24) (e : ∀ b, b < 16 → b ≠ m → sz_f xs' b = sz_f xs b) : ct_R 1 xs' (zr_f (24 * m) 24 xc) (zr_f (24 * m) 24 yc) kc := by
  refine ⟨fun m' hm' i hi => ?_, fun b hb i hi => ?_⟩
  · have hb := hs m' (by omega)
    by_cases z : m' = m
    · subst z
      rw [zr_in (by omega) (by omega), zr_in (by omega) (by omega)]
    · rw [e m' (by omega) z] at hi hb
      rw [zr_out (by omega), zr_out (by omega)]
      exact h.1 m' hm' i hi
  · rw [e (4 + b) (by omega) (by omega)] at hi
    rw [zr_out (by omega)]
    exact h.2 b hb i hi
theorem ct_clr4 {xs xs' xc yc kc : Nat → Int32} {m : Nat} (h : ct_R 4 xs xc yc kc) (hm : m < 4) (hs : ∀ b, b < 16 → sz_f xs' b ≤ 24) (e : ∀ b, b < 16 → b ≠ m → sz_f xs' b = sz_f xs b) : ct_R 4 xs' (zr_f (96 * m) 96 xc) (zr_f (96 * m) 96 yc) kc := by
  refine ⟨fun m' hm' i hi => ?_, fun b hb i hi => ?_⟩
  · have hb := hs m' (by omega)
    by_cases z : m' = m
    · subst z
      rw [zr_in (by omega) (by omega), zr_in (by omega) (by omega)]
    · rw [e m' (by omega) z] at hi hb
      rw [zr_out (by omega), zr_out (by omega)]
      exact h.1 m' hm' i hi
  · rw [e (4 + b) (by omega) (by omega)] at hi
    rw [zr_out (by omega)]
    exact h.2 b hb i hi
/-- kept: slot s of both sides holds what is in use -/
theorem ct_keep1 {xs xs' xc yc kc : Nat → Int32} {s : Nat} (h : ct_R 1 xs xc yc kc) (hs : s < 3) (hz : ∀ b, b < 16 → sz_f xs b ≤ 24) (e : ∀ b, b < 4 + 4 * s ∨ 8 + 4 * s ≤ b → sz_f xs' b = sz_f xs b) (e2 : ∀ m, m < 4 → sz_f xs' (4 + 4 * s + m) = sz_f xs m) :
    ct_R 1 xs' (cy_f 0 (96 + 96 * s) 96 xc xc) yc (cy_f 0 (96 * s) 96 kc yc) := by
  refine ⟨fun m hm i hi => ?_, fun b hb i hi => ?_⟩
  · rw [e m (by omega)] at hi
    have := hz m (by omega)
    rw [cy_out (by omega)]
    exact h.1 m hm i hi
  · by_cases w : 4 * s ≤ b ∧ b < 4 * s + 4
    · obtain ⟨m, rfl⟩ : ∃ m, b = 4 * s + m := ⟨b - 4 * s, by omega⟩
      rw [show 4 + (4 * s + m) = 4 + 4 * s + m from by omega, e2 m (by omega)] at hi
      have := hz m (by omega)
      rw [cy_in (by omega) (by omega), cy_in (by omega) (by omega)]
      have := h.1 m (by omega) i hi
      rw [show 0 + (96 * 1 + 24 * 1 * (4 * s + m) + i - (96 + 96 * s)) = 24 * 1 * m + i from by omega, show 0 + (24 * 1 * (4 * s + m) + i - 96 * s) = 24 * 1 * m + i from by omega]
      exact this
    · rw [e (4 + b) (by omega)] at hi
      have := hz (4 + b) (by omega)
      rw [cy_out (by omega), cy_out (by omega)]
      exact h.2 b hb i hi
theorem ct_keep4 {xs xs' xc yc kc : Nat → Int32} {s : Nat} (h : ct_R 4 xs xc yc kc) (hs : s < 3) (hz : ∀ b, b < 16 → sz_f xs b ≤ 24) (e : ∀ b, b < 4 + 4 * s ∨ 8 + 4 * s ≤ b → sz_f xs' b = sz_f xs b) (e2 : ∀ m, m < 4 → sz_f xs' (4 + 4 * s + m) = sz_f xs m) :
    ct_R 4 xs' (cy_f 0 (384 + 384 * s) 384 xc xc) yc (cy_f 0 (384 * s) 384 kc yc) := by
  refine ⟨fun m hm i hi => ?_, fun b hb i hi => ?_⟩
  · rw [e m (by omega)] at hi
    have := hz m (by omega)
    rw [cy_out (by omega)]
    exact h.1 m hm i hi
  · by_cases w : 4 * s ≤ b ∧ b < 4 * s + 4
    · obtain ⟨m, rfl⟩ : ∃ m, b = 4 * s + m := ⟨b - 4 * s, by omega⟩
      rw [show 4 + (4 * s + m) = 4 + 4 * s + m from by omega, e2 m (by omega)] at hi
      have := hz m (by omega)
      rw [cy_in (by omega) (by omega), cy_in (by omega) (by omega)]
      have := h.1 m (by omega) i hi
      rw [show 0 + (96 * 4 + 24 * 4 * (4 * s + m) + i - (384 + 384 * s)) = 24 * 4 * m + i from by omega, show 0 + (24 * 4 * (4 * s + m) + i - 384 * s) = 24 * 4 * m + i from by omega]
      exact this
    · rw [e (4 + b) (by omega)] at hi
      have := hz (4 + b) (by omega)
      rw [cy_out (by omega), cy_out (by omega)]
      exact h.2 b hb i hi
/-- merged: method m gets what is kept at bank 4 + b of the same size -/
theorem ct_mrg1 {xs xc yc kc : Nat → Int32} {m b : Nat} (h : ct_R 1 xs xc yc kc) (hm : m < 4) (hb : b < 12) (hz : ∀ b, b < 16 → sz_f xs b ≤ 24) (e : sz_f xs (4 + b) = sz_f xs m) :
    ct_R 1 xs (ad_f (96 + 24 * b) (24 * m) 24 xc xc) (ad_f (24 * b) (24 * m) (sz_f xs m) yc kc) kc := by
  refine ⟨fun m' hm' i hi => ?_, fun b' hb' i hi => ?_⟩
  · have := hz m' (by omega)
    have := hz m (by omega)
    by_cases z : m' = m
    · subst z
      rw [ad_in (by omega) (by omega), ad_in (by omega) (by omega), h.1 m' hm' i hi]
      have := h.2 b hb i (by omega)
      rw [show 96 + 24 * b + (24 * 1 * m' + i - 24 * m') = 96 * 1 + 24 * 1 * b + i from by omega, show 24 * b + (24 * 1 * m' + i - 24 * m') = 24 * 1 * b + i from by omega, this]
    · rw [ad_out (by omega), ad_out (by omega)]
      exact h.1 m' hm' i hi
  · rw [ad_out (by omega)]
    exact h.2 b' hb' i hi
theorem ct_mrg4 {xs xc yc kc : Nat → Int32} {m b : Nat} (h : ct_R 4 xs xc yc kc) (hm : m < 4) (hb : b < 12) (hz : ∀ b, b < 16 → sz_f xs b ≤ 24) (e : sz_f xs (4 + b) = sz_f xs m) :
    ct_R 4 xs (ad_f (384 + 96 * b) (96 * m) 96 xc xc) (ad_f (96 * b) (96 * m) (4 * sz_f xs m) yc kc) kc := by
  refine ⟨fun m' hm' i hi => ?_, fun b' hb' i hi => ?_⟩
  · have := hz m' (by omega)
    have := hz m (by omega)
    by_cases z : m' = m
    · subst z
      rw [ad_in (by omega) (by omega), ad_in (by omega) (by omega), h.1 m' hm' i hi]
      have := h.2 b hb i (by omega)
      rw [show 384 + 96 * b + (24 * 4 * m' + i - 96 * m') = 96 * 4 + 24 * 4 * b + i from by omega, show 96 * b + (24 * 4 * m' + i - 96 * m') = 24 * 4 * b + i from by omega, this]
    · rw [ad_out (by omega), ad_out (by omega)]
      exact h.1 m' hm' i hi
  · rw [ad_out (by omega)]
    exact h.2 b' hb' i hi
theorem ad_zr {S T c : Nat} {x : Nat → Int32} (h : S + c ≤ T ∨ T + c ≤ S) : ad_f S T c (zr_f T c x) (zr_f T c x) = cy_f S T c x x := by
  funext j
  by_cases w : T ≤ j ∧ j < T + c
  · rw [ad_in w.1 w.2, cy_in w.1 w.2, zr_in w.1 w.2, zr_out (by omega), Int32.zero_add]
  · rw [ad_out (by omega), cy_out (by omega), zr_out (by omega)]
/-- what is kept of the taken counts stays below the load kept with it -/
def kt_R (s K : Nat) (xt : Nat → Int32) : Prop := ∀ j, j < 384 → ∃ t, t ≤ K ∧ xt (384 + 384 * s + j) = nI t
theorem kt_lo {s K k : Nat} {xt : Nat → Int32} {v : Int32} (h : kt_R s K xt) (hk : k < 384) : kt_R s K (upd xt k v) := fun j hj => by
  rw [pk_un (by omega)]; exact h j hj
/-- slots -/
def sl_R (xu xl xt yk yl : Nat → Int32) : Prop := ∀ s, s < 3 → xu s = yk s ∧ (xu s = 0 ∨ xu s = 1) ∧ ∃ K, K ≤ 1000000200 ∧ xl s = nI K ∧ yl s = nI K ∧ kt_R s K xt
theorem sl_t {xu xl xt xt' yk yl : Nat → Int32} (h : sl_R xu xl xt yk yl) (e : ∀ j, 384 ≤ j → xt' j = xt j) : sl_R xu xl xt' yk yl := fun s hs => by
  obtain ⟨h1, h2, K, h3, h4, h5, h6⟩ := h s hs
  exact ⟨h1, h2, K, h3, h4, h5, fun j hj => by rw [e _ (by omega)]; exact h6 j hj⟩
end
section
/-! part 08: the groups of the relation; the relation -/
def gp_R (xsizes xops xargsA xargsB xlines xguards xfroms xtos xats yop ya yb yline ylength yfrom yto yat yhandlers ykOp ykA ykB ykLine ykLength ykFrom ykTo ykAt ykHandlers : Nat → Int32) : Prop :=
  bk_R 1 xsizes ylength ykLength ∧ bk_R 1 xguards yhandlers ykHandlers ∧ bk_R 24 xops yop ykOp ∧ bk_R 24 xargsA ya ykA ∧ bk_R 24 xargsB yb ykB ∧ bk_R 24 xlines yline ykLine ∧
  bk_R 3 xfroms yfrom ykFrom ∧ bk_R 3 xtos yto ykTo ∧ bk_R 3 xats yat ykAt ∧ rg_R 17 24 xsizes ∧ rg_R 17 3 xguards ∧ rg_R 408 3 xargsA ∧ rg_R 51 23 xats
def gc_R (xsizes xbegunCounts xthrownCounts xtakenCounts xslotUsed xslotLoad ybegun ythrown ytaken ykBegun ykThrown ykTaken ykept ykLoad : Nat → Int32) : Prop :=
  ct_R 1 xsizes xbegunCounts ybegun ykBegun ∧ ct_R 1 xsizes xthrownCounts ythrown ykThrown ∧ ct_R 4 xsizes xtakenCounts ytaken ykTaken ∧ sl_R xslotUsed xslotLoad xtakenCounts ykept ykLoad
section
variable {xdepth xsignal xcarried xlatest xload : Int32} {xsizes xops xargsA xargsB xlines xguards xfroms xtos xats xbegunCounts xthrownCounts xtakenCounts xslotUsed xslotLoad xstretchNumber xstretchGone xstretchRow xatWork xplace xvariables xrow xpart : Nat → Int32} {xstretchWays xrowWays xwayOn : Nat → Int64}
variable {ydepth ysteps yresult youtcome yload yover : Int32} {yop ya yb yline ylength yfrom yto yat yhandlers ybegun ytaken ythrown yrowI yrowWay yrowLength ytimes ytold ykOp ykA ykB ykLine ykLength ykFrom ykTo ykAt ykHandlers ykBegun ykTaken ykThrown ykept ymethod ypc yvariable yhereI yhereWay yhereLength yinto ykLoad ypart : Nat → Int32}
/-- size of a bank in use, on both sides -/
theorem gp_sz {m : Nat} (h : (gp_R xsizes xops xargsA xargsB xlines xguards xfroms xtos xats yop ya yb yline ylength yfrom yto yat yhandlers ykOp ykA ykB ykLine ykLength ykFrom ykTo ykAt ykHandlers)) (hm : m < 4) : xsizes m = nI (sz_f xsizes m) ∧ ylength m = nI (sz_f xsizes m) ∧ sz_f xsizes m ≤ 24 := by
  obtain ⟨h1, h2⟩ := rg_at h.2.2.2.2.2.2.2.2.2.1 (by decide) (show m < 17 by omega)
  exact ⟨h1, by rw [← h.1.1 m (by omega)]; exact h1, h2⟩
theorem gp_gd {m : Nat} (h : (gp_R xsizes xops xargsA xargsB xlines xguards xfroms xtos xats yop ya yb yline ylength yfrom yto yat yhandlers ykOp ykA ykB ykLine ykLength ykFrom ykTo ykAt ykHandlers)) (hm : m < 4) : xguards m = nI (sz_f xguards m) ∧ yhandlers m = nI (sz_f xguards m) ∧ sz_f xguards m ≤ 3 := by
  obtain ⟨h1, h2⟩ := rg_at h.2.2.2.2.2.2.2.2.2.2.1 (by decide) (show m < 17 by omega)
  exact ⟨h1, by rw [← h.2.1.1 m (by omega)]; exact h1, h2⟩
theorem gp_op {m i : Nat} (h : (gp_R xsizes xops xargsA xargsB xlines xguards xfroms xtos xats yop ya yb yline ylength yfrom yto yat yhandlers ykOp ykA ykB ykLine ykLength ykFrom ykTo ykAt ykHandlers)) (hm : m < 4) (hi : i < 24) : xops (24 * m + i) = yop (24 * m + i) := h.2.2.1.1 _ (by omega)
theorem gp_b {m i : Nat} (h : (gp_R xsizes xops xargsA xargsB xlines xguards xfroms xtos xats yop ya yb yline ylength yfrom yto yat yhandlers ykOp ykA ykB ykLine ykLength ykFrom ykTo ykAt ykHandlers)) (hm : m < 4) (hi : i < 24) : xargsB (24 * m + i) = yb (24 * m + i) := h.2.2.2.2.1.1 _ (by omega)
theorem gp_ln {m i : Nat} (h : (gp_R xsizes xops xargsA xargsB xlines xguards xfroms xtos xats yop ya yb yline ylength yfrom yto yat yhandlers ykOp ykA ykB ykLine ykLength ykFrom ykTo ykAt ykHandlers)) (hm : m < 4) (hi : i < 24) : xlines (24 * m + i) = yline (24 * m + i) := h.2.2.2.2.2.1.1 _ (by omega)
theorem gp_a {m i : Nat} (h : (gp_R xsizes xops xargsA xargsB xlines xguards xfroms xtos xats yop ya yb yline ylength yfrom yto yat yhandlers ykOp ykA ykB ykLine ykLength ykFrom ykTo ykAt ykHandlers)) (hm : m < 4) (hi : i < 24) : ∃ a, a < 4 ∧ xargsA (24 * m + i) = nI a ∧ ya (24 * m + i) = nI a := by
  obtain ⟨n, h1, h2⟩ := h.2.2.2.2.2.2.2.2.2.2.2.1 (24 * m + i) (by omega)
  exact ⟨n, by omega, h2, by rw [← h.2.2.2.1.1 _ (by omega)]; exact h2⟩
theorem gp_fr {m i : Nat} (h : (gp_R xsizes xops xargsA xargsB xlines xguards xfroms xtos xats yop ya yb yline ylength yfrom yto yat yhandlers ykOp ykA ykB ykLine ykLength ykFrom ykTo ykAt ykHandlers)) (hm : m < 4) (hi : i < 3) : xfroms (3 * m + i) = yfrom (3 * m + i) := h.2.2.2.2.2.2.1.1 _ (by omega)
theorem gp_to {m i : Nat} (h : (gp_R xsizes xops xargsA xargsB xlines xguards xfroms xtos xats yop ya yb yline ylength yfrom yto yat yhandlers ykOp ykA ykB ykLine ykLength ykFrom ykTo ykAt ykHandlers)) (hm : m < 4) (hi : i < 3) : xtos (3 * m + i) = yto (3 * m + i) := h.2.2.2.2.2.2.2.1.1 _ (by omega)
theorem gp_at {m i : Nat} (h : (gp_R xsizes xops xargsA xargsB xlines xguards xfroms xtos xats yop ya yb yline ylength yfrom yto yat yhandlers ykOp ykA ykB ykLine ykLength ykFrom ykTo ykAt ykHandlers)) (hm : m < 4) (hi : i < 3) : ∃ a, a < 24 ∧ xats (3 * m + i) = nI a ∧ yat (3 * m + i) = nI a := by
  obtain ⟨n, h1, h2⟩ := h.2.2.2.2.2.2.2.2.2.2.2.2 (3 * m + i) (by omega)
  exact ⟨n, by omega, h2, by rw [← h.2.2.2.2.2.2.2.2.1.1 _ (by omega)]; exact h2⟩
theorem gc_beg {m i : Nat} (h : (gc_R xsizes xbegunCounts xthrownCounts xtakenCounts xslotUsed xslotLoad ybegun ythrown ytaken ykBegun ykThrown ykTaken ykept ykLoad)) (hm : m < 4) (hi : i < sz_f xsizes m) (h24 : i < 24) : (gc_R xsizes (upd xbegunCounts (24 * m + i) (xbegunCounts (24 * m + i) + 1)) xthrownCounts xtakenCounts xslotUsed xslotLoad (upd ybegun (24 * m + i) (ybegun (24 * m + i) + 1)) ythrown ytaken ykBegun ykThrown ykTaken ykept ykLoad) :=
  ⟨ct_inc1 h.1 hm hi h24, h.2⟩
theorem gc_thr {m i : Nat} (h : (gc_R xsizes xbegunCounts xthrownCounts xtakenCounts xslotUsed xslotLoad ybegun ythrown ytaken ykBegun ykThrown ykTaken ykept ykLoad)) (hm : m < 4) (hi : i < sz_f xsizes m) (h24 : i < 24) : (gc_R xsizes xbegunCounts (upd xthrownCounts (24 * m + i) (xthrownCounts (24 * m + i) + 1)) xtakenCounts xslotUsed xslotLoad ybegun (upd ythrown (24 * m + i) (ythrown (24 * m + i) + 1)) ytaken ykBegun ykThrown ykTaken ykept ykLoad) :=
  ⟨h.1, ct_inc1 h.2.1 hm hi h24, h.2.2⟩
theorem gc_tak {m i k : Nat} (h : (gc_R xsizes xbegunCounts xthrownCounts xtakenCounts xslotUsed xslotLoad ybegun ythrown ytaken ykBegun ykThrown ykTaken ykept ykLoad)) (hm : m < 4) (hi : i < sz_f xsizes m) (h24 : i < 24) (hk : k < 4) : (gc_R xsizes xbegunCounts xthrownCounts (upd xtakenCounts (4 * (24 * m + i) + k) (xtakenCounts (4 * (24 * m + i) + k) + 1)) xslotUsed xslotLoad ybegun ythrown (upd ytaken (4 * (24 * m + i) + k) (ytaken (4 * (24 * m + i) + k) + 1)) ykBegun ykThrown ykTaken ykept ykLoad) :=
  ⟨h.1, h.2.1, ct_inc4 h.2.2.1 hm hi h24 hk, sl_t h.2.2.2 (fun j hj => pk_un (by omega))⟩
end
def i_Rel (k : Nat) (u : SX) (v : SY) : Prop := match u, v with
  | (xdepth, xsignal, xcarried, xlatest, xload, xsizes, xops, xargsA, xargsB, xlines, xguards, xfroms, xtos, xats, xbegunCounts, xthrownCounts, xtakenCounts, xslotUsed, xslotLoad, xstretchNumber, xstretchGone, xstretchRow, xstretchWays, xatWork, xplace, xvariables, xrow, xrowWays, xwayOn, xpart), (ydepth, ysteps, yresult, youtcome, yload, yover, yop, ya, yb, yline, ylength, yfrom, yto, yat, yhandlers, ybegun, ytaken, ythrown, yrowI, yrowWay, yrowLength, ytimes, ytold, ykOp, ykA, ykB, ykLine, ykLength, ykFrom, ykTo, ykAt, ykHandlers, ykBegun, ykTaken, ykThrown, ykept, ymethod, ypc, yvariable, yhereI, yhereWay, yhereLength, yinto, ykLoad, ypart) => ∃ L, L ≤ 1000000200 ∧ xload = nI L ∧ yload = nI L ∧ xlatest = yresult ∧ (gp_R xsizes xops xargsA xargsB xlines xguards xfroms xtos xats yop ya yb yline ylength yfrom yto yat yhandlers ykOp ykA ykB ykLine ykLength ykFrom ykTo ykAt ykHandlers) ∧ (gc_R xsizes xbegunCounts xthrownCounts xtakenCounts xslotUsed xslotLoad ybegun ythrown ytaken ykBegun ykThrown ykTaken ykept ykLoad) ∧ (st_R xstretchNumber xstretchGone xstretchRow xstretchWays yrowI yrowWay yrowLength ytimes ytold) ∧ (tb_R 0 L xtakenCounts)
theorem i_up {k : Nat} {u : SX} {v : SY} (h : i_Rel k u v) : i_Rel (k + 5) u v := h
end
section
/-! part 09: the small readers on both sides -/
theorem ix_c (m c : Nat) : nI m * nI c = nI (c * m) := by rw [pk_mul, Nat.mul_comm]
theorem ix_24 (m i : Nat) : nI m * 24 + nI i = nI (24 * m + i) := by rw [← nI_add]; exact congrArg (· + nI i) (ix_c m 24)
theorem ix_3 (m i : Nat) : nI m * 3 + nI i = nI (3 * m + i) := by rw [← nI_add]; exact congrArg (· + nI i) (ix_c m 3)
theorem ix_4 (m i : Nat) : nI m * 4 + nI i = nI (4 * m + i) := by rw [← nI_add]; exact congrArg (· + nI i) (ix_c m 4)
theorem ix_40 (m i : Nat) : nI m * 40 + nI i = nI (40 * m + i) := by rw [← nI_add]; exact congrArg (· + nI i) (ix_c m 40)
theorem iy_24 (m i : Nat) : 24 * nI m + nI i = nI (24 * m + i) := by rw [← nI_add]; exact congrArg (· + nI i) (pk_mul 24 m)
theorem iy_3 (m i : Nat) : 3 * nI m + nI i = nI (3 * m + i) := by rw [← nI_add]; exact congrArg (· + nI i) (pk_mul 3 m)
theorem iy_4 (m i : Nat) : 4 * nI m + nI i = nI (4 * m + i) := by rw [← nI_add]; exact congrArg (· + nI i) (pk_mul 4 m)
theorem iy_40 (m i : Nat) : 40 * nI m + nI i = nI (40 * m + i) := by rw [← nI_add]; exact congrArg (· + nI i) (pk_mul 40 m)
theorem iy_96 (m i : Nat) : 96 * nI m + nI i = nI (96 * m + i) := by rw [← nI_add]; exact congrArg (· + nI i) (pk_mul 96 m)
theorem iy_12 (m i : Nat) : 12 * nI m + nI i = nI (12 * m + i) := by rw [← nI_add]; exact congrArg (· + nI i) (pk_mul 12 m)
theorem ir_24 (m i : Nat) : nI i + 1 = nI (i + 1) := nI_1 i
/-- an index that is a natural: within, and read as it -/
theorem ix_in {x : Int32} {n N : Nat} (e : x = nI n) (h : n < N) (hN : N < 2 ^ 31) : vp_in x N := by rw [e]; exact vp_in_nI h hN
theorem ix_cl {x : Int32} {n : Nat} (e : x = nI n) (h : n < 2 ^ 31) : x.toNatClampNeg = n := by rw [e]; exact nI_clamp h
theorem wi_t {post : Int32 → Prop} {a n : Nat} (h : a < n) (hn : n < 2 ^ 31) (hp : post 1) : wpY_in post (nI a) (nI n) :=
  br_f (nI_pos (by omega)) (br_f (nI_ge h hn) hp)
theorem wi_f {post : Int32 → Prop} {x : Int32} {n : Nat} (h : x < 0 ∨ nI n ≤ x) (hp : post 0) : wpY_in post x (nI n) := by
  by_cases z : x < 0
  · exact br_t z hp
  · exact br_f z (br_t (by rcases h with y | y; exact absurd y z; exact y) hp)
theorem wi_ff {post : Int32 → Prop} {a n : Nat} (h : n ≤ a) (ha : a < 2 ^ 31) (hp : post 0) : wpY_in post (nI a) (nI n) := wi_f (Or.inr (nI_le h ha)) hp
section
variable {xdepth xsignal xcarried xlatest xload : Int32} {xsizes xops xargsA xargsB xlines xguards xfroms xtos xats xbegunCounts xthrownCounts xtakenCounts xslotUsed xslotLoad xstretchNumber xstretchGone xstretchRow xatWork xplace xvariables xrow xpart : Nat → Int32} {xstretchWays xrowWays xwayOn : Nat → Int64}
variable {ydepth ysteps yresult youtcome yload yover : Int32} {yop ya yb yline ylength yfrom yto yat yhandlers ybegun ytaken ythrown yrowI yrowWay yrowLength ytimes ytold ykOp ykA ykB ykLine ykLength ykFrom ykTo ykAt ykHandlers ykBegun ykTaken ykThrown ykept ymethod ypc yvariable yhereI yhereWay yhereLength yinto ykLoad ypart : Nat → Int32}
theorem xi_t {post : Int32 → Prop} {a n : Nat} (h : a < n) (hn : n < 2 ^ 31) (hp : post 1) : wpX_isWithin post (xdepth, xsignal, xcarried, xlatest, xload, xsizes, xops, xargsA, xargsB, xlines, xguards, xfroms, xtos, xats, xbegunCounts, xthrownCounts, xtakenCounts, xslotUsed, xslotLoad, xstretchNumber, xstretchGone, xstretchRow, xstretchWays, xatWork, xplace, xvariables, xrow, xrowWays, xwayOn, xpart) (nI a) (nI n) :=
  br_f (nI_pos (by omega)) (br_f (nI_ge h hn) hp)
theorem xi_f {post : Int32 → Prop} {x : Int32} {n : Nat} (h : x < 0 ∨ nI n ≤ x) (hp : post 0) : wpX_isWithin post (xdepth, xsignal, xcarried, xlatest, xload, xsizes, xops, xargsA, xargsB, xlines, xguards, xfroms, xtos, xats, xbegunCounts, xthrownCounts, xtakenCounts, xslotUsed, xslotLoad, xstretchNumber, xstretchGone, xstretchRow, xstretchWays, xatWork, xplace, xvariables, xrow, xrowWays, xwayOn, xpart) x (nI n) := by
  by_cases z : x < 0
  · exact br_t z hp
  · exact br_f z (br_t (by rcases h with y | y; exact absurd y z; exact y) hp)
/-- is there a method v? both sides say the same -/
theorem th_c (v : Int32) (h : (gp_R xsizes xops xargsA xargsB xlines xguards xfroms xtos xats yop ya yb yline ylength yfrom yto yat yhandlers ykOp ykA ykB ykLine ykLength ykFrom ykTo ykAt ykHandlers)) :
    (∃ m, m < 4 ∧ v = nI m ∧ 0 < sz_f xsizes m ∧ (∀ post : Int32 → Prop, post 1 → wpX_isThere post (xdepth, xsignal, xcarried, xlatest, xload, xsizes, xops, xargsA, xargsB, xlines, xguards, xfroms, xtos, xats, xbegunCounts, xthrownCounts, xtakenCounts, xslotUsed, xslotLoad, xstretchNumber, xstretchGone, xstretchRow, xstretchWays, xatWork, xplace, xvariables, xrow, xrowWays, xwayOn, xpart) v) ∧ (∀ post : Int32 → Prop, post 1 → wpY_isThere post (ydepth, ysteps, yresult, youtcome, yload, yover, yop, ya, yb, yline, ylength, yfrom, yto, yat, yhandlers, ybegun, ytaken, ythrown, yrowI, yrowWay, yrowLength, ytimes, ytold, ykOp, ykA, ykB, ykLine, ykLength, ykFrom, ykTo, ykAt, ykHandlers, ykBegun, ykTaken, ykThrown, ykept, ymethod, ypc, yvariable, yhereI, yhereWay, yhereLength, yinto, ykLoad, ypart) v)) ∨
    ((∀ post : Int32 → Prop, post 0 → wpX_isThere post (xdepth, xsignal, xcarried, xlatest, xload, xsizes, xops, xargsA, xargsB, xlines, xguards, xfroms, xtos, xats, xbegunCounts, xthrownCounts, xtakenCounts, xslotUsed, xslotLoad, xstretchNumber, xstretchGone, xstretchRow, xstretchWays, xatWork, xplace, xvariables, xrow, xrowWays, xwayOn, xpart) v) ∧ (∀ post : Int32 → Prop, post 0 → wpY_isThere post (ydepth, ysteps, yresult, youtcome, yload, yover, yop, ya, yb, yline, ylength, yfrom, yto, yat, yhandlers, ybegun, ytaken, ythrown, yrowI, yrowWay, yrowLength, ytimes, ytold, ykOp, ykA, ykB, ykLine, ykLength, ykFrom, ykTo, ykAt, ykHandlers, ykBegun, ykTaken, ykThrown, ykept, ymethod, ypc, yvariable, yhereI, yhereWay, yhereLength, yinto, ykLoad, ypart) v)) := by
  rcases pk_ix v (n := 4) (by decide) with z | z | ⟨m, hm, rfl⟩
  · refine Or.inr ⟨fun post hp => ?_, fun post hp => ?_⟩
    · unfold wpX_isThere
      exact xi_f (n := 4) (Or.inl z) (br_t rfl hp)
    · unfold wpY_isThere
      exact wi_f (n := 4) (Or.inl z) (br_t rfl hp)
  · refine Or.inr ⟨fun post hp => ?_, fun post hp => ?_⟩
    · unfold wpX_isThere
      exact xi_f (n := 4) (Or.inr z) (br_t rfl hp)
    · unfold wpY_isThere
      exact wi_f (n := 4) (Or.inr z) (br_t rfl hp)
  · obtain ⟨e1, e2, e3⟩ := gp_sz h hm
    have c : (nI m).toNatClampNeg = m := nI_clamp (by omega)
    rcases Nat.eq_zero_or_pos (sz_f xsizes m) with z | z
    · have f1 : xsizes (nI m).toNatClampNeg ≤ 0 := by rw [c, e1, z]; decide
      have f2 : ylength (nI m).toNatClampNeg ≤ 0 := by rw [c, e2, z]; decide
      refine Or.inr ⟨fun post hp => ?_, fun post hp => ?_⟩
      · unfold wpX_isThere
        exact xi_t (n := 4) hm (by decide) (br_f (by decide) ⟨vp_in_nI (by omega) (by decide), br_t f1 hp⟩)
      · unfold wpY_isThere
        exact wi_t (n := 4) hm (by decide) (br_f (by decide) ⟨vp_in_nI (by omega) (by decide), br_t f2 hp⟩)
    · have f1 : ¬ xsizes (nI m).toNatClampNeg ≤ 0 := by rw [c, e1]; exact nI_nle z (by omega)
      have f2 : ¬ ylength (nI m).toNatClampNeg ≤ 0 := by rw [c, e2]; exact nI_nle z (by omega)
      refine Or.inl ⟨m, hm, rfl, z, fun post hp => ?_, fun post hp => ?_⟩
      · unfold wpX_isThere
        exact xi_t (n := 4) hm (by decide) (br_f (by decide) ⟨vp_in_nI (by omega) (by decide), br_f f1 hp⟩)
      · unfold wpY_isThere
        exact wi_t (n := 4) hm (by decide) (br_f (by decide) ⟨vp_in_nI (by omega) (by decide), br_f f2 hp⟩)
/-- is there an instruction w of method v? -/
theorem th_i (v w : Int32) (h : (gp_R xsizes xops xargsA xargsB xlines xguards xfroms xtos xats yop ya yb yline ylength yfrom yto yat yhandlers ykOp ykA ykB ykLine ykLength ykFrom ykTo ykAt ykHandlers)) :
    (∃ m i, m < 4 ∧ v = nI m ∧ i < sz_f xsizes m ∧ i < 24 ∧ w = nI i ∧ (∀ post : Int32 → Prop, post 1 → wpX_isInstruction post (xdepth, xsignal, xcarried, xlatest, xload, xsizes, xops, xargsA, xargsB, xlines, xguards, xfroms, xtos, xats, xbegunCounts, xthrownCounts, xtakenCounts, xslotUsed, xslotLoad, xstretchNumber, xstretchGone, xstretchRow, xstretchWays, xatWork, xplace, xvariables, xrow, xrowWays, xwayOn, xpart) v w) ∧ (∀ post : Int32 → Prop, post 1 → wpY_isOne post (ydepth, ysteps, yresult, youtcome, yload, yover, yop, ya, yb, yline, ylength, yfrom, yto, yat, yhandlers, ybegun, ytaken, ythrown, yrowI, yrowWay, yrowLength, ytimes, ytold, ykOp, ykA, ykB, ykLine, ykLength, ykFrom, ykTo, ykAt, ykHandlers, ykBegun, ykTaken, ykThrown, ykept, ymethod, ypc, yvariable, yhereI, yhereWay, yhereLength, yinto, ykLoad, ypart) v w)) ∨
    ((∀ post : Int32 → Prop, post 0 → wpX_isInstruction post (xdepth, xsignal, xcarried, xlatest, xload, xsizes, xops, xargsA, xargsB, xlines, xguards, xfroms, xtos, xats, xbegunCounts, xthrownCounts, xtakenCounts, xslotUsed, xslotLoad, xstretchNumber, xstretchGone, xstretchRow, xstretchWays, xatWork, xplace, xvariables, xrow, xrowWays, xwayOn, xpart) v w) ∧ (∀ post : Int32 → Prop, post 0 → wpY_isOne post (ydepth, ysteps, yresult, youtcome, yload, yover, yop, ya, yb, yline, ylength, yfrom, yto, yat, yhandlers, ybegun, ytaken, ythrown, yrowI, yrowWay, yrowLength, ytimes, ytold, ykOp, ykA, ykB, ykLine, ykLength, ykFrom, ykTo, ykAt, ykHandlers, ykBegun, ykTaken, ykThrown, ykept, ymethod, ypc, yvariable, yhereI, yhereWay, yhereLength, yinto, ykLoad, ypart) v w)) := by
  rcases th_c (xdepth := xdepth) (xsignal := xsignal) (xcarried := xcarried) (xlatest := xlatest) (xload := xload) (xsizes := xsizes) (xops := xops) (xargsA := xargsA) (xargsB := xargsB) (xlines := xlines) (xguards := xguards) (xfroms := xfroms) (xtos := xtos) (xats := xats) (xbegunCounts := xbegunCounts) (xthrownCounts := xthrownCounts) (xtakenCounts := xtakenCounts) (xslotUsed := xslotUsed) (xslotLoad := xslotLoad) (xstretchNumber := xstretchNumber) (xstretchGone := xstretchGone) (xstretchRow := xstretchRow) (xstretchWays := xstretchWays) (xatWork := xatWork) (xplace := xplace) (xvariables := xvariables) (xrow := xrow) (xrowWays := xrowWays) (xwayOn := xwayOn) (xpart := xpart) (ydepth := ydepth) (ysteps := ysteps) (yresult := yresult) (youtcome := youtcome) (yload := yload) (yover := yover) (yop := yop) (ya := ya) (yb := yb) (yline := yline) (ylength := ylength) (yfrom := yfrom) (yto := yto) (yat := yat) (yhandlers := yhandlers) (ybegun := ybegun) (ytaken := ytaken) (ythrown := ythrown) (yrowI := yrowI) (yrowWay := yrowWay) (yrowLength := yrowLength) (ytimes := ytimes) (ytold := ytold) (ykOp := ykOp) (ykA := ykA) (ykB := ykB) (ykLine := ykLine) (ykLength := ykLength) (ykFrom := ykFrom) (ykTo := ykTo) (ykAt := ykAt) (ykHandlers := ykHandlers) (ykBegun := ykBegun) (ykTaken := ykTaken) (ykThrown := ykThrown) (ykept := ykept) (ymethod := ymethod) (ypc := ypc) (yvariable := yvariable) (yhereI := yhereI) (yhereWay := yhereWay) (yhereLength := yhereLength) (yinto := yinto) (ykLoad := ykLoad) (ypart := ypart) v h with ⟨m, hm, rfl, hs, hX, hY⟩ | ⟨hX, hY⟩
  · obtain ⟨e1, e2, e3⟩ := gp_sz h hm
    have c : (nI m).toNatClampNeg = m := nI_clamp (by omega)
    have f1 : xsizes (nI m).toNatClampNeg = nI (sz_f xsizes m) := by rw [c]; exact e1
    have f2 : ylength (nI m).toNatClampNeg = nI (sz_f xsizes m) := by rw [c]; exact e2
    have b : sz_f xsizes m < 2 ^ 31 := by omega
    rcases pk_ix w b with z | z | ⟨i, hi, rfl⟩
    · refine Or.inr ⟨fun post hp => ?_, fun post hp => ?_⟩
      · unfold wpX_isInstruction
        refine hX _ (br_f (by decide) ⟨vp_in_nI (by omega) (by decide), ?_⟩)
        rw [f1]
        exact xi_f (Or.inl z) (br_t rfl hp)
      · unfold wpY_isOne
        refine hY _ (br_f (by decide) ⟨vp_in_nI (by omega) (by decide), ?_⟩)
        rw [f2]
        exact wi_f (Or.inl z) (br_t rfl hp)
    · refine Or.inr ⟨fun post hp => ?_, fun post hp => ?_⟩
      · unfold wpX_isInstruction
        refine hX _ (br_f (by decide) ⟨vp_in_nI (by omega) (by decide), ?_⟩)
        rw [f1]
        exact xi_f (Or.inr z) (br_t rfl hp)
      · unfold wpY_isOne
        refine hY _ (br_f (by decide) ⟨vp_in_nI (by omega) (by decide), ?_⟩)
        rw [f2]
        exact wi_f (Or.inr z) (br_t rfl hp)
    · refine Or.inl ⟨m, i, hm, rfl, hi, by omega, rfl, fun post hp => ?_, fun post hp => ?_⟩
      · unfold wpX_isInstruction
        refine hX _ (br_f (by decide) ⟨vp_in_nI (by omega) (by decide), ?_⟩)
        rw [f1]
        exact xi_t hi b (br_f (by decide) hp)
      · unfold wpY_isOne
        refine hY _ (br_f (by decide) ⟨vp_in_nI (by omega) (by decide), ?_⟩)
        rw [f2]
        exact wi_t hi b (br_f (by decide) hp)
  · refine Or.inr ⟨fun post hp => ?_, fun post hp => ?_⟩
    · unfold wpX_isInstruction
      exact hX _ (br_t rfl hp)
    · unfold wpY_isOne
      exact hY _ (br_t rfl hp)
end
theorem i_vc_result {k : Nat} {u : SX} {v : SY} (I : i_Rel k u v) (hk : k + 5 ≤ 2560) : wpX_result (fun r => wpY_result (fun r' => r' = r ∧ i_Rel (k + 5) u v) v) u := by
  obtain ⟨xdepth, xsignal, xcarried, xlatest, xload, xsizes, xops, xargsA, xargsB, xlines, xguards, xfroms, xtos, xats, xbegunCounts, xthrownCounts, xtakenCounts, xslotUsed, xslotLoad, xstretchNumber, xstretchGone, xstretchRow, xstretchWays, xatWork, xplace, xvariables, xrow, xrowWays, xwayOn, xpart⟩ := u
  obtain ⟨ydepth, ysteps, yresult, youtcome, yload, yover, yop, ya, yb, yline, ylength, yfrom, yto, yat, yhandlers, ybegun, ytaken, ythrown, yrowI, yrowWay, yrowLength, ytimes, ytold, ykOp, ykA, ykB, ykLine, ykLength, ykFrom, ykTo, ykAt, ykHandlers, ykBegun, ykTaken, ykThrown, ykept, ymethod, ypc, yvariable, yhereI, yhereWay, yhereLength, yinto, ykLoad, ypart⟩ := v
  have J := I
  obtain ⟨L, h1, h2, h3, h4, _⟩ := I
  exact ⟨h4.symm, J⟩
theorem i_vc_begun {k : Nat} {u : SX} {v : SY} (I : i_Rel k u v) (hk : k + 5 ≤ 2560) (v1 : Int32) (v2 : Int32) : wpX_begun (fun r => wpY_begun (fun r' => r' = r ∧ i_Rel (k + 5) u v) v v1 v2) u v1 v2 := by
  obtain ⟨xdepth, xsignal, xcarried, xlatest, xload, xsizes, xops, xargsA, xargsB, xlines, xguards, xfroms, xtos, xats, xbegunCounts, xthrownCounts, xtakenCounts, xslotUsed, xslotLoad, xstretchNumber, xstretchGone, xstretchRow, xstretchWays, xatWork, xplace, xvariables, xrow, xrowWays, xwayOn, xpart⟩ := u
  obtain ⟨ydepth, ysteps, yresult, youtcome, yload, yover, yop, ya, yb, yline, ylength, yfrom, yto, yat, yhandlers, ybegun, ytaken, ythrown, yrowI, yrowWay, yrowLength, ytimes, ytold, ykOp, ykA, ykB, ykLine, ykLength, ykFrom, ykTo, ykAt, ykHandlers, ykBegun, ykTaken, ykThrown, ykept, ymethod, ypc, yvariable, yhereI, yhereWay, yhereLength, yinto, ykLoad, ypart⟩ := v
  have J := I
  obtain ⟨L, h1, h2, h3, h4, hP, hC, hS, hT⟩ := I
  unfold wpX_begun wpY_begun
  rcases th_i (xdepth := xdepth) (xsignal := xsignal) (xcarried := xcarried) (xlatest := xlatest) (xload := xload) (xsizes := xsizes) (xops := xops) (xargsA := xargsA) (xargsB := xargsB) (xlines := xlines) (xguards := xguards) (xfroms := xfroms) (xtos := xtos) (xats := xats) (xbegunCounts := xbegunCounts) (xthrownCounts := xthrownCounts) (xtakenCounts := xtakenCounts) (xslotUsed := xslotUsed) (xslotLoad := xslotLoad) (xstretchNumber := xstretchNumber) (xstretchGone := xstretchGone) (xstretchRow := xstretchRow) (xstretchWays := xstretchWays) (xatWork := xatWork) (xplace := xplace) (xvariables := xvariables) (xrow := xrow) (xrowWays := xrowWays) (xwayOn := xwayOn) (xpart := xpart) (ydepth := ydepth) (ysteps := ysteps) (yresult := yresult) (youtcome := youtcome) (yload := yload) (yover := yover) (yop := yop) (ya := ya) (yb := yb) (yline := yline) (ylength := ylength) (yfrom := yfrom) (yto := yto) (yat := yat) (yhandlers := yhandlers) (ybegun := ybegun) (ytaken := ytaken) (ythrown := ythrown) (yrowI := yrowI) (yrowWay := yrowWay) (yrowLength := yrowLength) (ytimes := ytimes) (ytold := ytold) (ykOp := ykOp) (ykA := ykA) (ykB := ykB) (ykLine := ykLine) (ykLength := ykLength) (ykFrom := ykFrom) (ykTo := ykTo) (ykAt := ykAt) (ykHandlers := ykHandlers) (ykBegun := ykBegun) (ykTaken := ykTaken) (ykThrown := ykThrown) (ykept := ykept) (ymethod := ymethod) (ypc := ypc) (yvariable := yvariable) (yhereI := yhereI) (yhereWay := yhereWay) (yhereLength := yhereLength) (yinto := yinto) (ykLoad := ykLoad) (ypart := ypart) v1 v2 hP with ⟨m, i, hm, rfl, hi, h24, rfl, hX, hY⟩ | ⟨hX, hY⟩
  · refine hX _ (br_f (by decide) ⟨ix_in (ix_24 m i) (by omega) (by decide), ?_⟩)
    refine hY _ (br_f (by decide) ⟨ix_in (iy_24 m i) (by omega) (by decide), ?_, J⟩)
    rw [ix_cl (ix_24 m i) (by omega), ix_cl (iy_24 m i) (by omega)]
    exact (ct_at1 hC.1 hm hi).symm
  · exact hX _ (br_t rfl (hY _ (br_t rfl ⟨rfl, J⟩)))
theorem i_vc_thrown {k : Nat} {u : SX} {v : SY} (I : i_Rel k u v) (hk : k + 5 ≤ 2560) (v1 : Int32) (v2 : Int32) : wpX_thrown (fun r => wpY_thrown (fun r' => r' = r ∧ i_Rel (k + 5) u v) v v1 v2) u v1 v2 := by
  obtain ⟨xdepth, xsignal, xcarried, xlatest, xload, xsizes, xops, xargsA, xargsB, xlines, xguards, xfroms, xtos, xats, xbegunCounts, xthrownCounts, xtakenCounts, xslotUsed, xslotLoad, xstretchNumber, xstretchGone, xstretchRow, xstretchWays, xatWork, xplace, xvariables, xrow, xrowWays, xwayOn, xpart⟩ := u
  obtain ⟨ydepth, ysteps, yresult, youtcome, yload, yover, yop, ya, yb, yline, ylength, yfrom, yto, yat, yhandlers, ybegun, ytaken, ythrown, yrowI, yrowWay, yrowLength, ytimes, ytold, ykOp, ykA, ykB, ykLine, ykLength, ykFrom, ykTo, ykAt, ykHandlers, ykBegun, ykTaken, ykThrown, ykept, ymethod, ypc, yvariable, yhereI, yhereWay, yhereLength, yinto, ykLoad, ypart⟩ := v
  have J := I
  obtain ⟨L, h1, h2, h3, h4, hP, hC, hS, hT⟩ := I
  unfold wpX_thrown wpY_thrown
  rcases th_i (xdepth := xdepth) (xsignal := xsignal) (xcarried := xcarried) (xlatest := xlatest) (xload := xload) (xsizes := xsizes) (xops := xops) (xargsA := xargsA) (xargsB := xargsB) (xlines := xlines) (xguards := xguards) (xfroms := xfroms) (xtos := xtos) (xats := xats) (xbegunCounts := xbegunCounts) (xthrownCounts := xthrownCounts) (xtakenCounts := xtakenCounts) (xslotUsed := xslotUsed) (xslotLoad := xslotLoad) (xstretchNumber := xstretchNumber) (xstretchGone := xstretchGone) (xstretchRow := xstretchRow) (xstretchWays := xstretchWays) (xatWork := xatWork) (xplace := xplace) (xvariables := xvariables) (xrow := xrow) (xrowWays := xrowWays) (xwayOn := xwayOn) (xpart := xpart) (ydepth := ydepth) (ysteps := ysteps) (yresult := yresult) (youtcome := youtcome) (yload := yload) (yover := yover) (yop := yop) (ya := ya) (yb := yb) (yline := yline) (ylength := ylength) (yfrom := yfrom) (yto := yto) (yat := yat) (yhandlers := yhandlers) (ybegun := ybegun) (ytaken := ytaken) (ythrown := ythrown) (yrowI := yrowI) (yrowWay := yrowWay) (yrowLength := yrowLength) (ytimes := ytimes) (ytold := ytold) (ykOp := ykOp) (ykA := ykA) (ykB := ykB) (ykLine := ykLine) (ykLength := ykLength) (ykFrom := ykFrom) (ykTo := ykTo) (ykAt := ykAt) (ykHandlers := ykHandlers) (ykBegun := ykBegun) (ykTaken := ykTaken) (ykThrown := ykThrown) (ykept := ykept) (ymethod := ymethod) (ypc := ypc) (yvariable := yvariable) (yhereI := yhereI) (yhereWay := yhereWay) (yhereLength := yhereLength) (yinto := yinto) (ykLoad := ykLoad) (ypart := ypart) v1 v2 hP with ⟨m, i, hm, rfl, hi, h24, rfl, hX, hY⟩ | ⟨hX, hY⟩
  · refine hX _ (br_f (by decide) ⟨ix_in (ix_24 m i) (by omega) (by decide), ?_⟩)
    refine hY _ (br_f (by decide) ⟨ix_in (iy_24 m i) (by omega) (by decide), ?_, J⟩)
    rw [ix_cl (ix_24 m i) (by omega), ix_cl (iy_24 m i) (by omega)]
    exact (ct_at1 hC.2.1 hm hi).symm
  · exact hX _ (br_t rfl (hY _ (br_t rfl ⟨rfl, J⟩)))
end
section
/-! part 10: closeRow of the class, endStretch of the reference -/
section
variable {xdepth xsignal xcarried xlatest xload : Int32} {xsizes xops xargsA xargsB xlines xguards xfroms xtos xats xbegunCounts xthrownCounts xtakenCounts xslotUsed xslotLoad xstretchNumber xstretchGone xstretchRow xatWork xplace xvariables xrow xpart : Nat → Int32} {xstretchWays xrowWays xwayOn : Nat → Int64}
variable {ydepth ysteps yresult youtcome yload yover : Int32} {yop ya yb yline ylength yfrom yto yat yhandlers ybegun ytaken ythrown yrowI yrowWay yrowLength ytimes ytold ykOp ykA ykB ykLine ykLength ykFrom ykTo ykAt ykHandlers ykBegun ykTaken ykThrown ykept ymethod ypc yvariable yhereI yhereWay yhereLength yinto ykLoad ypart : Nat → Int32}
theorem xc_clr {post : SX → Prop} {d : Nat} (hd : d < 6) (hp : post (xdepth, xsignal, xcarried, xlatest, xload, xsizes, xops, xargsA, xargsB, xlines, xguards, xfroms, xtos, xats, xbegunCounts, xthrownCounts, xtakenCounts, xslotUsed, xslotLoad, xstretchNumber, xstretchGone, xstretchRow, xstretchWays, xatWork, xplace, xvariables, upd xrow d 0, vp_updL xrowWays d 0, vp_updL xwayOn d 0, xpart)) : wpX_clearRow post (xdepth, xsignal, xcarried, xlatest, xload, xsizes, xops, xargsA, xargsB, xlines, xguards, xfroms, xtos, xats, xbegunCounts, xthrownCounts, xtakenCounts, xslotUsed, xslotLoad, xstretchNumber, xstretchGone, xstretchRow, xstretchWays, xatWork, xplace, xvariables, xrow, xrowWays, xwayOn, xpart) (nI d) := by
  have e : (nI d).toNatClampNeg = d := nI_clamp (by omega)
  have w : vp_in (nI d) 6 := vp_in_nI hd (by omega)
  exact ⟨w, nm_r (e' := upd xrow d 0) (by rw [e]) ⟨w, nm_r (e' := vp_updL xrowWays d 0) (by rw [e]) ⟨w, nm_r (e' := vp_updL xwayOn d 0) (by rw [e]) hp⟩⟩⟩
/-- the class's search passes over what differs -/
theorem xc_skip {post : SX → Prop} {R : Int32} {V : Int64} {m t n k : Nat} (hm : m < 4) (ht : t ≤ 40) (hk : k ≤ t) : ∀ e j, j + e = k → (∀ i, j ≤ i → i < k → ¬ (xstretchRow (40 * m + i) = R ∧ xstretchWays (40 * m + i) = V)) →
    wX_countStretch_17 post (nI m) R V (nI (40 * m)) (nI t) xdepth xsignal xcarried xlatest xload xsizes xops xargsA xargsB xlines xguards xfroms xtos xats xbegunCounts xthrownCounts xtakenCounts xslotUsed xslotLoad xstretchNumber xstretchGone xstretchRow xstretchWays xatWork xplace xvariables xrow xrowWays xwayOn xpart n (nI k) → wX_countStretch_17 post (nI m) R V (nI (40 * m)) (nI t) xdepth xsignal xcarried xlatest xload xsizes xops xargsA xargsB xlines xguards xfroms xtos xats xbegunCounts xthrownCounts xtakenCounts xslotUsed xslotLoad xstretchNumber xstretchGone xstretchRow xstretchWays xatWork xplace xvariables xrow xrowWays xwayOn xpart (n + e) (nI j) := by
  intro e
  induction e with
  | zero => intro j hj _ h; rw [show j = k from hj]; exact h
  | succ e ih =>
    intro j hj hd h
    have h2 := ih (j + 1) (by omega) (fun i h1 h2 => hd i (by omega) (by omega)) h
    have ei : nI (40 * m) + nI j = nI (40 * m + j) := nI_add _ _
    have ec : (nI (40 * m) + nI j).toNatClampNeg = 40 * m + j := ix_cl ei (by omega)
    have w : vp_in (nI (40 * m) + nI j) 160 := ix_in ei (by omega) (by omega)
    have hn := hd j (by omega) (by omega)
    rw [show n + (e + 1) = (n + e) + 1 from by omega, wX_countStretch_17]
    refine br_f (nI_ge (by omega) (by omega)) ⟨w, ?_⟩
    rw [ec]
    by_cases z : xstretchRow (40 * m + j) = R
    · refine br_t z ⟨w, br_f (fun y => hn ⟨z, y⟩) (nm_r (nI_1 j) h2)⟩
    · exact br_f z (nm_r (nI_1 j) h2)
theorem xc_hit {post : SX → Prop} {R : Int32} {V : Int64} {m t k n : Nat} (hm : m < 4) (ht : t ≤ 40) (hk : k < t) (h1 : xstretchRow (40 * m + k) = R) (h2 : xstretchWays (40 * m + k) = V)
    (hp : post (xdepth, xsignal, xcarried, xlatest, xload, xsizes, xops, xargsA, xargsB, xlines, xguards, xfroms, xtos, xats, xbegunCounts, xthrownCounts, xtakenCounts, xslotUsed, xslotLoad, xstretchNumber, upd xstretchGone (40 * m + k) (xstretchGone (40 * m + k) + 1), xstretchRow, xstretchWays, xatWork, xplace, xvariables, xrow, xrowWays, xwayOn, xpart)) : wX_countStretch_17 post (nI m) R V (nI (40 * m)) (nI t) xdepth xsignal xcarried xlatest xload xsizes xops xargsA xargsB xlines xguards xfroms xtos xats xbegunCounts xthrownCounts xtakenCounts xslotUsed xslotLoad xstretchNumber xstretchGone xstretchRow xstretchWays xatWork xplace xvariables xrow xrowWays xwayOn xpart (n + 1) (nI k) := by
  have ei : nI (40 * m) + nI k = nI (40 * m + k) := nI_add _ _
  have ec : (nI (40 * m) + nI k).toNatClampNeg = 40 * m + k := ix_cl ei (by omega)
  have w : vp_in (nI (40 * m) + nI k) 160 := ix_in ei (by omega) (by omega)
  rw [wX_countStretch_17]
  refine br_f (nI_ge (by omega) (by omega)) ⟨w, ?_⟩
  rw [ec]
  exact br_t h1 ⟨w, br_t h2 ⟨w, w, nm_e hp⟩⟩
theorem xc_full {post : SX → Prop} {R : Int32} {V : Int64} {m n : Nat} (hp : post (xdepth, xsignal, xcarried, xlatest, xload, xsizes, xops, xargsA, xargsB, xlines, xguards, xfroms, xtos, xats, xbegunCounts, xthrownCounts, xtakenCounts, xslotUsed, xslotLoad, xstretchNumber, xstretchGone, xstretchRow, xstretchWays, xatWork, xplace, xvariables, xrow, xrowWays, xwayOn, xpart)) : wX_countStretch_17 post (nI m) R V (nI (40 * m)) (nI 40) xdepth xsignal xcarried xlatest xload xsizes xops xargsA xargsB xlines xguards xfroms xtos xats xbegunCounts xthrownCounts xtakenCounts xslotUsed xslotLoad xstretchNumber xstretchGone xstretchRow xstretchWays xatWork xplace xvariables xrow xrowWays xwayOn xpart (n + 1) (nI 40) := by
  rw [wX_countStretch_17]
  exact br_t (by decide) (br_t (by decide) hp)
theorem xc_new {post : SX → Prop} {R : Int32} {V : Int64} {m t n : Nat} (hm : m < 4) (ht : t < 40)
    (hp : post (xdepth, xsignal, xcarried, xlatest, xload, xsizes, xops, xargsA, xargsB, xlines, xguards, xfroms, xtos, xats, xbegunCounts, xthrownCounts, xtakenCounts, xslotUsed, xslotLoad, upd xstretchNumber m (nI (t + 1)), upd xstretchGone (40 * m + t) 1, upd xstretchRow (40 * m + t) R, vp_updL xstretchWays (40 * m + t) V, xatWork, xplace, xvariables, xrow, xrowWays, xwayOn, xpart)) :
    wX_countStretch_17 post (nI m) R V (nI (40 * m)) (nI t) xdepth xsignal xcarried xlatest xload xsizes xops xargsA xargsB xlines xguards xfroms xtos xats xbegunCounts xthrownCounts xtakenCounts xslotUsed xslotLoad xstretchNumber xstretchGone xstretchRow xstretchWays xatWork xplace xvariables xrow xrowWays xwayOn xpart (n + 1) (nI t) := by
  have ei : nI (40 * m) + nI t = nI (40 * m + t) := nI_add _ _
  have ec : (nI (40 * m) + nI t).toNatClampNeg = 40 * m + t := ix_cl ei (by omega)
  have w : vp_in (nI (40 * m) + nI t) 160 := ix_in ei (by omega) (by omega)
  have em : (nI m).toNatClampNeg = m := nI_clamp (by omega)
  rw [wX_countStretch_17]
  refine br_t (nI_le (by omega) (by omega)) (br_f (nI_ge (b := 40) ht (by decide)) ?_)
  rw [ec, em, nI_1]
  exact ⟨w, nm_e ⟨w, nm_e ⟨w, nm_e ⟨vp_in_nI hm (by omega), nm_e hp⟩⟩⟩⟩
/-- the reference compares two rows: the same -/
theorem yc_eq {post : Int32 → Prop} {s d n : Nat} (hs : s < 160) (hd : d < 6) (hn : n ≤ 24) : ∀ e j, j + e = n → (∀ i, j ≤ i → i < n → yrowI (24 * s + i) = yhereI (24 * d + i) ∧ yrowWay (24 * s + i) = yhereWay (24 * d + i)) → post 1 →
    wY_isSame_15 post (nI s) (nI d) (nI n) ydepth ysteps yresult youtcome yload yover yop ya yb yline ylength yfrom yto yat yhandlers ybegun ytaken ythrown yrowI yrowWay yrowLength ytimes ytold ykOp ykA ykB ykLine ykLength ykFrom ykTo ykAt ykHandlers ykBegun ykTaken ykThrown ykept ymethod ypc yvariable yhereI yhereWay yhereLength yinto ykLoad ypart (e + 1) (nI j) := by
  intro e
  induction e with
  | zero =>
    intro j hj _ hp
    rw [wY_isSame_15]
    exact br_t (nI_le (by omega) (by omega)) hp
  | succ e ih =>
    intro j hj h hp
    have h2 := ih (j + 1) (by omega) (fun i h1 h2 => h i (by omega) h2) hp
    obtain ⟨a, b⟩ := h j (by omega) (by omega)
    rw [wY_isSame_15]
    dsimp only
    rw [ix_cl (iy_24 s j) (by omega), ix_cl (iy_24 d j) (by omega)]
    have w1 : vp_in (24 * nI s + nI j) 3840 := ix_in (iy_24 s j) (by omega) (by omega)
    have w2 : vp_in (24 * nI d + nI j) 144 := ix_in (iy_24 d j) (by omega) (by omega)
    exact br_f (nI_ge (by omega) (by omega)) ⟨w1, w2, br_t a ⟨w1, w2, br_t b (nm_r (nI_1 j) h2)⟩⟩
theorem yc_ne {post : Int32 → Prop} {s d n : Nat} (hs : s < 160) (hd : d < 6) (hn : n ≤ 24) : ∀ e j, j + e = n → ¬ (∀ i, j ≤ i → i < n → yrowI (24 * s + i) = yhereI (24 * d + i) ∧ yrowWay (24 * s + i) = yhereWay (24 * d + i)) → post 0 →
    wY_isSame_15 post (nI s) (nI d) (nI n) ydepth ysteps yresult youtcome yload yover yop ya yb yline ylength yfrom yto yat yhandlers ybegun ytaken ythrown yrowI yrowWay yrowLength ytimes ytold ykOp ykA ykB ykLine ykLength ykFrom ykTo ykAt ykHandlers ykBegun ykTaken ykThrown ykept ymethod ypc yvariable yhereI yhereWay yhereLength yinto ykLoad ypart (e + 1) (nI j) := by
  intro e
  induction e with
  | zero =>
    intro j hj h hp
    exact absurd (fun i h1 h2 => absurd h2 (by omega)) h
  | succ e ih =>
    intro j hj h hp
    rw [wY_isSame_15]
    dsimp only
    rw [ix_cl (iy_24 s j) (by omega), ix_cl (iy_24 d j) (by omega)]
    have w1 : vp_in (24 * nI s + nI j) 3840 := ix_in (iy_24 s j) (by omega) (by omega)
    have w2 : vp_in (24 * nI d + nI j) 144 := ix_in (iy_24 d j) (by omega) (by omega)
    refine br_f (nI_ge (by omega) (by omega)) ⟨w1, w2, ?_⟩
    by_cases a : yrowI (24 * s + j) = yhereI (24 * d + j)
    · by_cases b : yrowWay (24 * s + j) = yhereWay (24 * d + j)
      · refine br_t a ⟨w1, w2, br_t b (nm_r (nI_1 j) (ih (j + 1) (by omega) (fun y => h (fun i h1 h2 => ?_)) hp))⟩
        rcases Nat.lt_or_ge j i with z | z
        · exact y i z h2
        · have e : i = j := by omega
          rw [e]; exact ⟨a, b⟩
      · exact br_t a ⟨w1, w2, br_f b hp⟩
    · exact br_f a hp
theorem yc_same {post : Int32 → Prop} {s d n : Nat} (hs : s < 160) (hd : d < 6) (hn : n ≤ 24) (h : yrowLength s = nI n ∧ ∀ i, i < n → yrowI (24 * s + i) = yhereI (24 * d + i) ∧ yrowWay (24 * s + i) = yhereWay (24 * d + i)) (hp : post 1) :
    wpY_isSame post (ydepth, ysteps, yresult, youtcome, yload, yover, yop, ya, yb, yline, ylength, yfrom, yto, yat, yhandlers, ybegun, ytaken, ythrown, yrowI, yrowWay, yrowLength, ytimes, ytold, ykOp, ykA, ykB, ykLine, ykLength, ykFrom, ykTo, ykAt, ykHandlers, ykBegun, ykTaken, ykThrown, ykept, ymethod, ypc, yvariable, yhereI, yhereWay, yhereLength, yinto, ykLoad, ypart) (nI s) (nI d) (nI n) := by
  have e : (nI s).toNatClampNeg = s := nI_clamp (by omega)
  refine ⟨vp_in_nI hs (by omega), br_t (by rw [e]; exact h.1) ⟨n + 1, ?_⟩⟩
  exact yc_eq hs hd hn n 0 (by omega) (fun i _ h2 => h.2 i h2) hp
theorem yc_diff {post : Int32 → Prop} {s d n : Nat} (hs : s < 160) (hd : d < 6) (hn : n ≤ 24) (h : ¬ (yrowLength s = nI n ∧ ∀ i, i < n → yrowI (24 * s + i) = yhereI (24 * d + i) ∧ yrowWay (24 * s + i) = yhereWay (24 * d + i))) (hp : post 0) :
    wpY_isSame post (ydepth, ysteps, yresult, youtcome, yload, yover, yop, ya, yb, yline, ylength, yfrom, yto, yat, yhandlers, ybegun, ytaken, ythrown, yrowI, yrowWay, yrowLength, ytimes, ytold, ykOp, ykA, ykB, ykLine, ykLength, ykFrom, ykTo, ykAt, ykHandlers, ykBegun, ykTaken, ykThrown, ykept, ymethod, ypc, yvariable, yhereI, yhereWay, yhereLength, yinto, ykLoad, ypart) (nI s) (nI d) (nI n) := by
  have e : (nI s).toNatClampNeg = s := nI_clamp (by omega)
  refine ⟨vp_in_nI hs (by omega), ?_⟩
  rw [e]
  by_cases z : yrowLength s = nI n
  · refine br_t z ⟨n + 1, ?_⟩
    exact yc_ne hs hd hn n 0 (by omega) (fun y => h ⟨z, fun i h2 => y i (by omega) h2⟩) hp
  · exact br_f z hp
theorem yc_skip {post : SY → Prop} {m d t l n k : Nat} (hm : m < 4) (hd : d < 6) (hl : l ≤ 24) (ht : t ≤ 40) (hk : k ≤ t) (et : ytold m = nI t) : ∀ e j, j + e = k → (∀ i, j ≤ i → i < k → ¬ (yrowLength (40 * m + i) = nI l ∧ ∀ q, q < l → yrowI (24 * (40 * m + i) + q) = yhereI (24 * d + q) ∧ yrowWay (24 * (40 * m + i) + q) = yhereWay (24 * d + q))) →
    wY_endStretch_39 post (nI d) (nI m) (nI l) ydepth ysteps yresult youtcome yload yover yop ya yb yline ylength yfrom yto yat yhandlers ybegun ytaken ythrown yrowI yrowWay yrowLength ytimes ytold ykOp ykA ykB ykLine ykLength ykFrom ykTo ykAt ykHandlers ykBegun ykTaken ykThrown ykept ymethod ypc yvariable yhereI yhereWay yhereLength yinto ykLoad ypart n (nI (40 * m + k)) → wY_endStretch_39 post (nI d) (nI m) (nI l) ydepth ysteps yresult youtcome yload yover yop ya yb yline ylength yfrom yto yat yhandlers ybegun ytaken ythrown yrowI yrowWay yrowLength ytimes ytold ykOp ykA ykB ykLine ykLength ykFrom ykTo ykAt ykHandlers ykBegun ykTaken ykThrown ykept ymethod ypc yvariable yhereI yhereWay yhereLength yinto ykLoad ypart (n + e) (nI (40 * m + j)) := by
  intro e
  induction e with
  | zero => intro j hj _ h; rw [show j = k from hj]; exact h
  | succ e ih =>
    intro j hj hd' h
    have h2 := ih (j + 1) (by omega) (fun i h1 h2 => hd' i (by omega) (by omega)) h
    have em : (nI m).toNatClampNeg = m := nI_clamp (by omega)
    have et2 : 40 * nI m + nI t = nI (40 * m + t) := iy_40 m t
    rw [show n + (e + 1) = (n + e) + 1 from by omega, wY_endStretch_39]
    dsimp only
    rw [em, et, et2]
    refine ⟨vp_in_nI hm (by omega), br_f (nI_ge (by omega) (by omega)) ?_⟩
    exact yc_diff (by omega) hd hl (hd' j (by omega) (by omega)) (br_t rfl (nm_r (nI_1 _) h2))
theorem yc_hit {post : SY → Prop} {m d t l n k : Nat} (hm : m < 4) (hd : d < 6) (hl : l ≤ 24) (ht : t ≤ 40) (et : ytold m = nI t) (hk : k < t)
    (h : yrowLength (40 * m + k) = nI l ∧ ∀ q, q < l → yrowI (24 * (40 * m + k) + q) = yhereI (24 * d + q) ∧ yrowWay (24 * (40 * m + k) + q) = yhereWay (24 * d + q))
    (hp : post (ydepth, ysteps, yresult, youtcome, yload, yover, yop, ya, yb, yline, ylength, yfrom, yto, yat, yhandlers, ybegun, ytaken, ythrown, yrowI, yrowWay, yrowLength, upd ytimes (40 * m + k) (ytimes (40 * m + k) + 1), ytold, ykOp, ykA, ykB, ykLine, ykLength, ykFrom, ykTo, ykAt, ykHandlers, ykBegun, ykTaken, ykThrown, ykept, ymethod, ypc, yvariable, yhereI, yhereWay, yhereLength, yinto, ykLoad, ypart)) : wY_endStretch_39 post (nI d) (nI m) (nI l) ydepth ysteps yresult youtcome yload yover yop ya yb yline ylength yfrom yto yat yhandlers ybegun ytaken ythrown yrowI yrowWay yrowLength ytimes ytold ykOp ykA ykB ykLine ykLength ykFrom ykTo ykAt ykHandlers ykBegun ykTaken ykThrown ykept ymethod ypc yvariable yhereI yhereWay yhereLength yinto ykLoad ypart (n + 1) (nI (40 * m + k)) := by
  have em : (nI m).toNatClampNeg = m := nI_clamp (by omega)
  have ek : (nI (40 * m + k)).toNatClampNeg = 40 * m + k := nI_clamp (by omega)
  have et2 : 40 * nI m + nI t = nI (40 * m + t) := iy_40 m t
  have w : vp_in (nI (40 * m + k)) 160 := vp_in_nI (by omega) (by omega)
  rw [wY_endStretch_39]
  dsimp only
  rw [em, et, et2]
  refine ⟨vp_in_nI hm (by omega), br_f (nI_ge (by omega) (by omega)) ?_⟩
  refine yc_same (by omega) hd hl h (br_f (by decide) ⟨w, w, nm_r (e' := upd ytimes (40 * m + k) (ytimes (40 * m + k) + 1)) (by rw [ek]) hp⟩)
theorem yc_full {post : SY → Prop} {m d l n : Nat} (hm : m < 4) (et : ytold m = nI 40) (hp : post (ydepth, ysteps, yresult, youtcome, yload, yover, yop, ya, yb, yline, ylength, yfrom, yto, yat, yhandlers, ybegun, ytaken, ythrown, yrowI, yrowWay, yrowLength, ytimes, ytold, ykOp, ykA, ykB, ykLine, ykLength, ykFrom, ykTo, ykAt, ykHandlers, ykBegun, ykTaken, ykThrown, ykept, ymethod, ypc, yvariable, yhereI, yhereWay, yhereLength, yinto, ykLoad, ypart)) : wY_endStretch_39 post (nI d) (nI m) (nI l) ydepth ysteps yresult youtcome yload yover yop ya yb yline ylength yfrom yto yat yhandlers ybegun ytaken ythrown yrowI yrowWay yrowLength ytimes ytold ykOp ykA ykB ykLine ykLength ykFrom ykTo ykAt ykHandlers ykBegun ykTaken ykThrown ykept ymethod ypc yvariable yhereI yhereWay yhereLength yinto ykLoad ypart (n + 1) (nI (40 * m + 40)) := by
  have em : (nI m).toNatClampNeg = m := nI_clamp (by omega)
  have et2 : 40 * nI m + nI 40 = nI (40 * m + 40) := iy_40 m 40
  have w : vp_in (nI m) 4 := vp_in_nI hm (by omega)
  rw [wY_endStretch_39]
  dsimp only
  rw [em, et, et2]
  exact ⟨w, br_t (nI_le (by omega) (by omega)) ⟨w, br_t rfl hp⟩⟩
theorem yc_cp {post : SY → Prop} {m d l s t : Nat} (hm : m < 4) (hd : d < 6) (hl : l ≤ 24) (hs : s < 160) (et : ytold m = nI t)
    (hp : post (ydepth, ysteps, yresult, youtcome, yload, yover, yop, ya, yb, yline, ylength, yfrom, yto, yat, yhandlers, ybegun, ytaken, ythrown, cy_f (24 * d) (24 * s) l yrowI yhereI, cy_f (24 * d) (24 * s) l yrowWay yhereWay, upd yrowLength s (nI l), upd ytimes s 1, upd ytold m (nI (t + 1)), ykOp, ykA, ykB, ykLine, ykLength, ykFrom, ykTo, ykAt, ykHandlers, ykBegun, ykTaken, ykThrown, ykept, ymethod, ypc, yvariable, yhereI, yhereWay, yhereLength, yinto, ykLoad, ypart)) :
    ∀ e j, j + e = l → wY_endStretch_115 post (nI d) (nI m) (nI l) (nI s) ydepth ysteps yresult youtcome yload yover (e + 1) (nI j) yop ya yb yline ylength yfrom yto yat yhandlers ybegun ytaken ythrown (cy_f (24 * d) (24 * s) j yrowI yhereI) (cy_f (24 * d) (24 * s) j yrowWay yhereWay) yrowLength ytimes ytold ykOp ykA ykB ykLine ykLength ykFrom ykTo ykAt ykHandlers ykBegun ykTaken ykThrown ykept ymethod ypc yvariable yhereI yhereWay yhereLength yinto ykLoad ypart := by
  intro e
  induction e with
  | zero =>
    intro j hj
    have hj : j = l := by omega
    subst hj
    have em : (nI m).toNatClampNeg = m := nI_clamp (by omega)
    have es : (nI s).toNatClampNeg = s := nI_clamp (by omega)
    have w : vp_in (nI m) 4 := vp_in_nI hm (by omega)
    have w2 : vp_in (nI s) 160 := vp_in_nI hs (by omega)
    rw [wY_endStretch_115]
    dsimp only
    rw [em, es, et, nI_1]
    exact br_t (nI_le (by omega) (by omega)) ⟨w2, nm_e ⟨w2, nm_e ⟨w, w, nm_e hp⟩⟩⟩
  | succ e ih =>
    intro j hj
    have h2 := ih (j + 1) (by omega)
    rw [wY_endStretch_115]
    dsimp only
    rw [ix_cl (iy_24 s j) (by omega), ix_cl (iy_24 d j) (by omega)]
    have w1 : vp_in (24 * nI s + nI j) 3840 := ix_in (iy_24 s j) (by omega) (by omega)
    have w2 : vp_in (24 * nI d + nI j) 144 := ix_in (iy_24 d j) (by omega) (by omega)
    exact br_f (nI_ge (by omega) (by omega)) ⟨w2, w1, nm_r cy_s ⟨w2, w1, nm_r cy_s (nm_r (nI_1 j) h2)⟩⟩
theorem yc_new {post : SY → Prop} {m d l t n : Nat} (hm : m < 4) (hd : d < 6) (hl : l ≤ 24) (ht : t < 40) (et : ytold m = nI t)
    (hp : post (ydepth, ysteps, yresult, youtcome, yload, yover, yop, ya, yb, yline, ylength, yfrom, yto, yat, yhandlers, ybegun, ytaken, ythrown, cy_f (24 * d) (24 * (40 * m + t)) l yrowI yhereI, cy_f (24 * d) (24 * (40 * m + t)) l yrowWay yhereWay, upd yrowLength (40 * m + t) (nI l), upd ytimes (40 * m + t) 1, upd ytold m (nI (t + 1)), ykOp, ykA, ykB, ykLine, ykLength, ykFrom, ykTo, ykAt, ykHandlers, ykBegun, ykTaken, ykThrown, ykept, ymethod, ypc, yvariable, yhereI, yhereWay, yhereLength, yinto, ykLoad, ypart)) :
    wY_endStretch_39 post (nI d) (nI m) (nI l) ydepth ysteps yresult youtcome yload yover yop ya yb yline ylength yfrom yto yat yhandlers ybegun ytaken ythrown yrowI yrowWay yrowLength ytimes ytold ykOp ykA ykB ykLine ykLength ykFrom ykTo ykAt ykHandlers ykBegun ykTaken ykThrown ykept ymethod ypc yvariable yhereI yhereWay yhereLength yinto ykLoad ypart (n + 1) (nI (40 * m + t)) := by
  have em : (nI m).toNatClampNeg = m := nI_clamp (by omega)
  have et2 : 40 * nI m + nI t = nI (40 * m + t) := iy_40 m t
  have w : vp_in (nI m) 4 := vp_in_nI hm (by omega)
  have z : ¬ nI t = 40 := fun y => by
    have := (nI_eq (a := t) (b := 40) (by omega) (by omega)).mp y
    omega
  have H := yc_cp (post := post) (s := 40 * m + t) hm hd hl (by omega) et hp l 0 (by omega)
  rw [cy_0, cy_0] at H
  rw [wY_endStretch_39]
  dsimp only
  rw [em, et, et2]
  exact ⟨w, br_t (nI_le (by omega) (by omega)) ⟨w, br_f z ⟨w, nm_e ⟨l + 1, H⟩⟩⟩⟩
/-- closeRow and endStretch keep the tables alike -/
theorem cl_R {d m n : Nat} {I W : Nat → Nat} (hd : d < 6) (hm : m < 4) (ha : xatWork d = nI m) (hme : ymethod d = nI m) (hl : yhereLength d = nI n) (he : en_R yhereI yhereWay (24 * d) n (xrow d) (xrowWays d) I W) (hS : (st_R xstretchNumber xstretchGone xstretchRow xstretchWays yrowI yrowWay yrowLength ytimes ytold)) (hD : ydepth = nI (d + 1)) :
    ∃ (sn sg sr : Nat → Int32) (sw : Nat → Int64) (ri rv rl ti tl : Nat → Int32),
      (∀ post : SX → Prop, post (xdepth, xsignal, xcarried, xlatest, xload, xsizes, xops, xargsA, xargsB, xlines, xguards, xfroms, xtos, xats, xbegunCounts, xthrownCounts, xtakenCounts, xslotUsed, xslotLoad, sn, sg, sr, sw, xatWork, xplace, xvariables, upd xrow d 0, vp_updL xrowWays d 0, vp_updL xwayOn d 0, xpart) → wpX_closeRow post (xdepth, xsignal, xcarried, xlatest, xload, xsizes, xops, xargsA, xargsB, xlines, xguards, xfroms, xtos, xats, xbegunCounts, xthrownCounts, xtakenCounts, xslotUsed, xslotLoad, xstretchNumber, xstretchGone, xstretchRow, xstretchWays, xatWork, xplace, xvariables, xrow, xrowWays, xwayOn, xpart) (nI d)) ∧
      (∀ post : SY → Prop, post (ydepth, ysteps, yresult, youtcome, yload, yover, yop, ya, yb, yline, ylength, yfrom, yto, yat, yhandlers, ybegun, ytaken, ythrown, ri, rv, rl, ti, tl, ykOp, ykA, ykB, ykLine, ykLength, ykFrom, ykTo, ykAt, ykHandlers, ykBegun, ykTaken, ykThrown, ykept, ymethod, ypc, yvariable, yhereI, yhereWay, upd yhereLength d 0, yinto, ykLoad, ypart) → wpY_endStretch post (ydepth, ysteps, yresult, youtcome, yload, yover, yop, ya, yb, yline, ylength, yfrom, yto, yat, yhandlers, ybegun, ytaken, ythrown, yrowI, yrowWay, yrowLength, ytimes, ytold, ykOp, ykA, ykB, ykLine, ykLength, ykFrom, ykTo, ykAt, ykHandlers, ykBegun, ykTaken, ykThrown, ykept, ymethod, ypc, yvariable, yhereI, yhereWay, yhereLength, yinto, ykLoad, ypart)) ∧ st_R sn sg sr sw ri rv rl ti tl := by
  have ed : (nI d).toNatClampNeg = d := nI_clamp (by omega)
  have em : (nI m).toNatClampNeg = m := nI_clamp (by omega)
  have w : vp_in (nI d) 6 := vp_in_nI hd (by omega)
  have w4 : vp_in (nI m) 4 := vp_in_nI hm (by omega)
  have e1 : ydepth - 1 = nI d := by rw [hD]; exact nI_pred d
  have l24 := sr_len he.1
  rcases Nat.eq_zero_or_pos n with z | z
  · subst z
    refine ⟨xstretchNumber, xstretchGone, xstretchRow, xstretchWays, yrowI, yrowWay, yrowLength, ytimes, ytold, fun post hp => ?_, fun post hp => ?_, hS⟩
    · have f : xrow (nI d).toNatClampNeg = 0 := by rw [ed]; exact he.2.2.1
      exact ⟨w, br_t f (xc_clr hd hp)⟩
    · refine nm_r e1 ⟨w, nm_r (e' := nI m) (by rw [ed]; exact hme) ⟨w, nm_r (e' := nI 0) (by rw [ed]; exact hl) ⟨w, nm_r (e' := upd yhereLength d 0) (by rw [ed]) ?_⟩⟩⟩
      exact br_t rfl hp
  · have hr : ¬ xrow d = 0 := en_pos he z
    obtain ⟨t, ht, s1, s2, s3⟩ := hS m hm
    obtain ⟨k, k1, k2, k3⟩ := st_find (fun i => xstretchRow (40 * m + i) = xrow d ∧ xstretchWays (40 * m + i) = xrowWays d) t
    have same : ∀ i, i < t → ((xstretchRow (40 * m + i) = xrow d ∧ xstretchWays (40 * m + i) = xrowWays d) ↔ (yrowLength (40 * m + i) = nI n ∧ ∀ j, j < n → yrowI (24 * (40 * m + i) + j) = yhereI (24 * d + j) ∧ yrowWay (24 * (40 * m + i) + j) = yhereWay (24 * d + j))) :=
      fun i hi => st_same (s3 i hi) he
    have f : ¬ xrow (nI d).toNatClampNeg = 0 := by rw [ed]; exact hr
    have nz : ¬ nI n = 0 := nI_ne0 z (by omega)
    have X0 : ∀ post : SX → Prop, (∀ q, wX_countStretch_17 (fun u => match u with | (xdepth, xsignal, xcarried, xlatest, xload, xsizes, xops, xargsA, xargsB, xlines, xguards, xfroms, xtos, xats, xbegunCounts, xthrownCounts, xtakenCounts, xslotUsed, xslotLoad, xstretchNumber, xstretchGone, xstretchRow, xstretchWays, xatWork, xplace, xvariables, xrow, xrowWays, xwayOn, xpart) => wX_closeRow_31 post (nI d) xdepth xsignal xcarried xlatest xload xsizes xops xargsA xargsB xlines xguards xfroms xtos xats xbegunCounts xthrownCounts xtakenCounts xslotUsed xslotLoad xstretchNumber xstretchGone xstretchRow xstretchWays xatWork xplace xvariables xrow xrowWays xwayOn xpart) (nI m) (xrow d) (xrowWays d) (nI (40 * m)) (nI t) xdepth xsignal xcarried xlatest xload xsizes xops xargsA xargsB xlines xguards xfroms xtos xats xbegunCounts xthrownCounts xtakenCounts xslotUsed xslotLoad xstretchNumber xstretchGone xstretchRow xstretchWays xatWork xplace xvariables xrow xrowWays xwayOn xpart (q + 1) (nI k)) → wpX_closeRow post (xdepth, xsignal, xcarried, xlatest, xload, xsizes, xops, xargsA, xargsB, xlines, xguards, xfroms, xtos, xats, xbegunCounts, xthrownCounts, xtakenCounts, xslotUsed, xslotLoad, xstretchNumber, xstretchGone, xstretchRow, xstretchWays, xatWork, xplace, xvariables, xrow, xrowWays, xwayOn, xpart) (nI d) := by
      intro post h
      refine ⟨w, br_f f ⟨w, w, w, ?_⟩⟩
      rw [ed, ha]
      refine nm_r (e' := nI (40 * m)) (ix_c m 40) ⟨w4, nm_r (e' := nI t) (by rw [em]; exact s1) ⟨0 + 1 + k, ?_⟩⟩
      exact xc_skip (xdepth := xdepth) (xsignal := xsignal) (xcarried := xcarried) (xlatest := xlatest) (xload := xload) (xsizes := xsizes) (xops := xops) (xargsA := xargsA) (xargsB := xargsB) (xlines := xlines) (xguards := xguards) (xfroms := xfroms) (xtos := xtos) (xats := xats) (xbegunCounts := xbegunCounts) (xthrownCounts := xthrownCounts) (xtakenCounts := xtakenCounts) (xslotUsed := xslotUsed) (xslotLoad := xslotLoad) (xstretchNumber := xstretchNumber) (xstretchGone := xstretchGone) (xstretchRow := xstretchRow) (xstretchWays := xstretchWays) (xatWork := xatWork) (xplace := xplace) (xvariables := xvariables) (xrow := xrow) (xrowWays := xrowWays) (xwayOn := xwayOn) (xpart := xpart) hm ht k1 k 0 (by omega) (fun i _ h2 => k2 i h2) (h 0)
    have Y0 : ∀ post : SY → Prop, (∀ q, wY_endStretch_39 post (nI d) (nI m) (nI n) ydepth ysteps yresult youtcome yload yover yop ya yb yline ylength yfrom yto yat yhandlers ybegun ytaken ythrown yrowI yrowWay yrowLength ytimes ytold ykOp ykA ykB ykLine ykLength ykFrom ykTo ykAt ykHandlers ykBegun ykTaken ykThrown ykept ymethod ypc yvariable yhereI yhereWay (upd yhereLength d 0) yinto ykLoad ypart (q + 1) (nI (40 * m + k))) → wpY_endStretch post (ydepth, ysteps, yresult, youtcome, yload, yover, yop, ya, yb, yline, ylength, yfrom, yto, yat, yhandlers, ybegun, ytaken, ythrown, yrowI, yrowWay, yrowLength, ytimes, ytold, ykOp, ykA, ykB, ykLine, ykLength, ykFrom, ykTo, ykAt, ykHandlers, ykBegun, ykTaken, ykThrown, ykept, ymethod, ypc, yvariable, yhereI, yhereWay, yhereLength, yinto, ykLoad, ypart) := by
      intro post h
      refine nm_r e1 ⟨w, nm_r (e' := nI m) (by rw [ed]; exact hme) ⟨w, nm_r (e' := nI n) (by rw [ed]; exact hl) ⟨w, nm_r (e' := upd yhereLength d 0) (by rw [ed]) ?_⟩⟩⟩
      refine br_f nz (nm_r (e' := nI (40 * m)) (pk_mul 40 m) ⟨0 + 1 + k, ?_⟩)
      exact yc_skip hm hd l24 ht k1 s2 k 0 (by omega) (fun i _ h2 y => k2 i h2 ((same i (by omega)).mpr y)) (h 0)
    rcases Nat.lt_or_ge k t with y | y
    · have c := k3 y
      refine ⟨xstretchNumber, _, xstretchRow, xstretchWays, yrowI, yrowWay, yrowLength, _, ytold, fun post hp => X0 post (fun q => ?_), fun post hp => Y0 post (fun q => ?_), st_again hS (s3 k y).1⟩
      · exact xc_hit hm ht y c.1 c.2 (xc_clr hd hp)
      · exact yc_hit hm hd l24 ht s2 y ((same k y).mp c) hp
    · have ek : k = t := by omega
      subst ek
      rcases Nat.lt_or_ge k 40 with q4 | q4
      · refine ⟨_, _, _, _, _, _, _, _, _, fun post hp => X0 post (fun q => ?_), fun post hp => Y0 post (fun q => ?_), st_new hS hm s1 q4 he z⟩
        · exact xc_new hm q4 (xc_clr hd hp)
        · exact yc_new hm hd l24 q4 s2 hp
      · have e4 : k = 40 := by omega
        subst e4
        refine ⟨xstretchNumber, xstretchGone, xstretchRow, xstretchWays, yrowI, yrowWay, yrowLength, ytimes, ytold, fun post hp => X0 post (fun q => ?_), fun post hp => Y0 post (fun q => ?_), hS⟩
        · exact xc_full (xc_clr hd hp)
        · exact yc_full hm s2 hp
end
end
section
/-! part 11: the states of a run; wayTo and target; follow and take -/
/-- invocation d is at work, its instruction i begun -/
def md_R (d m i L n : Nat) (u : SX) (v : SY) : Prop := match u, v with
  | (xdepth, xsignal, xcarried, xlatest, xload, xsizes, xops, xargsA, xargsB, xlines, xguards, xfroms, xtos, xats, xbegunCounts, xthrownCounts, xtakenCounts, xslotUsed, xslotLoad, xstretchNumber, xstretchGone, xstretchRow, xstretchWays, xatWork, xplace, xvariables, xrow, xrowWays, xwayOn, xpart), (ydepth, ysteps, yresult, youtcome, yload, yover, yop, ya, yb, yline, ylength, yfrom, yto, yat, yhandlers, ybegun, ytaken, ythrown, yrowI, yrowWay, yrowLength, ytimes, ytold, ykOp, ykA, ykB, ykLine, ykLength, ykFrom, ykTo, ykAt, ykHandlers, ykBegun, ykTaken, ykThrown, ykept, ymethod, ypc, yvariable, yhereI, yhereWay, yhereLength, yinto, ykLoad, ypart) => d < 6 ∧ xdepth = nI (d + 1) ∧ ydepth = nI (d + 1) ∧ xsignal = 0 ∧ xload = nI L ∧ yload = nI L ∧ ysteps = nI n ∧ yover = 0 ∧ youtcome = 0 ∧ yresult = 0 ∧ (gp_R xsizes xops xargsA xargsB xlines xguards xfroms xtos xats yop ya yb yline ylength yfrom yto yat yhandlers ykOp ykA ykB ykLine ykLength ykFrom ykTo ykAt ykHandlers) ∧ (gc_R xsizes xbegunCounts xthrownCounts xtakenCounts xslotUsed xslotLoad ybegun ythrown ytaken ykBegun ykThrown ykTaken ykept ykLoad) ∧ (st_R xstretchNumber xstretchGone xstretchRow xstretchWays yrowI yrowWay yrowLength ytimes ytold) ∧ (fr_L (sz_f xsizes) xatWork xplace xvariables xrow xrowWays ymethod ypc yvariable yhereI yhereWay yhereLength d) ∧ (fr_b (sz_f xsizes) xatWork xplace xvariables xrow xrowWays ymethod ypc yvariable yhereI yhereWay yhereLength d m i) ∧ (tb_R (d + 1) L xtakenCounts)
/-- invocation d is at work, its instruction i the next -/
def hd_R (d m i L n : Nat) (u : SX) (v : SY) : Prop := match u, v with
  | (xdepth, xsignal, xcarried, xlatest, xload, xsizes, xops, xargsA, xargsB, xlines, xguards, xfroms, xtos, xats, xbegunCounts, xthrownCounts, xtakenCounts, xslotUsed, xslotLoad, xstretchNumber, xstretchGone, xstretchRow, xstretchWays, xatWork, xplace, xvariables, xrow, xrowWays, xwayOn, xpart), (ydepth, ysteps, yresult, youtcome, yload, yover, yop, ya, yb, yline, ylength, yfrom, yto, yat, yhandlers, ybegun, ytaken, ythrown, yrowI, yrowWay, yrowLength, ytimes, ytold, ykOp, ykA, ykB, ykLine, ykLength, ykFrom, ykTo, ykAt, ykHandlers, ykBegun, ykTaken, ykThrown, ykept, ymethod, ypc, yvariable, yhereI, yhereWay, yhereLength, yinto, ykLoad, ypart) => d < 6 ∧ xdepth = nI (d + 1) ∧ ydepth = nI (d + 1) ∧ xsignal = 0 ∧ xload = nI L ∧ yload = nI L ∧ ysteps = nI n ∧ yover = 0 ∧ youtcome = 0 ∧ yresult = 0 ∧ (gp_R xsizes xops xargsA xargsB xlines xguards xfroms xtos xats yop ya yb yline ylength yfrom yto yat yhandlers ykOp ykA ykB ykLine ykLength ykFrom ykTo ykAt ykHandlers) ∧ (gc_R xsizes xbegunCounts xthrownCounts xtakenCounts xslotUsed xslotLoad ybegun ythrown ytaken ykBegun ykThrown ykTaken ykept ykLoad) ∧ (st_R xstretchNumber xstretchGone xstretchRow xstretchWays yrowI yrowWay yrowLength ytimes ytold) ∧ (fr_L (sz_f xsizes) xatWork xplace xvariables xrow xrowWays ymethod ypc yvariable yhereI yhereWay yhereLength d) ∧ (fr_a (sz_f xsizes) xatWork xplace xvariables xrow xrowWays xwayOn ymethod ypc yvariable yhereI yhereWay yhereLength yinto d m i) ∧ (tb_R (d + 1) (L + 1) xtakenCounts)
/-- one has just ended, D are still at work; s: how, c: what it hands on -/
def wt_R (D yd : Nat) (s c : Int32) (L n : Nat) (u : SX) (v : SY) : Prop := match u, v with
  | (xdepth, xsignal, xcarried, xlatest, xload, xsizes, xops, xargsA, xargsB, xlines, xguards, xfroms, xtos, xats, xbegunCounts, xthrownCounts, xtakenCounts, xslotUsed, xslotLoad, xstretchNumber, xstretchGone, xstretchRow, xstretchWays, xatWork, xplace, xvariables, xrow, xrowWays, xwayOn, xpart), (ydepth, ysteps, yresult, youtcome, yload, yover, yop, ya, yb, yline, ylength, yfrom, yto, yat, yhandlers, ybegun, ytaken, ythrown, yrowI, yrowWay, yrowLength, ytimes, ytold, ykOp, ykA, ykB, ykLine, ykLength, ykFrom, ykTo, ykAt, ykHandlers, ykBegun, ykTaken, ykThrown, ykept, ymethod, ypc, yvariable, yhereI, yhereWay, yhereLength, yinto, ykLoad, ypart) => D < 6 ∧ xdepth = nI D ∧ ydepth = nI yd ∧ xsignal = s ∧ xcarried = c ∧ xload = nI L ∧ yload = nI L ∧ ysteps = nI n ∧ yover = 0 ∧ youtcome = 0 ∧ yresult = 0 ∧ (gp_R xsizes xops xargsA xargsB xlines xguards xfroms xtos xats yop ya yb yline ylength yfrom yto yat yhandlers ykOp ykA ykB ykLine ykLength ykFrom ykTo ykAt ykHandlers) ∧ (gc_R xsizes xbegunCounts xthrownCounts xtakenCounts xslotUsed xslotLoad ybegun ythrown ytaken ykBegun ykThrown ykTaken ykept ykLoad) ∧ (st_R xstretchNumber xstretchGone xstretchRow xstretchWays yrowI yrowWay yrowLength ytimes ytold) ∧ (fr_L (sz_f xsizes) xatWork xplace xvariables xrow xrowWays ymethod ypc yvariable yhereI yhereWay yhereLength D) ∧ (tb_R D L xtakenCounts)
/-- the run is over -/
def ov_R (s c : Int32) (L : Nat) (u : SX) (v : SY) : Prop := match u, v with
  | (xdepth, xsignal, xcarried, xlatest, xload, xsizes, xops, xargsA, xargsB, xlines, xguards, xfroms, xtos, xats, xbegunCounts, xthrownCounts, xtakenCounts, xslotUsed, xslotLoad, xstretchNumber, xstretchGone, xstretchRow, xstretchWays, xatWork, xplace, xvariables, xrow, xrowWays, xwayOn, xpart), (ydepth, ysteps, yresult, youtcome, yload, yover, yop, ya, yb, yline, ylength, yfrom, yto, yat, yhandlers, ybegun, ytaken, ythrown, yrowI, yrowWay, yrowLength, ytimes, ytold, ykOp, ykA, ykB, ykLine, ykLength, ykFrom, ykTo, ykAt, ykHandlers, ykBegun, ykTaken, ykThrown, ykept, ymethod, ypc, yvariable, yhereI, yhereWay, yhereLength, yinto, ykLoad, ypart) => xdepth = 0 ∧ xsignal = s ∧ xcarried = c ∧ yover = 1 ∧ yresult = c ∧ ((s = 1 ∧ youtcome = 0) ∨ (s = 2 ∧ youtcome = 1)) ∧ xload = nI L ∧ yload = nI L ∧ (gp_R xsizes xops xargsA xargsB xlines xguards xfroms xtos xats yop ya yb yline ylength yfrom yto yat yhandlers ykOp ykA ykB ykLine ykLength ykFrom ykTo ykAt ykHandlers) ∧ (gc_R xsizes xbegunCounts xthrownCounts xtakenCounts xslotUsed xslotLoad ybegun ythrown ytaken ykBegun ykThrown ykTaken ykept ykLoad) ∧ (st_R xstretchNumber xstretchGone xstretchRow xstretchWays yrowI yrowWay yrowLength ytimes ytold) ∧ (tb_R 0 L xtakenCounts)
section
variable {xdepth xsignal xcarried xlatest xload : Int32} {xsizes xops xargsA xargsB xlines xguards xfroms xtos xats xbegunCounts xthrownCounts xtakenCounts xslotUsed xslotLoad xstretchNumber xstretchGone xstretchRow xatWork xplace xvariables xrow xpart : Nat → Int32} {xstretchWays xrowWays xwayOn : Nat → Int64}
variable {ydepth ysteps yresult youtcome yload yover : Int32} {yop ya yb yline ylength yfrom yto yat yhandlers ybegun ytaken ythrown yrowI yrowWay yrowLength ytimes ytold ykOp ykA ykB ykLine ykLength ykFrom ykTo ykAt ykHandlers ykBegun ykTaken ykThrown ykept ymethod ypc yvariable yhereI yhereWay yhereLength yinto ykLoad ypart : Nat → Int32}
theorem tg_71t {post : Int32 → Prop} {m j : Nat} (hP : (gp_R xsizes xops xargsA xargsB xlines xguards xfroms xtos xats yop ya yb yline ylength yfrom yto yat yhandlers ykOp ykA ykB ykLine ykLength ykFrom ykTo ykAt ykHandlers)) (hm : m < 4) (hj : j < sz_f xsizes m) (hp : post (nI j)) : wX_wayTo_71 post (nI m) (nI j) xdepth xsignal xcarried xlatest xload xsizes xops xargsA xargsB xlines xguards xfroms xtos xats xbegunCounts xthrownCounts xtakenCounts xslotUsed xslotLoad xstretchNumber xstretchGone xstretchRow xstretchWays xatWork xplace xvariables xrow xrowWays xwayOn xpart := by
  obtain ⟨e1, e2, e3⟩ := gp_sz hP hm
  have c : (nI m).toNatClampNeg = m := nI_clamp (by omega)
  refine ⟨vp_in_nI (by omega) (by decide), ?_⟩
  rw [c, e1]
  exact xi_t hj (by omega) (br_f (by decide) hp)
theorem tg_71f {post : Int32 → Prop} {m : Nat} {t : Int32} (hP : (gp_R xsizes xops xargsA xargsB xlines xguards xfroms xtos xats yop ya yb yline ylength yfrom yto yat yhandlers ykOp ykA ykB ykLine ykLength ykFrom ykTo ykAt ykHandlers)) (hm : m < 4) (ht : t < 0 ∨ nI (sz_f xsizes m) ≤ t) (hp : post (-1)) : wX_wayTo_71 post (nI m) t xdepth xsignal xcarried xlatest xload xsizes xops xargsA xargsB xlines xguards xfroms xtos xats xbegunCounts xthrownCounts xtakenCounts xslotUsed xslotLoad xstretchNumber xstretchGone xstretchRow xstretchWays xatWork xplace xvariables xrow xrowWays xwayOn xpart := by
  obtain ⟨e1, e2, e3⟩ := gp_sz hP hm
  have c : (nI m).toNatClampNeg = m := nI_clamp (by omega)
  refine ⟨vp_in_nI (by omega) (by decide), ?_⟩
  rw [c, e1]
  exact xi_f ht (br_t rfl hp)
/-- where way k leads: the class's and the reference's number -/
theorem tg_1 {m i k : Nat} (hP : (gp_R xsizes xops xargsA xargsB xlines xguards xfroms xtos xats yop ya yb yline ylength yfrom yto yat yhandlers ykOp ykA ykB ykLine ykLength ykFrom ykTo ykAt ykHandlers)) (hm : m < 4) (hi : i < 24) (hk : k < 4) :
    ∃ t : Int32, (∀ post : Int32 → Prop, wX_wayTo_71 post (nI m) t xdepth xsignal xcarried xlatest xload xsizes xops xargsA xargsB xlines xguards xfroms xtos xats xbegunCounts xthrownCounts xtakenCounts xslotUsed xslotLoad xstretchNumber xstretchGone xstretchRow xstretchWays xatWork xplace xvariables xrow xrowWays xwayOn xpart → wpX_wayTo post (xdepth, xsignal, xcarried, xlatest, xload, xsizes, xops, xargsA, xargsB, xlines, xguards, xfroms, xtos, xats, xbegunCounts, xthrownCounts, xtakenCounts, xslotUsed, xslotLoad, xstretchNumber, xstretchGone, xstretchRow, xstretchWays, xatWork, xplace, xvariables, xrow, xrowWays, xwayOn, xpart) (nI m) (nI i) (nI k)) ∧ (∀ post : Int32 → Prop, post t → wpY_target post (ydepth, ysteps, yresult, youtcome, yload, yover, yop, ya, yb, yline, ylength, yfrom, yto, yat, yhandlers, ybegun, ytaken, ythrown, yrowI, yrowWay, yrowLength, ytimes, ytold, ykOp, ykA, ykB, ykLine, ykLength, ykFrom, ykTo, ykAt, ykHandlers, ykBegun, ykTaken, ykThrown, ykept, ymethod, ypc, yvariable, yhereI, yhereWay, yhereLength, yinto, ykLoad, ypart) (nI m) (nI i) (nI k)) ∧ (xops (24 * m + i) = 9 → t = -1) := by
  have cx : (nI m * 24 + nI i).toNatClampNeg = 24 * m + i := ix_cl (ix_24 m i) (by omega)
  have wx : vp_in (nI m * 24 + nI i) 408 := ix_in (ix_24 m i) (by omega) (by decide)
  have cy : (24 * nI m + nI i).toNatClampNeg = 24 * m + i := ix_cl (iy_24 m i) (by omega)
  have wy : vp_in (24 * nI m + nI i) 120 := ix_in (iy_24 m i) (by omega) (by decide)
  have eo := gp_op hP hm hi
  have eb := gp_b hP hm hi
  by_cases h9 : xops (24 * m + i) = 9
  · refine ⟨-1, fun post hp => ?_, fun post hp => ?_, fun _ => rfl⟩
    · exact nm_e (nm_e ⟨wx, br_t (by rw [cx]; exact h9) hp⟩)
    · exact nm_e ⟨wy, br_t (by rw [cy, ← eo]; exact h9) hp⟩
  · have x9 : ¬ xops (nI m * 24 + nI i).toNatClampNeg = 9 := by rw [cx]; exact h9
    have y9 : ¬ yop (24 * nI m + nI i).toNatClampNeg = 9 := by rw [cy, ← eo]; exact h9
    by_cases h4 : xops (24 * m + i) = 4
    · refine ⟨xargsB (24 * m + i), fun post hp => ?_, fun post hp => ?_, fun z => absurd z h9⟩
      · exact nm_e (nm_e ⟨wx, br_f x9 ⟨wx, br_t (by rw [cx]; exact h4) ⟨wx, nm_r (by rw [cx]) hp⟩⟩⟩)
      · exact nm_e ⟨wy, br_f y9 ⟨wy, br_t (by rw [cy, ← eo]; exact h4) ⟨wy, by rw [cy, ← eb]; exact hp⟩⟩⟩
    · have x4 : ¬ xops (nI m * 24 + nI i).toNatClampNeg = 4 := by rw [cx]; exact h4
      have y4 : ¬ yop (24 * nI m + nI i).toNatClampNeg = 4 := by rw [cy, ← eo]; exact h4
      rcases Nat.eq_zero_or_pos k with z | z
      · subst z
        refine ⟨nI i + 1, fun post hp => ?_, fun post hp => ?_, fun z => absurd z h9⟩
        · exact nm_e (nm_e ⟨wx, br_f x9 ⟨wx, br_f x4 (br_t (by decide) hp)⟩⟩)
        · exact nm_e ⟨wy, br_f y9 ⟨wy, br_f y4 (br_t rfl hp)⟩⟩
      · have k0 : ¬ nI k ≤ 0 := nI_nle z (by omega)
        have k1 : ¬ nI k = 0 := nI_ne0 z (by omega)
        have e : ∀ B K : Int32, B + K - 1 = B + (K - 1) := fun B K => by grind
        refine ⟨xargsB (24 * m + i) + (nI k - 1), fun post hp => ?_, fun post hp => ?_, fun z => absurd z h9⟩
        · exact nm_e (nm_e ⟨wx, br_f x9 ⟨wx, br_f x4 (br_f k0 ⟨wx, nm_r (by rw [cx]) hp⟩)⟩⟩)
        · exact nm_e ⟨wy, br_f y9 ⟨wy, br_f y4 (br_f k1 ⟨wy, by rw [cy, ← eb, e]; exact hp⟩)⟩⟩
/-- way k: inside, or outside -/
theorem tg_R {m i k : Nat} (hP : (gp_R xsizes xops xargsA xargsB xlines xguards xfroms xtos xats yop ya yb yline ylength yfrom yto yat yhandlers ykOp ykA ykB ykLine ykLength ykFrom ykTo ykAt ykHandlers)) (hm : m < 4) (hi : i < 24) (hk : k < 4) :
    (∃ j, j < sz_f xsizes m ∧ j < 24 ∧ (∀ post : Int32 → Prop, post (nI j) → wpX_wayTo post (xdepth, xsignal, xcarried, xlatest, xload, xsizes, xops, xargsA, xargsB, xlines, xguards, xfroms, xtos, xats, xbegunCounts, xthrownCounts, xtakenCounts, xslotUsed, xslotLoad, xstretchNumber, xstretchGone, xstretchRow, xstretchWays, xatWork, xplace, xvariables, xrow, xrowWays, xwayOn, xpart) (nI m) (nI i) (nI k)) ∧ (∀ post : Int32 → Prop, post (nI j) → wpY_target post (ydepth, ysteps, yresult, youtcome, yload, yover, yop, ya, yb, yline, ylength, yfrom, yto, yat, yhandlers, ybegun, ytaken, ythrown, yrowI, yrowWay, yrowLength, ytimes, ytold, ykOp, ykA, ykB, ykLine, ykLength, ykFrom, ykTo, ykAt, ykHandlers, ykBegun, ykTaken, ykThrown, ykept, ymethod, ypc, yvariable, yhereI, yhereWay, yhereLength, yinto, ykLoad, ypart) (nI m) (nI i) (nI k)) ∧ ¬ xops (24 * m + i) = 9) ∨
    (∃ t : Int32, (t < 0 ∨ nI (sz_f xsizes m) ≤ t) ∧ (∀ post : Int32 → Prop, post (-1) → wpX_wayTo post (xdepth, xsignal, xcarried, xlatest, xload, xsizes, xops, xargsA, xargsB, xlines, xguards, xfroms, xtos, xats, xbegunCounts, xthrownCounts, xtakenCounts, xslotUsed, xslotLoad, xstretchNumber, xstretchGone, xstretchRow, xstretchWays, xatWork, xplace, xvariables, xrow, xrowWays, xwayOn, xpart) (nI m) (nI i) (nI k)) ∧ (∀ post : Int32 → Prop, post t → wpY_target post (ydepth, ysteps, yresult, youtcome, yload, yover, yop, ya, yb, yline, ylength, yfrom, yto, yat, yhandlers, ybegun, ytaken, ythrown, yrowI, yrowWay, yrowLength, ytimes, ytold, ykOp, ykA, ykB, ykLine, ykLength, ykFrom, ykTo, ykAt, ykHandlers, ykBegun, ykTaken, ykThrown, ykept, ymethod, ypc, yvariable, yhereI, yhereWay, yhereLength, yinto, ykLoad, ypart) (nI m) (nI i) (nI k))) := by
  obtain ⟨e1, e2, e3⟩ := gp_sz hP hm
  obtain ⟨t, h1, h2, h3⟩ := tg_1 (xdepth := xdepth) (xsignal := xsignal) (xcarried := xcarried) (xlatest := xlatest) (xload := xload) (xsizes := xsizes) (xops := xops) (xargsA := xargsA) (xargsB := xargsB) (xlines := xlines) (xguards := xguards) (xfroms := xfroms) (xtos := xtos) (xats := xats) (xbegunCounts := xbegunCounts) (xthrownCounts := xthrownCounts) (xtakenCounts := xtakenCounts) (xslotUsed := xslotUsed) (xslotLoad := xslotLoad) (xstretchNumber := xstretchNumber) (xstretchGone := xstretchGone) (xstretchRow := xstretchRow) (xstretchWays := xstretchWays) (xatWork := xatWork) (xplace := xplace) (xvariables := xvariables) (xrow := xrow) (xrowWays := xrowWays) (xwayOn := xwayOn) (xpart := xpart) (ydepth := ydepth) (ysteps := ysteps) (yresult := yresult) (youtcome := youtcome) (yload := yload) (yover := yover) (yop := yop) (ya := ya) (yb := yb) (yline := yline) (ylength := ylength) (yfrom := yfrom) (yto := yto) (yat := yat) (yhandlers := yhandlers) (ybegun := ybegun) (ytaken := ytaken) (ythrown := ythrown) (yrowI := yrowI) (yrowWay := yrowWay) (yrowLength := yrowLength) (ytimes := ytimes) (ytold := ytold) (ykOp := ykOp) (ykA := ykA) (ykB := ykB) (ykLine := ykLine) (ykLength := ykLength) (ykFrom := ykFrom) (ykTo := ykTo) (ykAt := ykAt) (ykHandlers := ykHandlers) (ykBegun := ykBegun) (ykTaken := ykTaken) (ykThrown := ykThrown) (ykept := ykept) (ymethod := ymethod) (ypc := ypc) (yvariable := yvariable) (yhereI := yhereI) (yhereWay := yhereWay) (yhereLength := yhereLength) (yinto := yinto) (ykLoad := ykLoad) (ypart := ypart) hP hm hi hk
  rcases pk_ix t (n := sz_f xsizes m) (by omega) with z | z | ⟨j, hj, rfl⟩
  · exact Or.inr ⟨t, Or.inl z, fun post hp => h1 _ (tg_71f hP hm (Or.inl z) hp), h2⟩
  · exact Or.inr ⟨t, Or.inr z, fun post hp => h1 _ (tg_71f hP hm (Or.inr z) hp), h2⟩
  · refine Or.inl ⟨j, hj, by omega, fun post hp => h1 _ (tg_71t hP hm hj hp), h2, fun z => ?_⟩
    have := h3 z
    have q := nI_pos (n := j) (by omega)
    rw [this] at q
    exact q (by decide)
theorem ix_t (m i k : Nat) : (nI m * 24 + nI i) * 4 + nI k = nI (4 * (24 * m + i) + k) := by rw [ix_24, ix_4]
theorem iy_t (m i k : Nat) : 4 * (24 * nI m + nI i) + nI k = nI (4 * (24 * m + i) + k) := by rw [iy_24, iy_4]
theorem fo_R {d m i k L n : Nat} {g : Int32} (hk : k < 4) (H : md_R d m i L n (xdepth, xsignal, xcarried, xlatest, xload, xsizes, xops, xargsA, xargsB, xlines, xguards, xfroms, xtos, xats, xbegunCounts, xthrownCounts, xtakenCounts, xslotUsed, xslotLoad, xstretchNumber, xstretchGone, xstretchRow, xstretchWays, xatWork, xplace, xvariables, xrow, xrowWays, xwayOn, xpart) (ydepth, ysteps, yresult, youtcome, yload, yover, yop, ya, yb, yline, ylength, yfrom, yto, yat, yhandlers, ybegun, ytaken, ythrown, yrowI, yrowWay, yrowLength, ytimes, ytold, ykOp, ykA, ykB, ykLine, ykLength, ykFrom, ykTo, ykAt, ykHandlers, ykBegun, ykTaken, ykThrown, ykept, ymethod, ypc, yvariable, yhereI, yhereWay, yhereLength, yinto, ykLoad, ypart)) :
    ∃ (u' : SX) (v' : SY), (∀ post : SX → Prop, post u' → wpX_follow post (xdepth, xsignal, xcarried, xlatest, xload, xsizes, xops, xargsA, xargsB, xlines, xguards, xfroms, xtos, xats, xbegunCounts, xthrownCounts, xtakenCounts, xslotUsed, xslotLoad, xstretchNumber, xstretchGone, xstretchRow, xstretchWays, xatWork, xplace, xvariables, xrow, xrowWays, xwayOn, xpart) (nI k) g) ∧
      (((∀ post : Int32 → SY → Prop, post 0 v' → wpY_take post (ydepth, ysteps, yresult, youtcome, yload, yover, yop, ya, yb, yline, ylength, yfrom, yto, yat, yhandlers, ybegun, ytaken, ythrown, yrowI, yrowWay, yrowLength, ytimes, ytold, ykOp, ykA, ykB, ykLine, ykLength, ykFrom, ykTo, ykAt, ykHandlers, ykBegun, ykTaken, ykThrown, ykept, ymethod, ypc, yvariable, yhereI, yhereWay, yhereLength, yinto, ykLoad, ypart) (nI k)) ∧ ∃ t, hd_R d m t L n u' v') ∨ ((∀ post : Int32 → SY → Prop, post 1 v' → wpY_take post (ydepth, ysteps, yresult, youtcome, yload, yover, yop, ya, yb, yline, ylength, yfrom, yto, yat, yhandlers, ybegun, ytaken, ythrown, yrowI, yrowWay, yrowLength, ytimes, ytold, ykOp, ykA, ykB, ykLine, ykLength, ykFrom, ykTo, ykAt, ykHandlers, ykBegun, ykTaken, ykThrown, ykept, ymethod, ypc, yvariable, yhereI, yhereWay, yhereLength, yinto, ykLoad, ypart) (nI k)) ∧ wt_R d (d + 1) 1 g L n u' v')) := by
  obtain ⟨hd, hxd, hyd, hsg, hxl, hyl, hst, hov, hou, hre, hP, hC, hS, hF, hB, hT⟩ := H
  obtain ⟨⟨hm, hi, ha, hme, hp, hpc, hv⟩, q, I, W, hl, he, hq⟩ := hB
  obtain ⟨e1, e2, e3⟩ := gp_sz hP hm
  have h24 : i < 24 := by omega
  have ed : (nI d).toNatClampNeg = d := nI_clamp (by omega)
  have em : (nI m).toNatClampNeg = m := nI_clamp (by omega)
  have w : vp_in (nI d) 6 := vp_in_nI hd (by omega)
  have ex : xdepth - 1 = nI d := by rw [hxd]; exact nI_pred d
  have ey : ydepth - 1 = nI d := by rw [hyd]; exact nI_pred d
  have wx : vp_in ((nI m * 24 + nI i) * 4 + nI k) 1632 := ix_in (ix_t m i k) (by omega) (by decide)
  have cx : ((nI m * 24 + nI i) * 4 + nI k).toNatClampNeg = 4 * (24 * m + i) + k := ix_cl (ix_t m i k) (by omega)
  have wy : vp_in (4 * (24 * nI m + nI i) + nI k) 384 := ix_in (iy_t m i k) (by omega) (by decide)
  have cy : (4 * (24 * nI m + nI i) + nI k).toNatClampNeg = 4 * (24 * m + i) + k := ix_cl (iy_t m i k) (by omega)
  have hC' := gc_tak hC hm hi h24 hk
  have hT' := tb_inc (k := 4 * (24 * m + i) + k) hT (by omega)
  have X0 : ∀ post : SX → Prop, wpX_wayTo (fun r_9 => (((nI i < r_9 → (vp_in (nI d) 6 ∧ ∀ a : Nat → Int64, a = vp_updL xwayOn (nI d).toNatClampNeg ((nI k).toInt64 <<< ((2 * nI i).toInt64 &&& 63)) → (wX_follow_83 post g (nI d) r_9 xdepth xsignal xcarried xlatest xload xsizes xops xargsA xargsB xlines xguards xfroms xtos xats xbegunCounts xthrownCounts (upd xtakenCounts (4 * (24 * m + i) + k) (xtakenCounts (4 * (24 * m + i) + k) + 1)) xslotUsed xslotLoad xstretchNumber xstretchGone xstretchRow xstretchWays xatWork xplace xvariables xrow xrowWays a xpart))) ∧ (¬ nI i < r_9 → (wpX_closeRow (fun u => match u with | (xdepth, xsignal, xcarried, xlatest, xload, xsizes, xops, xargsA, xargsB, xlines, xguards, xfroms, xtos, xats, xbegunCounts, xthrownCounts, xtakenCounts, xslotUsed, xslotLoad, xstretchNumber, xstretchGone, xstretchRow, xstretchWays, xatWork, xplace, xvariables, xrow, xrowWays, xwayOn, xpart) => (wX_follow_83 post g (nI d) r_9 xdepth xsignal xcarried xlatest xload xsizes xops xargsA xargsB xlines xguards xfroms xtos xats xbegunCounts xthrownCounts xtakenCounts xslotUsed xslotLoad xstretchNumber xstretchGone xstretchRow xstretchWays xatWork xplace xvariables xrow xrowWays xwayOn xpart)) (xdepth, xsignal, xcarried, xlatest, xload, xsizes, xops, xargsA, xargsB, xlines, xguards, xfroms, xtos, xats, xbegunCounts, xthrownCounts, upd xtakenCounts (4 * (24 * m + i) + k) (xtakenCounts (4 * (24 * m + i) + k) + 1), xslotUsed, xslotLoad, xstretchNumber, xstretchGone, xstretchRow, xstretchWays, xatWork, xplace, xvariables, xrow, xrowWays, xwayOn, xpart) (nI d)))))) (xdepth, xsignal, xcarried, xlatest, xload, xsizes, xops, xargsA, xargsB, xlines, xguards, xfroms, xtos, xats, xbegunCounts, xthrownCounts, upd xtakenCounts (4 * (24 * m + i) + k) (xtakenCounts (4 * (24 * m + i) + k) + 1), xslotUsed, xslotLoad, xstretchNumber, xstretchGone, xstretchRow, xstretchWays, xatWork, xplace, xvariables, xrow, xrowWays, xwayOn, xpart) (nI m) (nI i) (nI k) → wpX_follow post (xdepth, xsignal, xcarried, xlatest, xload, xsizes, xops, xargsA, xargsB, xlines, xguards, xfroms, xtos, xats, xbegunCounts, xthrownCounts, xtakenCounts, xslotUsed, xslotLoad, xstretchNumber, xstretchGone, xstretchRow, xstretchWays, xatWork, xplace, xvariables, xrow, xrowWays, xwayOn, xpart) (nI k) g := by
    intro post h
    exact nm_r ex ⟨w, nm_r (e' := nI m) (by rw [ed]; exact ha) ⟨w, nm_r (e' := nI i) (by rw [ed]; exact hp) ⟨wx, wx, nm_r (e' := upd xtakenCounts (4 * (24 * m + i) + k) (xtakenCounts (4 * (24 * m + i) + k) + 1)) (by rw [cx]) h⟩⟩⟩
  have Y0 : ∀ (post : Int32 → SY → Prop) (t : Int32), (∀ post : Int32 → Prop, post t → wpY_target post (ydepth, ysteps, yresult, youtcome, yload, yover, yop, ya, yb, yline, ylength, yfrom, yto, yat, yhandlers, ybegun, ytaken, ythrown, yrowI, yrowWay, yrowLength, ytimes, ytold, ykOp, ykA, ykB, ykLine, ykLength, ykFrom, ykTo, ykAt, ykHandlers, ykBegun, ykTaken, ykThrown, ykept, ymethod, ypc, yvariable, yhereI, yhereWay, yhereLength, yinto, ykLoad, ypart) (nI m) (nI i) (nI k)) → wpY_in (fun r_56 => (((r_56 = 0 → (wY_take_71 post (nI k) (nI d) (nI i) t 1 ydepth ysteps yresult youtcome yload yover yop ya yb yline ylength yfrom yto yat yhandlers ybegun (upd ytaken (4 * (24 * m + i) + k) (ytaken (4 * (24 * m + i) + k) + 1)) ythrown yrowI yrowWay yrowLength ytimes ytold ykOp ykA ykB ykLine ykLength ykFrom ykTo ykAt ykHandlers ykBegun ykTaken ykThrown ykept ymethod ypc yvariable yhereI yhereWay yhereLength yinto ykLoad ypart)) ∧ (¬ r_56 = 0 → (wY_take_71 post (nI k) (nI d) (nI i) t 0 ydepth ysteps yresult youtcome yload yover yop ya yb yline ylength yfrom yto yat yhandlers ybegun (upd ytaken (4 * (24 * m + i) + k) (ytaken (4 * (24 * m + i) + k) + 1)) ythrown yrowI yrowWay yrowLength ytimes ytold ykOp ykA ykB ykLine ykLength ykFrom ykTo ykAt ykHandlers ykBegun ykTaken ykThrown ykept ymethod ypc yvariable yhereI yhereWay yhereLength yinto ykLoad ypart))))) t (nI (sz_f xsizes m)) → wpY_take post (ydepth, ysteps, yresult, youtcome, yload, yover, yop, ya, yb, yline, ylength, yfrom, yto, yat, yhandlers, ybegun, ytaken, ythrown, yrowI, yrowWay, yrowLength, ytimes, ytold, ykOp, ykA, ykB, ykLine, ykLength, ykFrom, ykTo, ykAt, ykHandlers, ykBegun, ykTaken, ykThrown, ykept, ymethod, ypc, yvariable, yhereI, yhereWay, yhereLength, yinto, ykLoad, ypart) (nI k) := by
    intro post t ht h
    refine nm_r ey ⟨w, nm_r (e' := nI m) (by rw [ed]; exact hme) ⟨w, nm_r (e' := nI i) (by rw [ed]; exact hpc) (ht _ ⟨wy, wy, nm_r (e' := upd ytaken (4 * (24 * m + i) + k) (ytaken (4 * (24 * m + i) + k) + 1)) (by rw [cy]) ⟨vp_in_nI (by omega) (by decide), ?_⟩⟩)⟩⟩
    rw [em, e2]
    exact h
  have Y89 : ∀ (post : Int32 → SY → Prop) (t z : Int32) (ytaken1 ytimes1 ytold1 yrowI1 yrowWay1 yrowLength1 yhereLength1 : Nat → Int32), (z = 0 ∨ z = 1) → post z (ydepth, ysteps, yresult, youtcome, yload, yover, yop, ya, yb, yline, ylength, yfrom, yto, yat, yhandlers, ybegun, ytaken1, ythrown, yrowI1, yrowWay1, yrowLength1, ytimes1, ytold1, ykOp, ykA, ykB, ykLine, ykLength, ykFrom, ykTo, ykAt, ykHandlers, ykBegun, ykTaken, ykThrown, ykept, ymethod, upd ypc d t, yvariable, yhereI, yhereWay, yhereLength1, upd yinto d (nI k), ykLoad, ypart) → wY_take_89 post (nI k) (nI d) t z ydepth ysteps yresult youtcome yload yover yop ya yb yline ylength yfrom yto yat yhandlers ybegun ytaken1 ythrown yrowI1 yrowWay1 yrowLength1 ytimes1 ytold1 ykOp ykA ykB ykLine ykLength ykFrom ykTo ykAt ykHandlers ykBegun ykTaken ykThrown ykept ymethod ypc yvariable yhereI yhereWay yhereLength1 yinto ykLoad ypart := by
    intro post t z _ _ _ _ _ _ _ hz h
    refine ⟨w, nm_r (e' := upd ypc d t) (by rw [ed]) ⟨w, nm_r (e' := upd yinto d (nI k)) (by rw [ed]) ⟨?_, h⟩⟩⟩
    rcases hz with rfl | rfl <;> rfl
  obtain ⟨sn, sg, sr, sw, ri, rv, rl, ti, tl, hX, hY, hS'⟩ := cl_R (xdepth := xdepth) (xsignal := xsignal) (xcarried := xcarried) (xlatest := xlatest) (xload := xload) (xsizes := xsizes) (xops := xops) (xargsA := xargsA) (xargsB := xargsB) (xlines := xlines) (xguards := xguards) (xfroms := xfroms) (xtos := xtos) (xats := xats) (xbegunCounts := xbegunCounts) (xthrownCounts := xthrownCounts) (xtakenCounts := upd xtakenCounts (4 * (24 * m + i) + k) (xtakenCounts (4 * (24 * m + i) + k) + 1)) (xslotUsed := xslotUsed) (xslotLoad := xslotLoad) (xstretchNumber := xstretchNumber) (xstretchGone := xstretchGone) (xstretchRow := xstretchRow) (xstretchWays := xstretchWays) (xatWork := xatWork) (xplace := xplace) (xvariables := xvariables) (xrow := xrow) (xrowWays := xrowWays) (xwayOn := xwayOn) (xpart := xpart) (ydepth := ydepth) (ysteps := ysteps) (yresult := yresult) (youtcome := youtcome) (yload := yload) (yover := yover) (yop := yop) (ya := ya) (yb := yb) (yline := yline) (ylength := ylength) (yfrom := yfrom) (yto := yto) (yat := yat) (yhandlers := yhandlers) (ybegun := ybegun) (ytaken := upd ytaken (4 * (24 * m + i) + k) (ytaken (4 * (24 * m + i) + k) + 1)) (ythrown := ythrown) (yrowI := yrowI) (yrowWay := yrowWay) (yrowLength := yrowLength) (ytimes := ytimes) (ytold := ytold) (ykOp := ykOp) (ykA := ykA) (ykB := ykB) (ykLine := ykLine) (ykLength := ykLength) (ykFrom := ykFrom) (ykTo := ykTo) (ykAt := ykAt) (ykHandlers := ykHandlers) (ykBegun := ykBegun) (ykTaken := ykTaken) (ykThrown := ykThrown) (ykept := ykept) (ymethod := ymethod) (ypc := ypc) (yvariable := yvariable) (yhereI := yhereI) (yhereWay := yhereWay) (yhereLength := yhereLength) (yinto := yinto) (ykLoad := ykLoad) (ypart := ypart) hd hm ha hme hl he hS hyd
  rcases tg_R (xdepth := xdepth) (xsignal := xsignal) (xcarried := xcarried) (xlatest := xlatest) (xload := xload) (xsizes := xsizes) (xops := xops) (xargsA := xargsA) (xargsB := xargsB) (xlines := xlines) (xguards := xguards) (xfroms := xfroms) (xtos := xtos) (xats := xats) (xbegunCounts := xbegunCounts) (xthrownCounts := xthrownCounts) (xtakenCounts := (upd xtakenCounts (4 * (24 * m + i) + k) (xtakenCounts (4 * (24 * m + i) + k) + 1))) (xslotUsed := xslotUsed) (xslotLoad := xslotLoad) (xstretchNumber := xstretchNumber) (xstretchGone := xstretchGone) (xstretchRow := xstretchRow) (xstretchWays := xstretchWays) (xatWork := xatWork) (xplace := xplace) (xvariables := xvariables) (xrow := xrow) (xrowWays := xrowWays) (xwayOn := xwayOn) (xpart := xpart) (ydepth := ydepth) (ysteps := ysteps) (yresult := yresult) (youtcome := youtcome) (yload := yload) (yover := yover) (yop := yop) (ya := ya) (yb := yb) (yline := yline) (ylength := ylength) (yfrom := yfrom) (yto := yto) (yat := yat) (yhandlers := yhandlers) (ybegun := ybegun) (ytaken := ytaken) (ythrown := ythrown) (yrowI := yrowI) (yrowWay := yrowWay) (yrowLength := yrowLength) (ytimes := ytimes) (ytold := ytold) (ykOp := ykOp) (ykA := ykA) (ykB := ykB) (ykLine := ykLine) (ykLength := ykLength) (ykFrom := ykFrom) (ykTo := ykTo) (ykAt := ykAt) (ykHandlers := ykHandlers) (ykBegun := ykBegun) (ykTaken := ykTaken) (ykThrown := ykThrown) (ykept := ykept) (ymethod := ymethod) (ypc := ypc) (yvariable := yvariable) (yhereI := yhereI) (yhereWay := yhereWay) (yhereLength := yhereLength) (yinto := yinto) (ykLoad := ykLoad) (ypart := ypart) hP hm h24 hk with ⟨j, hj, hj24, tX, tY, _⟩ | ⟨t, ht, tX, tY⟩
  · have nj : ¬ nI j = -1 := fun z => by
      have q := nI_pos (n := j) (by omega)
      rw [z] at q
      exact q (by decide)
    rcases Nat.lt_or_ge i j with y | y
    · refine ⟨(xdepth, xsignal, xcarried, xlatest, xload, xsizes, xops, xargsA, xargsB, xlines, xguards, xfroms, xtos, xats, xbegunCounts, xthrownCounts, upd xtakenCounts (4 * (24 * m + i) + k) (xtakenCounts (4 * (24 * m + i) + k) + 1), xslotUsed, xslotLoad, xstretchNumber, xstretchGone, xstretchRow, xstretchWays, xatWork, upd xplace d (nI j), xvariables, xrow, xrowWays, vp_updL xwayOn d (lN (k * 4 ^ i)), xpart), (ydepth, ysteps, yresult, youtcome, yload, yover, yop, ya, yb, yline, ylength, yfrom, yto, yat, yhandlers, ybegun, upd ytaken (4 * (24 * m + i) + k) (ytaken (4 * (24 * m + i) + k) + 1), ythrown, yrowI, yrowWay, yrowLength, ytimes, ytold, ykOp, ykA, ykB, ykLine, ykLength, ykFrom, ykTo, ykAt, ykHandlers, ykBegun, ykTaken, ykThrown, ykept, ymethod, upd ypc d (nI j), yvariable, yhereI, yhereWay, yhereLength, upd yinto d (nI k), ykLoad, ypart), fun post h => X0 post ?_, Or.inl ⟨fun post h => Y0 post (nI j) tY ?_, j, ?_⟩⟩
      · refine tX _ ?_
        refine br_t (nI_lt y (by omega)) ⟨w, nm_r (e' := vp_updL xwayOn d (lN (k * 4 ^ i))) ?_ (br_f nj ⟨w, nm_r (e' := upd xplace d (nI j)) (by rw [ed]) h⟩)⟩
        rw [ed, show 2 * nI i = nI (2 * i) from pk_mul 2 i, nu_way hk h24]
      · refine wi_t hj (by omega) (br_f (by decide) (br_t rfl (br_t (nI_lt y (by omega)) ?_)))
        exact Y89 post (nI j) 0 _ _ _ _ _ _ _ (Or.inl rfl) h
      · refine ⟨hd, hxd, hyd, hsg, hxl, hyl, hst, hov, hou, hre, hP, hC', hS, ?_, ⟨⟨hm, hj, ha, hme, pk_us, pk_us, hv⟩, q + 1, I, W, hl, he, Or.inr ⟨by omega, ?_, k, hk, pk_us, ?_⟩⟩, hT'⟩
        · exact fr_L_lo hF lo_r (lo_u (Nat.le_refl d)) lo_r lo_r lo_r lo_r (lo_u (Nat.le_refl d)) lo_r lo_r lo_r lo_r
        · rw [Nat.add_sub_cancel, hq]; exact y
        · rw [pk_uLs, Nat.add_sub_cancel, hq]
    · refine ⟨(xdepth, xsignal, xcarried, xlatest, xload, xsizes, xops, xargsA, xargsB, xlines, xguards, xfroms, xtos, xats, xbegunCounts, xthrownCounts, upd xtakenCounts (4 * (24 * m + i) + k) (xtakenCounts (4 * (24 * m + i) + k) + 1), xslotUsed, xslotLoad, sn, sg, sr, sw, xatWork, upd xplace d (nI j), xvariables, upd xrow d 0, vp_updL xrowWays d 0, vp_updL xwayOn d 0, xpart), (ydepth, ysteps, yresult, youtcome, yload, yover, yop, ya, yb, yline, ylength, yfrom, yto, yat, yhandlers, ybegun, upd ytaken (4 * (24 * m + i) + k) (ytaken (4 * (24 * m + i) + k) + 1), ythrown, ri, rv, rl, ti, tl, ykOp, ykA, ykB, ykLine, ykLength, ykFrom, ykTo, ykAt, ykHandlers, ykBegun, ykTaken, ykThrown, ykept, ymethod, upd ypc d (nI j), yvariable, yhereI, yhereWay, upd yhereLength d 0, upd yinto d (nI k), ykLoad, ypart), fun post h => X0 post ?_, Or.inl ⟨fun post h => Y0 post (nI j) tY ?_, j, ?_⟩⟩
      · refine tX _ ?_
        exact br_f (nI_nlt y (by omega)) (hX _ (br_f nj ⟨w, nm_r (e' := upd xplace d (nI j)) (by rw [ed]) h⟩))
      · refine wi_t hj (by omega) (br_f (by decide) (br_t rfl (br_f (nI_nlt y (by omega)) ?_)))
        exact hY _ (Y89 post (nI j) 0 _ _ _ _ _ _ _ (Or.inl rfl) h)
      · refine ⟨hd, hxd, hyd, hsg, hxl, hyl, hst, hov, hou, hre, hP, hC', hS', ?_, ⟨⟨hm, hj, ha, hme, pk_us, pk_us, hv⟩, 0, I, W, pk_us, ?_, Or.inl ⟨rfl, pk_uLs⟩⟩, hT'⟩
        · exact fr_L_lo hF lo_r (lo_u (Nat.le_refl d)) lo_r (lo_u (Nat.le_refl d)) (lo_uL (Nat.le_refl d)) lo_r (lo_u (Nat.le_refl d)) lo_r lo_r lo_r (lo_u (Nat.le_refl d))
        · rw [pk_us, pk_uLs]; exact en_0 _ _ _ I W
  · refine ⟨(nI d, 1, g, xlatest, xload, xsizes, xops, xargsA, xargsB, xlines, xguards, xfroms, xtos, xats, xbegunCounts, xthrownCounts, upd xtakenCounts (4 * (24 * m + i) + k) (xtakenCounts (4 * (24 * m + i) + k) + 1), xslotUsed, xslotLoad, sn, sg, sr, sw, xatWork, xplace, xvariables, upd xrow d 0, vp_updL xrowWays d 0, vp_updL xwayOn d 0, xpart), (ydepth, ysteps, yresult, youtcome, yload, yover, yop, ya, yb, yline, ylength, yfrom, yto, yat, yhandlers, ybegun, upd ytaken (4 * (24 * m + i) + k) (ytaken (4 * (24 * m + i) + k) + 1), ythrown, ri, rv, rl, ti, tl, ykOp, ykA, ykB, ykLine, ykLength, ykFrom, ykTo, ykAt, ykHandlers, ykBegun, ykTaken, ykThrown, ykept, ymethod, upd ypc d t, yvariable, yhereI, yhereWay, upd yhereLength d 0, upd yinto d (nI k), ykLoad, ypart), fun post h => X0 post ?_, Or.inr ⟨fun post h => Y0 post t tY ?_, ?_⟩⟩
    · refine tX _ ?_
      have z : ¬ nI i < -1 := fun z => nI_pos (n := i) (by omega) (Int32.lt_trans z (by decide))
      exact br_f z (hX _ (br_t rfl (nm_r ex h)))
    · refine wi_f ht (br_t rfl (br_f (by decide) ?_))
      exact hY _ (Y89 post t 1 _ _ _ _ _ _ _ (Or.inr rfl) h)
    · refine ⟨hd, rfl, hyd, rfl, rfl, hxl, hyl, hst, hov, hou, hre, hP, hC', hS', ?_, tb_w hT' (by omega)⟩
      exact fr_L_lo hF lo_r lo_r lo_r (lo_u (Nat.le_refl d)) (lo_uL (Nat.le_refl d)) lo_r (lo_u (Nat.le_refl d)) lo_r lo_r lo_r (lo_u (Nat.le_refl d))
end
end
section
/-! part 12: what ends one invocation goes on to the one that made it: passOn of the class, end and raise of the reference -/
def xp_W (post : SX → Prop) (N : Nat) (t : Int32) (u : SX) : Prop := match u with
  | (xdepth, xsignal, xcarried, xlatest, xload, xsizes, xops, xargsA, xargsB, xlines, xguards, xfroms, xtos, xats, xbegunCounts, xthrownCounts, xtakenCounts, xslotUsed, xslotLoad, xstretchNumber, xstretchGone, xstretchRow, xstretchWays, xatWork, xplace, xvariables, xrow, xrowWays, xwayOn, xpart) => wX_passOn_2 post N t xdepth xsignal xcarried xlatest xload xsizes xops xargsA xargsB xlines xguards xfroms xtos xats xbegunCounts xthrownCounts xtakenCounts xslotUsed xslotLoad xstretchNumber xstretchGone xstretchRow xstretchWays xatWork xplace xvariables xrow xrowWays xwayOn xpart
def ye_W (post : SY → Prop) (N : Nat) (c t : Int32) (v : SY) : Prop := match v with
  | (ydepth, ysteps, yresult, youtcome, yload, yover, yop, ya, yb, yline, ylength, yfrom, yto, yat, yhandlers, ybegun, ytaken, ythrown, yrowI, yrowWay, yrowLength, ytimes, ytold, ykOp, ykA, ykB, ykLine, ykLength, ykFrom, ykTo, ykAt, ykHandlers, ykBegun, ykTaken, ykThrown, ykept, ymethod, ypc, yvariable, yhereI, yhereWay, yhereLength, yinto, ykLoad, ypart) => wY_end_4 post N c t ydepth ysteps yresult youtcome yload yover yop ya yb yline ylength yfrom yto yat yhandlers ybegun ytaken ythrown yrowI yrowWay yrowLength ytimes ytold ykOp ykA ykB ykLine ykLength ykFrom ykTo ykAt ykHandlers ykBegun ykTaken ykThrown ykept ymethod ypc yvariable yhereI yhereWay yhereLength yinto ykLoad ypart
def yr_W (post : SY → Prop) (x : Int32) (N : Nat) (v : SY) : Prop := match v with
  | (ydepth, ysteps, yresult, youtcome, yload, yover, yop, ya, yb, yline, ylength, yfrom, yto, yat, yhandlers, ybegun, ytaken, ythrown, yrowI, yrowWay, yrowLength, ytimes, ytold, ykOp, ykA, ykB, ykLine, ykLength, ykFrom, ykTo, ykAt, ykHandlers, ykBegun, ykTaken, ykThrown, ykept, ymethod, ypc, yvariable, yhereI, yhereWay, yhereLength, yinto, ykLoad, ypart) => wY_raise_0 post x N ydepth ysteps yresult youtcome yload yover yop ya yb yline ylength yfrom yto yat yhandlers ybegun ytaken ythrown yrowI yrowWay yrowLength ytimes ytold ykOp ykA ykB ykLine ykLength ykFrom ykTo ykAt ykHandlers ykBegun ykTaken ykThrown ykept ymethod ypc yvariable yhereI yhereWay yhereLength yinto ykLoad ypart
/-- a step's end: the next instruction, or the run is over -/
def rs_R (L n : Nat) (u : SX) (v : SY) : Prop := (∃ d m i, hd_R d m i L n u v) ∨ (∃ s c, ov_R s c L u v)
theorem ps_6 {t : Nat} (h : t < 6) : ¬ (6 : Int32) ≤ nI t := nI_ge (b := 6) h (by decide)
/-- nothing is handed on -/
theorem ps_0 {d m i L n t : Nat} {u : SX} {v : SY} (ht : t < 6) (H : hd_R d m i L n u v) {post : SX → Prop} {N : Nat} (hp : post u) : xp_W post (N + 1) (nI t) u := by
  obtain ⟨xdepth, xsignal, xcarried, xlatest, xload, xsizes, xops, xargsA, xargsB, xlines, xguards, xfroms, xtos, xats, xbegunCounts, xthrownCounts, xtakenCounts, xslotUsed, xslotLoad, xstretchNumber, xstretchGone, xstretchRow, xstretchWays, xatWork, xplace, xvariables, xrow, xrowWays, xwayOn, xpart⟩ := u
  obtain ⟨ydepth, ysteps, yresult, youtcome, yload, yover, yop, ya, yb, yline, ylength, yfrom, yto, yat, yhandlers, ybegun, ytaken, ythrown, yrowI, yrowWay, yrowLength, ytimes, ytold, ykOp, ykA, ykB, ykLine, ykLength, ykFrom, ykTo, ykAt, ykHandlers, ykBegun, ykTaken, ykThrown, ykept, ymethod, ypc, yvariable, yhereI, yhereWay, yhereLength, yinto, ykLoad, ypart⟩ := v
  obtain ⟨hd, hxd, hyd, hsg, _⟩ := H
  have z : ¬ xdepth ≤ 0 := by rw [hxd]; exact nI_nle (by omega) (by omega)
  show wX_passOn_2 post (N + 1) (nI t) xdepth xsignal xcarried xlatest xload xsizes xops xargsA xargsB xlines xguards xfroms xtos xats xbegunCounts xthrownCounts xtakenCounts xslotUsed xslotLoad xstretchNumber xstretchGone xstretchRow xstretchWays xatWork xplace xvariables xrow xrowWays xwayOn xpart
  rw [wX_passOn_2]
  exact br_f (ps_6 ht) (br_f z (br_t hsg hp))
theorem fr_var {sz : Nat → Nat} {aw pl vs rr : Nat → Int32} {rW : Nat → Int64} {me pc vr hi hw hl : Nat → Int32} {d m i a : Nat} {c : Int32} (h : fr_b sz aw pl vs rr rW me pc vr hi hw hl d m i) : fr_b sz aw pl (upd vs (4 * d + a) c) rr rW me pc (upd vr (4 * d + a) c) hi hw hl d m i := by
  obtain ⟨⟨h1, h2, h3, h4, h5, h6, h7⟩, h8⟩ := h
  refine ⟨⟨h1, h2, h3, h4, h5, h6, fun k hk => ?_⟩, h8⟩
  by_cases z : 4 * d + k = 4 * d + a
  · rw [z, pk_us, pk_us]
  · rw [pk_un z, pk_un z]; exact h7 k hk
theorem pg_R {L n : Nat} : ∀ (D turn : Nat) (c : Int32) (u : SX) (v : SY), turn + D ≤ 5 → wt_R D (D + 1) 1 c L n u v →
    ∃ (u' : SX) (v' : SY), (∀ (post : SX → Prop) (N : Nat), D < N → post u' → xp_W post N (nI turn) u) ∧ (∀ (post : SY → Prop) (N : Nat), D + 1 < N → post v' → ye_W post N c 1 v) ∧ rs_R L n u' v' := by
  intro D
  induction D with
  | zero =>
    intro turn c u v hturn H
    obtain ⟨xdepth, xsignal, xcarried, xlatest, xload, xsizes, xops, xargsA, xargsB, xlines, xguards, xfroms, xtos, xats, xbegunCounts, xthrownCounts, xtakenCounts, xslotUsed, xslotLoad, xstretchNumber, xstretchGone, xstretchRow, xstretchWays, xatWork, xplace, xvariables, xrow, xrowWays, xwayOn, xpart⟩ := u
    obtain ⟨ydepth, ysteps, yresult, youtcome, yload, yover, yop, ya, yb, yline, ylength, yfrom, yto, yat, yhandlers, ybegun, ytaken, ythrown, yrowI, yrowWay, yrowLength, ytimes, ytold, ykOp, ykA, ykB, ykLine, ykLength, ykFrom, ykTo, ykAt, ykHandlers, ykBegun, ykTaken, ykThrown, ykept, ymethod, ypc, yvariable, yhereI, yhereWay, yhereLength, yinto, ykLoad, ypart⟩ := v
    obtain ⟨hd, hxd, hyd, hsg, hca, hxl, hyl, hst, hov, hou, hre, hP, hC, hS, hF, hT⟩ := H
    refine ⟨(xdepth, xsignal, xcarried, xlatest, xload, xsizes, xops, xargsA, xargsB, xlines, xguards, xfroms, xtos, xats, xbegunCounts, xthrownCounts, xtakenCounts, xslotUsed, xslotLoad, xstretchNumber, xstretchGone, xstretchRow, xstretchWays, xatWork, xplace, xvariables, xrow, xrowWays, xwayOn, xpart), (nI 0, ysteps, c, youtcome, yload, 1, yop, ya, yb, yline, ylength, yfrom, yto, yat, yhandlers, ybegun, ytaken, ythrown, yrowI, yrowWay, yrowLength, ytimes, ytold, ykOp, ykA, ykB, ykLine, ykLength, ykFrom, ykTo, ykAt, ykHandlers, ykBegun, ykTaken, ykThrown, ykept, ymethod, ypc, yvariable, yhereI, yhereWay, yhereLength, yinto, ykLoad, ypart), fun post N hN hp => ?_, fun post N hN hp => ?_, Or.inr ⟨1, c, hxd, hsg, hca, rfl, rfl, Or.inl ⟨rfl, hou⟩, hxl, hyl, hP, hC, hS, hT⟩⟩
    · obtain ⟨N, rfl⟩ : ∃ M, N = M + 1 := ⟨N - 1, by omega⟩
      have z : xdepth ≤ 0 := by rw [hxd]; decide
      show wX_passOn_2 post (N + 1) (nI turn) xdepth xsignal xcarried xlatest xload xsizes xops xargsA xargsB xlines xguards xfroms xtos xats xbegunCounts xthrownCounts xtakenCounts xslotUsed xslotLoad xstretchNumber xstretchGone xstretchRow xstretchWays xatWork xplace xvariables xrow xrowWays xwayOn xpart
      rw [wX_passOn_2]
      exact br_f (ps_6 (by omega)) (br_t z hp)
    · obtain ⟨N, rfl⟩ : ∃ M, N = M + 1 := ⟨N - 1, by omega⟩
      show wY_end_4 post (N + 1) c 1 ydepth ysteps yresult youtcome yload yover yop ya yb yline ylength yfrom yto yat yhandlers ybegun ytaken ythrown yrowI yrowWay yrowLength ytimes ytold ykOp ykA ykB ykLine ykLength ykFrom ykTo ykAt ykHandlers ykBegun ykTaken ykThrown ykept ymethod ypc yvariable yhereI yhereWay yhereLength yinto ykLoad ypart
      rw [wY_end_4]
      exact br_f (by decide) (nm_r (e' := nI 0) (by rw [hyd]; exact nI_pred 0) (br_t rfl hp))
  | succ D ih =>
    intro turn c u v hturn H
    obtain ⟨xdepth, xsignal, xcarried, xlatest, xload, xsizes, xops, xargsA, xargsB, xlines, xguards, xfroms, xtos, xats, xbegunCounts, xthrownCounts, xtakenCounts, xslotUsed, xslotLoad, xstretchNumber, xstretchGone, xstretchRow, xstretchWays, xatWork, xplace, xvariables, xrow, xrowWays, xwayOn, xpart⟩ := u
    obtain ⟨ydepth, ysteps, yresult, youtcome, yload, yover, yop, ya, yb, yline, ylength, yfrom, yto, yat, yhandlers, ybegun, ytaken, ythrown, yrowI, yrowWay, yrowLength, ytimes, ytold, ykOp, ykA, ykB, ykLine, ykLength, ykFrom, ykTo, ykAt, ykHandlers, ykBegun, ykTaken, ykThrown, ykept, ymethod, ypc, yvariable, yhereI, yhereWay, yhereLength, yinto, ykLoad, ypart⟩ := v
    obtain ⟨hd, hxd, hyd, hsg, hca, hxl, hyl, hst, hov, hou, hre, hP, hC, hS, hF, hT⟩ := H
    obtain ⟨m, i, hB⟩ := hF D (by omega)
    obtain ⟨⟨hm, hi, ha, hme, hp, hpc, hv⟩, _⟩ := id hB
    obtain ⟨e1, e2, e3⟩ := gp_sz hP hm
    have h24 : i < 24 := by omega
    obtain ⟨a, ha4, eax, eay⟩ := gp_a hP hm h24
    have ed : (nI D).toNatClampNeg = D := nI_clamp (by omega)
    have w : vp_in (nI D) 6 := vp_in_nI (by omega) (by omega)
    have ex : xdepth - 1 = nI D := by rw [hxd]; exact nI_pred D
    have ey : ydepth - 1 = nI (D + 1) := by rw [hyd]; exact nI_pred (D + 1)
    have M : md_R D m i L n (xdepth, 0, xcarried, xlatest, xload, xsizes, xops, xargsA, xargsB, xlines, xguards, xfroms, xtos, xats, xbegunCounts, xthrownCounts, xtakenCounts, xslotUsed, xslotLoad, xstretchNumber, xstretchGone, xstretchRow, xstretchWays, xatWork, xplace, upd xvariables (4 * D + a) xcarried, xrow, xrowWays, xwayOn, xpart) (nI (D + 1), ysteps, yresult, youtcome, yload, yover, yop, ya, yb, yline, ylength, yfrom, yto, yat, yhandlers, ybegun, ytaken, ythrown, yrowI, yrowWay, yrowLength, ytimes, ytold, ykOp, ykA, ykB, ykLine, ykLength, ykFrom, ykTo, ykAt, ykHandlers, ykBegun, ykTaken, ykThrown, ykept, ymethod, ypc, upd yvariable (4 * D + a) xcarried, yhereI, yhereWay, yhereLength, yinto, ykLoad, ypart) :=
      ⟨by omega, hxd, rfl, rfl, hxl, hyl, hst, hov, hou, hre, hP, hC, hS, fr_L_lo (fr_L_le hF (by omega)) lo_r lo_r (lo_u (by omega)) lo_r lo_r lo_r lo_r (lo_u (by omega)) lo_r lo_r lo_r, fr_var hB, hT⟩
    obtain ⟨u1, v1, hX, hY⟩ := fo_R (k := 0) (g := 0) (by decide) M
    have X0 : ∀ (post : SX → Prop) (N : Nat), xp_W post N (nI (turn + 1)) u1 → xp_W post (N + 1) (nI turn) (xdepth, xsignal, xcarried, xlatest, xload, xsizes, xops, xargsA, xargsB, xlines, xguards, xfroms, xtos, xats, xbegunCounts, xthrownCounts, xtakenCounts, xslotUsed, xslotLoad, xstretchNumber, xstretchGone, xstretchRow, xstretchWays, xatWork, xplace, xvariables, xrow, xrowWays, xwayOn, xpart) := by
      intro post N h
      have z : ¬ xdepth ≤ 0 := by rw [hxd]; exact nI_nle (by omega) (by omega)
      have z1 : ¬ xsignal = 0 := by rw [hsg]; decide
      have z2 : ¬ xsignal = 2 := by rw [hsg]; decide
      show wX_passOn_2 post (N + 1) (nI turn) xdepth xsignal xcarried xlatest xload xsizes xops xargsA xargsB xlines xguards xfroms xtos xats xbegunCounts xthrownCounts xtakenCounts xslotUsed xslotLoad xstretchNumber xstretchGone xstretchRow xstretchWays xatWork xplace xvariables xrow xrowWays xwayOn xpart
      rw [wX_passOn_2]
      refine br_f (ps_6 (by omega)) (br_f z (br_f z1 (br_f z2 ?_)))
      refine nm_r ex ⟨w, w, nm_r (e' := nI (24 * m + i)) (by rw [ed, ha, hp]; exact ix_24 m i) ?_⟩
      rw [nI_clamp (n := 24 * m + i) (by omega), eax]
      refine ⟨vp_in_nI (by omega) (by decide), ix_in (ix_4 D a) (by omega) (by decide), nm_r (e' := upd xvariables (4 * D + a) xcarried) (by rw [ix_cl (ix_4 D a) (by omega)]) (hX _ ?_)⟩
      obtain ⟨xdepth1, xsignal1, xcarried1, xlatest1, xload1, xsizes1, xops1, xargsA1, xargsB1, xlines1, xguards1, xfroms1, xtos1, xats1, xbegunCounts1, xthrownCounts1, xtakenCounts1, xslotUsed1, xslotLoad1, xstretchNumber1, xstretchGone1, xstretchRow1, xstretchWays1, xatWork1, xplace1, xvariables1, xrow1, xrowWays1, xwayOn1, xpart1⟩ := u1
      exact nm_r (nI_1 turn) h
    have Y0 : ∀ (post : SY → Prop) (N : Nat), wpY_take (fun r u => match u with | (ydepth, ysteps, yresult, youtcome, yload, yover, yop, ya, yb, yline, ylength, yfrom, yto, yat, yhandlers, ybegun, ytaken, ythrown, yrowI, yrowWay, yrowLength, ytimes, ytold, ykOp, ykA, ykB, ykLine, ykLength, ykFrom, ykTo, ykAt, ykHandlers, ykBegun, ykTaken, ykThrown, ykept, ymethod, ypc, yvariable, yhereI, yhereWay, yhereLength, yinto, ykLoad, ypart) => wY_end_4 post N 0 r ydepth ysteps yresult youtcome yload yover yop ya yb yline ylength yfrom yto yat yhandlers ybegun ytaken ythrown yrowI yrowWay yrowLength ytimes ytold ykOp ykA ykB ykLine ykLength ykFrom ykTo ykAt ykHandlers ykBegun ykTaken ykThrown ykept ymethod ypc yvariable yhereI yhereWay yhereLength yinto ykLoad ypart) (nI (D + 1), ysteps, yresult, youtcome, yload, yover, yop, ya, yb, yline, ylength, yfrom, yto, yat, yhandlers, ybegun, ytaken, ythrown, yrowI, yrowWay, yrowLength, ytimes, ytold, ykOp, ykA, ykB, ykLine, ykLength, ykFrom, ykTo, ykAt, ykHandlers, ykBegun, ykTaken, ykThrown, ykept, ymethod, ypc, upd yvariable (4 * D + a) xcarried, yhereI, yhereWay, yhereLength, yinto, ykLoad, ypart) 0 → ye_W post (N + 1) c 1 (ydepth, ysteps, yresult, youtcome, yload, yover, yop, ya, yb, yline, ylength, yfrom, yto, yat, yhandlers, ybegun, ytaken, ythrown, yrowI, yrowWay, yrowLength, ytimes, ytold, ykOp, ykA, ykB, ykLine, ykLength, ykFrom, ykTo, ykAt, ykHandlers, ykBegun, ykTaken, ykThrown, ykept, ymethod, ypc, yvariable, yhereI, yhereWay, yhereLength, yinto, ykLoad, ypart) := by
      intro post N h
      show wY_end_4 post (N + 1) c 1 ydepth ysteps yresult youtcome yload yover yop ya yb yline ylength yfrom yto yat yhandlers ybegun ytaken ythrown yrowI yrowWay yrowLength ytimes ytold ykOp ykA ykB ykLine ykLength ykFrom ykTo ykAt ykHandlers ykBegun ykTaken ykThrown ykept ymethod ypc yvariable yhereI yhereWay yhereLength yinto ykLoad ypart
      rw [wY_end_4]
      refine br_f (by decide) (nm_r ey (br_f (nI_ne0 (by omega) (by omega)) (nm_r (e' := nI D) (nI_pred D) ⟨w, w, ?_⟩)))
      rw [ed, hme, hpc, ix_cl (iy_24 m i) (by omega), eay]
      exact ⟨ix_in (iy_24 m i) (by omega) (by decide), ix_in (iy_4 D a) (by omega) (by decide), nm_r (e' := upd yvariable (4 * D + a) xcarried) (by rw [ix_cl (iy_4 D a) (by omega), hca]) h⟩
    rcases hY with ⟨hY, t, hH⟩ | ⟨hY, hW⟩
    · refine ⟨u1, v1, fun post N hN hp => ?_, fun post N hN hp => ?_, Or.inl ⟨D, m, t, hH⟩⟩
      · obtain ⟨N, rfl⟩ : ∃ M, N = M + 2 := ⟨N - 2, by omega⟩
        exact X0 post (N + 1) (ps_0 (by omega) hH hp)
      · obtain ⟨N, rfl⟩ : ∃ M, N = M + 2 := ⟨N - 2, by omega⟩
        refine Y0 post (N + 1) (hY _ ?_)
        obtain ⟨ydepth1, ysteps1, yresult1, youtcome1, yload1, yover1, yop1, ya1, yb1, yline1, ylength1, yfrom1, yto1, yat1, yhandlers1, ybegun1, ytaken1, ythrown1, yrowI1, yrowWay1, yrowLength1, ytimes1, ytold1, ykOp1, ykA1, ykB1, ykLine1, ykLength1, ykFrom1, ykTo1, ykAt1, ykHandlers1, ykBegun1, ykTaken1, ykThrown1, ykept1, ymethod1, ypc1, yvariable1, yhereI1, yhereWay1, yhereLength1, yinto1, ykLoad1, ypart1⟩ := v1
        show wY_end_4 post (N + 1) 0 0 ydepth1 ysteps1 yresult1 youtcome1 yload1 yover1 yop1 ya1 yb1 yline1 ylength1 yfrom1 yto1 yat1 yhandlers1 ybegun1 ytaken1 ythrown1 yrowI1 yrowWay1 yrowLength1 ytimes1 ytold1 ykOp1 ykA1 ykB1 ykLine1 ykLength1 ykFrom1 ykTo1 ykAt1 ykHandlers1 ykBegun1 ykTaken1 ykThrown1 ykept1 ymethod1 ypc1 yvariable1 yhereI1 yhereWay1 yhereLength1 yinto1 ykLoad1 ypart1
        rw [wY_end_4]
        exact br_t rfl hp
    · obtain ⟨u', v', iX, iY, iR⟩ := ih (turn + 1) 0 u1 v1 (by omega) hW
      refine ⟨u', v', fun post N hN hp => ?_, fun post N hN hp => ?_, iR⟩
      · obtain ⟨N, rfl⟩ : ∃ M, N = M + 1 := ⟨N - 1, by omega⟩
        exact X0 post N (iX post N (by omega) hp)
      · obtain ⟨N, rfl⟩ : ∃ M, N = M + 1 := ⟨N - 1, by omega⟩
        refine Y0 post N (hY _ ?_)
        have h := iY post N (by omega) hp
        obtain ⟨ydepth1, ysteps1, yresult1, youtcome1, yload1, yover1, yop1, ya1, yb1, yline1, ylength1, yfrom1, yto1, yat1, yhandlers1, ybegun1, ytaken1, ythrown1, yrowI1, yrowWay1, yrowLength1, ytimes1, ytold1, ykOp1, ykA1, ykB1, ykLine1, ykLength1, ykFrom1, ykTo1, ykAt1, ykHandlers1, ykBegun1, ykTaken1, ykThrown1, ykept1, ymethod1, ypc1, yvariable1, yhereI1, yhereWay1, yhereLength1, yinto1, ykLoad1, ypart1⟩ := v1
        exact h
/-! handlers -/
section
variable {xdepth xsignal xcarried xlatest xload : Int32} {xsizes xops xargsA xargsB xlines xguards xfroms xtos xats xbegunCounts xthrownCounts xtakenCounts xslotUsed xslotLoad xstretchNumber xstretchGone xstretchRow xatWork xplace xvariables xrow xpart : Nat → Int32} {xstretchWays xrowWays xwayOn : Nat → Int64}
variable {ydepth ysteps yresult youtcome yload yover : Int32} {yop ya yb yline ylength yfrom yto yat yhandlers ybegun ytaken ythrown yrowI yrowWay yrowLength ytimes ytold ykOp ykA ykB ykLine ykLength ykFrom ykTo ykAt ykHandlers ykBegun ykTaken ykThrown ykept ymethod ypc yvariable yhereI yhereWay yhereLength yinto ykLoad ypart : Nat → Int32}
theorem hx_skip {post : Int32 → Prop} {m i g n k : Nat} (hm : m < 4) (hg : xguards m = nI g) (hg3 : g ≤ 3) (hk : k ≤ g) : ∀ e j, j + e = k → (∀ q, j ≤ q → q < k → ¬ (¬ nI i < xfroms (3 * m + q) ∧ ¬ xtos (3 * m + q) < nI i)) →
    wX_firstHandler_2 post (nI m) (nI i) xdepth xsignal xcarried xlatest xload xsizes xops xargsA xargsB xlines xguards xfroms xtos xats xbegunCounts xthrownCounts xtakenCounts xslotUsed xslotLoad xstretchNumber xstretchGone xstretchRow xstretchWays xatWork xplace xvariables xrow xrowWays xwayOn xpart n (nI k) → wX_firstHandler_2 post (nI m) (nI i) xdepth xsignal xcarried xlatest xload xsizes xops xargsA xargsB xlines xguards xfroms xtos xats xbegunCounts xthrownCounts xtakenCounts xslotUsed xslotLoad xstretchNumber xstretchGone xstretchRow xstretchWays xatWork xplace xvariables xrow xrowWays xwayOn xpart (n + e) (nI j) := by
  intro e
  induction e with
  | zero => intro j hj _ h; rw [show j = k from hj]; exact h
  | succ e ih =>
    intro j hj hd h
    have h2 := ih (j + 1) (by omega) (fun i h1 h2 => hd i (by omega) (by omega)) h
    have em : (nI m).toNatClampNeg = m := nI_clamp (by omega)
    have hn := hd j (by omega) (by omega)
    have w : vp_in (nI (3 * m + j)) 51 := vp_in_nI (by omega) (by decide)
    rw [show n + (e + 1) = (n + e) + 1 from by omega, wX_firstHandler_2]
    dsimp only
    rw [em, hg]
    refine ⟨vp_in_nI (by omega) (by decide), br_f (nI_ge (by omega) (by omega)) (nm_r (ix_3 m j) ⟨w, ?_⟩)⟩
    rw [nI_clamp (n := 3 * m + j) (by omega)]
    by_cases z : nI i < xfroms (3 * m + j)
    · exact br_t z (nm_r (nI_1 j) h2)
    · refine br_f z ⟨w, br_t (Classical.byContradiction fun y => hn ⟨z, y⟩) (nm_r (nI_1 j) h2)⟩
theorem hx_t {post : Int32 → Prop} {m i g k : Nat} (hm : m < 4) (hg : xguards m = nI g) (hg3 : g ≤ 3) (hk : k < g) (h1 : ∀ q, q < k → ¬ (¬ nI i < xfroms (3 * m + q) ∧ ¬ xtos (3 * m + q) < nI i)) (h2 : ¬ nI i < xfroms (3 * m + k) ∧ ¬ xtos (3 * m + k) < nI i) (hp : post (nI k)) :
    wpX_firstHandler post (xdepth, xsignal, xcarried, xlatest, xload, xsizes, xops, xargsA, xargsB, xlines, xguards, xfroms, xtos, xats, xbegunCounts, xthrownCounts, xtakenCounts, xslotUsed, xslotLoad, xstretchNumber, xstretchGone, xstretchRow, xstretchWays, xatWork, xplace, xvariables, xrow, xrowWays, xwayOn, xpart) (nI m) (nI i) := by
  refine ⟨1 + k, hx_skip (n := 1) hm hg hg3 (Nat.le_of_lt hk) k 0 (by omega) (fun q _ h => h1 q (by omega)) ?_⟩
  have em : (nI m).toNatClampNeg = m := nI_clamp (by omega)
  have w : vp_in (nI (3 * m + k)) 51 := vp_in_nI (by omega) (by decide)
  rw [wX_firstHandler_2]
  dsimp only
  rw [em, hg]
  refine ⟨vp_in_nI (by omega) (by decide), br_f (nI_ge hk (by omega)) (nm_r (ix_3 m k) ⟨w, ?_⟩)⟩
  rw [nI_clamp (n := 3 * m + k) (by omega)]
  exact br_f h2.1 ⟨w, br_f h2.2 hp⟩
theorem hx_n {post : Int32 → Prop} {m i g : Nat} (hm : m < 4) (hg : xguards m = nI g) (hg3 : g ≤ 3) (h1 : ∀ q, q < g → ¬ (¬ nI i < xfroms (3 * m + q) ∧ ¬ xtos (3 * m + q) < nI i)) (hp : post (-1)) :
    wpX_firstHandler post (xdepth, xsignal, xcarried, xlatest, xload, xsizes, xops, xargsA, xargsB, xlines, xguards, xfroms, xtos, xats, xbegunCounts, xthrownCounts, xtakenCounts, xslotUsed, xslotLoad, xstretchNumber, xstretchGone, xstretchRow, xstretchWays, xatWork, xplace, xvariables, xrow, xrowWays, xwayOn, xpart) (nI m) (nI i) := by
  refine ⟨1 + g, hx_skip (n := 1) hm hg hg3 (Nat.le_refl g) g 0 (by omega) (fun q _ h => h1 q (by omega)) ?_⟩
  have em : (nI m).toNatClampNeg = m := nI_clamp (by omega)
  rw [wX_firstHandler_2]
  dsimp only
  rw [em, hg]
  exact ⟨vp_in_nI (by omega) (by decide), br_t (nI_le (by omega) (by omega)) hp⟩
theorem hy_skip {post : SY → Prop} {J0 : _} {x : Int32} {d m i g n k : Nat} (hm : m < 4) (hg : yhandlers m = nI g) (hg3 : g ≤ 3) (hk : k ≤ g) : ∀ e j, j + e = k → (∀ q, j ≤ q → q < k → ¬ (¬ nI i < yfrom (3 * m + q) ∧ ¬ yto (3 * m + q) < nI i)) →
    wY_raise_54 post J0 x (nI d) (nI m) (nI i) ydepth ysteps yresult youtcome yload yover yop ya yb yline ylength yfrom yto yat yhandlers ybegun ytaken ythrown yrowI yrowWay yrowLength ytimes ytold ykOp ykA ykB ykLine ykLength ykFrom ykTo ykAt ykHandlers ykBegun ykTaken ykThrown ykept ymethod ypc yvariable yhereI yhereWay yhereLength yinto ykLoad ypart n (nI (3 * m + k)) → wY_raise_54 post J0 x (nI d) (nI m) (nI i) ydepth ysteps yresult youtcome yload yover yop ya yb yline ylength yfrom yto yat yhandlers ybegun ytaken ythrown yrowI yrowWay yrowLength ytimes ytold ykOp ykA ykB ykLine ykLength ykFrom ykTo ykAt ykHandlers ykBegun ykTaken ykThrown ykept ymethod ypc yvariable yhereI yhereWay yhereLength yinto ykLoad ypart (n + e) (nI (3 * m + j)) := by
  intro e
  induction e with
  | zero => intro j hj _ h; rw [show j = k from hj]; exact h
  | succ e ih =>
    intro j hj hd h
    have h2 := ih (j + 1) (by omega) (fun i h1 h2 => hd i (by omega) (by omega)) h
    have em : (nI m).toNatClampNeg = m := nI_clamp (by omega)
    have hn := hd j (by omega) (by omega)
    have w : vp_in (nI (3 * m + j)) 15 := vp_in_nI (by omega) (by decide)
    rw [show n + (e + 1) = (n + e) + 1 from by omega, wY_raise_54]
    dsimp only
    rw [em, hg, iy_3, nI_clamp (n := 3 * m + j) (by omega)]
    refine ⟨vp_in_nI (by omega) (by decide), br_f (nI_ge (by omega) (by omega)) ⟨w, ?_⟩⟩
    by_cases z : nI i < yfrom (3 * m + j)
    · exact br_t z (nm_r (nI_1 _) h2)
    · refine br_f z ⟨w, br_f (fun y => hn ⟨z, Int32.not_lt.mpr y⟩) (nm_r (nI_1 _) h2)⟩
end
end
section
/-! part 13: one exception at one invocation; what comes of it -/
section
variable {xdepth xsignal xcarried xlatest xload : Int32} {xsizes xops xargsA xargsB xlines xguards xfroms xtos xats xbegunCounts xthrownCounts xtakenCounts xslotUsed xslotLoad xstretchNumber xstretchGone xstretchRow xatWork xplace xvariables xrow xpart : Nat → Int32} {xstretchWays xrowWays xwayOn : Nat → Int64}
variable {ydepth ysteps yresult youtcome yload yover : Int32} {yop ya yb yline ylength yfrom yto yat yhandlers ybegun ytaken ythrown yrowI yrowWay yrowLength ytimes ytold ykOp ykA ykB ykLine ykLength ykFrom ykTo ykAt ykHandlers ykBegun ykTaken ykThrown ykept ymethod ypc yvariable yhereI yhereWay yhereLength yinto ykLoad ypart : Nat → Int32}
theorem rb_R {d m i L n : Nat} {x : Int32} (H : md_R d m i L n (xdepth, xsignal, xcarried, xlatest, xload, xsizes, xops, xargsA, xargsB, xlines, xguards, xfroms, xtos, xats, xbegunCounts, xthrownCounts, xtakenCounts, xslotUsed, xslotLoad, xstretchNumber, xstretchGone, xstretchRow, xstretchWays, xatWork, xplace, xvariables, xrow, xrowWays, xwayOn, xpart) (ydepth, ysteps, yresult, youtcome, yload, yover, yop, ya, yb, yline, ylength, yfrom, yto, yat, yhandlers, ybegun, ytaken, ythrown, yrowI, yrowWay, yrowLength, ytimes, ytold, ykOp, ykA, ykB, ykLine, ykLength, ykFrom, ykTo, ykAt, ykHandlers, ykBegun, ykTaken, ykThrown, ykept, ymethod, ypc, yvariable, yhereI, yhereWay, yhereLength, yinto, ykLoad, ypart)) :
    ∃ (u' : SX) (v' : SY), (∀ post : SX → Prop, post u' → wpX_raise post (xdepth, xsignal, xcarried, xlatest, xload, xsizes, xops, xargsA, xargsB, xlines, xguards, xfroms, xtos, xats, xbegunCounts, xthrownCounts, xtakenCounts, xslotUsed, xslotLoad, xstretchNumber, xstretchGone, xstretchRow, xstretchWays, xatWork, xplace, xvariables, xrow, xrowWays, xwayOn, xpart) x) ∧
      (((∀ (post : SY → Prop) (N : Nat), post v' → wY_raise_0 post x (N + 1) ydepth ysteps yresult youtcome yload yover yop ya yb yline ylength yfrom yto yat yhandlers ybegun ytaken ythrown yrowI yrowWay yrowLength ytimes ytold ykOp ykA ykB ykLine ykLength ykFrom ykTo ykAt ykHandlers ykBegun ykTaken ykThrown ykept ymethod ypc yvariable yhereI yhereWay yhereLength yinto ykLoad ypart) ∧ ∃ t, hd_R d m t L n u' v') ∨
       ((∀ (post : SY → Prop) (N : Nat), (∃ N', ye_W (fun u => match u with | (ydepth, ysteps, yresult, youtcome, yload, yover, yop, ya, yb, yline, ylength, yfrom, yto, yat, yhandlers, ybegun, ytaken, ythrown, yrowI, yrowWay, yrowLength, ytimes, ytold, ykOp, ykA, ykB, ykLine, ykLength, ykFrom, ykTo, ykAt, ykHandlers, ykBegun, ykTaken, ykThrown, ykept, ymethod, ypc, yvariable, yhereI, yhereWay, yhereLength, yinto, ykLoad, ypart) => post (ydepth, ysteps, yresult, youtcome, yload, yover, yop, ya, yb, yline, ylength, yfrom, yto, yat, yhandlers, ybegun, ytaken, ythrown, yrowI, yrowWay, yrowLength, ytimes, ytold, ykOp, ykA, ykB, ykLine, ykLength, ykFrom, ykTo, ykAt, ykHandlers, ykBegun, ykTaken, ykThrown, ykept, ymethod, ypc, yvariable, yhereI, yhereWay, yhereLength, yinto, ykLoad, ypart)) N' 0 1 v') → wY_raise_0 post x (N + 1) ydepth ysteps yresult youtcome yload yover yop ya yb yline ylength yfrom yto yat yhandlers ybegun ytaken ythrown yrowI yrowWay yrowLength ytimes ytold ykOp ykA ykB ykLine ykLength ykFrom ykTo ykAt ykHandlers ykBegun ykTaken ykThrown ykept ymethod ypc yvariable yhereI yhereWay yhereLength yinto ykLoad ypart) ∧ wt_R d (d + 1) 1 0 L n u' v') ∨
       ((∀ (post : SY → Prop) (N : Nat), yr_W post x N v' → wY_raise_0 post x (N + 1) ydepth ysteps yresult youtcome yload yover yop ya yb yline ylength yfrom yto yat yhandlers ybegun ytaken ythrown yrowI yrowWay yrowLength ytimes ytold ykOp ykA ykB ykLine ykLength ykFrom ykTo ykAt ykHandlers ykBegun ykTaken ykThrown ykept ymethod ypc yvariable yhereI yhereWay yhereLength yinto ykLoad ypart) ∧ wt_R d d 2 x L n u' v')) := by
  obtain ⟨hd, hxd, hyd, hsg, hxl, hyl, hst, hov, hou, hre, hP, hC, hS, hF, hB, hT⟩ := H
  obtain ⟨⟨hm, hi, ha, hme, hp, hpc, hv⟩, q, I, W, hl, he, hq⟩ := hB
  obtain ⟨e1, e2, e3⟩ := gp_sz hP hm
  obtain ⟨g1, g2, g3⟩ := gp_gd hP hm
  have h24 : i < 24 := by omega
  have ed : (nI d).toNatClampNeg = d := nI_clamp (by omega)
  have em : (nI m).toNatClampNeg = m := nI_clamp (by omega)
  have w : vp_in (nI d) 6 := vp_in_nI hd (by omega)
  have ex : xdepth - 1 = nI d := by rw [hxd]; exact nI_pred d
  have ey : ydepth - 1 = nI d := by rw [hyd]; exact nI_pred d
  have nz : ¬ ydepth ≤ 0 := by rw [hyd]; exact nI_nle (by omega) (by omega)
  have wx : vp_in (nI m * 24 + nI i) 408 := ix_in (ix_24 m i) (by omega) (by decide)
  have cx : (nI m * 24 + nI i).toNatClampNeg = 24 * m + i := ix_cl (ix_24 m i) (by omega)
  have wy : vp_in (24 * nI m + nI i) 96 := ix_in (iy_24 m i) (by omega) (by decide)
  have cy : (24 * nI m + nI i).toNatClampNeg = 24 * m + i := ix_cl (iy_24 m i) (by omega)
  have hC' := gc_thr hC hm hi h24
  obtain ⟨sn, sg, sr, sw, ri, rv, rl, ti, tl, hX, hY, hS'⟩ := cl_R (xdepth := xdepth) (xsignal := xsignal) (xcarried := xcarried) (xlatest := xlatest) (xload := xload) (xsizes := xsizes) (xops := xops) (xargsA := xargsA) (xargsB := xargsB) (xlines := xlines) (xguards := xguards) (xfroms := xfroms) (xtos := xtos) (xats := xats) (xbegunCounts := xbegunCounts) (xthrownCounts := upd xthrownCounts (24 * m + i) (xthrownCounts (24 * m + i) + 1)) (xtakenCounts := xtakenCounts) (xslotUsed := xslotUsed) (xslotLoad := xslotLoad) (xstretchNumber := xstretchNumber) (xstretchGone := xstretchGone) (xstretchRow := xstretchRow) (xstretchWays := xstretchWays) (xatWork := xatWork) (xplace := xplace) (xvariables := xvariables) (xrow := xrow) (xrowWays := xrowWays) (xwayOn := xwayOn) (xpart := xpart) (ydepth := ydepth) (ysteps := ysteps) (yresult := yresult) (youtcome := youtcome) (yload := yload) (yover := yover) (yop := yop) (ya := ya) (yb := yb) (yline := yline) (ylength := ylength) (yfrom := yfrom) (yto := yto) (yat := yat) (yhandlers := yhandlers) (ybegun := ybegun) (ytaken := ytaken) (ythrown := upd ythrown (24 * m + i) (ythrown (24 * m + i) + 1)) (yrowI := yrowI) (yrowWay := yrowWay) (yrowLength := yrowLength) (ytimes := ytimes) (ytold := ytold) (ykOp := ykOp) (ykA := ykA) (ykB := ykB) (ykLine := ykLine) (ykLength := ykLength) (ykFrom := ykFrom) (ykTo := ykTo) (ykAt := ykAt) (ykHandlers := ykHandlers) (ykBegun := ykBegun) (ykTaken := ykTaken) (ykThrown := ykThrown) (ykept := ykept) (ymethod := ymethod) (ypc := ypc) (yvariable := yvariable) (yhereI := yhereI) (yhereWay := yhereWay) (yhereLength := yhereLength) (yinto := yinto) (ykLoad := ykLoad) (ypart := ypart) hd hm ha hme hl he hS hyd
  have hL : (fr_L (sz_f xsizes) xatWork xplace xvariables (upd xrow d 0) (vp_updL xrowWays d 0) ymethod ypc yvariable yhereI yhereWay (upd yhereLength d 0) d) := fr_L_lo hF lo_r lo_r lo_r (lo_u (Nat.le_refl d)) (lo_uL (Nat.le_refl d)) lo_r lo_r lo_r lo_r lo_r (lo_u (Nat.le_refl d))
  have X0 : ∀ post : SX → Prop, (∀ post' : SX → Prop, (∀ u, post' u = (fun u => match u with | (xdepth, xsignal, xcarried, xlatest, xload, xsizes, xops, xargsA, xargsB, xlines, xguards, xfroms, xtos, xats, xbegunCounts, xthrownCounts, xtakenCounts, xslotUsed, xslotLoad, xstretchNumber, xstretchGone, xstretchRow, xstretchWays, xatWork, xplace, xvariables, xrow, xrowWays, xwayOn, xpart) => wpX_firstHandler (fun r_40 => (((r_40 = (-1) → (wpX_leave (fun u => match u with | (xdepth, xsignal, xcarried, xlatest, xload, xsizes, xops, xargsA, xargsB, xlines, xguards, xfroms, xtos, xats, xbegunCounts, xthrownCounts, xtakenCounts, xslotUsed, xslotLoad, xstretchNumber, xstretchGone, xstretchRow, xstretchWays, xatWork, xplace, xvariables, xrow, xrowWays, xwayOn, xpart) => (post (xdepth, xsignal, xcarried, xlatest, xload, xsizes, xops, xargsA, xargsB, xlines, xguards, xfroms, xtos, xats, xbegunCounts, xthrownCounts, xtakenCounts, xslotUsed, xslotLoad, xstretchNumber, xstretchGone, xstretchRow, xstretchWays, xatWork, xplace, xvariables, xrow, xrowWays, xwayOn, xpart))) (xdepth, xsignal, xcarried, xlatest, xload, xsizes, xops, xargsA, xargsB, xlines, xguards, xfroms, xtos, xats, xbegunCounts, xthrownCounts, xtakenCounts, xslotUsed, xslotLoad, xstretchNumber, xstretchGone, xstretchRow, xstretchWays, xatWork, xplace, xvariables, xrow, xrowWays, xwayOn, xpart) 2 x)) ∧ (¬ r_40 = (-1) → (vp_in ((nI m * 3) + r_40) 51 ∧ (vp_in (nI m) 17 ∧ ((((xats ((nI m * 3) + r_40).toNatClampNeg) < (xsizes (nI m).toNatClampNeg) → (vp_in (nI d * 4) 24 ∧ ∀ a : Nat → Int32, a = upd xvariables (nI d * 4).toNatClampNeg x → (vp_in ((nI m * 3) + r_40) 51 ∧ (vp_in (nI d) 6 ∧ ∀ b : Nat → Int32, b = upd xplace (nI d).toNatClampNeg (xats ((nI m * 3) + r_40).toNatClampNeg) → (post (xdepth, xsignal, xcarried, xlatest, xload, xsizes, xops, xargsA, xargsB, xlines, xguards, xfroms, xtos, xats, xbegunCounts, xthrownCounts, xtakenCounts, xslotUsed, xslotLoad, xstretchNumber, xstretchGone, xstretchRow, xstretchWays, xatWork, b, a, xrow, xrowWays, xwayOn, xpart)))))) ∧ (¬ (xats ((nI m * 3) + r_40).toNatClampNeg) < (xsizes (nI m).toNatClampNeg) → (wpX_leave (fun u => match u with | (xdepth, xsignal, xcarried, xlatest, xload, xsizes, xops, xargsA, xargsB, xlines, xguards, xfroms, xtos, xats, xbegunCounts, xthrownCounts, xtakenCounts, xslotUsed, xslotLoad, xstretchNumber, xstretchGone, xstretchRow, xstretchWays, xatWork, xplace, xvariables, xrow, xrowWays, xwayOn, xpart) => (post (xdepth, xsignal, xcarried, xlatest, xload, xsizes, xops, xargsA, xargsB, xlines, xguards, xfroms, xtos, xats, xbegunCounts, xthrownCounts, xtakenCounts, xslotUsed, xslotLoad, xstretchNumber, xstretchGone, xstretchRow, xstretchWays, xatWork, xplace, xvariables, xrow, xrowWays, xwayOn, xpart))) (xdepth, xsignal, xcarried, xlatest, xload, xsizes, xops, xargsA, xargsB, xlines, xguards, xfroms, xtos, xats, xbegunCounts, xthrownCounts, xtakenCounts, xslotUsed, xslotLoad, xstretchNumber, xstretchGone, xstretchRow, xstretchWays, xatWork, xplace, xvariables, xrow, xrowWays, xwayOn, xpart) 1 0)))))))))) (xdepth, xsignal, xcarried, xlatest, xload, xsizes, xops, xargsA, xargsB, xlines, xguards, xfroms, xtos, xats, xbegunCounts, xthrownCounts, xtakenCounts, xslotUsed, xslotLoad, xstretchNumber, xstretchGone, xstretchRow, xstretchWays, xatWork, xplace, xvariables, xrow, xrowWays, xwayOn, xpart) (nI m) (nI i)) u) → post' (xdepth, xsignal, xcarried, xlatest, xload, xsizes, xops, xargsA, xargsB, xlines, xguards, xfroms, xtos, xats, xbegunCounts, upd xthrownCounts (24 * m + i) (xthrownCounts (24 * m + i) + 1), xtakenCounts, xslotUsed, xslotLoad, sn, sg, sr, sw, xatWork, xplace, xvariables, upd xrow d 0, vp_updL xrowWays d 0, vp_updL xwayOn d 0, xpart)) → wpX_raise post (xdepth, xsignal, xcarried, xlatest, xload, xsizes, xops, xargsA, xargsB, xlines, xguards, xfroms, xtos, xats, xbegunCounts, xthrownCounts, xtakenCounts, xslotUsed, xslotLoad, xstretchNumber, xstretchGone, xstretchRow, xstretchWays, xatWork, xplace, xvariables, xrow, xrowWays, xwayOn, xpart) x := by
    intro post h
    exact nm_r ex ⟨w, nm_r (e' := nI m) (by rw [ed]; exact ha) ⟨w, nm_r (e' := nI i) (by rw [ed]; exact hp) ⟨wx, wx, nm_r (e' := upd xthrownCounts (24 * m + i) (xthrownCounts (24 * m + i) + 1)) (by rw [cx]) (hX _ (h _ (fun _ => rfl)))⟩⟩⟩
  have Y0 : ∀ (post : SY → Prop) (N : Nat), (∃ n54 : Nat, wY_raise_54 post (wY_raise_0 post x N) x (nI d) (nI m) (nI i) ydepth ysteps yresult youtcome yload yover yop ya yb yline ylength yfrom yto yat yhandlers ybegun ytaken (upd ythrown (24 * m + i) (ythrown (24 * m + i) + 1)) ri rv rl ti tl ykOp ykA ykB ykLine ykLength ykFrom ykTo ykAt ykHandlers ykBegun ykTaken ykThrown ykept ymethod ypc yvariable yhereI yhereWay (upd yhereLength d 0) yinto ykLoad ypart n54 (nI (3 * m))) → wY_raise_0 post x (N + 1) ydepth ysteps yresult youtcome yload yover yop ya yb yline ylength yfrom yto yat yhandlers ybegun ytaken ythrown yrowI yrowWay yrowLength ytimes ytold ykOp ykA ykB ykLine ykLength ykFrom ykTo ykAt ykHandlers ykBegun ykTaken ykThrown ykept ymethod ypc yvariable yhereI yhereWay yhereLength yinto ykLoad ypart := by
    intro post N h
    rw [wY_raise_0]
    exact br_f nz (nm_r ey ⟨w, nm_r (e' := nI m) (by rw [ed]; exact hme) ⟨w, nm_r (e' := nI i) (by rw [ed]; exact hpc) ⟨wy, wy, nm_r (e' := upd ythrown (24 * m + i) (ythrown (24 * m + i) + 1)) (by rw [cy]) (hY _ (nm_r (e' := nI (3 * m)) (pk_mul 3 m) h))⟩⟩⟩)
  obtain ⟨k, k1, k2, k3⟩ := st_find (fun q => ¬ nI i < xfroms (3 * m + q) ∧ ¬ xtos (3 * m + q) < nI i) (sz_f xguards m)
  have ky : ∀ q, q < sz_f xguards m → ((¬ nI i < xfroms (3 * m + q) ∧ ¬ xtos (3 * m + q) < nI i) ↔ (¬ nI i < yfrom (3 * m + q) ∧ ¬ yto (3 * m + q) < nI i)) := by
    intro q hq
    rw [gp_fr hP hm (show q < 3 by omega), gp_to hP hm (show q < 3 by omega)]
  have YS : ∀ (post : SY → Prop) (N : Nat), wY_raise_54 post (wY_raise_0 post x N) x (nI d) (nI m) (nI i) ydepth ysteps yresult youtcome yload yover yop ya yb yline ylength yfrom yto yat yhandlers ybegun ytaken (upd ythrown (24 * m + i) (ythrown (24 * m + i) + 1)) ri rv rl ti tl ykOp ykA ykB ykLine ykLength ykFrom ykTo ykAt ykHandlers ykBegun ykTaken ykThrown ykept ymethod ypc yvariable yhereI yhereWay (upd yhereLength d 0) yinto ykLoad ypart 1 (nI (3 * m + k)) → wY_raise_0 post x (N + 1) ydepth ysteps yresult youtcome yload yover yop ya yb yline ylength yfrom yto yat yhandlers ybegun ytaken ythrown yrowI yrowWay yrowLength ytimes ytold ykOp ykA ykB ykLine ykLength ykFrom ykTo ykAt ykHandlers ykBegun ykTaken ykThrown ykept ymethod ypc yvariable yhereI yhereWay yhereLength yinto ykLoad ypart := by
    intro post N h
    refine Y0 post N ⟨1 + k, ?_⟩
    exact hy_skip hm g2 g3 k1 k 0 (by omega) (fun q _ h y => k2 q h ((ky q (by omega)).mpr y)) h
  rcases Nat.lt_or_ge k (sz_f xguards m) with y | y
  · have c := k3 y
    have cy' := (ky k y).mp c
    obtain ⟨a, ha24, eax, eay⟩ := gp_at hP hm (show k < 3 by omega)
    have nk : ¬ nI k = -1 := fun z => by
      have q := nI_pos (n := k) (by omega)
      rw [z] at q
      exact q (by decide)
    have w51 : vp_in (nI m * 3 + nI k) 51 := ix_in (ix_3 m k) (by omega) (by decide)
    have c51 : (nI m * 3 + nI k).toNatClampNeg = 3 * m + k := ix_cl (ix_3 m k) (by omega)
    have w17 : vp_in (nI m) 17 := vp_in_nI (by omega) (by decide)
    have w5 : vp_in (nI m) 5 := vp_in_nI (by omega) (by decide)
    have w15 : vp_in (nI (3 * m + k)) 15 := vp_in_nI (by omega) (by decide)
    have c15 : (nI (3 * m + k)).toNatClampNeg = 3 * m + k := nI_clamp (by omega)
    have wv : vp_in (nI d * 4) 24 := ix_in (ix_c d 4) (by omega) (by decide)
    have cv : (nI d * 4).toNatClampNeg = 4 * d := ix_cl (ix_c d 4) (by omega)
    have wv' : vp_in (4 * nI d) 24 := ix_in (pk_mul 4 d) (by omega) (by decide)
    have cv' : (4 * nI d).toNatClampNeg = 4 * d := ix_cl (pk_mul 4 d) (by omega)
    rcases Nat.lt_or_ge a (sz_f xsizes m) with z | z
    · refine ⟨(xdepth, xsignal, xcarried, xlatest, xload, xsizes, xops, xargsA, xargsB, xlines, xguards, xfroms, xtos, xats, xbegunCounts, upd xthrownCounts (24 * m + i) (xthrownCounts (24 * m + i) + 1), xtakenCounts, xslotUsed, xslotLoad, sn, sg, sr, sw, xatWork, upd xplace d (nI a), upd xvariables (4 * d) x, upd xrow d 0, vp_updL xrowWays d 0, vp_updL xwayOn d 0, xpart), (ydepth, ysteps, yresult, youtcome, yload, yover, yop, ya, yb, yline, ylength, yfrom, yto, yat, yhandlers, ybegun, ytaken, upd ythrown (24 * m + i) (ythrown (24 * m + i) + 1), ri, rv, rl, ti, tl, ykOp, ykA, ykB, ykLine, ykLength, ykFrom, ykTo, ykAt, ykHandlers, ykBegun, ykTaken, ykThrown, ykept, ymethod, upd ypc d (nI a), upd yvariable (4 * d) x, yhereI, yhereWay, upd yhereLength d 0, yinto, ykLoad, ypart), fun post h => X0 post (fun post' hq => ?_), Or.inl ⟨fun post N h => YS post N ?_, a, ?_⟩⟩
      · rw [hq]
        refine hx_t hm g1 g3 y (fun q h => k2 q h) c (br_f nk ⟨w51, w17, ?_⟩)
        rw [c51, em, eax, e1, cv, ed]
        exact br_t (nI_lt z (by omega)) ⟨wv, nm_e ⟨w51, w, nm_e h⟩⟩
      · rw [wY_raise_54]
        dsimp only
        rw [em, g2, iy_3, c15, eay, e2, cv', ed]
        exact ⟨w5, br_f (nI_ge (by omega) (by omega)) ⟨w15, br_f cy'.1 ⟨w15, br_t (Int32.not_lt.mp cy'.2) ⟨wv', nm_e ⟨w15, w, nm_e ⟨w15, w5, br_t (nI_lt z (by omega)) h⟩⟩⟩⟩⟩⟩
      · refine ⟨hd, hxd, hyd, hsg, hxl, hyl, hst, hov, hou, hre, hP, hC', hS', ?_, ⟨⟨hm, z, ha, hme, pk_us, pk_us, fun k hk => ?_⟩, 0, I, W, pk_us, ?_, Or.inl ⟨rfl, pk_uLs⟩⟩, tb_w hT (by omega)⟩
        · exact fr_L_lo hF lo_r (lo_u (Nat.le_refl d)) (lo_u (Nat.le_refl _)) (lo_u (Nat.le_refl d)) (lo_uL (Nat.le_refl d)) lo_r (lo_u (Nat.le_refl d)) (lo_u (Nat.le_refl _)) lo_r lo_r (lo_u (Nat.le_refl d))
        · by_cases j : 4 * d + k = 4 * d
          · rw [j, pk_us, pk_us]
          · rw [pk_un j, pk_un j]; exact hv k hk
        · rw [pk_us, pk_uLs]; exact en_0 _ _ _ I W
    · refine ⟨(nI d, 1, 0, xlatest, xload, xsizes, xops, xargsA, xargsB, xlines, xguards, xfroms, xtos, xats, xbegunCounts, upd xthrownCounts (24 * m + i) (xthrownCounts (24 * m + i) + 1), xtakenCounts, xslotUsed, xslotLoad, sn, sg, sr, sw, xatWork, xplace, xvariables, upd xrow d 0, vp_updL xrowWays d 0, vp_updL xwayOn d 0, xpart), (ydepth, ysteps, yresult, youtcome, yload, yover, yop, ya, yb, yline, ylength, yfrom, yto, yat, yhandlers, ybegun, ytaken, upd ythrown (24 * m + i) (ythrown (24 * m + i) + 1), ri, rv, rl, ti, tl, ykOp, ykA, ykB, ykLine, ykLength, ykFrom, ykTo, ykAt, ykHandlers, ykBegun, ykTaken, ykThrown, ykept, ymethod, upd ypc d (nI a), upd yvariable (4 * d) x, yhereI, yhereWay, upd yhereLength d 0, yinto, ykLoad, ypart), fun post h => X0 post (fun post' hq => ?_), Or.inr (Or.inl ⟨fun post N h => YS post N ?_, ?_⟩)⟩
      · rw [hq]
        refine hx_t hm g1 g3 y (fun q h => k2 q h) c (br_f nk ⟨w51, w17, ?_⟩)
        rw [c51, em, eax, e1]
        exact br_f (nI_nlt z (by omega)) (nm_r ex h)
      · rw [wY_raise_54]
        dsimp only
        rw [em, g2, iy_3, c15, eay, e2, cv', ed]
        exact ⟨w5, br_f (nI_ge (by omega) (by omega)) ⟨w15, br_f cy'.1 ⟨w15, br_t (Int32.not_lt.mp cy'.2) ⟨wv', nm_e ⟨w15, w, nm_e ⟨w15, w5, br_f (nI_nlt z (by omega)) h⟩⟩⟩⟩⟩⟩
      · refine ⟨hd, rfl, hyd, rfl, rfl, hxl, hyl, hst, hov, hou, hre, hP, hC', hS', ?_, tb_w hT (by omega)⟩
        exact fr_L_lo hF lo_r lo_r lo_r (lo_u (Nat.le_refl d)) (lo_uL (Nat.le_refl d)) lo_r (lo_u (Nat.le_refl d)) (lo_u (Nat.le_refl _)) lo_r lo_r (lo_u (Nat.le_refl d))
  · have ek : k = sz_f xguards m := by omega
    refine ⟨(nI d, 2, x, xlatest, xload, xsizes, xops, xargsA, xargsB, xlines, xguards, xfroms, xtos, xats, xbegunCounts, upd xthrownCounts (24 * m + i) (xthrownCounts (24 * m + i) + 1), xtakenCounts, xslotUsed, xslotLoad, sn, sg, sr, sw, xatWork, xplace, xvariables, upd xrow d 0, vp_updL xrowWays d 0, vp_updL xwayOn d 0, xpart), (nI d, ysteps, yresult, youtcome, yload, yover, yop, ya, yb, yline, ylength, yfrom, yto, yat, yhandlers, ybegun, ytaken, upd ythrown (24 * m + i) (ythrown (24 * m + i) + 1), ri, rv, rl, ti, tl, ykOp, ykA, ykB, ykLine, ykLength, ykFrom, ykTo, ykAt, ykHandlers, ykBegun, ykTaken, ykThrown, ykept, ymethod, ypc, yvariable, yhereI, yhereWay, upd yhereLength d 0, yinto, ykLoad, ypart), fun post h => X0 post (fun post' hq => ?_), Or.inr (Or.inr ⟨fun post N h => YS post N ?_, ?_⟩)⟩
    · rw [hq]
      exact hx_n hm g1 g3 (fun q h => k2 q (by omega)) (br_t rfl (nm_r ex h))
    · rw [wY_raise_54]
      dsimp only
      rw [em, g2, iy_3, ek]
      exact ⟨vp_in_nI (by omega) (by decide), br_t (nI_le (by omega) (by omega)) (nm_r ey h)⟩
    · exact ⟨hd, rfl, rfl, rfl, rfl, hxl, hyl, hst, hov, hou, hre, hP, hC', hS', hL, tb_w hT (by omega)⟩
end
theorem pr_R {L n : Nat} {x : Int32} : ∀ (D turn : Nat) (u : SX) (v : SY), turn + D ≤ 5 → wt_R D D 2 x L n u v →
    ∃ (u' : SX) (v' : SY), (∀ (post : SX → Prop) (N : Nat), D < N → post u' → xp_W post N (nI turn) u) ∧ (∀ (post : SY → Prop) (N : Nat), D < N → post v' → yr_W post x N v) ∧ rs_R L n u' v' := by
  intro D
  induction D with
  | zero =>
    intro turn u v hturn H
    obtain ⟨xdepth, xsignal, xcarried, xlatest, xload, xsizes, xops, xargsA, xargsB, xlines, xguards, xfroms, xtos, xats, xbegunCounts, xthrownCounts, xtakenCounts, xslotUsed, xslotLoad, xstretchNumber, xstretchGone, xstretchRow, xstretchWays, xatWork, xplace, xvariables, xrow, xrowWays, xwayOn, xpart⟩ := u
    obtain ⟨ydepth, ysteps, yresult, youtcome, yload, yover, yop, ya, yb, yline, ylength, yfrom, yto, yat, yhandlers, ybegun, ytaken, ythrown, yrowI, yrowWay, yrowLength, ytimes, ytold, ykOp, ykA, ykB, ykLine, ykLength, ykFrom, ykTo, ykAt, ykHandlers, ykBegun, ykTaken, ykThrown, ykept, ymethod, ypc, yvariable, yhereI, yhereWay, yhereLength, yinto, ykLoad, ypart⟩ := v
    obtain ⟨hd, hxd, hyd, hsg, hca, hxl, hyl, hst, hov, hou, hre, hP, hC, hS, hF, hT⟩ := H
    refine ⟨(xdepth, xsignal, xcarried, xlatest, xload, xsizes, xops, xargsA, xargsB, xlines, xguards, xfroms, xtos, xats, xbegunCounts, xthrownCounts, xtakenCounts, xslotUsed, xslotLoad, xstretchNumber, xstretchGone, xstretchRow, xstretchWays, xatWork, xplace, xvariables, xrow, xrowWays, xwayOn, xpart), (ydepth, ysteps, x, 1, yload, 1, yop, ya, yb, yline, ylength, yfrom, yto, yat, yhandlers, ybegun, ytaken, ythrown, yrowI, yrowWay, yrowLength, ytimes, ytold, ykOp, ykA, ykB, ykLine, ykLength, ykFrom, ykTo, ykAt, ykHandlers, ykBegun, ykTaken, ykThrown, ykept, ymethod, ypc, yvariable, yhereI, yhereWay, yhereLength, yinto, ykLoad, ypart), fun post N hN hp => ?_, fun post N hN hp => ?_, Or.inr ⟨2, x, hxd, hsg, hca, rfl, rfl, Or.inr ⟨rfl, rfl⟩, hxl, hyl, hP, hC, hS, hT⟩⟩
    · obtain ⟨N, rfl⟩ : ∃ M, N = M + 1 := ⟨N - 1, by omega⟩
      have z : xdepth ≤ 0 := by rw [hxd]; decide
      show wX_passOn_2 post (N + 1) (nI turn) xdepth xsignal xcarried xlatest xload xsizes xops xargsA xargsB xlines xguards xfroms xtos xats xbegunCounts xthrownCounts xtakenCounts xslotUsed xslotLoad xstretchNumber xstretchGone xstretchRow xstretchWays xatWork xplace xvariables xrow xrowWays xwayOn xpart
      rw [wX_passOn_2]
      exact br_f (ps_6 (by omega)) (br_t z hp)
    · obtain ⟨N, rfl⟩ : ∃ M, N = M + 1 := ⟨N - 1, by omega⟩
      have z : ydepth ≤ 0 := by rw [hyd]; decide
      show wY_raise_0 post x (N + 1) ydepth ysteps yresult youtcome yload yover yop ya yb yline ylength yfrom yto yat yhandlers ybegun ytaken ythrown yrowI yrowWay yrowLength ytimes ytold ykOp ykA ykB ykLine ykLength ykFrom ykTo ykAt ykHandlers ykBegun ykTaken ykThrown ykept ymethod ypc yvariable yhereI yhereWay yhereLength yinto ykLoad ypart
      rw [wY_raise_0]
      exact br_t z hp
  | succ D ih =>
    intro turn u v hturn H
    obtain ⟨xdepth, xsignal, xcarried, xlatest, xload, xsizes, xops, xargsA, xargsB, xlines, xguards, xfroms, xtos, xats, xbegunCounts, xthrownCounts, xtakenCounts, xslotUsed, xslotLoad, xstretchNumber, xstretchGone, xstretchRow, xstretchWays, xatWork, xplace, xvariables, xrow, xrowWays, xwayOn, xpart⟩ := u
    obtain ⟨ydepth, ysteps, yresult, youtcome, yload, yover, yop, ya, yb, yline, ylength, yfrom, yto, yat, yhandlers, ybegun, ytaken, ythrown, yrowI, yrowWay, yrowLength, ytimes, ytold, ykOp, ykA, ykB, ykLine, ykLength, ykFrom, ykTo, ykAt, ykHandlers, ykBegun, ykTaken, ykThrown, ykept, ymethod, ypc, yvariable, yhereI, yhereWay, yhereLength, yinto, ykLoad, ypart⟩ := v
    obtain ⟨hd, hxd, hyd, hsg, hca, hxl, hyl, hst, hov, hou, hre, hP, hC, hS, hF, hT⟩ := H
    obtain ⟨m, i, hB⟩ := hF D (by omega)
    have M : md_R D m i L n (xdepth, 0, xcarried, xlatest, xload, xsizes, xops, xargsA, xargsB, xlines, xguards, xfroms, xtos, xats, xbegunCounts, xthrownCounts, xtakenCounts, xslotUsed, xslotLoad, xstretchNumber, xstretchGone, xstretchRow, xstretchWays, xatWork, xplace, xvariables, xrow, xrowWays, xwayOn, xpart) (ydepth, ysteps, yresult, youtcome, yload, yover, yop, ya, yb, yline, ylength, yfrom, yto, yat, yhandlers, ybegun, ytaken, ythrown, yrowI, yrowWay, yrowLength, ytimes, ytold, ykOp, ykA, ykB, ykLine, ykLength, ykFrom, ykTo, ykAt, ykHandlers, ykBegun, ykTaken, ykThrown, ykept, ymethod, ypc, yvariable, yhereI, yhereWay, yhereLength, yinto, ykLoad, ypart) := ⟨by omega, hxd, hyd, rfl, hxl, hyl, hst, hov, hou, hre, hP, hC, hS, fr_L_le hF (by omega), hB, hT⟩
    obtain ⟨u1, v1, hX, hY⟩ := rb_R (x := xcarried) M
    rw [hca] at hY
    have X0 : ∀ (post : SX → Prop) (N : Nat), xp_W post N (nI (turn + 1)) u1 → xp_W post (N + 1) (nI turn) (xdepth, xsignal, xcarried, xlatest, xload, xsizes, xops, xargsA, xargsB, xlines, xguards, xfroms, xtos, xats, xbegunCounts, xthrownCounts, xtakenCounts, xslotUsed, xslotLoad, xstretchNumber, xstretchGone, xstretchRow, xstretchWays, xatWork, xplace, xvariables, xrow, xrowWays, xwayOn, xpart) := by
      intro post N h
      have z : ¬ xdepth ≤ 0 := by rw [hxd]; exact nI_nle (by omega) (by omega)
      have z1 : ¬ xsignal = 0 := by rw [hsg]; decide
      show wX_passOn_2 post (N + 1) (nI turn) xdepth xsignal xcarried xlatest xload xsizes xops xargsA xargsB xlines xguards xfroms xtos xats xbegunCounts xthrownCounts xtakenCounts xslotUsed xslotLoad xstretchNumber xstretchGone xstretchRow xstretchWays xatWork xplace xvariables xrow xrowWays xwayOn xpart
      rw [wX_passOn_2]
      refine br_f (ps_6 (by omega)) (br_f z (br_f z1 (br_t hsg (hX _ ?_))))
      obtain ⟨xdepth1, xsignal1, xcarried1, xlatest1, xload1, xsizes1, xops1, xargsA1, xargsB1, xlines1, xguards1, xfroms1, xtos1, xats1, xbegunCounts1, xthrownCounts1, xtakenCounts1, xslotUsed1, xslotLoad1, xstretchNumber1, xstretchGone1, xstretchRow1, xstretchWays1, xatWork1, xplace1, xvariables1, xrow1, xrowWays1, xwayOn1, xpart1⟩ := u1
      exact nm_r (nI_1 turn) h
    rcases hY with ⟨hY, t, hH⟩ | ⟨hY, hW⟩ | ⟨hY, hW⟩
    · refine ⟨u1, v1, fun post N hN hp => ?_, fun post N hN hp => ?_, Or.inl ⟨D, m, t, hH⟩⟩
      · obtain ⟨N, rfl⟩ : ∃ M, N = M + 2 := ⟨N - 2, by omega⟩
        exact X0 post (N + 1) (ps_0 (by omega) hH hp)
      · obtain ⟨N, rfl⟩ : ∃ M, N = M + 1 := ⟨N - 1, by omega⟩
        exact hY post N hp
    · obtain ⟨u', v', iX, iY, iR⟩ := pg_R D (turn + 1) 0 u1 v1 (by omega) hW
      refine ⟨u', v', fun post N hN hp => ?_, fun post N hN hp => ?_, iR⟩
      · obtain ⟨N, rfl⟩ : ∃ M, N = M + 1 := ⟨N - 1, by omega⟩
        exact X0 post N (iX post N (by omega) hp)
      · obtain ⟨N, rfl⟩ : ∃ M, N = M + 1 := ⟨N - 1, by omega⟩
        refine hY post N ⟨D + 2, iY _ (D + 2) (by omega) ?_⟩
        obtain ⟨ydepth1, ysteps1, yresult1, youtcome1, yload1, yover1, yop1, ya1, yb1, yline1, ylength1, yfrom1, yto1, yat1, yhandlers1, ybegun1, ytaken1, ythrown1, yrowI1, yrowWay1, yrowLength1, ytimes1, ytold1, ykOp1, ykA1, ykB1, ykLine1, ykLength1, ykFrom1, ykTo1, ykAt1, ykHandlers1, ykBegun1, ykTaken1, ykThrown1, ykept1, ymethod1, ypc1, yvariable1, yhereI1, yhereWay1, yhereLength1, yinto1, ykLoad1, ypart1⟩ := v'
        exact hp
    · obtain ⟨u', v', iX, iY, iR⟩ := ih (turn + 1) u1 v1 (by omega) hW
      refine ⟨u', v', fun post N hN hp => ?_, fun post N hN hp => ?_, iR⟩
      · obtain ⟨N, rfl⟩ : ∃ M, N = M + 1 := ⟨N - 1, by omega⟩
        exact X0 post N (iX post N (by omega) hp)
      · obtain ⟨N, rfl⟩ : ∃ M, N = M + 1 := ⟨N - 1, by omega⟩
        exact hY post N (iY post N (by omega) hp)
end
section
/-! part 14: performOne and passOn of the class, step of the reference -/
theorem pa_W {post : SX → Prop} {u : SX} {N : Nat} (h : xp_W post N (nI 0) u) : wpX_passOn post u := by
  obtain ⟨xdepth, xsignal, xcarried, xlatest, xload, xsizes, xops, xargsA, xargsB, xlines, xguards, xfroms, xtos, xats, xbegunCounts, xthrownCounts, xtakenCounts, xslotUsed, xslotLoad, xstretchNumber, xstretchGone, xstretchRow, xstretchWays, xatWork, xplace, xvariables, xrow, xrowWays, xwayOn, xpart⟩ := u
  exact ⟨N, h⟩
theorem en_W {post : SY → Prop} {c : Int32} {v : SY} {N : Nat} (h : ye_W post N c 1 v) : wpY_end post v c := by
  obtain ⟨ydepth, ysteps, yresult, youtcome, yload, yover, yop, ya, yb, yline, ylength, yfrom, yto, yat, yhandlers, ybegun, ytaken, ythrown, yrowI, yrowWay, yrowLength, ytimes, ytold, ykOp, ykA, ykB, ykLine, ykLength, ykFrom, ykTo, ykAt, ykHandlers, ykBegun, ykTaken, ykThrown, ykept, ymethod, ypc, yvariable, yhereI, yhereWay, yhereLength, yinto, ykLoad, ypart⟩ := v
  exact ⟨N, h⟩
theorem ra_W {post : SY → Prop} {x : Int32} {v : SY} {N : Nat} (h : yr_W post x N v) : wpY_raise post v x := by
  obtain ⟨ydepth, ysteps, yresult, youtcome, yload, yover, yop, ya, yb, yline, ylength, yfrom, yto, yat, yhandlers, ybegun, ytaken, ythrown, yrowI, yrowWay, yrowLength, ytimes, ytold, ykOp, ykA, ykB, ykLine, ykLength, ykFrom, ykTo, ykAt, ykHandlers, ykBegun, ykTaken, ykThrown, ykept, ymethod, ypc, yvariable, yhereI, yhereWay, yhereLength, yinto, ykLoad, ypart⟩ := v
  exact ⟨N, h⟩
theorem fr_4 {x y : Nat → Int32} {a b : Int32} {B k : Nat} (hk : k < 4) : upd (upd (upd (upd x B a) (B + 1) b) (B + 2) 0) (B + 3) 0 (B + k) = upd (upd (upd (upd y B a) (B + 1) b) (B + 2) 0) (B + 3) 0 (B + k) := by
  have hk' : k = 0 ∨ k = 1 ∨ k = 2 ∨ k = 3 := by omega
  rcases hk' with rfl | rfl | rfl | rfl <;> simp [upd]
section
variable {xdepth xsignal xcarried xlatest xload : Int32} {xsizes xops xargsA xargsB xlines xguards xfroms xtos xats xbegunCounts xthrownCounts xtakenCounts xslotUsed xslotLoad xstretchNumber xstretchGone xstretchRow xatWork xplace xvariables xrow xpart : Nat → Int32} {xstretchWays xrowWays xwayOn : Nat → Int64}
variable {ydepth ysteps yresult youtcome yload yover : Int32} {yop ya yb yline ylength yfrom yto yat yhandlers ybegun ytaken ythrown yrowI yrowWay yrowLength ytimes ytold ykOp ykA ykB ykLine ykLength ykFrom ykTo ykAt ykHandlers ykBegun ykTaken ykThrown ykept ymethod ypc yvariable yhereI yhereWay yhereLength yinto ykLoad ypart : Nat → Int32}
theorem lf_R {d m i k L n : Nat} (hk : k < 4) (H : md_R d m i L n (xdepth, xsignal, xcarried, xlatest, xload, xsizes, xops, xargsA, xargsB, xlines, xguards, xfroms, xtos, xats, xbegunCounts, xthrownCounts, xtakenCounts, xslotUsed, xslotLoad, xstretchNumber, xstretchGone, xstretchRow, xstretchWays, xatWork, xplace, xvariables, xrow, xrowWays, xwayOn, xpart) (ydepth, ysteps, yresult, youtcome, yload, yover, yop, ya, yb, yline, ylength, yfrom, yto, yat, yhandlers, ybegun, ytaken, ythrown, yrowI, yrowWay, yrowLength, ytimes, ytold, ykOp, ykA, ykB, ykLine, ykLength, ykFrom, ykTo, ykAt, ykHandlers, ykBegun, ykTaken, ykThrown, ykept, ymethod, ypc, yvariable, yhereI, yhereWay, yhereLength, yinto, ykLoad, ypart)) :
    ∃ (u1 u' : SX) (v' : SY), (∀ post : SX → Prop, post u1 → wpX_follow post (xdepth, xsignal, xcarried, xlatest, xload, xsizes, xops, xargsA, xargsB, xlines, xguards, xfroms, xtos, xats, xbegunCounts, xthrownCounts, xtakenCounts, xslotUsed, xslotLoad, xstretchNumber, xstretchGone, xstretchRow, xstretchWays, xatWork, xplace, xvariables, xrow, xrowWays, xwayOn, xpart) (nI k) 0) ∧ (∀ post : SX → Prop, post u' → wpX_passOn post u1) ∧ (∀ post : SY → Prop, post v' → wpY_leave post (ydepth, ysteps, yresult, youtcome, yload, yover, yop, ya, yb, yline, ylength, yfrom, yto, yat, yhandlers, ybegun, ytaken, ythrown, yrowI, yrowWay, yrowLength, ytimes, ytold, ykOp, ykA, ykB, ykLine, ykLength, ykFrom, ykTo, ykAt, ykHandlers, ykBegun, ykTaken, ykThrown, ykept, ymethod, ypc, yvariable, yhereI, yhereWay, yhereLength, yinto, ykLoad, ypart) (nI k)) ∧ rs_R L n u' v' := by
  obtain ⟨u1, v1, hX, hY⟩ := fo_R (g := 0) hk H
  have hd : d < 6 := H.1
  rcases hY with ⟨hY, t, hH⟩ | ⟨hY, hW⟩
  · refine ⟨u1, u1, v1, hX, fun post hp => pa_W (ps_0 (N := 0) (by omega) hH hp), fun post hp => ?_, Or.inl ⟨d, m, t, hH⟩⟩
    refine hY _ ?_
    obtain ⟨ydepth1, ysteps1, yresult1, youtcome1, yload1, yover1, yop1, ya1, yb1, yline1, ylength1, yfrom1, yto1, yat1, yhandlers1, ybegun1, ytaken1, ythrown1, yrowI1, yrowWay1, yrowLength1, ytimes1, ytold1, ykOp1, ykA1, ykB1, ykLine1, ykLength1, ykFrom1, ykTo1, ykAt1, ykHandlers1, ykBegun1, ykTaken1, ykThrown1, ykept1, ymethod1, ypc1, yvariable1, yhereI1, yhereWay1, yhereLength1, yinto1, ykLoad1, ypart1⟩ := v1
    exact br_t rfl hp
  · obtain ⟨u', v', iX, iY, iR⟩ := pg_R d 0 0 u1 v1 (by omega) hW
    refine ⟨u1, u', v', hX, fun post hp => pa_W (iX post (d + 1) (by omega) hp), fun post hp => ?_, iR⟩
    refine hY _ ?_
    obtain ⟨ydepth1, ysteps1, yresult1, youtcome1, yload1, yover1, yop1, ya1, yb1, yline1, ylength1, yfrom1, yto1, yat1, yhandlers1, ybegun1, ytaken1, ythrown1, yrowI1, yrowWay1, yrowLength1, ytimes1, ytold1, ykOp1, ykA1, ykB1, ykLine1, ykLength1, ykFrom1, ykTo1, ykAt1, ykHandlers1, ykBegun1, ykTaken1, ykThrown1, ykept1, ymethod1, ypc1, yvariable1, yhereI1, yhereWay1, yhereLength1, yinto1, ykLoad1, ypart1⟩ := v1
    refine br_f (by decide) (en_W (N := d + 2) (iY _ (d + 2) (by omega) ?_))
    obtain ⟨ydepth2, ysteps2, yresult2, youtcome2, yload2, yover2, yop2, ya2, yb2, yline2, ylength2, yfrom2, yto2, yat2, yhandlers2, ybegun2, ytaken2, ythrown2, yrowI2, yrowWay2, yrowLength2, ytimes2, ytold2, ykOp2, ykA2, ykB2, ykLine2, ykLength2, ykFrom2, ykTo2, ykAt2, ykHandlers2, ykBegun2, ykTaken2, ykThrown2, ykept2, ymethod2, ypc2, yvariable2, yhereI2, yhereWay2, yhereLength2, yinto2, ykLoad2, ypart2⟩ := v'
    exact hp
theorem rf_R {d m i L n : Nat} {x : Int32} (H : md_R d m i L n (xdepth, xsignal, xcarried, xlatest, xload, xsizes, xops, xargsA, xargsB, xlines, xguards, xfroms, xtos, xats, xbegunCounts, xthrownCounts, xtakenCounts, xslotUsed, xslotLoad, xstretchNumber, xstretchGone, xstretchRow, xstretchWays, xatWork, xplace, xvariables, xrow, xrowWays, xwayOn, xpart) (ydepth, ysteps, yresult, youtcome, yload, yover, yop, ya, yb, yline, ylength, yfrom, yto, yat, yhandlers, ybegun, ytaken, ythrown, yrowI, yrowWay, yrowLength, ytimes, ytold, ykOp, ykA, ykB, ykLine, ykLength, ykFrom, ykTo, ykAt, ykHandlers, ykBegun, ykTaken, ykThrown, ykept, ymethod, ypc, yvariable, yhereI, yhereWay, yhereLength, yinto, ykLoad, ypart)) :
    ∃ (u1 u' : SX) (v' : SY), (∀ post : SX → Prop, post u1 → wpX_raise post (xdepth, xsignal, xcarried, xlatest, xload, xsizes, xops, xargsA, xargsB, xlines, xguards, xfroms, xtos, xats, xbegunCounts, xthrownCounts, xtakenCounts, xslotUsed, xslotLoad, xstretchNumber, xstretchGone, xstretchRow, xstretchWays, xatWork, xplace, xvariables, xrow, xrowWays, xwayOn, xpart) x) ∧ (∀ post : SX → Prop, post u' → wpX_passOn post u1) ∧ (∀ post : SY → Prop, post v' → wpY_raise post (ydepth, ysteps, yresult, youtcome, yload, yover, yop, ya, yb, yline, ylength, yfrom, yto, yat, yhandlers, ybegun, ytaken, ythrown, yrowI, yrowWay, yrowLength, ytimes, ytold, ykOp, ykA, ykB, ykLine, ykLength, ykFrom, ykTo, ykAt, ykHandlers, ykBegun, ykTaken, ykThrown, ykept, ymethod, ypc, yvariable, yhereI, yhereWay, yhereLength, yinto, ykLoad, ypart) x) ∧ rs_R L n u' v' := by
  obtain ⟨u1, v1, hX, hY⟩ := rb_R (x := x) H
  have hd : d < 6 := H.1
  rcases hY with ⟨hY, t, hH⟩ | ⟨hY, hW⟩ | ⟨hY, hW⟩
  · exact ⟨u1, u1, v1, hX, fun post hp => pa_W (ps_0 (N := 0) (by omega) hH hp), fun post hp => ⟨1, hY post 0 hp⟩, Or.inl ⟨d, m, t, hH⟩⟩
  · obtain ⟨u', v', iX, iY, iR⟩ := pg_R d 0 0 u1 v1 (by omega) hW
    refine ⟨u1, u', v', hX, fun post hp => pa_W (iX post (d + 1) (by omega) hp), fun post hp => ⟨1, hY post 0 ⟨d + 2, iY _ (d + 2) (by omega) ?_⟩⟩, iR⟩
    obtain ⟨ydepth2, ysteps2, yresult2, youtcome2, yload2, yover2, yop2, ya2, yb2, yline2, ylength2, yfrom2, yto2, yat2, yhandlers2, ybegun2, ytaken2, ythrown2, yrowI2, yrowWay2, yrowLength2, ytimes2, ytold2, ykOp2, ykA2, ykB2, ykLine2, ykLength2, ykFrom2, ykTo2, ykAt2, ykHandlers2, ykBegun2, ykTaken2, ykThrown2, ykept2, ymethod2, ypc2, yvariable2, yhereI2, yhereWay2, yhereLength2, yinto2, ykLoad2, ypart2⟩ := v'
    exact hp
  · obtain ⟨u', v', iX, iY, iR⟩ := pr_R d 0 u1 v1 (by omega) hW
    exact ⟨u1, u', v', hX, fun post hp => pa_W (iX post (d + 1) (by omega) hp), fun post hp => ⟨d + 1 + 1, hY post (d + 1) (iY post (d + 1) (by omega) hp)⟩, iR⟩
/-- GIVE -/
theorem gf_R {d m i L n : Nat} {g : Int32} (H : md_R d m i L n (xdepth, xsignal, xcarried, xlatest, xload, xsizes, xops, xargsA, xargsB, xlines, xguards, xfroms, xtos, xats, xbegunCounts, xthrownCounts, xtakenCounts, xslotUsed, xslotLoad, xstretchNumber, xstretchGone, xstretchRow, xstretchWays, xatWork, xplace, xvariables, xrow, xrowWays, xwayOn, xpart) (ydepth, ysteps, yresult, youtcome, yload, yover, yop, ya, yb, yline, ylength, yfrom, yto, yat, yhandlers, ybegun, ytaken, ythrown, yrowI, yrowWay, yrowLength, ytimes, ytold, ykOp, ykA, ykB, ykLine, ykLength, ykFrom, ykTo, ykAt, ykHandlers, ykBegun, ykTaken, ykThrown, ykept, ymethod, ypc, yvariable, yhereI, yhereWay, yhereLength, yinto, ykLoad, ypart)) (h9 : xops (24 * m + i) = 9) :
    ∃ (u1 u' : SX) (v1 v' : SY), (∀ post : SX → Prop, post u1 → wpX_follow post (xdepth, xsignal, xcarried, xlatest, xload, xsizes, xops, xargsA, xargsB, xlines, xguards, xfroms, xtos, xats, xbegunCounts, xthrownCounts, xtakenCounts, xslotUsed, xslotLoad, xstretchNumber, xstretchGone, xstretchRow, xstretchWays, xatWork, xplace, xvariables, xrow, xrowWays, xwayOn, xpart) 0 g) ∧ (∀ post : SX → Prop, post u' → wpX_passOn post u1) ∧ (∀ post : SY → Prop, post v1 → wpY_endStretch post (ydepth, ysteps, yresult, youtcome, yload, yover, yop, ya, yb, yline, ylength, yfrom, yto, yat, yhandlers, ybegun, upd ytaken (4 * (24 * m + i)) (ytaken (4 * (24 * m + i)) + 1), ythrown, yrowI, yrowWay, yrowLength, ytimes, ytold, ykOp, ykA, ykB, ykLine, ykLength, ykFrom, ykTo, ykAt, ykHandlers, ykBegun, ykTaken, ykThrown, ykept, ymethod, ypc, yvariable, yhereI, yhereWay, yhereLength, yinto, ykLoad, ypart)) ∧ (∀ post : SY → Prop, post v' → wpY_end post v1 g) ∧ rs_R L n u' v' := by
  obtain ⟨hd, hxd, hyd, hsg, hxl, hyl, hst, hov, hou, hre, hP, hC, hS, hF, hB, hT⟩ := H
  obtain ⟨⟨hm, hi, ha, hme, hp, hpc, hv⟩, q, I, W, hl, he, hq⟩ := hB
  obtain ⟨e1, e2, e3⟩ := gp_sz hP hm
  have h24 : i < 24 := by omega
  have ed : (nI d).toNatClampNeg = d := nI_clamp (by omega)
  have w : vp_in (nI d) 6 := vp_in_nI hd (by omega)
  have ex : xdepth - 1 = nI d := by rw [hxd]; exact nI_pred d
  have wx : vp_in ((nI m * 24 + nI i) * 4 + (0 : Int32)) 1632 := ix_in (ix_t m i 0) (by omega) (by decide)
  have cx : ((nI m * 24 + nI i) * 4 + (0 : Int32)).toNatClampNeg = 4 * (24 * m + i) := ix_cl (ix_t m i 0) (by omega)
  have hC' := gc_tak (k := 0) hC hm hi h24 (by decide)
  have hT' := tb_inc (k := 4 * (24 * m + i) + 0) hT (by omega)
  obtain ⟨sn, sg, sr, sw, ri, rv, rl, ti, tl, hX, hY, hS'⟩ := cl_R (xdepth := xdepth) (xsignal := xsignal) (xcarried := xcarried) (xlatest := xlatest) (xload := xload) (xsizes := xsizes) (xops := xops) (xargsA := xargsA) (xargsB := xargsB) (xlines := xlines) (xguards := xguards) (xfroms := xfroms) (xtos := xtos) (xats := xats) (xbegunCounts := xbegunCounts) (xthrownCounts := xthrownCounts) (xtakenCounts := upd xtakenCounts (4 * (24 * m + i)) (xtakenCounts (4 * (24 * m + i)) + 1)) (xslotUsed := xslotUsed) (xslotLoad := xslotLoad) (xstretchNumber := xstretchNumber) (xstretchGone := xstretchGone) (xstretchRow := xstretchRow) (xstretchWays := xstretchWays) (xatWork := xatWork) (xplace := xplace) (xvariables := xvariables) (xrow := xrow) (xrowWays := xrowWays) (xwayOn := xwayOn) (xpart := xpart) (ydepth := ydepth) (ysteps := ysteps) (yresult := yresult) (youtcome := youtcome) (yload := yload) (yover := yover) (yop := yop) (ya := ya) (yb := yb) (yline := yline) (ylength := ylength) (yfrom := yfrom) (yto := yto) (yat := yat) (yhandlers := yhandlers) (ybegun := ybegun) (ytaken := upd ytaken (4 * (24 * m + i)) (ytaken (4 * (24 * m + i)) + 1)) (ythrown := ythrown) (yrowI := yrowI) (yrowWay := yrowWay) (yrowLength := yrowLength) (ytimes := ytimes) (ytold := ytold) (ykOp := ykOp) (ykA := ykA) (ykB := ykB) (ykLine := ykLine) (ykLength := ykLength) (ykFrom := ykFrom) (ykTo := ykTo) (ykAt := ykAt) (ykHandlers := ykHandlers) (ykBegun := ykBegun) (ykTaken := ykTaken) (ykThrown := ykThrown) (ykept := ykept) (ymethod := ymethod) (ypc := ypc) (yvariable := yvariable) (yhereI := yhereI) (yhereWay := yhereWay) (yhereLength := yhereLength) (yinto := yinto) (ykLoad := ykLoad) (ypart := ypart) hd hm ha hme hl he hS hyd
  have hW : wt_R d (d + 1) 1 g L n (nI d, 1, g, xlatest, xload, xsizes, xops, xargsA, xargsB, xlines, xguards, xfroms, xtos, xats, xbegunCounts, xthrownCounts, upd xtakenCounts (4 * (24 * m + i)) (xtakenCounts (4 * (24 * m + i)) + 1), xslotUsed, xslotLoad, sn, sg, sr, sw, xatWork, xplace, xvariables, upd xrow d 0, vp_updL xrowWays d 0, vp_updL xwayOn d 0, xpart) (ydepth, ysteps, yresult, youtcome, yload, yover, yop, ya, yb, yline, ylength, yfrom, yto, yat, yhandlers, ybegun, upd ytaken (4 * (24 * m + i)) (ytaken (4 * (24 * m + i)) + 1), ythrown, ri, rv, rl, ti, tl, ykOp, ykA, ykB, ykLine, ykLength, ykFrom, ykTo, ykAt, ykHandlers, ykBegun, ykTaken, ykThrown, ykept, ymethod, ypc, yvariable, yhereI, yhereWay, upd yhereLength d 0, yinto, ykLoad, ypart) := by
    refine ⟨hd, rfl, hyd, rfl, rfl, hxl, hyl, hst, hov, hou, hre, hP, hC', hS', ?_, tb_w hT' (by omega)⟩
    exact fr_L_lo hF lo_r lo_r lo_r (lo_u (Nat.le_refl d)) (lo_uL (Nat.le_refl d)) lo_r lo_r lo_r lo_r lo_r (lo_u (Nat.le_refl d))
  obtain ⟨u', v', iX, iY, iR⟩ := pg_R d 0 g _ _ (by omega) hW
  refine ⟨_, u', _, v', fun post h => ?_, fun post hp => pa_W (iX post (d + 1) (by omega) hp), fun post h => hY _ h, fun post hp => en_W (N := d + 2) (iY _ (d + 2) (by omega) hp), iR⟩
  obtain ⟨t, t1, t2, t3⟩ := tg_1 (xdepth := xdepth) (xsignal := xsignal) (xcarried := xcarried) (xlatest := xlatest) (xload := xload) (xsizes := xsizes) (xops := xops) (xargsA := xargsA) (xargsB := xargsB) (xlines := xlines) (xguards := xguards) (xfroms := xfroms) (xtos := xtos) (xats := xats) (xbegunCounts := xbegunCounts) (xthrownCounts := xthrownCounts) (xtakenCounts := (upd xtakenCounts (4 * (24 * m + i)) (xtakenCounts (4 * (24 * m + i)) + 1))) (xslotUsed := xslotUsed) (xslotLoad := xslotLoad) (xstretchNumber := xstretchNumber) (xstretchGone := xstretchGone) (xstretchRow := xstretchRow) (xstretchWays := xstretchWays) (xatWork := xatWork) (xplace := xplace) (xvariables := xvariables) (xrow := xrow) (xrowWays := xrowWays) (xwayOn := xwayOn) (xpart := xpart) (ydepth := ydepth) (ysteps := ysteps) (yresult := yresult) (youtcome := youtcome) (yload := yload) (yover := yover) (yop := yop) (ya := ya) (yb := yb) (yline := yline) (ylength := ylength) (yfrom := yfrom) (yto := yto) (yat := yat) (yhandlers := yhandlers) (ybegun := ybegun) (ytaken := ytaken) (ythrown := ythrown) (yrowI := yrowI) (yrowWay := yrowWay) (yrowLength := yrowLength) (ytimes := ytimes) (ytold := ytold) (ykOp := ykOp) (ykA := ykA) (ykB := ykB) (ykLine := ykLine) (ykLength := ykLength) (ykFrom := ykFrom) (ykTo := ykTo) (ykAt := ykAt) (ykHandlers := ykHandlers) (ykBegun := ykBegun) (ykTaken := ykTaken) (ykThrown := ykThrown) (ykept := ykept) (ymethod := ymethod) (ypc := ypc) (yvariable := yvariable) (yhereI := yhereI) (yhereWay := yhereWay) (yhereLength := yhereLength) (yinto := yinto) (ykLoad := ykLoad) (ypart := ypart) (k := 0) hP hm h24 (by decide)
  have et := t3 h9
  subst et
  have z : ¬ nI i < -1 := fun z => nI_pos (n := i) (by omega) (Int32.lt_trans z (by decide))
  refine nm_r ex ⟨w, nm_r (e' := nI m) (by rw [ed]; exact ha) ⟨w, nm_r (e' := nI i) (by rw [ed]; exact hp) ⟨wx, wx, nm_r (e' := upd xtakenCounts (4 * (24 * m + i)) (xtakenCounts (4 * (24 * m + i)) + 1)) (by rw [cx]) (t1 _ (tg_71f hP hm (Or.inl (by decide)) ?_))⟩⟩⟩
  exact br_f z (hX _ (br_t rfl (nm_r ex h)))
/-- CALL of a method that is there, below the sixth invocation -/
theorem ef_R {d m i L n c : Nat} {a b : Int32} (H : md_R d m i L n (xdepth, xsignal, xcarried, xlatest, xload, xsizes, xops, xargsA, xargsB, xlines, xguards, xfroms, xtos, xats, xbegunCounts, xthrownCounts, xtakenCounts, xslotUsed, xslotLoad, xstretchNumber, xstretchGone, xstretchRow, xstretchWays, xatWork, xplace, xvariables, xrow, xrowWays, xwayOn, xpart) (ydepth, ysteps, yresult, youtcome, yload, yover, yop, ya, yb, yline, ylength, yfrom, yto, yat, yhandlers, ybegun, ytaken, ythrown, yrowI, yrowWay, yrowLength, ytimes, ytold, ykOp, ykA, ykB, ykLine, ykLength, ykFrom, ykTo, ykAt, ykHandlers, ykBegun, ykTaken, ykThrown, ykept, ymethod, ypc, yvariable, yhereI, yhereWay, yhereLength, yinto, ykLoad, ypart)) (hc : c < 4) (hs : 0 < sz_f xsizes c) (h5 : d < 5) :
    ∃ (u1 : SX) (v' : SY), (∀ post : SX → Prop, post u1 → wpX_enter post (xdepth, xsignal, xcarried, xlatest, xload, xsizes, xops, xargsA, xargsB, xlines, xguards, xfroms, xtos, xats, xbegunCounts, xthrownCounts, xtakenCounts, xslotUsed, xslotLoad, xstretchNumber, xstretchGone, xstretchRow, xstretchWays, xatWork, xplace, xvariables, xrow, xrowWays, xwayOn, xpart) (nI c) a b) ∧ (∀ post : SX → Prop, post u1 → wpX_passOn post u1) ∧ (∀ post : SY → Prop, post v' → wpY_enter post (ydepth, ysteps, yresult, youtcome, yload, yover, yop, ya, yb, yline, ylength, yfrom, yto, yat, yhandlers, ybegun, ytaken, ythrown, yrowI, yrowWay, yrowLength, ytimes, ytold, ykOp, ykA, ykB, ykLine, ykLength, ykFrom, ykTo, ykAt, ykHandlers, ykBegun, ykTaken, ykThrown, ykept, ymethod, ypc, yvariable, yhereI, yhereWay, yhereLength, yinto, ykLoad, ypart) (nI c) a b) ∧ rs_R L n u1 v' := by
  obtain ⟨hd, hxd, hyd, hsg, hxl, hyl, hst, hov, hou, hre, hP, hC, hS, hF, hB, hT⟩ := H
  have w : vp_in (nI (d + 1)) 6 := vp_in_nI (by omega) (by decide)
  have ed : (nI (d + 1)).toNatClampNeg = d + 1 := nI_clamp (by omega)
  have i1 : nI (4 * (d + 1)) + 1 = nI (4 * (d + 1) + 1) := nI_1 _
  have i2 : nI (4 * (d + 1)) + 2 = nI (4 * (d + 1) + 2) := nI_add _ 2
  have i3 : nI (4 * (d + 1)) + 3 = nI (4 * (d + 1) + 3) := nI_add _ 3
  have K : hd_R (d + 1) c 0 L n (nI (d + 1 + 1), xsignal, xcarried, xlatest, xload, xsizes, xops, xargsA, xargsB, xlines, xguards, xfroms, xtos, xats, xbegunCounts, xthrownCounts, xtakenCounts, xslotUsed, xslotLoad, xstretchNumber, xstretchGone, xstretchRow, xstretchWays, upd xatWork (d + 1) (nI c), upd xplace (d + 1) 0, upd (upd (upd (upd xvariables (4 * (d + 1)) a) (4 * (d + 1) + 1) b) (4 * (d + 1) + 2) 0) (4 * (d + 1) + 3) 0, upd xrow (d + 1) 0, vp_updL xrowWays (d + 1) 0, vp_updL xwayOn (d + 1) 0, xpart)
      (nI (d + 1 + 1), ysteps, yresult, youtcome, yload, yover, yop, ya, yb, yline, ylength, yfrom, yto, yat, yhandlers, ybegun, ytaken, ythrown, yrowI, yrowWay, yrowLength, ytimes, ytold, ykOp, ykA, ykB, ykLine, ykLength, ykFrom, ykTo, ykAt, ykHandlers, ykBegun, ykTaken, ykThrown, ykept, upd ymethod (d + 1) (nI c), upd ypc (d + 1) 0, upd (upd (upd (upd yvariable (4 * (d + 1)) a) (4 * (d + 1) + 1) b) (4 * (d + 1) + 2) 0) (4 * (d + 1) + 3) 0, yhereI, yhereWay, upd yhereLength (d + 1) 0, upd yinto (d + 1) 0, ykLoad, ypart) := by
    refine ⟨by omega, rfl, rfl, hsg, hxl, hyl, hst, hov, hou, hre, hP, hC, hS, ?_, ⟨⟨hc, hs, pk_us, pk_us, pk_us, pk_us, fun k hk => ?_⟩, 0, fun _ => 0, fun _ => 0, pk_us, ?_, Or.inl ⟨rfl, pk_uLs⟩⟩, tb_w hT (by omega)⟩
    · have F1 := fr_L_s hF hB
      exact fr_L_lo F1 (lo_u (Nat.le_refl _)) (lo_u (Nat.le_refl _)) (lo_t (lo_t (lo_t (lo_u (Nat.le_refl _)) (lo_u (by omega))) (lo_u (by omega))) (lo_u (by omega))) (lo_u (Nat.le_refl _)) (lo_uL (Nat.le_refl _)) (lo_u (Nat.le_refl _)) (lo_u (Nat.le_refl _)) (lo_t (lo_t (lo_t (lo_u (Nat.le_refl _)) (lo_u (by omega))) (lo_u (by omega))) (lo_u (by omega))) lo_r lo_r (lo_u (Nat.le_refl _))
    · exact fr_4 hk
    · rw [pk_us, pk_uLs]; exact en_0 _ _ _ _ _
  refine ⟨_, _, fun post h => ?_, fun post hp => pa_W (ps_0 (N := 0) (by omega) K hp), fun post h => ?_, Or.inl ⟨d + 1, c, 0, K⟩⟩
  · refine nm_r (e' := nI (4 * (d + 1))) (by rw [hxd]; exact ix_c (d + 1) 4) ?_
    rw [i1, i2, i3, nI_clamp (n := 4 * (d + 1)) (by omega), nI_clamp (n := 4 * (d + 1) + 1) (by omega), nI_clamp (n := 4 * (d + 1) + 2) (by omega), nI_clamp (n := 4 * (d + 1) + 3) (by omega), hxd, ed]
    refine ⟨vp_in_nI (by omega) (by decide), nm_e ⟨vp_in_nI (by omega) (by decide), nm_e ⟨vp_in_nI (by omega) (by decide), nm_e ⟨vp_in_nI (by omega) (by decide), nm_e ⟨w, nm_e ⟨w, nm_e ?_⟩⟩⟩⟩⟩⟩
    exact xc_clr (by omega) (nm_r (nI_1 (d + 1)) h)
  · have e4 : 4 * ydepth = nI (4 * (d + 1)) := by rw [hyd]; exact pk_mul 4 (d + 1)
    unfold wpY_enter
    dsimp only
    rw [e4, i1, i2, i3, nI_clamp (n := 4 * (d + 1)) (by omega), nI_clamp (n := 4 * (d + 1) + 1) (by omega), nI_clamp (n := 4 * (d + 1) + 2) (by omega), nI_clamp (n := 4 * (d + 1) + 3) (by omega), hyd, ed]
    exact ⟨w, nm_e ⟨w, nm_e ⟨vp_in_nI (by omega) (by decide), nm_e ⟨vp_in_nI (by omega) (by decide), nm_e ⟨vp_in_nI (by omega) (by decide), nm_e ⟨vp_in_nI (by omega) (by decide), nm_e ⟨w, nm_e ⟨w, nm_e (nm_r (nI_1 (d + 1)) h)⟩⟩⟩⟩⟩⟩⟩⟩
end
end
section
/-! part 15: one instruction: the walks up to its own case -/
theorem dv_m1 (x : Int32) : x / (-1) = -x := by
  apply Int32.toInt_inj.mp
  rw [Int32.toInt_div, show (-1 : Int32).toInt = -1 from by decide, Int.tdiv_neg, Int.tdiv_one, Int32.toInt_neg]
theorem xm_e {post : SX → Prop} {u : SX} (h : post u) : (match u with | (xdepth, xsignal, xcarried, xlatest, xload, xsizes, xops, xargsA, xargsB, xlines, xguards, xfroms, xtos, xats, xbegunCounts, xthrownCounts, xtakenCounts, xslotUsed, xslotLoad, xstretchNumber, xstretchGone, xstretchRow, xstretchWays, xatWork, xplace, xvariables, xrow, xrowWays, xwayOn, xpart) => post (xdepth, xsignal, xcarried, xlatest, xload, xsizes, xops, xargsA, xargsB, xlines, xguards, xfroms, xtos, xats, xbegunCounts, xthrownCounts, xtakenCounts, xslotUsed, xslotLoad, xstretchNumber, xstretchGone, xstretchRow, xstretchWays, xatWork, xplace, xvariables, xrow, xrowWays, xwayOn, xpart)) := by
  obtain ⟨xdepth, xsignal, xcarried, xlatest, xload, xsizes, xops, xargsA, xargsB, xlines, xguards, xfroms, xtos, xats, xbegunCounts, xthrownCounts, xtakenCounts, xslotUsed, xslotLoad, xstretchNumber, xstretchGone, xstretchRow, xstretchWays, xatWork, xplace, xvariables, xrow, xrowWays, xwayOn, xpart⟩ := u
  exact h
theorem ym_e {post : SY → Prop} {u : SY} (h : post u) : (match u with | (ydepth, ysteps, yresult, youtcome, yload, yover, yop, ya, yb, yline, ylength, yfrom, yto, yat, yhandlers, ybegun, ytaken, ythrown, yrowI, yrowWay, yrowLength, ytimes, ytold, ykOp, ykA, ykB, ykLine, ykLength, ykFrom, ykTo, ykAt, ykHandlers, ykBegun, ykTaken, ykThrown, ykept, ymethod, ypc, yvariable, yhereI, yhereWay, yhereLength, yinto, ykLoad, ypart) => post (ydepth, ysteps, yresult, youtcome, yload, yover, yop, ya, yb, yline, ylength, yfrom, yto, yat, yhandlers, ybegun, ytaken, ythrown, yrowI, yrowWay, yrowLength, ytimes, ytold, ykOp, ykA, ykB, ykLine, ykLength, ykFrom, ykTo, ykAt, ykHandlers, ykBegun, ykTaken, ykThrown, ykept, ymethod, ypc, yvariable, yhereI, yhereWay, yhereLength, yinto, ykLoad, ypart)) := by
  obtain ⟨ydepth, ysteps, yresult, youtcome, yload, yover, yop, ya, yb, yline, ylength, yfrom, yto, yat, yhandlers, ybegun, ytaken, ythrown, yrowI, yrowWay, yrowLength, ytimes, ytold, ykOp, ykA, ykB, ykLine, ykLength, ykFrom, ykTo, ykAt, ykHandlers, ykBegun, ykTaken, ykThrown, ykept, ymethod, ypc, yvariable, yhereI, yhereWay, yhereLength, yinto, ykLoad, ypart⟩ := u
  exact h
section
variable {xdepth xsignal xcarried xlatest xload : Int32} {xsizes xops xargsA xargsB xlines xguards xfroms xtos xats xbegunCounts xthrownCounts xtakenCounts xslotUsed xslotLoad xstretchNumber xstretchGone xstretchRow xatWork xplace xvariables xrow xpart : Nat → Int32} {xstretchWays xrowWays xwayOn : Nat → Int64}
variable {ydepth ysteps yresult youtcome yload yover : Int32} {yop ya yb yline ylength yfrom yto yat yhandlers ybegun ytaken ythrown yrowI yrowWay yrowLength ytimes ytold ykOp ykA ykB ykLine ykLength ykFrom ykTo ykAt ykHandlers ykBegun ykTaken ykThrown ykept ymethod ypc yvariable yhereI yhereWay yhereLength yinto ykLoad ypart : Nat → Int32}
theorem md_var {d m i L n a : Nat} {z : Int32} (H : md_R d m i L n (xdepth, xsignal, xcarried, xlatest, xload, xsizes, xops, xargsA, xargsB, xlines, xguards, xfroms, xtos, xats, xbegunCounts, xthrownCounts, xtakenCounts, xslotUsed, xslotLoad, xstretchNumber, xstretchGone, xstretchRow, xstretchWays, xatWork, xplace, xvariables, xrow, xrowWays, xwayOn, xpart) (ydepth, ysteps, yresult, youtcome, yload, yover, yop, ya, yb, yline, ylength, yfrom, yto, yat, yhandlers, ybegun, ytaken, ythrown, yrowI, yrowWay, yrowLength, ytimes, ytold, ykOp, ykA, ykB, ykLine, ykLength, ykFrom, ykTo, ykAt, ykHandlers, ykBegun, ykTaken, ykThrown, ykept, ymethod, ypc, yvariable, yhereI, yhereWay, yhereLength, yinto, ykLoad, ypart)) : md_R d m i L n (xdepth, xsignal, xcarried, xlatest, xload, xsizes, xops, xargsA, xargsB, xlines, xguards, xfroms, xtos, xats, xbegunCounts, xthrownCounts, xtakenCounts, xslotUsed, xslotLoad, xstretchNumber, xstretchGone, xstretchRow, xstretchWays, xatWork, xplace, upd xvariables (4 * d + a) z, xrow, xrowWays, xwayOn, xpart) (ydepth, ysteps, yresult, youtcome, yload, yover, yop, ya, yb, yline, ylength, yfrom, yto, yat, yhandlers, ybegun, ytaken, ythrown, yrowI, yrowWay, yrowLength, ytimes, ytold, ykOp, ykA, ykB, ykLine, ykLength, ykFrom, ykTo, ykAt, ykHandlers, ykBegun, ykTaken, ykThrown, ykept, ymethod, ypc, upd yvariable (4 * d + a) z, yhereI, yhereWay, yhereLength, yinto, ykLoad, ypart) := by
  obtain ⟨hd, hxd, hyd, hsg, hxl, hyl, hst, hov, hou, hre, hP, hC, hS, hF, hB, hT⟩ := H
  exact ⟨hd, hxd, hyd, hsg, hxl, hyl, hst, hov, hou, hre, hP, hC, hS, fr_L_lo hF lo_r lo_r (lo_u (by omega)) lo_r lo_r lo_r lo_r (lo_u (by omega)) lo_r lo_r lo_r, fr_var hB, hT⟩
theorem it_t {post : Int32 → Prop} {c : Nat} (hP : (gp_R xsizes xops xargsA xargsB xlines xguards xfroms xtos xats yop ya yb yline ylength yfrom yto yat yhandlers ykOp ykA ykB ykLine ykLength ykFrom ykTo ykAt ykHandlers)) (hc : c < 4) (hs : 0 < sz_f xsizes c) (hp : post 1) : wpX_isThere post (xdepth, xsignal, xcarried, xlatest, xload, xsizes, xops, xargsA, xargsB, xlines, xguards, xfroms, xtos, xats, xbegunCounts, xthrownCounts, xtakenCounts, xslotUsed, xslotLoad, xstretchNumber, xstretchGone, xstretchRow, xstretchWays, xatWork, xplace, xvariables, xrow, xrowWays, xwayOn, xpart) (nI c) := by
  obtain ⟨e1, e2, e3⟩ := gp_sz hP hc
  have f1 : ¬ xsizes (nI c).toNatClampNeg ≤ 0 := by rw [nI_clamp (by omega), e1]; exact nI_nle hs (by omega)
  unfold wpX_isThere
  exact xi_t (n := 4) hc (by decide) (br_f (by decide) ⟨vp_in_nI (by omega) (by decide), br_f f1 hp⟩)
theorem it_f {post : Int32 → Prop} {c : Nat} (hP : (gp_R xsizes xops xargsA xargsB xlines xguards xfroms xtos xats yop ya yb yline ylength yfrom yto yat yhandlers ykOp ykA ykB ykLine ykLength ykFrom ykTo ykAt ykHandlers)) (hc : c < 4) (hs : sz_f xsizes c = 0) (hp : post 0) : wpX_isThere post (xdepth, xsignal, xcarried, xlatest, xload, xsizes, xops, xargsA, xargsB, xlines, xguards, xfroms, xtos, xats, xbegunCounts, xthrownCounts, xtakenCounts, xslotUsed, xslotLoad, xstretchNumber, xstretchGone, xstretchRow, xstretchWays, xatWork, xplace, xvariables, xrow, xrowWays, xwayOn, xpart) (nI c) := by
  obtain ⟨e1, e2, e3⟩ := gp_sz hP hc
  have f1 : xsizes (nI c).toNatClampNeg ≤ 0 := by rw [nI_clamp (by omega), e1, hs]; decide
  unfold wpX_isThere
  exact xi_t (n := 4) hc (by decide) (br_f (by decide) ⟨vp_in_nI (by omega) (by decide), br_t f1 hp⟩)
theorem xb_begin {post : SX → Prop} {d m i L : Nat} (hd : d < 6) (hm : m < 4) (h24 : i < 24) (hxl : xload = nI L) (hp : post (xdepth, xsignal, xcarried, xlatest, nI (L + 1), xsizes, xops, xargsA, xargsB, xlines, xguards, xfroms, xtos, xats, upd xbegunCounts (24 * m + i) (xbegunCounts (24 * m + i) + 1), xthrownCounts, xtakenCounts, xslotUsed, xslotLoad, xstretchNumber, xstretchGone, xstretchRow, xstretchWays, xatWork, xplace, xvariables, upd xrow d (xrow d ||| ((1 : Int32) <<< (xplace d &&& 31))), vp_updL xrowWays d (xrowWays d ||| xwayOn d), xwayOn, xpart)) : wpX_begin post (xdepth, xsignal, xcarried, xlatest, xload, xsizes, xops, xargsA, xargsB, xlines, xguards, xfroms, xtos, xats, xbegunCounts, xthrownCounts, xtakenCounts, xslotUsed, xslotLoad, xstretchNumber, xstretchGone, xstretchRow, xstretchWays, xatWork, xplace, xvariables, xrow, xrowWays, xwayOn, xpart) (nI d) (nI (24 * m + i)) := by
  have ed : (nI d).toNatClampNeg = d := nI_clamp (by omega)
  have w : vp_in (nI d) 6 := vp_in_nI hd (by omega)
  have ws : vp_in (nI (24 * m + i)) 408 := vp_in_nI (by omega) (by omega)
  have es : (nI (24 * m + i)).toNatClampNeg = 24 * m + i := nI_clamp (by omega)
  unfold wpX_begin
  dsimp only
  rw [ed, es]
  exact nm_r (e' := nI (L + 1)) (by rw [hxl]; exact nI_1 L) ⟨ws, ws, nm_e ⟨w, w, w, nm_e ⟨w, w, w, nm_e hp⟩⟩⟩
/-- the common way in, of the class -/
theorem xo_in {d m i a c L : Nat} (hd : d < 6) (hm : m < 4) (h24 : i < 24) (hxd : xdepth = nI (d + 1)) (ha : xatWork d = nI m) (hp : xplace d = nI i) (hxl : xload = nI L) (haa : xargsA (24 * m + i) = nI a) (ha4 : a < 4) (hb3 : xargsB (24 * m + i) &&& 3 = nI c) (hc4 : c < 4) {K : Int32 → Int32 → Int32 → Int32 → Int32 → SX → Prop}
    (hK : K (nI (4 * d)) (nI (24 * m + i)) (xargsB (24 * m + i)) (nI (4 * d + a)) (xvariables (4 * d + c)) (xdepth, xsignal, xcarried, xlatest, nI (L + 1), xsizes, xops, xargsA, xargsB, xlines, xguards, xfroms, xtos, xats, upd xbegunCounts (24 * m + i) (xbegunCounts (24 * m + i) + 1), xthrownCounts, xtakenCounts, xslotUsed, xslotLoad, xstretchNumber, xstretchGone, xstretchRow, xstretchWays, xatWork, xplace, xvariables, upd xrow d (xrow d ||| ((1 : Int32) <<< (xplace d &&& 31))), vp_updL xrowWays d (xrowWays d ||| xwayOn d), xwayOn, xpart)) :
    ∀ x1 : Int32, x1 = xdepth - 1 → ∀ x2 : Int32, x2 = x1 * 4 → vp_in x1 6 ∧ vp_in x1 6 ∧ ∀ x3 : Int32, x3 = xatWork x1.toNatClampNeg * 24 + xplace x1.toNatClampNeg → vp_in x3 408 ∧ ∀ x4 : Int32, x4 = xargsB x3.toNatClampNeg → vp_in x3 408 ∧ ∀ x5 : Int32, x5 = x2 + xargsA x3.toNatClampNeg → vp_in (x2 + (x4 &&& 3)) 24 ∧ ∀ x6 : Int32, x6 = xvariables (x2 + (x4 &&& 3)).toNatClampNeg → wpX_begin (fun u => K x2 x3 x4 x5 x6 u) (xdepth, xsignal, xcarried, xlatest, xload, xsizes, xops, xargsA, xargsB, xlines, xguards, xfroms, xtos, xats, xbegunCounts, xthrownCounts, xtakenCounts, xslotUsed, xslotLoad, xstretchNumber, xstretchGone, xstretchRow, xstretchWays, xatWork, xplace, xvariables, xrow, xrowWays, xwayOn, xpart) x1 x3 := by
  have ed : (nI d).toNatClampNeg = d := nI_clamp (by omega)
  have w : vp_in (nI d) 6 := vp_in_nI hd (by omega)
  have ws : vp_in (nI (24 * m + i)) 408 := vp_in_nI (by omega) (by omega)
  have es : (nI (24 * m + i)).toNatClampNeg = 24 * m + i := nI_clamp (by omega)
  have ev : nI (4 * d) + (xargsB (24 * m + i) &&& 3) = nI (4 * d + c) := by rw [hb3]; exact nI_add _ _
  have ex : xdepth - 1 = nI d := by rw [hxd]; exact nI_pred d
  refine nm_r ex (nm_r (e' := nI (4 * d)) (ix_c d 4) ⟨w, w, nm_r (e' := nI (24 * m + i)) (by rw [ed, ha, hp]; exact ix_24 m i) ⟨ws, nm_r (e' := xargsB (24 * m + i)) (by rw [es]) ⟨ws, nm_r (e' := nI (4 * d + a)) (by rw [es, haa]; exact nI_add _ _) ⟨ix_in ev (by omega) (by decide), nm_r (e' := xvariables (4 * d + c)) (by rw [ix_cl ev (by omega)]) ?_⟩⟩⟩⟩)
  exact xb_begin hd hm h24 hxl hK

theorem xo_5t {post : SX → Prop} {d m i a c L : Nat} (hd : d < 6) (hm : m < 4) (h24 : i < 24) (hxd : xdepth = nI (d + 1)) (ha : xatWork d = nI m) (hp : xplace d = nI i) (hxl : xload = nI L) (haa : xargsA (24 * m + i) = nI a) (ha4 : a < 4) (hb3 : xargsB (24 * m + i) &&& 3 = nI c) (hc4 : c < 4) (hop : xops (24 * m + i) = 5) (hz : xvariables (4 * d + a) = 0) (h : wpX_follow (fun u => match u with | (xdepth, xsignal, xcarried, xlatest, xload, xsizes, xops, xargsA, xargsB, xlines, xguards, xfroms, xtos, xats, xbegunCounts, xthrownCounts, xtakenCounts, xslotUsed, xslotLoad, xstretchNumber, xstretchGone, xstretchRow, xstretchWays, xatWork, xplace, xvariables, xrow, xrowWays, xwayOn, xpart) => post (xdepth, xsignal, xcarried, xlatest, xload, xsizes, xops, xargsA, xargsB, xlines, xguards, xfroms, xtos, xats, xbegunCounts, xthrownCounts, xtakenCounts, xslotUsed, xslotLoad, xstretchNumber, xstretchGone, xstretchRow, xstretchWays, xatWork, xplace, xvariables, xrow, xrowWays, xwayOn, xpart)) (xdepth, xsignal, xcarried, xlatest, nI (L + 1), xsizes, xops, xargsA, xargsB, xlines, xguards, xfroms, xtos, xats, upd xbegunCounts (24 * m + i) (xbegunCounts (24 * m + i) + 1), xthrownCounts, xtakenCounts, xslotUsed, xslotLoad, xstretchNumber, xstretchGone, xstretchRow, xstretchWays, xatWork, xplace, xvariables, upd xrow d (xrow d ||| ((1 : Int32) <<< (xplace d &&& 31))), vp_updL xrowWays d (xrowWays d ||| xwayOn d), xwayOn, xpart) 1 0) : wpX_performOne post (xdepth, xsignal, xcarried, xlatest, xload, xsizes, xops, xargsA, xargsB, xlines, xguards, xfroms, xtos, xats, xbegunCounts, xthrownCounts, xtakenCounts, xslotUsed, xslotLoad, xstretchNumber, xstretchGone, xstretchRow, xstretchWays, xatWork, xplace, xvariables, xrow, xrowWays, xwayOn, xpart) := by
  have ws : vp_in (nI (24 * m + i)) 408 := vp_in_nI (by omega) (by omega)
  have es : (nI (24 * m + i)).toNatClampNeg = 24 * m + i := nI_clamp (by omega)
  have wv : vp_in (nI (4 * d + a)) 24 := vp_in_nI (by omega) (by omega)
  have cv : (nI (4 * d + a)).toNatClampNeg = 4 * d + a := nI_clamp (by omega)
  unfold wpX_performOne
  refine xo_in hd hm h24 hxd ha hp hxl haa ha4 hb3 hc4 ?_
  refine ⟨ws, nm_r (e' := 5) (by rw [es]; exact hop) ?_⟩
  refine br_f (by decide) (br_f (by decide) (br_t rfl ⟨wv, br_t (by rw [cv]; exact hz) h⟩))
theorem xo_5f {post : SX → Prop} {d m i a c L : Nat} (hd : d < 6) (hm : m < 4) (h24 : i < 24) (hxd : xdepth = nI (d + 1)) (ha : xatWork d = nI m) (hp : xplace d = nI i) (hxl : xload = nI L) (haa : xargsA (24 * m + i) = nI a) (ha4 : a < 4) (hb3 : xargsB (24 * m + i) &&& 3 = nI c) (hc4 : c < 4) (hop : xops (24 * m + i) = 5) (hz : ¬ xvariables (4 * d + a) = 0) (h : wpX_follow (fun u => match u with | (xdepth, xsignal, xcarried, xlatest, xload, xsizes, xops, xargsA, xargsB, xlines, xguards, xfroms, xtos, xats, xbegunCounts, xthrownCounts, xtakenCounts, xslotUsed, xslotLoad, xstretchNumber, xstretchGone, xstretchRow, xstretchWays, xatWork, xplace, xvariables, xrow, xrowWays, xwayOn, xpart) => post (xdepth, xsignal, xcarried, xlatest, xload, xsizes, xops, xargsA, xargsB, xlines, xguards, xfroms, xtos, xats, xbegunCounts, xthrownCounts, xtakenCounts, xslotUsed, xslotLoad, xstretchNumber, xstretchGone, xstretchRow, xstretchWays, xatWork, xplace, xvariables, xrow, xrowWays, xwayOn, xpart)) (xdepth, xsignal, xcarried, xlatest, nI (L + 1), xsizes, xops, xargsA, xargsB, xlines, xguards, xfroms, xtos, xats, upd xbegunCounts (24 * m + i) (xbegunCounts (24 * m + i) + 1), xthrownCounts, xtakenCounts, xslotUsed, xslotLoad, xstretchNumber, xstretchGone, xstretchRow, xstretchWays, xatWork, xplace, xvariables, upd xrow d (xrow d ||| ((1 : Int32) <<< (xplace d &&& 31))), vp_updL xrowWays d (xrowWays d ||| xwayOn d), xwayOn, xpart) 0 0) : wpX_performOne post (xdepth, xsignal, xcarried, xlatest, xload, xsizes, xops, xargsA, xargsB, xlines, xguards, xfroms, xtos, xats, xbegunCounts, xthrownCounts, xtakenCounts, xslotUsed, xslotLoad, xstretchNumber, xstretchGone, xstretchRow, xstretchWays, xatWork, xplace, xvariables, xrow, xrowWays, xwayOn, xpart) := by
  have ws : vp_in (nI (24 * m + i)) 408 := vp_in_nI (by omega) (by omega)
  have es : (nI (24 * m + i)).toNatClampNeg = 24 * m + i := nI_clamp (by omega)
  have wv : vp_in (nI (4 * d + a)) 24 := vp_in_nI (by omega) (by omega)
  have cv : (nI (4 * d + a)).toNatClampNeg = 4 * d + a := nI_clamp (by omega)
  unfold wpX_performOne
  refine xo_in hd hm h24 hxd ha hp hxl haa ha4 hb3 hc4 ?_
  refine ⟨ws, nm_r (e' := 5) (by rw [es]; exact hop) ?_⟩
  refine br_f (by decide) (br_f (by decide) (br_t rfl ⟨wv, br_f (by rw [cv]; exact hz) h⟩))
theorem xo_6t {post : SX → Prop} {d m i a c L : Nat} (hd : d < 6) (hm : m < 4) (h24 : i < 24) (hxd : xdepth = nI (d + 1)) (ha : xatWork d = nI m) (hp : xplace d = nI i) (hxl : xload = nI L) (haa : xargsA (24 * m + i) = nI a) (ha4 : a < 4) (hb3 : xargsB (24 * m + i) &&& 3 = nI c) (hc4 : c < 4) (hop : xops (24 * m + i) = 6) (hz : ¬ 0 ≤ xvariables (4 * d + a)) (h : wpX_follow (fun u => match u with | (xdepth, xsignal, xcarried, xlatest, xload, xsizes, xops, xargsA, xargsB, xlines, xguards, xfroms, xtos, xats, xbegunCounts, xthrownCounts, xtakenCounts, xslotUsed, xslotLoad, xstretchNumber, xstretchGone, xstretchRow, xstretchWays, xatWork, xplace, xvariables, xrow, xrowWays, xwayOn, xpart) => post (xdepth, xsignal, xcarried, xlatest, xload, xsizes, xops, xargsA, xargsB, xlines, xguards, xfroms, xtos, xats, xbegunCounts, xthrownCounts, xtakenCounts, xslotUsed, xslotLoad, xstretchNumber, xstretchGone, xstretchRow, xstretchWays, xatWork, xplace, xvariables, xrow, xrowWays, xwayOn, xpart)) (xdepth, xsignal, xcarried, xlatest, nI (L + 1), xsizes, xops, xargsA, xargsB, xlines, xguards, xfroms, xtos, xats, upd xbegunCounts (24 * m + i) (xbegunCounts (24 * m + i) + 1), xthrownCounts, xtakenCounts, xslotUsed, xslotLoad, xstretchNumber, xstretchGone, xstretchRow, xstretchWays, xatWork, xplace, xvariables, upd xrow d (xrow d ||| ((1 : Int32) <<< (xplace d &&& 31))), vp_updL xrowWays d (xrowWays d ||| xwayOn d), xwayOn, xpart) 1 0) : wpX_performOne post (xdepth, xsignal, xcarried, xlatest, xload, xsizes, xops, xargsA, xargsB, xlines, xguards, xfroms, xtos, xats, xbegunCounts, xthrownCounts, xtakenCounts, xslotUsed, xslotLoad, xstretchNumber, xstretchGone, xstretchRow, xstretchWays, xatWork, xplace, xvariables, xrow, xrowWays, xwayOn, xpart) := by
  have ws : vp_in (nI (24 * m + i)) 408 := vp_in_nI (by omega) (by omega)
  have es : (nI (24 * m + i)).toNatClampNeg = 24 * m + i := nI_clamp (by omega)
  have wv : vp_in (nI (4 * d + a)) 24 := vp_in_nI (by omega) (by omega)
  have cv : (nI (4 * d + a)).toNatClampNeg = 4 * d + a := nI_clamp (by omega)
  unfold wpX_performOne
  refine xo_in hd hm h24 hxd ha hp hxl haa ha4 hb3 hc4 ?_
  refine ⟨ws, nm_r (e' := 6) (by rw [es]; exact hop) ?_⟩
  refine br_f (by decide) (br_f (by decide) (br_f (by decide) (br_t rfl ⟨wv, br_f (by rw [cv]; exact hz) h⟩)))
theorem xo_6f {post : SX → Prop} {d m i a c L : Nat} (hd : d < 6) (hm : m < 4) (h24 : i < 24) (hxd : xdepth = nI (d + 1)) (ha : xatWork d = nI m) (hp : xplace d = nI i) (hxl : xload = nI L) (haa : xargsA (24 * m + i) = nI a) (ha4 : a < 4) (hb3 : xargsB (24 * m + i) &&& 3 = nI c) (hc4 : c < 4) (hop : xops (24 * m + i) = 6) (hz : 0 ≤ xvariables (4 * d + a)) (h : wpX_follow (fun u => match u with | (xdepth, xsignal, xcarried, xlatest, xload, xsizes, xops, xargsA, xargsB, xlines, xguards, xfroms, xtos, xats, xbegunCounts, xthrownCounts, xtakenCounts, xslotUsed, xslotLoad, xstretchNumber, xstretchGone, xstretchRow, xstretchWays, xatWork, xplace, xvariables, xrow, xrowWays, xwayOn, xpart) => post (xdepth, xsignal, xcarried, xlatest, xload, xsizes, xops, xargsA, xargsB, xlines, xguards, xfroms, xtos, xats, xbegunCounts, xthrownCounts, xtakenCounts, xslotUsed, xslotLoad, xstretchNumber, xstretchGone, xstretchRow, xstretchWays, xatWork, xplace, xvariables, xrow, xrowWays, xwayOn, xpart)) (xdepth, xsignal, xcarried, xlatest, nI (L + 1), xsizes, xops, xargsA, xargsB, xlines, xguards, xfroms, xtos, xats, upd xbegunCounts (24 * m + i) (xbegunCounts (24 * m + i) + 1), xthrownCounts, xtakenCounts, xslotUsed, xslotLoad, xstretchNumber, xstretchGone, xstretchRow, xstretchWays, xatWork, xplace, xvariables, upd xrow d (xrow d ||| ((1 : Int32) <<< (xplace d &&& 31))), vp_updL xrowWays d (xrowWays d ||| xwayOn d), xwayOn, xpart) 0 0) : wpX_performOne post (xdepth, xsignal, xcarried, xlatest, xload, xsizes, xops, xargsA, xargsB, xlines, xguards, xfroms, xtos, xats, xbegunCounts, xthrownCounts, xtakenCounts, xslotUsed, xslotLoad, xstretchNumber, xstretchGone, xstretchRow, xstretchWays, xatWork, xplace, xvariables, xrow, xrowWays, xwayOn, xpart) := by
  have ws : vp_in (nI (24 * m + i)) 408 := vp_in_nI (by omega) (by omega)
  have es : (nI (24 * m + i)).toNatClampNeg = 24 * m + i := nI_clamp (by omega)
  have wv : vp_in (nI (4 * d + a)) 24 := vp_in_nI (by omega) (by omega)
  have cv : (nI (4 * d + a)).toNatClampNeg = 4 * d + a := nI_clamp (by omega)
  unfold wpX_performOne
  refine xo_in hd hm h24 hxd ha hp hxl haa ha4 hb3 hc4 ?_
  refine ⟨ws, nm_r (e' := 6) (by rw [es]; exact hop) ?_⟩
  refine br_f (by decide) (br_f (by decide) (br_f (by decide) (br_t rfl ⟨wv, br_t (by rw [cv]; exact hz) h⟩)))
theorem xo_7t {post : SX → Prop} {d m i a c L : Nat} (hd : d < 6) (hm : m < 4) (h24 : i < 24) (hxd : xdepth = nI (d + 1)) (ha : xatWork d = nI m) (hp : xplace d = nI i) (hxl : xload = nI L) (haa : xargsA (24 * m + i) = nI a) (ha4 : a < 4) (hb3 : xargsB (24 * m + i) &&& 3 = nI c) (hc4 : c < 4) (hop : xops (24 * m + i) = 7) (hz : ¬ xvariables (4 * d + a) < 1) (hz2 : ¬ 3 < xvariables (4 * d + a)) (h : wpX_follow (fun u => match u with | (xdepth, xsignal, xcarried, xlatest, xload, xsizes, xops, xargsA, xargsB, xlines, xguards, xfroms, xtos, xats, xbegunCounts, xthrownCounts, xtakenCounts, xslotUsed, xslotLoad, xstretchNumber, xstretchGone, xstretchRow, xstretchWays, xatWork, xplace, xvariables, xrow, xrowWays, xwayOn, xpart) => post (xdepth, xsignal, xcarried, xlatest, xload, xsizes, xops, xargsA, xargsB, xlines, xguards, xfroms, xtos, xats, xbegunCounts, xthrownCounts, xtakenCounts, xslotUsed, xslotLoad, xstretchNumber, xstretchGone, xstretchRow, xstretchWays, xatWork, xplace, xvariables, xrow, xrowWays, xwayOn, xpart)) (xdepth, xsignal, xcarried, xlatest, nI (L + 1), xsizes, xops, xargsA, xargsB, xlines, xguards, xfroms, xtos, xats, upd xbegunCounts (24 * m + i) (xbegunCounts (24 * m + i) + 1), xthrownCounts, xtakenCounts, xslotUsed, xslotLoad, xstretchNumber, xstretchGone, xstretchRow, xstretchWays, xatWork, xplace, xvariables, upd xrow d (xrow d ||| ((1 : Int32) <<< (xplace d &&& 31))), vp_updL xrowWays d (xrowWays d ||| xwayOn d), xwayOn, xpart) (xvariables (4 * d + a)) 0) : wpX_performOne post (xdepth, xsignal, xcarried, xlatest, xload, xsizes, xops, xargsA, xargsB, xlines, xguards, xfroms, xtos, xats, xbegunCounts, xthrownCounts, xtakenCounts, xslotUsed, xslotLoad, xstretchNumber, xstretchGone, xstretchRow, xstretchWays, xatWork, xplace, xvariables, xrow, xrowWays, xwayOn, xpart) := by
  have ws : vp_in (nI (24 * m + i)) 408 := vp_in_nI (by omega) (by omega)
  have es : (nI (24 * m + i)).toNatClampNeg = 24 * m + i := nI_clamp (by omega)
  have wv : vp_in (nI (4 * d + a)) 24 := vp_in_nI (by omega) (by omega)
  have cv : (nI (4 * d + a)).toNatClampNeg = 4 * d + a := nI_clamp (by omega)
  unfold wpX_performOne
  refine xo_in hd hm h24 hxd ha hp hxl haa ha4 hb3 hc4 ?_
  refine ⟨ws, nm_r (e' := 7) (by rw [es]; exact hop) ?_⟩
  refine br_f (by decide) (br_f (by decide) (br_f (by decide) (br_f (by decide) (br_t rfl ?_))))
  rw [cv]
  exact ⟨wv, br_f hz ⟨wv, br_f hz2 ⟨wv, h⟩⟩⟩
theorem xo_7f {post : SX → Prop} {d m i a c L : Nat} (hd : d < 6) (hm : m < 4) (h24 : i < 24) (hxd : xdepth = nI (d + 1)) (ha : xatWork d = nI m) (hp : xplace d = nI i) (hxl : xload = nI L) (haa : xargsA (24 * m + i) = nI a) (ha4 : a < 4) (hb3 : xargsB (24 * m + i) &&& 3 = nI c) (hc4 : c < 4) (hop : xops (24 * m + i) = 7) (hz : xvariables (4 * d + a) < 1 ∨ 3 < xvariables (4 * d + a)) (h : wpX_follow (fun u => match u with | (xdepth, xsignal, xcarried, xlatest, xload, xsizes, xops, xargsA, xargsB, xlines, xguards, xfroms, xtos, xats, xbegunCounts, xthrownCounts, xtakenCounts, xslotUsed, xslotLoad, xstretchNumber, xstretchGone, xstretchRow, xstretchWays, xatWork, xplace, xvariables, xrow, xrowWays, xwayOn, xpart) => post (xdepth, xsignal, xcarried, xlatest, xload, xsizes, xops, xargsA, xargsB, xlines, xguards, xfroms, xtos, xats, xbegunCounts, xthrownCounts, xtakenCounts, xslotUsed, xslotLoad, xstretchNumber, xstretchGone, xstretchRow, xstretchWays, xatWork, xplace, xvariables, xrow, xrowWays, xwayOn, xpart)) (xdepth, xsignal, xcarried, xlatest, nI (L + 1), xsizes, xops, xargsA, xargsB, xlines, xguards, xfroms, xtos, xats, upd xbegunCounts (24 * m + i) (xbegunCounts (24 * m + i) + 1), xthrownCounts, xtakenCounts, xslotUsed, xslotLoad, xstretchNumber, xstretchGone, xstretchRow, xstretchWays, xatWork, xplace, xvariables, upd xrow d (xrow d ||| ((1 : Int32) <<< (xplace d &&& 31))), vp_updL xrowWays d (xrowWays d ||| xwayOn d), xwayOn, xpart) 0 0) : wpX_performOne post (xdepth, xsignal, xcarried, xlatest, xload, xsizes, xops, xargsA, xargsB, xlines, xguards, xfroms, xtos, xats, xbegunCounts, xthrownCounts, xtakenCounts, xslotUsed, xslotLoad, xstretchNumber, xstretchGone, xstretchRow, xstretchWays, xatWork, xplace, xvariables, xrow, xrowWays, xwayOn, xpart) := by
  have ws : vp_in (nI (24 * m + i)) 408 := vp_in_nI (by omega) (by omega)
  have es : (nI (24 * m + i)).toNatClampNeg = 24 * m + i := nI_clamp (by omega)
  have wv : vp_in (nI (4 * d + a)) 24 := vp_in_nI (by omega) (by omega)
  have cv : (nI (4 * d + a)).toNatClampNeg = 4 * d + a := nI_clamp (by omega)
  unfold wpX_performOne
  refine xo_in hd hm h24 hxd ha hp hxl haa ha4 hb3 hc4 ?_
  refine ⟨ws, nm_r (e' := 7) (by rw [es]; exact hop) ?_⟩
  refine br_f (by decide) (br_f (by decide) (br_f (by decide) (br_f (by decide) (br_t rfl ?_))))
  rw [cv]
  by_cases y : xvariables (4 * d + a) < 1
  · exact ⟨wv, br_t y h⟩
  · exact ⟨wv, br_f y ⟨wv, br_t (by rcases hz with z | z; exact absurd z y; exact z) h⟩⟩
theorem xo_8n {post : SX → Prop} {d m i a c L : Nat} (hd : d < 6) (hm : m < 4) (h24 : i < 24) (hxd : xdepth = nI (d + 1)) (ha : xatWork d = nI m) (hp : xplace d = nI i) (hxl : xload = nI L) (haa : xargsA (24 * m + i) = nI a) (ha4 : a < 4) (hb3 : xargsB (24 * m + i) &&& 3 = nI c) (hc4 : c < 4) (hP : (gp_R xsizes xops xargsA xargsB xlines xguards xfroms xtos xats yop ya yb yline ylength yfrom yto yat yhandlers ykOp ykA ykB ykLine ykLength ykFrom ykTo ykAt ykHandlers)) (hop : xops (24 * m + i) = 8) (hs : sz_f xsizes c = 0) (h : wpX_raise (fun u => match u with | (xdepth, xsignal, xcarried, xlatest, xload, xsizes, xops, xargsA, xargsB, xlines, xguards, xfroms, xtos, xats, xbegunCounts, xthrownCounts, xtakenCounts, xslotUsed, xslotLoad, xstretchNumber, xstretchGone, xstretchRow, xstretchWays, xatWork, xplace, xvariables, xrow, xrowWays, xwayOn, xpart) => post (xdepth, xsignal, xcarried, xlatest, xload, xsizes, xops, xargsA, xargsB, xlines, xguards, xfroms, xtos, xats, xbegunCounts, xthrownCounts, xtakenCounts, xslotUsed, xslotLoad, xstretchNumber, xstretchGone, xstretchRow, xstretchWays, xatWork, xplace, xvariables, xrow, xrowWays, xwayOn, xpart)) (xdepth, xsignal, xcarried, xlatest, nI (L + 1), xsizes, xops, xargsA, xargsB, xlines, xguards, xfroms, xtos, xats, upd xbegunCounts (24 * m + i) (xbegunCounts (24 * m + i) + 1), xthrownCounts, xtakenCounts, xslotUsed, xslotLoad, xstretchNumber, xstretchGone, xstretchRow, xstretchWays, xatWork, xplace, xvariables, upd xrow d (xrow d ||| ((1 : Int32) <<< (xplace d &&& 31))), vp_updL xrowWays d (xrowWays d ||| xwayOn d), xwayOn, xpart) (-1)) : wpX_performOne post (xdepth, xsignal, xcarried, xlatest, xload, xsizes, xops, xargsA, xargsB, xlines, xguards, xfroms, xtos, xats, xbegunCounts, xthrownCounts, xtakenCounts, xslotUsed, xslotLoad, xstretchNumber, xstretchGone, xstretchRow, xstretchWays, xatWork, xplace, xvariables, xrow, xrowWays, xwayOn, xpart) := by
  have ws : vp_in (nI (24 * m + i)) 408 := vp_in_nI (by omega) (by omega)
  have es : (nI (24 * m + i)).toNatClampNeg = 24 * m + i := nI_clamp (by omega)
  have wv : vp_in (nI (4 * d + a)) 24 := vp_in_nI (by omega) (by omega)
  have cv : (nI (4 * d + a)).toNatClampNeg = 4 * d + a := nI_clamp (by omega)
  unfold wpX_performOne
  refine xo_in hd hm h24 hxd ha hp hxl haa ha4 hb3 hc4 ?_
  refine ⟨ws, nm_r (e' := 8) (by rw [es]; exact hop) ?_⟩
  refine br_f (by decide) (br_f (by decide) (br_f (by decide) (br_f (by decide) (br_f (by decide) (br_t rfl ?_)))))
  rw [hb3]
  exact it_f hP hc4 hs (br_t rfl h)
theorem xo_8d {post : SX → Prop} {d m i a c L : Nat} (hd : d < 6) (hm : m < 4) (h24 : i < 24) (hxd : xdepth = nI (d + 1)) (ha : xatWork d = nI m) (hp : xplace d = nI i) (hxl : xload = nI L) (haa : xargsA (24 * m + i) = nI a) (ha4 : a < 4) (hb3 : xargsB (24 * m + i) &&& 3 = nI c) (hc4 : c < 4) (hP : (gp_R xsizes xops xargsA xargsB xlines xguards xfroms xtos xats yop ya yb yline ylength yfrom yto yat yhandlers ykOp ykA ykB ykLine ykLength ykFrom ykTo ykAt ykHandlers)) (hop : xops (24 * m + i) = 8) (hs : 0 < sz_f xsizes c) (h6 : d = 5) (h : wpX_raise (fun u => match u with | (xdepth, xsignal, xcarried, xlatest, xload, xsizes, xops, xargsA, xargsB, xlines, xguards, xfroms, xtos, xats, xbegunCounts, xthrownCounts, xtakenCounts, xslotUsed, xslotLoad, xstretchNumber, xstretchGone, xstretchRow, xstretchWays, xatWork, xplace, xvariables, xrow, xrowWays, xwayOn, xpart) => post (xdepth, xsignal, xcarried, xlatest, xload, xsizes, xops, xargsA, xargsB, xlines, xguards, xfroms, xtos, xats, xbegunCounts, xthrownCounts, xtakenCounts, xslotUsed, xslotLoad, xstretchNumber, xstretchGone, xstretchRow, xstretchWays, xatWork, xplace, xvariables, xrow, xrowWays, xwayOn, xpart)) (xdepth, xsignal, xcarried, xlatest, nI (L + 1), xsizes, xops, xargsA, xargsB, xlines, xguards, xfroms, xtos, xats, upd xbegunCounts (24 * m + i) (xbegunCounts (24 * m + i) + 1), xthrownCounts, xtakenCounts, xslotUsed, xslotLoad, xstretchNumber, xstretchGone, xstretchRow, xstretchWays, xatWork, xplace, xvariables, upd xrow d (xrow d ||| ((1 : Int32) <<< (xplace d &&& 31))), vp_updL xrowWays d (xrowWays d ||| xwayOn d), xwayOn, xpart) (-2)) : wpX_performOne post (xdepth, xsignal, xcarried, xlatest, xload, xsizes, xops, xargsA, xargsB, xlines, xguards, xfroms, xtos, xats, xbegunCounts, xthrownCounts, xtakenCounts, xslotUsed, xslotLoad, xstretchNumber, xstretchGone, xstretchRow, xstretchWays, xatWork, xplace, xvariables, xrow, xrowWays, xwayOn, xpart) := by
  have ws : vp_in (nI (24 * m + i)) 408 := vp_in_nI (by omega) (by omega)
  have es : (nI (24 * m + i)).toNatClampNeg = 24 * m + i := nI_clamp (by omega)
  have wv : vp_in (nI (4 * d + a)) 24 := vp_in_nI (by omega) (by omega)
  have cv : (nI (4 * d + a)).toNatClampNeg = 4 * d + a := nI_clamp (by omega)
  unfold wpX_performOne
  refine xo_in hd hm h24 hxd ha hp hxl haa ha4 hb3 hc4 ?_
  refine ⟨ws, nm_r (e' := 8) (by rw [es]; exact hop) ?_⟩
  refine br_f (by decide) (br_f (by decide) (br_f (by decide) (br_f (by decide) (br_f (by decide) (br_t rfl ?_)))))
  rw [hb3]
  exact it_t hP hc4 hs (br_f (by decide) (br_f (by rw [hxd, h6]; decide) h))
theorem xo_8e {post : SX → Prop} {d m i a c L : Nat} (hd : d < 6) (hm : m < 4) (h24 : i < 24) (hxd : xdepth = nI (d + 1)) (ha : xatWork d = nI m) (hp : xplace d = nI i) (hxl : xload = nI L) (haa : xargsA (24 * m + i) = nI a) (ha4 : a < 4) (hb3 : xargsB (24 * m + i) &&& 3 = nI c) (hc4 : c < 4) (hP : (gp_R xsizes xops xargsA xargsB xlines xguards xfroms xtos xats yop ya yb yline ylength yfrom yto yat yhandlers ykOp ykA ykB ykLine ykLength ykFrom ykTo ykAt ykHandlers)) (hop : xops (24 * m + i) = 8) (hs : 0 < sz_f xsizes c) (h6 : d < 5) (h : wpX_enter (fun u => match u with | (xdepth, xsignal, xcarried, xlatest, xload, xsizes, xops, xargsA, xargsB, xlines, xguards, xfroms, xtos, xats, xbegunCounts, xthrownCounts, xtakenCounts, xslotUsed, xslotLoad, xstretchNumber, xstretchGone, xstretchRow, xstretchWays, xatWork, xplace, xvariables, xrow, xrowWays, xwayOn, xpart) => post (xdepth, xsignal, xcarried, xlatest, xload, xsizes, xops, xargsA, xargsB, xlines, xguards, xfroms, xtos, xats, xbegunCounts, xthrownCounts, xtakenCounts, xslotUsed, xslotLoad, xstretchNumber, xstretchGone, xstretchRow, xstretchWays, xatWork, xplace, xvariables, xrow, xrowWays, xwayOn, xpart)) (xdepth, xsignal, xcarried, xlatest, nI (L + 1), xsizes, xops, xargsA, xargsB, xlines, xguards, xfroms, xtos, xats, upd xbegunCounts (24 * m + i) (xbegunCounts (24 * m + i) + 1), xthrownCounts, xtakenCounts, xslotUsed, xslotLoad, xstretchNumber, xstretchGone, xstretchRow, xstretchWays, xatWork, xplace, xvariables, upd xrow d (xrow d ||| ((1 : Int32) <<< (xplace d &&& 31))), vp_updL xrowWays d (xrowWays d ||| xwayOn d), xwayOn, xpart) (nI c) (xvariables (4 * d)) (xvariables (4 * d + 1))) : wpX_performOne post (xdepth, xsignal, xcarried, xlatest, xload, xsizes, xops, xargsA, xargsB, xlines, xguards, xfroms, xtos, xats, xbegunCounts, xthrownCounts, xtakenCounts, xslotUsed, xslotLoad, xstretchNumber, xstretchGone, xstretchRow, xstretchWays, xatWork, xplace, xvariables, xrow, xrowWays, xwayOn, xpart) := by
  have ws : vp_in (nI (24 * m + i)) 408 := vp_in_nI (by omega) (by omega)
  have es : (nI (24 * m + i)).toNatClampNeg = 24 * m + i := nI_clamp (by omega)
  have wv : vp_in (nI (4 * d + a)) 24 := vp_in_nI (by omega) (by omega)
  have cv : (nI (4 * d + a)).toNatClampNeg = 4 * d + a := nI_clamp (by omega)
  have w0 : vp_in (nI (4 * d)) 24 := vp_in_nI (by omega) (by omega)
  have w1 : vp_in (nI (4 * d) + 1) 24 := ix_in (nI_1 (4 * d)) (by omega) (by omega)
  have c0 : (nI (4 * d)).toNatClampNeg = 4 * d := nI_clamp (by omega)
  have c1 : (nI (4 * d) + 1).toNatClampNeg = 4 * d + 1 := ix_cl (nI_1 (4 * d)) (by omega)
  unfold wpX_performOne
  refine xo_in hd hm h24 hxd ha hp hxl haa ha4 hb3 hc4 ?_
  refine ⟨ws, nm_r (e' := 8) (by rw [es]; exact hop) ?_⟩
  refine br_f (by decide) (br_f (by decide) (br_f (by decide) (br_f (by decide) (br_f (by decide) (br_t rfl ?_)))))
  rw [hb3, c0, c1]
  exact it_t hP hc4 hs (br_f (by decide) (br_t (by rw [hxd]; exact nI_lt (b := 6) (by omega) (by decide)) ⟨w0, w1, h⟩))
theorem xo_9 {post : SX → Prop} {d m i a c L : Nat} (hd : d < 6) (hm : m < 4) (h24 : i < 24) (hxd : xdepth = nI (d + 1)) (ha : xatWork d = nI m) (hp : xplace d = nI i) (hxl : xload = nI L) (haa : xargsA (24 * m + i) = nI a) (ha4 : a < 4) (hb3 : xargsB (24 * m + i) &&& 3 = nI c) (hc4 : c < 4) (hop : xops (24 * m + i) = 9) (h : wpX_follow (fun u => match u with | (xdepth, xsignal, xcarried, xlatest, xload, xsizes, xops, xargsA, xargsB, xlines, xguards, xfroms, xtos, xats, xbegunCounts, xthrownCounts, xtakenCounts, xslotUsed, xslotLoad, xstretchNumber, xstretchGone, xstretchRow, xstretchWays, xatWork, xplace, xvariables, xrow, xrowWays, xwayOn, xpart) => post (xdepth, xsignal, xcarried, xlatest, xload, xsizes, xops, xargsA, xargsB, xlines, xguards, xfroms, xtos, xats, xbegunCounts, xthrownCounts, xtakenCounts, xslotUsed, xslotLoad, xstretchNumber, xstretchGone, xstretchRow, xstretchWays, xatWork, xplace, xvariables, xrow, xrowWays, xwayOn, xpart)) (xdepth, xsignal, xcarried, xlatest, nI (L + 1), xsizes, xops, xargsA, xargsB, xlines, xguards, xfroms, xtos, xats, upd xbegunCounts (24 * m + i) (xbegunCounts (24 * m + i) + 1), xthrownCounts, xtakenCounts, xslotUsed, xslotLoad, xstretchNumber, xstretchGone, xstretchRow, xstretchWays, xatWork, xplace, xvariables, upd xrow d (xrow d ||| ((1 : Int32) <<< (xplace d &&& 31))), vp_updL xrowWays d (xrowWays d ||| xwayOn d), xwayOn, xpart) 0 (xvariables (4 * d + a))) : wpX_performOne post (xdepth, xsignal, xcarried, xlatest, xload, xsizes, xops, xargsA, xargsB, xlines, xguards, xfroms, xtos, xats, xbegunCounts, xthrownCounts, xtakenCounts, xslotUsed, xslotLoad, xstretchNumber, xstretchGone, xstretchRow, xstretchWays, xatWork, xplace, xvariables, xrow, xrowWays, xwayOn, xpart) := by
  have ws : vp_in (nI (24 * m + i)) 408 := vp_in_nI (by omega) (by omega)
  have es : (nI (24 * m + i)).toNatClampNeg = 24 * m + i := nI_clamp (by omega)
  have wv : vp_in (nI (4 * d + a)) 24 := vp_in_nI (by omega) (by omega)
  have cv : (nI (4 * d + a)).toNatClampNeg = 4 * d + a := nI_clamp (by omega)
  unfold wpX_performOne
  refine xo_in hd hm h24 hxd ha hp hxl haa ha4 hb3 hc4 ?_
  refine ⟨ws, nm_r (e' := 9) (by rw [es]; exact hop) ?_⟩
  refine br_f (by decide) (br_f (by decide) (br_f (by decide) (br_f (by decide) (br_f (by decide) (br_f (by decide) (br_t rfl ?_))))))
  rw [cv]
  exact ⟨wv, h⟩
theorem xo_10 {post : SX → Prop} {d m i a c L : Nat} (hd : d < 6) (hm : m < 4) (h24 : i < 24) (hxd : xdepth = nI (d + 1)) (ha : xatWork d = nI m) (hp : xplace d = nI i) (hxl : xload = nI L) (haa : xargsA (24 * m + i) = nI a) (ha4 : a < 4) (hb3 : xargsB (24 * m + i) &&& 3 = nI c) (hc4 : c < 4) (hop : xops (24 * m + i) = 10) (h : wpX_raise (fun u => match u with | (xdepth, xsignal, xcarried, xlatest, xload, xsizes, xops, xargsA, xargsB, xlines, xguards, xfroms, xtos, xats, xbegunCounts, xthrownCounts, xtakenCounts, xslotUsed, xslotLoad, xstretchNumber, xstretchGone, xstretchRow, xstretchWays, xatWork, xplace, xvariables, xrow, xrowWays, xwayOn, xpart) => post (xdepth, xsignal, xcarried, xlatest, xload, xsizes, xops, xargsA, xargsB, xlines, xguards, xfroms, xtos, xats, xbegunCounts, xthrownCounts, xtakenCounts, xslotUsed, xslotLoad, xstretchNumber, xstretchGone, xstretchRow, xstretchWays, xatWork, xplace, xvariables, xrow, xrowWays, xwayOn, xpart)) (xdepth, xsignal, xcarried, xlatest, nI (L + 1), xsizes, xops, xargsA, xargsB, xlines, xguards, xfroms, xtos, xats, upd xbegunCounts (24 * m + i) (xbegunCounts (24 * m + i) + 1), xthrownCounts, xtakenCounts, xslotUsed, xslotLoad, xstretchNumber, xstretchGone, xstretchRow, xstretchWays, xatWork, xplace, xvariables, upd xrow d (xrow d ||| ((1 : Int32) <<< (xplace d &&& 31))), vp_updL xrowWays d (xrowWays d ||| xwayOn d), xwayOn, xpart) (xvariables (4 * d + a))) : wpX_performOne post (xdepth, xsignal, xcarried, xlatest, xload, xsizes, xops, xargsA, xargsB, xlines, xguards, xfroms, xtos, xats, xbegunCounts, xthrownCounts, xtakenCounts, xslotUsed, xslotLoad, xstretchNumber, xstretchGone, xstretchRow, xstretchWays, xatWork, xplace, xvariables, xrow, xrowWays, xwayOn, xpart) := by
  have ws : vp_in (nI (24 * m + i)) 408 := vp_in_nI (by omega) (by omega)
  have es : (nI (24 * m + i)).toNatClampNeg = 24 * m + i := nI_clamp (by omega)
  have wv : vp_in (nI (4 * d + a)) 24 := vp_in_nI (by omega) (by omega)
  have cv : (nI (4 * d + a)).toNatClampNeg = 4 * d + a := nI_clamp (by omega)
  unfold wpX_performOne
  refine xo_in hd hm h24 hxd ha hp hxl haa ha4 hb3 hc4 ?_
  refine ⟨ws, nm_r (e' := 10) (by rw [es]; exact hop) ?_⟩
  refine br_f (by decide) (br_f (by decide) (br_f (by decide) (br_f (by decide) (br_f (by decide) (br_f (by decide) (br_f (by decide) (br_t rfl ?_)))))))
  rw [cv]
  exact ⟨wv, h⟩
theorem xo_11z {post : SX → Prop} {d m i a c L : Nat} (hd : d < 6) (hm : m < 4) (h24 : i < 24) (hxd : xdepth = nI (d + 1)) (ha : xatWork d = nI m) (hp : xplace d = nI i) (hxl : xload = nI L) (haa : xargsA (24 * m + i) = nI a) (ha4 : a < 4) (hb3 : xargsB (24 * m + i) &&& 3 = nI c) (hc4 : c < 4) (hop : xops (24 * m + i) = 11) (hz : xvariables (4 * d + c) = 0) (h : wpX_raise (fun u => match u with | (xdepth, xsignal, xcarried, xlatest, xload, xsizes, xops, xargsA, xargsB, xlines, xguards, xfroms, xtos, xats, xbegunCounts, xthrownCounts, xtakenCounts, xslotUsed, xslotLoad, xstretchNumber, xstretchGone, xstretchRow, xstretchWays, xatWork, xplace, xvariables, xrow, xrowWays, xwayOn, xpart) => post (xdepth, xsignal, xcarried, xlatest, xload, xsizes, xops, xargsA, xargsB, xlines, xguards, xfroms, xtos, xats, xbegunCounts, xthrownCounts, xtakenCounts, xslotUsed, xslotLoad, xstretchNumber, xstretchGone, xstretchRow, xstretchWays, xatWork, xplace, xvariables, xrow, xrowWays, xwayOn, xpart)) (xdepth, xsignal, xcarried, xlatest, nI (L + 1), xsizes, xops, xargsA, xargsB, xlines, xguards, xfroms, xtos, xats, upd xbegunCounts (24 * m + i) (xbegunCounts (24 * m + i) + 1), xthrownCounts, xtakenCounts, xslotUsed, xslotLoad, xstretchNumber, xstretchGone, xstretchRow, xstretchWays, xatWork, xplace, xvariables, upd xrow d (xrow d ||| ((1 : Int32) <<< (xplace d &&& 31))), vp_updL xrowWays d (xrowWays d ||| xwayOn d), xwayOn, xpart) 0) : wpX_performOne post (xdepth, xsignal, xcarried, xlatest, xload, xsizes, xops, xargsA, xargsB, xlines, xguards, xfroms, xtos, xats, xbegunCounts, xthrownCounts, xtakenCounts, xslotUsed, xslotLoad, xstretchNumber, xstretchGone, xstretchRow, xstretchWays, xatWork, xplace, xvariables, xrow, xrowWays, xwayOn, xpart) := by
  have ws : vp_in (nI (24 * m + i)) 408 := vp_in_nI (by omega) (by omega)
  have es : (nI (24 * m + i)).toNatClampNeg = 24 * m + i := nI_clamp (by omega)
  have wv : vp_in (nI (4 * d + a)) 24 := vp_in_nI (by omega) (by omega)
  have cv : (nI (4 * d + a)).toNatClampNeg = 4 * d + a := nI_clamp (by omega)
  unfold wpX_performOne
  refine xo_in hd hm h24 hxd ha hp hxl haa ha4 hb3 hc4 ?_
  refine ⟨ws, nm_r (e' := 11) (by rw [es]; exact hop) ?_⟩
  exact br_f (by decide) (br_f (by decide) (br_f (by decide) (br_f (by decide) (br_f (by decide) (br_f (by decide) (br_f (by decide) (br_f (by decide) (br_t rfl (br_t hz h)))))))))
theorem xo_11 {post : SX → Prop} {d m i a c L : Nat} (hd : d < 6) (hm : m < 4) (h24 : i < 24) (hxd : xdepth = nI (d + 1)) (ha : xatWork d = nI m) (hp : xplace d = nI i) (hxl : xload = nI L) (haa : xargsA (24 * m + i) = nI a) (ha4 : a < 4) (hb3 : xargsB (24 * m + i) &&& 3 = nI c) (hc4 : c < 4) (hop : xops (24 * m + i) = 11) (hz : ¬ xvariables (4 * d + c) = 0) (h : wpX_follow (fun u => match u with | (xdepth, xsignal, xcarried, xlatest, xload, xsizes, xops, xargsA, xargsB, xlines, xguards, xfroms, xtos, xats, xbegunCounts, xthrownCounts, xtakenCounts, xslotUsed, xslotLoad, xstretchNumber, xstretchGone, xstretchRow, xstretchWays, xatWork, xplace, xvariables, xrow, xrowWays, xwayOn, xpart) => post (xdepth, xsignal, xcarried, xlatest, xload, xsizes, xops, xargsA, xargsB, xlines, xguards, xfroms, xtos, xats, xbegunCounts, xthrownCounts, xtakenCounts, xslotUsed, xslotLoad, xstretchNumber, xstretchGone, xstretchRow, xstretchWays, xatWork, xplace, xvariables, xrow, xrowWays, xwayOn, xpart)) (xdepth, xsignal, xcarried, xlatest, nI (L + 1), xsizes, xops, xargsA, xargsB, xlines, xguards, xfroms, xtos, xats, upd xbegunCounts (24 * m + i) (xbegunCounts (24 * m + i) + 1), xthrownCounts, xtakenCounts, xslotUsed, xslotLoad, xstretchNumber, xstretchGone, xstretchRow, xstretchWays, xatWork, xplace, upd xvariables (4 * d + a) (xvariables (4 * d + a) / xvariables (4 * d + c)), upd xrow d (xrow d ||| ((1 : Int32) <<< (xplace d &&& 31))), vp_updL xrowWays d (xrowWays d ||| xwayOn d), xwayOn, xpart) 0 0) : wpX_performOne post (xdepth, xsignal, xcarried, xlatest, xload, xsizes, xops, xargsA, xargsB, xlines, xguards, xfroms, xtos, xats, xbegunCounts, xthrownCounts, xtakenCounts, xslotUsed, xslotLoad, xstretchNumber, xstretchGone, xstretchRow, xstretchWays, xatWork, xplace, xvariables, xrow, xrowWays, xwayOn, xpart) := by
  have ws : vp_in (nI (24 * m + i)) 408 := vp_in_nI (by omega) (by omega)
  have es : (nI (24 * m + i)).toNatClampNeg = 24 * m + i := nI_clamp (by omega)
  have wv : vp_in (nI (4 * d + a)) 24 := vp_in_nI (by omega) (by omega)
  have cv : (nI (4 * d + a)).toNatClampNeg = 4 * d + a := nI_clamp (by omega)
  unfold wpX_performOne
  refine xo_in hd hm h24 hxd ha hp hxl haa ha4 hb3 hc4 ?_
  refine ⟨ws, nm_r (e' := 11) (by rw [es]; exact hop) ?_⟩
  refine br_f (by decide) (br_f (by decide) (br_f (by decide) (br_f (by decide) (br_f (by decide) (br_f (by decide) (br_f (by decide) (br_f (by decide) (br_t rfl ?_))))))))
  rw [cv]
  exact br_f hz ⟨wv, hz, wv, nm_e h⟩
/-- SET, ADD, MOVE, SUB -/
theorem xo_v {post : SX → Prop} {d m i a c L : Nat} (hd : d < 6) (hm : m < 4) (h24 : i < 24) (hxd : xdepth = nI (d + 1)) (ha : xatWork d = nI m) (hp : xplace d = nI i) (hxl : xload = nI L) (haa : xargsA (24 * m + i) = nI a) (ha4 : a < 4) (hb3 : xargsB (24 * m + i) &&& 3 = nI c) (hc4 : c < 4) {z : Int32} (hop : (xops (24 * m + i) = 0 ∧ z = xargsB (24 * m + i)) ∨ (xops (24 * m + i) = 1 ∧ z = xvariables (4 * d + a) + xargsB (24 * m + i)) ∨ (xops (24 * m + i) = 2 ∧ z = xvariables (4 * d + c)) ∨ (xops (24 * m + i) = 3 ∧ z = xvariables (4 * d + a) - xvariables (4 * d + c)))
    (h : wpX_follow (fun u => match u with | (xdepth, xsignal, xcarried, xlatest, xload, xsizes, xops, xargsA, xargsB, xlines, xguards, xfroms, xtos, xats, xbegunCounts, xthrownCounts, xtakenCounts, xslotUsed, xslotLoad, xstretchNumber, xstretchGone, xstretchRow, xstretchWays, xatWork, xplace, xvariables, xrow, xrowWays, xwayOn, xpart) => post (xdepth, xsignal, xcarried, xlatest, xload, xsizes, xops, xargsA, xargsB, xlines, xguards, xfroms, xtos, xats, xbegunCounts, xthrownCounts, xtakenCounts, xslotUsed, xslotLoad, xstretchNumber, xstretchGone, xstretchRow, xstretchWays, xatWork, xplace, xvariables, xrow, xrowWays, xwayOn, xpart)) (xdepth, xsignal, xcarried, xlatest, nI (L + 1), xsizes, xops, xargsA, xargsB, xlines, xguards, xfroms, xtos, xats, upd xbegunCounts (24 * m + i) (xbegunCounts (24 * m + i) + 1), xthrownCounts, xtakenCounts, xslotUsed, xslotLoad, xstretchNumber, xstretchGone, xstretchRow, xstretchWays, xatWork, xplace, upd xvariables (4 * d + a) z, upd xrow d (xrow d ||| ((1 : Int32) <<< (xplace d &&& 31))), vp_updL xrowWays d (xrowWays d ||| xwayOn d), xwayOn, xpart) 0 0) : wpX_performOne post (xdepth, xsignal, xcarried, xlatest, xload, xsizes, xops, xargsA, xargsB, xlines, xguards, xfroms, xtos, xats, xbegunCounts, xthrownCounts, xtakenCounts, xslotUsed, xslotLoad, xstretchNumber, xstretchGone, xstretchRow, xstretchWays, xatWork, xplace, xvariables, xrow, xrowWays, xwayOn, xpart) := by
  have ws : vp_in (nI (24 * m + i)) 408 := vp_in_nI (by omega) (by omega)
  have es : (nI (24 * m + i)).toNatClampNeg = 24 * m + i := nI_clamp (by omega)
  have wv : vp_in (nI (4 * d + a)) 24 := vp_in_nI (by omega) (by omega)
  have cv : (nI (4 * d + a)).toNatClampNeg = 4 * d + a := nI_clamp (by omega)
  unfold wpX_performOne
  refine xo_in hd hm h24 hxd ha hp hxl haa ha4 hb3 hc4 ?_
  dsimp only
  rw [es]
  refine ⟨ws, nm_e ?_⟩
  rcases hop with ⟨e, rfl⟩ | ⟨e, rfl⟩ | ⟨e, rfl⟩ | ⟨e, rfl⟩
  · rw [e]
    refine br_t (by decide) ⟨ws, ?_⟩
    refine br_f (by decide) (br_f (by decide) (br_t rfl ⟨wv, nm_r (e' := upd xvariables (4 * d + a) (xargsB (24 * m + i))) (by rw [cv]) h⟩))
  · rw [e]
    refine br_t (by decide) ⟨ws, ?_⟩
    refine br_f (by decide) (br_f (by decide) (br_f (by decide) (br_t rfl ⟨wv, wv, nm_r (e' := upd xvariables (4 * d + a) (xvariables (4 * d + a) + xargsB (24 * m + i))) (by rw [cv]) h⟩)))
  · rw [e]
    refine br_t (by decide) ⟨ws, ?_⟩
    refine br_f (by decide) (br_f (by decide) (br_f (by decide) (br_f (by decide) (br_t rfl ⟨wv, nm_r (e' := upd xvariables (4 * d + a) (xvariables (4 * d + c))) (by rw [cv]) h⟩))))
  · rw [e]
    refine br_t (by decide) ⟨ws, ?_⟩
    refine br_f (by decide) (br_f (by decide) (br_f (by decide) (br_f (by decide) (br_f (by decide) (br_t rfl ⟨wv, wv, nm_r (e' := upd xvariables (4 * d + a) (xvariables (4 * d + a) - xvariables (4 * d + c))) (by rw [cv]) h⟩)))))
/-- GO, and what is no op -/
theorem xo_o {post : SX → Prop} {d m i a c L : Nat} (hd : d < 6) (hm : m < 4) (h24 : i < 24) (hxd : xdepth = nI (d + 1)) (ha : xatWork d = nI m) (hp : xplace d = nI i) (hxl : xload = nI L) (haa : xargsA (24 * m + i) = nI a) (ha4 : a < 4) (hb3 : xargsB (24 * m + i) &&& 3 = nI c) (hc4 : c < 4) (hop : xops (24 * m + i) = 4 ∨ xops (24 * m + i) < 0 ∨ 11 < xops (24 * m + i)) (h : wpX_follow (fun u => match u with | (xdepth, xsignal, xcarried, xlatest, xload, xsizes, xops, xargsA, xargsB, xlines, xguards, xfroms, xtos, xats, xbegunCounts, xthrownCounts, xtakenCounts, xslotUsed, xslotLoad, xstretchNumber, xstretchGone, xstretchRow, xstretchWays, xatWork, xplace, xvariables, xrow, xrowWays, xwayOn, xpart) => post (xdepth, xsignal, xcarried, xlatest, xload, xsizes, xops, xargsA, xargsB, xlines, xguards, xfroms, xtos, xats, xbegunCounts, xthrownCounts, xtakenCounts, xslotUsed, xslotLoad, xstretchNumber, xstretchGone, xstretchRow, xstretchWays, xatWork, xplace, xvariables, xrow, xrowWays, xwayOn, xpart)) (xdepth, xsignal, xcarried, xlatest, nI (L + 1), xsizes, xops, xargsA, xargsB, xlines, xguards, xfroms, xtos, xats, upd xbegunCounts (24 * m + i) (xbegunCounts (24 * m + i) + 1), xthrownCounts, xtakenCounts, xslotUsed, xslotLoad, xstretchNumber, xstretchGone, xstretchRow, xstretchWays, xatWork, xplace, xvariables, upd xrow d (xrow d ||| ((1 : Int32) <<< (xplace d &&& 31))), vp_updL xrowWays d (xrowWays d ||| xwayOn d), xwayOn, xpart) 0 0) : wpX_performOne post (xdepth, xsignal, xcarried, xlatest, xload, xsizes, xops, xargsA, xargsB, xlines, xguards, xfroms, xtos, xats, xbegunCounts, xthrownCounts, xtakenCounts, xslotUsed, xslotLoad, xstretchNumber, xstretchGone, xstretchRow, xstretchWays, xatWork, xplace, xvariables, xrow, xrowWays, xwayOn, xpart) := by
  have ws : vp_in (nI (24 * m + i)) 408 := vp_in_nI (by omega) (by omega)
  have es : (nI (24 * m + i)).toNatClampNeg = 24 * m + i := nI_clamp (by omega)
  have wv : vp_in (nI (4 * d + a)) 24 := vp_in_nI (by omega) (by omega)
  have cv : (nI (4 * d + a)).toNatClampNeg = 4 * d + a := nI_clamp (by omega)
  unfold wpX_performOne
  refine xo_in hd hm h24 hxd ha hp hxl haa ha4 hb3 hc4 ?_
  dsimp only
  rw [es]
  refine ⟨ws, nm_e ?_⟩
  rcases hop with e | e | e
  · rw [e]
    exact br_t (by decide) ⟨ws, br_f (by decide) (br_t (by decide) h)⟩
  · exact br_t (Int32.lt_trans e (by decide)) ⟨ws, br_t e h⟩
  · have e5 : ¬ xops (24 * m + i) < 5 := Int32.not_lt.mpr (Int32.le_of_lt (Int32.lt_trans (by decide) e))
    have e3 : (3 : Int32) < xops (24 * m + i) := Int32.lt_trans (by decide) e
    have e0 : ¬ xops (24 * m + i) < 0 := Int32.not_lt.mpr (Int32.le_of_lt (Int32.lt_trans (by decide) e))
    exact br_f e5 (br_t e ⟨ws, br_f e0 (br_t e3 h)⟩)
end
end
section
/-! part 16: the reference's step; one step of both -/
section
variable {xdepth xsignal xcarried xlatest xload : Int32} {xsizes xops xargsA xargsB xlines xguards xfroms xtos xats xbegunCounts xthrownCounts xtakenCounts xslotUsed xslotLoad xstretchNumber xstretchGone xstretchRow xatWork xplace xvariables xrow xpart : Nat → Int32} {xstretchWays xrowWays xwayOn : Nat → Int64}
variable {ydepth ysteps yresult youtcome yload yover : Int32} {yop ya yb yline ylength yfrom yto yat yhandlers ybegun ytaken ythrown yrowI yrowWay yrowLength ytimes ytold ykOp ykA ykB ykLine ykLength ykFrom ykTo ykAt ykHandlers ykBegun ykTaken ykThrown ykept ymethod ypc yvariable yhereI yhereWay yhereLength yinto ykLoad ypart : Nat → Int32}
theorem ys_in {post : SY → Prop} {d m i a c q L n : Nat} (hd : d < 6) (hm : m < 4) (h24 : i < 24) (hyd : ydepth = nI (d + 1)) (hme : ymethod d = nI m) (hpc : ypc d = nI i) (hl : yhereLength d = nI q) (hq : q < 24) (hyl : yload = nI L) (hst : ysteps = nI n) (hay : ya (24 * m + i) = nI a) (ha4 : a < 4) (hb3 : yb (24 * m + i) &&& 3 = nI c) (hc4 : c < 4)
    (h0 : yop (24 * m + i) = 0 → wY_step_178 post (nI (24 * m + i)) (nI (4 * d + a)) (yvariable (4 * d + c)) (yop (24 * m + i)) ydepth (nI (n + 1)) yresult youtcome (nI (L + 1)) yover yop ya yb yline ylength yfrom yto yat yhandlers (upd ybegun (24 * m + i) (ybegun (24 * m + i) + 1)) ytaken ythrown yrowI yrowWay yrowLength ytimes ytold ykOp ykA ykB ykLine ykLength ykFrom ykTo ykAt ykHandlers ykBegun ykTaken ykThrown ykept ymethod ypc (upd yvariable (4 * d + a) (yb (24 * m + i))) (upd yhereI (24 * d + q) (nI i)) (upd yhereWay (24 * d + q) (if q = 0 then 0 else yinto d)) (upd yhereLength d (nI (q + 1))) yinto ykLoad ypart)
    (h1 : ¬ yop (24 * m + i) = 0 → wY_step_178 post (nI (24 * m + i)) (nI (4 * d + a)) (yvariable (4 * d + c)) (yop (24 * m + i)) ydepth (nI (n + 1)) yresult youtcome (nI (L + 1)) yover yop ya yb yline ylength yfrom yto yat yhandlers (upd ybegun (24 * m + i) (ybegun (24 * m + i) + 1)) ytaken ythrown yrowI yrowWay yrowLength ytimes ytold ykOp ykA ykB ykLine ykLength ykFrom ykTo ykAt ykHandlers ykBegun ykTaken ykThrown ykept ymethod ypc yvariable (upd yhereI (24 * d + q) (nI i)) (upd yhereWay (24 * d + q) (if q = 0 then 0 else yinto d)) (upd yhereLength d (nI (q + 1))) yinto ykLoad ypart) : wpY_step post (ydepth, ysteps, yresult, youtcome, yload, yover, yop, ya, yb, yline, ylength, yfrom, yto, yat, yhandlers, ybegun, ytaken, ythrown, yrowI, yrowWay, yrowLength, ytimes, ytold, ykOp, ykA, ykB, ykLine, ykLength, ykFrom, ykTo, ykAt, ykHandlers, ykBegun, ykTaken, ykThrown, ykept, ymethod, ypc, yvariable, yhereI, yhereWay, yhereLength, yinto, ykLoad, ypart) := by
  have ed : (nI d).toNatClampNeg = d := nI_clamp (by omega)
  have w : vp_in (nI d) 6 := vp_in_nI hd (by omega)
  have es : (nI (24 * m + i)).toNatClampNeg = 24 * m + i := nI_clamp (by omega)
  have w96 : vp_in (nI (24 * m + i)) 96 := vp_in_nI (by omega) (by omega)
  have ws : vp_in (nI (24 * m + i)) 120 := vp_in_nI (by omega) (by omega)
  have eq : (nI (24 * d + q)).toNatClampNeg = 24 * d + q := nI_clamp (by omega)
  have wq : vp_in (nI (24 * d + q)) 144 := vp_in_nI (by omega) (by omega)
  have ev : 4 * nI d + (yb (24 * m + i) &&& 3) = nI (4 * d + c) := by rw [hb3]; exact iy_4 d c
  have wv : vp_in (nI (4 * d + a)) 24 := vp_in_nI (by omega) (by omega)
  have cv : (nI (4 * d + a)).toNatClampNeg = 4 * d + a := nI_clamp (by omega)
  have ey : ydepth - 1 = nI d := by rw [hyd]; exact nI_pred d
  have K : wY_step_106 post (nI d) (nI (24 * m + i)) (if q = 0 then 0 else yinto d) (nI (24 * d + q)) ydepth (nI (n + 1)) yresult youtcome (nI (L + 1)) yover yop ya yb yline ylength yfrom yto yat yhandlers (upd ybegun (24 * m + i) (ybegun (24 * m + i) + 1)) ytaken ythrown yrowI yrowWay yrowLength ytimes ytold ykOp ykA ykB ykLine ykLength ykFrom ykTo ykAt ykHandlers ykBegun ykTaken ykThrown ykept ymethod ypc yvariable (upd yhereI (24 * d + q) (nI i)) yhereWay yhereLength yinto ykLoad ypart := by
    unfold wY_step_106
    rw [eq, ed, hl, es, hay, nI_1, iy_4, ev, ix_cl (x := nI (4 * d + c)) rfl (by omega)]
    refine ⟨wq, nm_e ⟨w, w, nm_e ⟨ws, nm_e ⟨ws, vp_in_nI (by omega) (by omega), nm_e ⟨ws, nm_e ?_⟩⟩⟩⟩⟩
    rw [cv]
    exact ⟨fun z => ⟨ws, wv, nm_e (h0 z)⟩, fun z => h1 z⟩
  refine nm_r ey ⟨w, nm_r (e' := nI m) (by rw [ed]; exact hme) ⟨w, nm_r (e' := nI i) (by rw [ed]; exact hpc) (nm_r (e' := nI (24 * m + i)) (iy_24 m i) ⟨w, nm_r (e' := nI (24 * d + q)) (by rw [ed, hl]; exact iy_24 d q) (nm_r (e' := nI (n + 1)) (by rw [hst]; exact nI_1 n) (nm_r (e' := nI (L + 1)) (by rw [hyl]; exact nI_1 L) ⟨w96, w96, nm_r (e' := upd ybegun (24 * m + i) (ybegun (24 * m + i) + 1)) (by rw [es]) ⟨wq, nm_r (e' := upd yhereI (24 * d + q) (nI i)) (by rw [eq]) ⟨w, ?_⟩⟩⟩))⟩)⟩⟩
  rw [ed, hl]
  by_cases z : q = 0
  · rw [if_pos z] at K
    subst z
    exact br_t rfl K
  · rw [if_neg z] at K
    exact br_f (nI_ne0 (by omega) (by omega)) ⟨w, K⟩
/-- past SET, ADD, MOVE, SUB -/
theorem yt_178 {post : SY → Prop} {x4 x6 x7 op : Int32} (n1 : ¬ op = 1) (n2 : ¬ op = 2) (n3 : ¬ op = 3) (h : wY_step_234 post x4 x6 x7 op ydepth ysteps yresult youtcome yload yover yop ya yb yline ylength yfrom yto yat yhandlers ybegun ytaken ythrown yrowI yrowWay yrowLength ytimes ytold ykOp ykA ykB ykLine ykLength ykFrom ykTo ykAt ykHandlers ykBegun ykTaken ykThrown ykept ymethod ypc yvariable yhereI yhereWay yhereLength yinto ykLoad ypart) : wY_step_178 post x4 x6 x7 op ydepth ysteps yresult youtcome yload yover yop ya yb yline ylength yfrom yto yat yhandlers ybegun ytaken ythrown yrowI yrowWay yrowLength ytimes ytold ykOp ykA ykB ykLine ykLength ykFrom ykTo ykAt ykHandlers ykBegun ykTaken ykThrown ykept ymethod ypc yvariable yhereI yhereWay yhereLength yinto ykLoad ypart :=
  br_f n1 (br_f n2 (br_f n3 h))
/-- no op of its own: way 0 -/
theorem yt_234 {post : SY → Prop} {x4 x7 op : Int32} {w : Nat} (hw : w < 24) (n5 : ¬ op = 5) (n6 : ¬ op = 6) (n7 : ¬ op = 7) (n8 : ¬ op = 8) (n9 : ¬ op = 9) (nA : ¬ op = 10) (nB : ¬ op = 11) (h : wpY_leave (fun u => match u with | (ydepth, ysteps, yresult, youtcome, yload, yover, yop, ya, yb, yline, ylength, yfrom, yto, yat, yhandlers, ybegun, ytaken, ythrown, yrowI, yrowWay, yrowLength, ytimes, ytold, ykOp, ykA, ykB, ykLine, ykLength, ykFrom, ykTo, ykAt, ykHandlers, ykBegun, ykTaken, ykThrown, ykept, ymethod, ypc, yvariable, yhereI, yhereWay, yhereLength, yinto, ykLoad, ypart) => post (ydepth, ysteps, yresult, youtcome, yload, yover, yop, ya, yb, yline, ylength, yfrom, yto, yat, yhandlers, ybegun, ytaken, ythrown, yrowI, yrowWay, yrowLength, ytimes, ytold, ykOp, ykA, ykB, ykLine, ykLength, ykFrom, ykTo, ykAt, ykHandlers, ykBegun, ykTaken, ykThrown, ykept, ymethod, ypc, yvariable, yhereI, yhereWay, yhereLength, yinto, ykLoad, ypart)) (ydepth, ysteps, yresult, youtcome, yload, yover, yop, ya, yb, yline, ylength, yfrom, yto, yat, yhandlers, ybegun, ytaken, ythrown, yrowI, yrowWay, yrowLength, ytimes, ytold, ykOp, ykA, ykB, ykLine, ykLength, ykFrom, ykTo, ykAt, ykHandlers, ykBegun, ykTaken, ykThrown, ykept, ymethod, ypc, yvariable, yhereI, yhereWay, yhereLength, yinto, ykLoad, ypart) 0) : wY_step_234 post x4 (nI w) x7 op ydepth ysteps yresult youtcome yload yover yop ya yb yline ylength yfrom yto yat yhandlers ybegun ytaken ythrown yrowI yrowWay yrowLength ytimes ytold ykOp ykA ykB ykLine ykLength ykFrom ykTo ykAt ykHandlers ykBegun ykTaken ykThrown ykept ymethod ypc yvariable yhereI yhereWay yhereLength yinto ykLoad ypart :=
  ⟨vp_in_nI hw (by omega), nm_e (br_f n5 (br_f n6 (br_f n7 (br_f n8 (br_f n9 (br_f nA (br_f nB (br_f nB h))))))))⟩
theorem yt_5t {post : SY → Prop} {x4 x7 : Int32} {w : Nat} (hw : w < 24) (hz : yvariable w = 0) (h : wpY_leave (fun u => match u with | (ydepth, ysteps, yresult, youtcome, yload, yover, yop, ya, yb, yline, ylength, yfrom, yto, yat, yhandlers, ybegun, ytaken, ythrown, yrowI, yrowWay, yrowLength, ytimes, ytold, ykOp, ykA, ykB, ykLine, ykLength, ykFrom, ykTo, ykAt, ykHandlers, ykBegun, ykTaken, ykThrown, ykept, ymethod, ypc, yvariable, yhereI, yhereWay, yhereLength, yinto, ykLoad, ypart) => post (ydepth, ysteps, yresult, youtcome, yload, yover, yop, ya, yb, yline, ylength, yfrom, yto, yat, yhandlers, ybegun, ytaken, ythrown, yrowI, yrowWay, yrowLength, ytimes, ytold, ykOp, ykA, ykB, ykLine, ykLength, ykFrom, ykTo, ykAt, ykHandlers, ykBegun, ykTaken, ykThrown, ykept, ymethod, ypc, yvariable, yhereI, yhereWay, yhereLength, yinto, ykLoad, ypart)) (ydepth, ysteps, yresult, youtcome, yload, yover, yop, ya, yb, yline, ylength, yfrom, yto, yat, yhandlers, ybegun, ytaken, ythrown, yrowI, yrowWay, yrowLength, ytimes, ytold, ykOp, ykA, ykB, ykLine, ykLength, ykFrom, ykTo, ykAt, ykHandlers, ykBegun, ykTaken, ykThrown, ykept, ymethod, ypc, yvariable, yhereI, yhereWay, yhereLength, yinto, ykLoad, ypart) 1) : wY_step_234 post x4 (nI w) x7 5 ydepth ysteps yresult youtcome yload yover yop ya yb yline ylength yfrom yto yat yhandlers ybegun ytaken ythrown yrowI yrowWay yrowLength ytimes ytold ykOp ykA ykB ykLine ykLength ykFrom ykTo ykAt ykHandlers ykBegun ykTaken ykThrown ykept ymethod ypc yvariable yhereI yhereWay yhereLength yinto ykLoad ypart :=
  ⟨vp_in_nI hw (by omega), nm_r (e' := 0) (by rw [nI_clamp (by omega)]; exact hz) (br_t rfl (br_t rfl h))⟩
theorem yt_5f {post : SY → Prop} {x4 x7 : Int32} {w : Nat} (hw : w < 24) (hz : ¬ yvariable w = 0) (h : wpY_leave (fun u => match u with | (ydepth, ysteps, yresult, youtcome, yload, yover, yop, ya, yb, yline, ylength, yfrom, yto, yat, yhandlers, ybegun, ytaken, ythrown, yrowI, yrowWay, yrowLength, ytimes, ytold, ykOp, ykA, ykB, ykLine, ykLength, ykFrom, ykTo, ykAt, ykHandlers, ykBegun, ykTaken, ykThrown, ykept, ymethod, ypc, yvariable, yhereI, yhereWay, yhereLength, yinto, ykLoad, ypart) => post (ydepth, ysteps, yresult, youtcome, yload, yover, yop, ya, yb, yline, ylength, yfrom, yto, yat, yhandlers, ybegun, ytaken, ythrown, yrowI, yrowWay, yrowLength, ytimes, ytold, ykOp, ykA, ykB, ykLine, ykLength, ykFrom, ykTo, ykAt, ykHandlers, ykBegun, ykTaken, ykThrown, ykept, ymethod, ypc, yvariable, yhereI, yhereWay, yhereLength, yinto, ykLoad, ypart)) (ydepth, ysteps, yresult, youtcome, yload, yover, yop, ya, yb, yline, ylength, yfrom, yto, yat, yhandlers, ybegun, ytaken, ythrown, yrowI, yrowWay, yrowLength, ytimes, ytold, ykOp, ykA, ykB, ykLine, ykLength, ykFrom, ykTo, ykAt, ykHandlers, ykBegun, ykTaken, ykThrown, ykept, ymethod, ypc, yvariable, yhereI, yhereWay, yhereLength, yinto, ykLoad, ypart) 0) : wY_step_234 post x4 (nI w) x7 5 ydepth ysteps yresult youtcome yload yover yop ya yb yline ylength yfrom yto yat yhandlers ybegun ytaken ythrown yrowI yrowWay yrowLength ytimes ytold ykOp ykA ykB ykLine ykLength ykFrom ykTo ykAt ykHandlers ykBegun ykTaken ykThrown ykept ymethod ypc yvariable yhereI yhereWay yhereLength yinto ykLoad ypart :=
  ⟨vp_in_nI hw (by omega), nm_r (e' := yvariable w) (by rw [nI_clamp (by omega)]) (br_t rfl (br_f hz (br_f (by decide) (br_f (by decide) (br_f (by decide) (br_f (by decide) (br_f (by decide) (br_f (by decide) (br_f (by decide) h)))))))))⟩
theorem yt_6t {post : SY → Prop} {x4 x7 : Int32} {w : Nat} (hw : w < 24) (hz : ¬ 0 ≤ yvariable w) (h : wpY_leave (fun u => match u with | (ydepth, ysteps, yresult, youtcome, yload, yover, yop, ya, yb, yline, ylength, yfrom, yto, yat, yhandlers, ybegun, ytaken, ythrown, yrowI, yrowWay, yrowLength, ytimes, ytold, ykOp, ykA, ykB, ykLine, ykLength, ykFrom, ykTo, ykAt, ykHandlers, ykBegun, ykTaken, ykThrown, ykept, ymethod, ypc, yvariable, yhereI, yhereWay, yhereLength, yinto, ykLoad, ypart) => post (ydepth, ysteps, yresult, youtcome, yload, yover, yop, ya, yb, yline, ylength, yfrom, yto, yat, yhandlers, ybegun, ytaken, ythrown, yrowI, yrowWay, yrowLength, ytimes, ytold, ykOp, ykA, ykB, ykLine, ykLength, ykFrom, ykTo, ykAt, ykHandlers, ykBegun, ykTaken, ykThrown, ykept, ymethod, ypc, yvariable, yhereI, yhereWay, yhereLength, yinto, ykLoad, ypart)) (ydepth, ysteps, yresult, youtcome, yload, yover, yop, ya, yb, yline, ylength, yfrom, yto, yat, yhandlers, ybegun, ytaken, ythrown, yrowI, yrowWay, yrowLength, ytimes, ytold, ykOp, ykA, ykB, ykLine, ykLength, ykFrom, ykTo, ykAt, ykHandlers, ykBegun, ykTaken, ykThrown, ykept, ymethod, ypc, yvariable, yhereI, yhereWay, yhereLength, yinto, ykLoad, ypart) 1) : wY_step_234 post x4 (nI w) x7 6 ydepth ysteps yresult youtcome yload yover yop ya yb yline ylength yfrom yto yat yhandlers ybegun ytaken ythrown yrowI yrowWay yrowLength ytimes ytold ykOp ykA ykB ykLine ykLength ykFrom ykTo ykAt ykHandlers ykBegun ykTaken ykThrown ykept ymethod ypc yvariable yhereI yhereWay yhereLength yinto ykLoad ypart :=
  ⟨vp_in_nI hw (by omega), nm_r (e' := yvariable w) (by rw [nI_clamp (by omega)]) (br_f (by decide) (br_t rfl (br_f hz h)))⟩
theorem yt_6f {post : SY → Prop} {x4 x7 : Int32} {w : Nat} (hw : w < 24) (hz : 0 ≤ yvariable w) (h : wpY_leave (fun u => match u with | (ydepth, ysteps, yresult, youtcome, yload, yover, yop, ya, yb, yline, ylength, yfrom, yto, yat, yhandlers, ybegun, ytaken, ythrown, yrowI, yrowWay, yrowLength, ytimes, ytold, ykOp, ykA, ykB, ykLine, ykLength, ykFrom, ykTo, ykAt, ykHandlers, ykBegun, ykTaken, ykThrown, ykept, ymethod, ypc, yvariable, yhereI, yhereWay, yhereLength, yinto, ykLoad, ypart) => post (ydepth, ysteps, yresult, youtcome, yload, yover, yop, ya, yb, yline, ylength, yfrom, yto, yat, yhandlers, ybegun, ytaken, ythrown, yrowI, yrowWay, yrowLength, ytimes, ytold, ykOp, ykA, ykB, ykLine, ykLength, ykFrom, ykTo, ykAt, ykHandlers, ykBegun, ykTaken, ykThrown, ykept, ymethod, ypc, yvariable, yhereI, yhereWay, yhereLength, yinto, ykLoad, ypart)) (ydepth, ysteps, yresult, youtcome, yload, yover, yop, ya, yb, yline, ylength, yfrom, yto, yat, yhandlers, ybegun, ytaken, ythrown, yrowI, yrowWay, yrowLength, ytimes, ytold, ykOp, ykA, ykB, ykLine, ykLength, ykFrom, ykTo, ykAt, ykHandlers, ykBegun, ykTaken, ykThrown, ykept, ymethod, ypc, yvariable, yhereI, yhereWay, yhereLength, yinto, ykLoad, ypart) 0) : wY_step_234 post x4 (nI w) x7 6 ydepth ysteps yresult youtcome yload yover yop ya yb yline ylength yfrom yto yat yhandlers ybegun ytaken ythrown yrowI yrowWay yrowLength ytimes ytold ykOp ykA ykB ykLine ykLength ykFrom ykTo ykAt ykHandlers ykBegun ykTaken ykThrown ykept ymethod ypc yvariable yhereI yhereWay yhereLength yinto ykLoad ypart :=
  ⟨vp_in_nI hw (by omega), nm_r (e' := yvariable w) (by rw [nI_clamp (by omega)]) (br_f (by decide) (br_t rfl (br_t hz (br_f (by decide) (br_f (by decide) (br_f (by decide) (br_f (by decide) (br_f (by decide) (br_f (by decide) h)))))))))⟩
theorem yt_7t {post : SY → Prop} {x4 x7 : Int32} {w : Nat} (hw : w < 24) (hz : ¬ yvariable w ≤ 0) (hz2 : ¬ 4 ≤ yvariable w) (h : wpY_leave (fun u => match u with | (ydepth, ysteps, yresult, youtcome, yload, yover, yop, ya, yb, yline, ylength, yfrom, yto, yat, yhandlers, ybegun, ytaken, ythrown, yrowI, yrowWay, yrowLength, ytimes, ytold, ykOp, ykA, ykB, ykLine, ykLength, ykFrom, ykTo, ykAt, ykHandlers, ykBegun, ykTaken, ykThrown, ykept, ymethod, ypc, yvariable, yhereI, yhereWay, yhereLength, yinto, ykLoad, ypart) => post (ydepth, ysteps, yresult, youtcome, yload, yover, yop, ya, yb, yline, ylength, yfrom, yto, yat, yhandlers, ybegun, ytaken, ythrown, yrowI, yrowWay, yrowLength, ytimes, ytold, ykOp, ykA, ykB, ykLine, ykLength, ykFrom, ykTo, ykAt, ykHandlers, ykBegun, ykTaken, ykThrown, ykept, ymethod, ypc, yvariable, yhereI, yhereWay, yhereLength, yinto, ykLoad, ypart)) (ydepth, ysteps, yresult, youtcome, yload, yover, yop, ya, yb, yline, ylength, yfrom, yto, yat, yhandlers, ybegun, ytaken, ythrown, yrowI, yrowWay, yrowLength, ytimes, ytold, ykOp, ykA, ykB, ykLine, ykLength, ykFrom, ykTo, ykAt, ykHandlers, ykBegun, ykTaken, ykThrown, ykept, ymethod, ypc, yvariable, yhereI, yhereWay, yhereLength, yinto, ykLoad, ypart) (yvariable w)) : wY_step_234 post x4 (nI w) x7 7 ydepth ysteps yresult youtcome yload yover yop ya yb yline ylength yfrom yto yat yhandlers ybegun ytaken ythrown yrowI yrowWay yrowLength ytimes ytold ykOp ykA ykB ykLine ykLength ykFrom ykTo ykAt ykHandlers ykBegun ykTaken ykThrown ykept ymethod ypc yvariable yhereI yhereWay yhereLength yinto ykLoad ypart :=
  ⟨vp_in_nI hw (by omega), nm_r (e' := yvariable w) (by rw [nI_clamp (by omega)]) (br_f (by decide) (br_f (by decide) (br_t rfl (br_f hz (br_f hz2 h)))))⟩
theorem yt_7f {post : SY → Prop} {x4 x7 : Int32} {w : Nat} (hw : w < 24) (hz : yvariable w ≤ 0 ∨ 4 ≤ yvariable w) (h : wpY_leave (fun u => match u with | (ydepth, ysteps, yresult, youtcome, yload, yover, yop, ya, yb, yline, ylength, yfrom, yto, yat, yhandlers, ybegun, ytaken, ythrown, yrowI, yrowWay, yrowLength, ytimes, ytold, ykOp, ykA, ykB, ykLine, ykLength, ykFrom, ykTo, ykAt, ykHandlers, ykBegun, ykTaken, ykThrown, ykept, ymethod, ypc, yvariable, yhereI, yhereWay, yhereLength, yinto, ykLoad, ypart) => post (ydepth, ysteps, yresult, youtcome, yload, yover, yop, ya, yb, yline, ylength, yfrom, yto, yat, yhandlers, ybegun, ytaken, ythrown, yrowI, yrowWay, yrowLength, ytimes, ytold, ykOp, ykA, ykB, ykLine, ykLength, ykFrom, ykTo, ykAt, ykHandlers, ykBegun, ykTaken, ykThrown, ykept, ymethod, ypc, yvariable, yhereI, yhereWay, yhereLength, yinto, ykLoad, ypart)) (ydepth, ysteps, yresult, youtcome, yload, yover, yop, ya, yb, yline, ylength, yfrom, yto, yat, yhandlers, ybegun, ytaken, ythrown, yrowI, yrowWay, yrowLength, ytimes, ytold, ykOp, ykA, ykB, ykLine, ykLength, ykFrom, ykTo, ykAt, ykHandlers, ykBegun, ykTaken, ykThrown, ykept, ymethod, ypc, yvariable, yhereI, yhereWay, yhereLength, yinto, ykLoad, ypart) 0) : wY_step_234 post x4 (nI w) x7 7 ydepth ysteps yresult youtcome yload yover yop ya yb yline ylength yfrom yto yat yhandlers ybegun ytaken ythrown yrowI yrowWay yrowLength ytimes ytold ykOp ykA ykB ykLine ykLength ykFrom ykTo ykAt ykHandlers ykBegun ykTaken ykThrown ykept ymethod ypc yvariable yhereI yhereWay yhereLength yinto ykLoad ypart := by
  have K : wY_step_301 post x4 (nI w) x7 7 (yvariable w) ydepth ysteps yresult youtcome yload yover yop ya yb yline ylength yfrom yto yat yhandlers ybegun ytaken ythrown yrowI yrowWay yrowLength ytimes ytold ykOp ykA ykB ykLine ykLength ykFrom ykTo ykAt ykHandlers ykBegun ykTaken ykThrown ykept ymethod ypc yvariable yhereI yhereWay yhereLength yinto ykLoad ypart := br_f (by decide) (br_f (by decide) (br_f (by decide) (br_f (by decide) (br_f (by decide) h))))
  refine ⟨vp_in_nI hw (by omega), nm_r (e' := yvariable w) (by rw [nI_clamp (by omega)]) (br_f (by decide) (br_f (by decide) (br_t rfl ?_)))⟩
  by_cases y : yvariable w ≤ 0
  · exact br_t y K
  · exact br_f y (br_t (by rcases hz with z | z; exact absurd z y; exact z) K)
theorem yt_8 {post : SY → Prop} {x7 : Int32} {w s c : Nat} (hw : w < 24) (hs : s < 120) (hb3 : yb s &&& 3 = nI c) (h : wpY_call (fun u => match u with | (ydepth, ysteps, yresult, youtcome, yload, yover, yop, ya, yb, yline, ylength, yfrom, yto, yat, yhandlers, ybegun, ytaken, ythrown, yrowI, yrowWay, yrowLength, ytimes, ytold, ykOp, ykA, ykB, ykLine, ykLength, ykFrom, ykTo, ykAt, ykHandlers, ykBegun, ykTaken, ykThrown, ykept, ymethod, ypc, yvariable, yhereI, yhereWay, yhereLength, yinto, ykLoad, ypart) => post (ydepth, ysteps, yresult, youtcome, yload, yover, yop, ya, yb, yline, ylength, yfrom, yto, yat, yhandlers, ybegun, ytaken, ythrown, yrowI, yrowWay, yrowLength, ytimes, ytold, ykOp, ykA, ykB, ykLine, ykLength, ykFrom, ykTo, ykAt, ykHandlers, ykBegun, ykTaken, ykThrown, ykept, ymethod, ypc, yvariable, yhereI, yhereWay, yhereLength, yinto, ykLoad, ypart)) (ydepth, ysteps, yresult, youtcome, yload, yover, yop, ya, yb, yline, ylength, yfrom, yto, yat, yhandlers, ybegun, ytaken, ythrown, yrowI, yrowWay, yrowLength, ytimes, ytold, ykOp, ykA, ykB, ykLine, ykLength, ykFrom, ykTo, ykAt, ykHandlers, ykBegun, ykTaken, ykThrown, ykept, ymethod, ypc, yvariable, yhereI, yhereWay, yhereLength, yinto, ykLoad, ypart) (nI c)) : wY_step_234 post (nI s) (nI w) x7 8 ydepth ysteps yresult youtcome yload yover yop ya yb yline ylength yfrom yto yat yhandlers ybegun ytaken ythrown yrowI yrowWay yrowLength ytimes ytold ykOp ykA ykB ykLine ykLength ykFrom ykTo ykAt ykHandlers ykBegun ykTaken ykThrown ykept ymethod ypc yvariable yhereI yhereWay yhereLength yinto ykLoad ypart := by
  refine ⟨vp_in_nI hw (by omega), nm_e (br_f (by decide) (br_f (by decide) (br_f (by decide) (br_t rfl ⟨vp_in_nI hs (by omega), ?_⟩))))⟩
  rw [nI_clamp (n := s) (by omega), hb3]
  exact h
theorem yt_9 {post : SY → Prop} {x7 g : Int32} {w s : Nat} (hw : w < 24) (hs : s < 96) (hg : yvariable w = g) (h : wpY_endStretch (fun u => match u with | (ydepth, ysteps, yresult, youtcome, yload, yover, yop, ya, yb, yline, ylength, yfrom, yto, yat, yhandlers, ybegun, ytaken, ythrown, yrowI, yrowWay, yrowLength, ytimes, ytold, ykOp, ykA, ykB, ykLine, ykLength, ykFrom, ykTo, ykAt, ykHandlers, ykBegun, ykTaken, ykThrown, ykept, ymethod, ypc, yvariable, yhereI, yhereWay, yhereLength, yinto, ykLoad, ypart) => wpY_end (fun u => match u with | (ydepth, ysteps, yresult, youtcome, yload, yover, yop, ya, yb, yline, ylength, yfrom, yto, yat, yhandlers, ybegun, ytaken, ythrown, yrowI, yrowWay, yrowLength, ytimes, ytold, ykOp, ykA, ykB, ykLine, ykLength, ykFrom, ykTo, ykAt, ykHandlers, ykBegun, ykTaken, ykThrown, ykept, ymethod, ypc, yvariable, yhereI, yhereWay, yhereLength, yinto, ykLoad, ypart) => post (ydepth, ysteps, yresult, youtcome, yload, yover, yop, ya, yb, yline, ylength, yfrom, yto, yat, yhandlers, ybegun, ytaken, ythrown, yrowI, yrowWay, yrowLength, ytimes, ytold, ykOp, ykA, ykB, ykLine, ykLength, ykFrom, ykTo, ykAt, ykHandlers, ykBegun, ykTaken, ykThrown, ykept, ymethod, ypc, yvariable, yhereI, yhereWay, yhereLength, yinto, ykLoad, ypart)) (ydepth, ysteps, yresult, youtcome, yload, yover, yop, ya, yb, yline, ylength, yfrom, yto, yat, yhandlers, ybegun, ytaken, ythrown, yrowI, yrowWay, yrowLength, ytimes, ytold, ykOp, ykA, ykB, ykLine, ykLength, ykFrom, ykTo, ykAt, ykHandlers, ykBegun, ykTaken, ykThrown, ykept, ymethod, ypc, yvariable, yhereI, yhereWay, yhereLength, yinto, ykLoad, ypart) g) (ydepth, ysteps, yresult, youtcome, yload, yover, yop, ya, yb, yline, ylength, yfrom, yto, yat, yhandlers, ybegun, upd ytaken (4 * s) (ytaken (4 * s) + 1), ythrown, yrowI, yrowWay, yrowLength, ytimes, ytold, ykOp, ykA, ykB, ykLine, ykLength, ykFrom, ykTo, ykAt, ykHandlers, ykBegun, ykTaken, ykThrown, ykept, ymethod, ypc, yvariable, yhereI, yhereWay, yhereLength, yinto, ykLoad, ypart)) : wY_step_234 post (nI s) (nI w) x7 9 ydepth ysteps yresult youtcome yload yover yop ya yb yline ylength yfrom yto yat yhandlers ybegun ytaken ythrown yrowI yrowWay yrowLength ytimes ytold ykOp ykA ykB ykLine ykLength ykFrom ykTo ykAt ykHandlers ykBegun ykTaken ykThrown ykept ymethod ypc yvariable yhereI yhereWay yhereLength yinto ykLoad ypart := by
  have e4 : 4 * nI s = nI (4 * s) := pk_mul 4 s
  have w4 : vp_in (4 * nI s) 384 := ix_in e4 (by omega) (by omega)
  refine ⟨vp_in_nI hw (by omega), nm_r (e' := g) (by rw [nI_clamp (n := w) (by omega)]; exact hg) (br_f (by decide) (br_f (by decide) (br_f (by decide) (br_f (by decide) (br_t rfl ⟨w4, w4, nm_r (e' := upd ytaken (4 * s) (ytaken (4 * s) + 1)) (by rw [ix_cl e4 (by omega)]) h⟩)))))⟩
theorem yt_10 {post : SY → Prop} {x4 x7 : Int32} {w : Nat} (hw : w < 24) (h : wpY_raise (fun u => match u with | (ydepth, ysteps, yresult, youtcome, yload, yover, yop, ya, yb, yline, ylength, yfrom, yto, yat, yhandlers, ybegun, ytaken, ythrown, yrowI, yrowWay, yrowLength, ytimes, ytold, ykOp, ykA, ykB, ykLine, ykLength, ykFrom, ykTo, ykAt, ykHandlers, ykBegun, ykTaken, ykThrown, ykept, ymethod, ypc, yvariable, yhereI, yhereWay, yhereLength, yinto, ykLoad, ypart) => post (ydepth, ysteps, yresult, youtcome, yload, yover, yop, ya, yb, yline, ylength, yfrom, yto, yat, yhandlers, ybegun, ytaken, ythrown, yrowI, yrowWay, yrowLength, ytimes, ytold, ykOp, ykA, ykB, ykLine, ykLength, ykFrom, ykTo, ykAt, ykHandlers, ykBegun, ykTaken, ykThrown, ykept, ymethod, ypc, yvariable, yhereI, yhereWay, yhereLength, yinto, ykLoad, ypart)) (ydepth, ysteps, yresult, youtcome, yload, yover, yop, ya, yb, yline, ylength, yfrom, yto, yat, yhandlers, ybegun, ytaken, ythrown, yrowI, yrowWay, yrowLength, ytimes, ytold, ykOp, ykA, ykB, ykLine, ykLength, ykFrom, ykTo, ykAt, ykHandlers, ykBegun, ykTaken, ykThrown, ykept, ymethod, ypc, yvariable, yhereI, yhereWay, yhereLength, yinto, ykLoad, ypart) (yvariable w)) : wY_step_234 post x4 (nI w) x7 10 ydepth ysteps yresult youtcome yload yover yop ya yb yline ylength yfrom yto yat yhandlers ybegun ytaken ythrown yrowI yrowWay yrowLength ytimes ytold ykOp ykA ykB ykLine ykLength ykFrom ykTo ykAt ykHandlers ykBegun ykTaken ykThrown ykept ymethod ypc yvariable yhereI yhereWay yhereLength yinto ykLoad ypart :=
  ⟨vp_in_nI hw (by omega), nm_r (e' := yvariable w) (by rw [nI_clamp (by omega)]) (br_f (by decide) (br_f (by decide) (br_f (by decide) (br_f (by decide) (br_f (by decide) (br_t rfl h))))))⟩
theorem yt_11z {post : SY → Prop} {x4 x7 : Int32} {w : Nat} (hw : w < 24) (hz : x7 = 0) (h : wpY_raise (fun u => match u with | (ydepth, ysteps, yresult, youtcome, yload, yover, yop, ya, yb, yline, ylength, yfrom, yto, yat, yhandlers, ybegun, ytaken, ythrown, yrowI, yrowWay, yrowLength, ytimes, ytold, ykOp, ykA, ykB, ykLine, ykLength, ykFrom, ykTo, ykAt, ykHandlers, ykBegun, ykTaken, ykThrown, ykept, ymethod, ypc, yvariable, yhereI, yhereWay, yhereLength, yinto, ykLoad, ypart) => post (ydepth, ysteps, yresult, youtcome, yload, yover, yop, ya, yb, yline, ylength, yfrom, yto, yat, yhandlers, ybegun, ytaken, ythrown, yrowI, yrowWay, yrowLength, ytimes, ytold, ykOp, ykA, ykB, ykLine, ykLength, ykFrom, ykTo, ykAt, ykHandlers, ykBegun, ykTaken, ykThrown, ykept, ymethod, ypc, yvariable, yhereI, yhereWay, yhereLength, yinto, ykLoad, ypart)) (ydepth, ysteps, yresult, youtcome, yload, yover, yop, ya, yb, yline, ylength, yfrom, yto, yat, yhandlers, ybegun, ytaken, ythrown, yrowI, yrowWay, yrowLength, ytimes, ytold, ykOp, ykA, ykB, ykLine, ykLength, ykFrom, ykTo, ykAt, ykHandlers, ykBegun, ykTaken, ykThrown, ykept, ymethod, ypc, yvariable, yhereI, yhereWay, yhereLength, yinto, ykLoad, ypart) 0) : wY_step_234 post x4 (nI w) x7 11 ydepth ysteps yresult youtcome yload yover yop ya yb yline ylength yfrom yto yat yhandlers ybegun ytaken ythrown yrowI yrowWay yrowLength ytimes ytold ykOp ykA ykB ykLine ykLength ykFrom ykTo ykAt ykHandlers ykBegun ykTaken ykThrown ykept ymethod ypc yvariable yhereI yhereWay yhereLength yinto ykLoad ypart :=
  ⟨vp_in_nI hw (by omega), nm_e (br_f (by decide) (br_f (by decide) (br_f (by decide) (br_f (by decide) (br_f (by decide) (br_f (by decide) (br_t rfl (br_t hz h))))))))⟩
theorem yt_11 {post : SY → Prop} {x4 x7 : Int32} {w : Nat} (hw : w < 24) (hz : ¬ x7 = 0) (h : wpY_leave (fun u => match u with | (ydepth, ysteps, yresult, youtcome, yload, yover, yop, ya, yb, yline, ylength, yfrom, yto, yat, yhandlers, ybegun, ytaken, ythrown, yrowI, yrowWay, yrowLength, ytimes, ytold, ykOp, ykA, ykB, ykLine, ykLength, ykFrom, ykTo, ykAt, ykHandlers, ykBegun, ykTaken, ykThrown, ykept, ymethod, ypc, yvariable, yhereI, yhereWay, yhereLength, yinto, ykLoad, ypart) => post (ydepth, ysteps, yresult, youtcome, yload, yover, yop, ya, yb, yline, ylength, yfrom, yto, yat, yhandlers, ybegun, ytaken, ythrown, yrowI, yrowWay, yrowLength, ytimes, ytold, ykOp, ykA, ykB, ykLine, ykLength, ykFrom, ykTo, ykAt, ykHandlers, ykBegun, ykTaken, ykThrown, ykept, ymethod, ypc, yvariable, yhereI, yhereWay, yhereLength, yinto, ykLoad, ypart)) (ydepth, ysteps, yresult, youtcome, yload, yover, yop, ya, yb, yline, ylength, yfrom, yto, yat, yhandlers, ybegun, ytaken, ythrown, yrowI, yrowWay, yrowLength, ytimes, ytold, ykOp, ykA, ykB, ykLine, ykLength, ykFrom, ykTo, ykAt, ykHandlers, ykBegun, ykTaken, ykThrown, ykept, ymethod, ypc, upd yvariable w (yvariable w / x7), yhereI, yhereWay, yhereLength, yinto, ykLoad, ypart) 0) : wY_step_234 post x4 (nI w) x7 11 ydepth ysteps yresult youtcome yload yover yop ya yb yline ylength yfrom yto yat yhandlers ybegun ytaken ythrown yrowI yrowWay yrowLength ytimes ytold ykOp ykA ykB ykLine ykLength ykFrom ykTo ykAt ykHandlers ykBegun ykTaken ykThrown ykept ymethod ypc yvariable yhereI yhereWay yhereLength yinto ykLoad ypart := by
  have cw : (nI w).toNatClampNeg = w := nI_clamp (by omega)
  have ww : vp_in (nI w) 24 := vp_in_nI hw (by omega)
  refine ⟨ww, nm_r (e' := yvariable w) (by rw [cw]) (br_f (by decide) (br_f (by decide) (br_f (by decide) (br_f (by decide) (br_f (by decide) (br_f (by decide) (br_t rfl (br_f hz (br_t rfl ?_)))))))))⟩
  by_cases y : x7 = -1
  · refine br_t y ⟨ww, nm_r (e' := upd yvariable w (yvariable w / x7)) ?_ h⟩
    rw [cw, y, dv_m1]
  · exact br_f y ⟨hz, ww, nm_r (e' := upd yvariable w (yvariable w / x7)) (by rw [cw]) h⟩
theorem yt_call0 {post : SY → Prop} {c : Nat} (hc : c < 4) (hs : ylength c = nI 0) (h : wpY_raise (fun u => match u with | (ydepth, ysteps, yresult, youtcome, yload, yover, yop, ya, yb, yline, ylength, yfrom, yto, yat, yhandlers, ybegun, ytaken, ythrown, yrowI, yrowWay, yrowLength, ytimes, ytold, ykOp, ykA, ykB, ykLine, ykLength, ykFrom, ykTo, ykAt, ykHandlers, ykBegun, ykTaken, ykThrown, ykept, ymethod, ypc, yvariable, yhereI, yhereWay, yhereLength, yinto, ykLoad, ypart) => post (ydepth, ysteps, yresult, youtcome, yload, yover, yop, ya, yb, yline, ylength, yfrom, yto, yat, yhandlers, ybegun, ytaken, ythrown, yrowI, yrowWay, yrowLength, ytimes, ytold, ykOp, ykA, ykB, ykLine, ykLength, ykFrom, ykTo, ykAt, ykHandlers, ykBegun, ykTaken, ykThrown, ykept, ymethod, ypc, yvariable, yhereI, yhereWay, yhereLength, yinto, ykLoad, ypart)) (ydepth, ysteps, yresult, youtcome, yload, yover, yop, ya, yb, yline, ylength, yfrom, yto, yat, yhandlers, ybegun, ytaken, ythrown, yrowI, yrowWay, yrowLength, ytimes, ytold, ykOp, ykA, ykB, ykLine, ykLength, ykFrom, ykTo, ykAt, ykHandlers, ykBegun, ykTaken, ykThrown, ykept, ymethod, ypc, yvariable, yhereI, yhereWay, yhereLength, yinto, ykLoad, ypart) (-1)) : wpY_call post (ydepth, ysteps, yresult, youtcome, yload, yover, yop, ya, yb, yline, ylength, yfrom, yto, yat, yhandlers, ybegun, ytaken, ythrown, yrowI, yrowWay, yrowLength, ytimes, ytold, ykOp, ykA, ykB, ykLine, ykLength, ykFrom, ykTo, ykAt, ykHandlers, ykBegun, ykTaken, ykThrown, ykept, ymethod, ypc, yvariable, yhereI, yhereWay, yhereLength, yinto, ykLoad, ypart) (nI c) := by
  have cc : (nI c).toNatClampNeg = c := nI_clamp (by omega)
  exact nm_e ⟨vp_in_nI (by omega) (by omega), br_t (by rw [cc]; exact hs) h⟩
theorem yt_call6 {post : SY → Prop} {c s : Nat} (hc : c < 4) (hs : ylength c = nI s) (h0 : 0 < s) (hs24 : s ≤ 24) (h6 : ydepth = 6) (h : wpY_raise (fun u => match u with | (ydepth, ysteps, yresult, youtcome, yload, yover, yop, ya, yb, yline, ylength, yfrom, yto, yat, yhandlers, ybegun, ytaken, ythrown, yrowI, yrowWay, yrowLength, ytimes, ytold, ykOp, ykA, ykB, ykLine, ykLength, ykFrom, ykTo, ykAt, ykHandlers, ykBegun, ykTaken, ykThrown, ykept, ymethod, ypc, yvariable, yhereI, yhereWay, yhereLength, yinto, ykLoad, ypart) => post (ydepth, ysteps, yresult, youtcome, yload, yover, yop, ya, yb, yline, ylength, yfrom, yto, yat, yhandlers, ybegun, ytaken, ythrown, yrowI, yrowWay, yrowLength, ytimes, ytold, ykOp, ykA, ykB, ykLine, ykLength, ykFrom, ykTo, ykAt, ykHandlers, ykBegun, ykTaken, ykThrown, ykept, ymethod, ypc, yvariable, yhereI, yhereWay, yhereLength, yinto, ykLoad, ypart)) (ydepth, ysteps, yresult, youtcome, yload, yover, yop, ya, yb, yline, ylength, yfrom, yto, yat, yhandlers, ybegun, ytaken, ythrown, yrowI, yrowWay, yrowLength, ytimes, ytold, ykOp, ykA, ykB, ykLine, ykLength, ykFrom, ykTo, ykAt, ykHandlers, ykBegun, ykTaken, ykThrown, ykept, ymethod, ypc, yvariable, yhereI, yhereWay, yhereLength, yinto, ykLoad, ypart) (-2)) : wpY_call post (ydepth, ysteps, yresult, youtcome, yload, yover, yop, ya, yb, yline, ylength, yfrom, yto, yat, yhandlers, ybegun, ytaken, ythrown, yrowI, yrowWay, yrowLength, ytimes, ytold, ykOp, ykA, ykB, ykLine, ykLength, ykFrom, ykTo, ykAt, ykHandlers, ykBegun, ykTaken, ykThrown, ykept, ymethod, ypc, yvariable, yhereI, yhereWay, yhereLength, yinto, ykLoad, ypart) (nI c) := by
  have cc : (nI c).toNatClampNeg = c := nI_clamp (by omega)
  exact nm_e ⟨vp_in_nI (by omega) (by omega), br_f (by rw [cc, hs]; exact nI_ne0 h0 (by omega)) (br_t h6 h)⟩
theorem yt_calle {post : SY → Prop} {c s d : Nat} (hc : c < 4) (hs : ylength c = nI s) (h0 : 0 < s) (hs24 : s ≤ 24) (hyd : ydepth = nI (d + 1)) (h5 : d < 5) (h : wpY_enter (fun u => match u with | (ydepth, ysteps, yresult, youtcome, yload, yover, yop, ya, yb, yline, ylength, yfrom, yto, yat, yhandlers, ybegun, ytaken, ythrown, yrowI, yrowWay, yrowLength, ytimes, ytold, ykOp, ykA, ykB, ykLine, ykLength, ykFrom, ykTo, ykAt, ykHandlers, ykBegun, ykTaken, ykThrown, ykept, ymethod, ypc, yvariable, yhereI, yhereWay, yhereLength, yinto, ykLoad, ypart) => post (ydepth, ysteps, yresult, youtcome, yload, yover, yop, ya, yb, yline, ylength, yfrom, yto, yat, yhandlers, ybegun, ytaken, ythrown, yrowI, yrowWay, yrowLength, ytimes, ytold, ykOp, ykA, ykB, ykLine, ykLength, ykFrom, ykTo, ykAt, ykHandlers, ykBegun, ykTaken, ykThrown, ykept, ymethod, ypc, yvariable, yhereI, yhereWay, yhereLength, yinto, ykLoad, ypart)) (ydepth, ysteps, yresult, youtcome, yload, yover, yop, ya, yb, yline, ylength, yfrom, yto, yat, yhandlers, ybegun, ytaken, ythrown, yrowI, yrowWay, yrowLength, ytimes, ytold, ykOp, ykA, ykB, ykLine, ykLength, ykFrom, ykTo, ykAt, ykHandlers, ykBegun, ykTaken, ykThrown, ykept, ymethod, ypc, yvariable, yhereI, yhereWay, yhereLength, yinto, ykLoad, ypart) (nI c) (yvariable (4 * d)) (yvariable (4 * d + 1))) : wpY_call post (ydepth, ysteps, yresult, youtcome, yload, yover, yop, ya, yb, yline, ylength, yfrom, yto, yat, yhandlers, ybegun, ytaken, ythrown, yrowI, yrowWay, yrowLength, ytimes, ytold, ykOp, ykA, ykB, ykLine, ykLength, ykFrom, ykTo, ykAt, ykHandlers, ykBegun, ykTaken, ykThrown, ykept, ymethod, ypc, yvariable, yhereI, yhereWay, yhereLength, yinto, ykLoad, ypart) (nI c) := by
  have cc : (nI c).toNatClampNeg = c := nI_clamp (by omega)
  have ey : ydepth - 1 = nI d := by rw [hyd]; exact nI_pred d
  have e4 : 4 * nI d = nI (4 * d) := pk_mul 4 d
  have e5 : 4 * nI d + 1 = nI (4 * d + 1) := iy_4 d 1
  have n6 : ¬ ydepth = 6 := by
    rw [hyd]
    intro z
    have := (nI_eq (a := d + 1) (b := 6) (by omega) (by omega)).mp z
    omega
  refine nm_r ey ⟨vp_in_nI (by omega) (by omega), br_f (by rw [cc, hs]; exact nI_ne0 h0 (by omega)) (br_f n6 ⟨ix_in e4 (by omega) (by omega), ix_in e5 (by omega) (by omega), ?_⟩)⟩
  rw [ix_cl e4 (by omega), ix_cl e5 (by omega)]
  exact h
end
end
section
/-! part 17: one step of both sides -/
section
variable {xdepth xsignal xcarried xlatest xload : Int32} {xsizes xops xargsA xargsB xlines xguards xfroms xtos xats xbegunCounts xthrownCounts xtakenCounts xslotUsed xslotLoad xstretchNumber xstretchGone xstretchRow xatWork xplace xvariables xrow xpart : Nat → Int32} {xstretchWays xrowWays xwayOn : Nat → Int64}
variable {ydepth ysteps yresult youtcome yload yover : Int32} {yop ya yb yline ylength yfrom yto yat yhandlers ybegun ytaken ythrown yrowI yrowWay yrowLength ytimes ytold ykOp ykA ykB ykLine ykLength ykFrom ykTo ykAt ykHandlers ykBegun ykTaken ykThrown ykept ymethod ypc yvariable yhereI yhereWay yhereLength yinto ykLoad ypart : Nat → Int32}
theorem sp_R {d m i L n : Nat} (H : hd_R d m i L n (xdepth, xsignal, xcarried, xlatest, xload, xsizes, xops, xargsA, xargsB, xlines, xguards, xfroms, xtos, xats, xbegunCounts, xthrownCounts, xtakenCounts, xslotUsed, xslotLoad, xstretchNumber, xstretchGone, xstretchRow, xstretchWays, xatWork, xplace, xvariables, xrow, xrowWays, xwayOn, xpart) (ydepth, ysteps, yresult, youtcome, yload, yover, yop, ya, yb, yline, ylength, yfrom, yto, yat, yhandlers, ybegun, ytaken, ythrown, yrowI, yrowWay, yrowLength, ytimes, ytold, ykOp, ykA, ykB, ykLine, ykLength, ykFrom, ykTo, ykAt, ykHandlers, ykBegun, ykTaken, ykThrown, ykept, ymethod, ypc, yvariable, yhereI, yhereWay, yhereLength, yinto, ykLoad, ypart)) :
    ∃ (u1 u' : SX) (v' : SY), (∀ post : SX → Prop, post u1 → wpX_performOne post (xdepth, xsignal, xcarried, xlatest, xload, xsizes, xops, xargsA, xargsB, xlines, xguards, xfroms, xtos, xats, xbegunCounts, xthrownCounts, xtakenCounts, xslotUsed, xslotLoad, xstretchNumber, xstretchGone, xstretchRow, xstretchWays, xatWork, xplace, xvariables, xrow, xrowWays, xwayOn, xpart)) ∧ (∀ post : SX → Prop, post u' → wpX_passOn post u1) ∧ (∀ post : SY → Prop, post v' → wpY_step post (ydepth, ysteps, yresult, youtcome, yload, yover, yop, ya, yb, yline, ylength, yfrom, yto, yat, yhandlers, ybegun, ytaken, ythrown, yrowI, yrowWay, yrowLength, ytimes, ytold, ykOp, ykA, ykB, ykLine, ykLength, ykFrom, ykTo, ykAt, ykHandlers, ykBegun, ykTaken, ykThrown, ykept, ymethod, ypc, yvariable, yhereI, yhereWay, yhereLength, yinto, ykLoad, ypart)) ∧ rs_R (L + 1) (n + 1) u' v' := by
  obtain ⟨hd, hxd, hyd, hsg, hxl, hyl, hst, hov, hou, hre, hP, hC, hS, hF, hA, hT⟩ := H
  obtain ⟨hm, hi, ha, hme, hp, hpc, hv⟩ := hA.1
  obtain ⟨e1, e2, e3⟩ := gp_sz hP hm
  have h24 : i < 24 := by omega
  obtain ⟨a, ha4, eax, eay⟩ := gp_a hP hm h24
  have eo := gp_op hP hm h24
  have eb := gp_b hP hm h24
  obtain ⟨c, hc4', hb3⟩ := pk_andE (xargsB (24 * m + i)) (m := 3) 2 (by decide)
  have hc4 : c < 4 := hc4'
  have hb3y : yb (24 * m + i) &&& 3 = nI c := by rw [← eb]; exact hb3
  obtain ⟨q, hq, hql, hB⟩ := fr_begin e3 hA
  rw [hpc] at hB
  have eva : xvariables (4 * d + a) = yvariable (4 * d + a) := hv a ha4
  have evc : xvariables (4 * d + c) = yvariable (4 * d + c) := hv c hc4
  have hw : 4 * d + a < 24 := by omega
  have M : md_R d m i (L + 1) (n + 1) (xdepth, xsignal, xcarried, xlatest, nI (L + 1), xsizes, xops, xargsA, xargsB, xlines, xguards, xfroms, xtos, xats, upd xbegunCounts (24 * m + i) (xbegunCounts (24 * m + i) + 1), xthrownCounts, xtakenCounts, xslotUsed, xslotLoad, xstretchNumber, xstretchGone, xstretchRow, xstretchWays, xatWork, xplace, xvariables, upd xrow d (xrow d ||| ((1 : Int32) <<< (xplace d &&& 31))), vp_updL xrowWays d (xrowWays d ||| xwayOn d), xwayOn, xpart) (ydepth, nI (n + 1), yresult, youtcome, nI (L + 1), yover, yop, ya, yb, yline, ylength, yfrom, yto, yat, yhandlers, upd ybegun (24 * m + i) (ybegun (24 * m + i) + 1), ytaken, ythrown, yrowI, yrowWay, yrowLength, ytimes, ytold, ykOp, ykA, ykB, ykLine, ykLength, ykFrom, ykTo, ykAt, ykHandlers, ykBegun, ykTaken, ykThrown, ykept, ymethod, ypc, yvariable, upd yhereI (24 * d + q) (nI i), upd yhereWay (24 * d + q) (if q = 0 then 0 else yinto d), upd yhereLength d (nI (q + 1)), yinto, ykLoad, ypart) := by
    refine ⟨hd, hxd, hyd, hsg, rfl, rfl, rfl, hov, hou, hre, hP, gc_beg hC hm hi h24, hS, ?_, hB, hT⟩
    exact fr_L_lo hF lo_r lo_r lo_r (lo_u (Nat.le_refl d)) (lo_uL (Nat.le_refl d)) lo_r lo_r lo_r (lo_u (by omega)) (lo_u (by omega)) (lo_u (Nat.le_refl d))
  have nx : ∀ k k' : Int32, xops (24 * m + i) = k → ¬ k = k' → ¬ yop (24 * m + i) = k' := fun k k' h1 h2 h3 => h2 (by rw [← h1, eo, h3])
  -- an op above 3
  have Y4 : ∀ (post : SY → Prop) (k : Int32), xops (24 * m + i) = k → ¬ k = 0 → ¬ k = 1 → ¬ k = 2 → ¬ k = 3 → wY_step_234 post (nI (24 * m + i)) (nI (4 * d + a)) (yvariable (4 * d + c)) k ydepth (nI (n + 1)) yresult youtcome (nI (L + 1)) yover yop ya yb yline ylength yfrom yto yat yhandlers (upd ybegun (24 * m + i) (ybegun (24 * m + i) + 1)) ytaken ythrown yrowI yrowWay yrowLength ytimes ytold ykOp ykA ykB ykLine ykLength ykFrom ykTo ykAt ykHandlers ykBegun ykTaken ykThrown ykept ymethod ypc yvariable (upd yhereI (24 * d + q) (nI i)) (upd yhereWay (24 * d + q) (if q = 0 then 0 else yinto d)) (upd yhereLength d (nI (q + 1))) yinto ykLoad ypart → wpY_step post (ydepth, ysteps, yresult, youtcome, yload, yover, yop, ya, yb, yline, ylength, yfrom, yto, yat, yhandlers, ybegun, ytaken, ythrown, yrowI, yrowWay, yrowLength, ytimes, ytold, ykOp, ykA, ykB, ykLine, ykLength, ykFrom, ykTo, ykAt, ykHandlers, ykBegun, ykTaken, ykThrown, ykept, ymethod, ypc, yvariable, yhereI, yhereWay, yhereLength, yinto, ykLoad, ypart) := by
    intro post k hk n0 n1 n2 n3 h
    have ek : yop (24 * m + i) = k := by rw [← eo]; exact hk
    refine ys_in hd hm h24 hyd hme hpc hql hq hyl hst eay ha4 hb3y hc4 (fun z => absurd (ek.symm.trans z) n0) (fun _ => ?_)
    rw [ek]
    exact yt_178 n1 n2 n3 h
  by_cases o5 : xops (24 * m + i) = 5
  · by_cases z : xvariables (4 * d + a) = 0
    · obtain ⟨u1, u', v', hX, hO, hY, hR⟩ := lf_R (k := 1) (by decide) M
      exact ⟨u1, u', v', fun post h => xo_5t hd hm h24 hxd ha hp hxl eax ha4 hb3 hc4 o5 z (hX _ (xm_e h)), hO, fun post h => Y4 post 5 o5 (by decide) (by decide) (by decide) (by decide) (yt_5t hw (eva ▸ z) (hY _ (ym_e h))), hR⟩
    · obtain ⟨u1, u', v', hX, hO, hY, hR⟩ := lf_R (k := 0) (by decide) M
      exact ⟨u1, u', v', fun post h => xo_5f hd hm h24 hxd ha hp hxl eax ha4 hb3 hc4 o5 z (hX _ (xm_e h)), hO, fun post h => Y4 post 5 o5 (by decide) (by decide) (by decide) (by decide) (yt_5f hw (eva ▸ z) (hY _ (ym_e h))), hR⟩
  by_cases o6 : xops (24 * m + i) = 6
  · by_cases z : 0 ≤ xvariables (4 * d + a)
    · obtain ⟨u1, u', v', hX, hO, hY, hR⟩ := lf_R (k := 0) (by decide) M
      exact ⟨u1, u', v', fun post h => xo_6f hd hm h24 hxd ha hp hxl eax ha4 hb3 hc4 o6 z (hX _ (xm_e h)), hO, fun post h => Y4 post 6 o6 (by decide) (by decide) (by decide) (by decide) (yt_6f hw (eva ▸ z) (hY _ (ym_e h))), hR⟩
    · obtain ⟨u1, u', v', hX, hO, hY, hR⟩ := lf_R (k := 1) (by decide) M
      exact ⟨u1, u', v', fun post h => xo_6t hd hm h24 hxd ha hp hxl eax ha4 hb3 hc4 o6 z (hX _ (xm_e h)), hO, fun post h => Y4 post 6 o6 (by decide) (by decide) (by decide) (by decide) (yt_6t hw (eva ▸ z) (hY _ (ym_e h))), hR⟩
  by_cases o7 : xops (24 * m + i) = 7
  · by_cases z : ∃ k, k < 4 ∧ 0 < k ∧ xvariables (4 * d + a) = nI k
    · obtain ⟨k, k4, k0, ek⟩ := z
      obtain ⟨u1, u', v', hX, hO, hY, hR⟩ := lf_R (k := k) k4 M
      have z1 : ¬ xvariables (4 * d + a) < 1 := by rw [ek]; exact nI_nlt (b := 1) k0 (by omega)
      have z2 : ¬ 3 < xvariables (4 * d + a) := by rw [ek]; exact nI_nlt (a := 3) (by omega) (by omega)
      have y1 : ¬ yvariable (4 * d + a) ≤ 0 := by rw [← eva, ek]; exact nI_nle k0 (by omega)
      have y2 : ¬ 4 ≤ yvariable (4 * d + a) := by rw [← eva, ek]; exact nI_ge (b := 4) k4 (by decide)
      refine ⟨u1, u', v', fun post h => xo_7t hd hm h24 hxd ha hp hxl eax ha4 hb3 hc4 o7 z1 z2 ?_, hO, fun post h => Y4 post 7 o7 (by decide) (by decide) (by decide) (by decide) (yt_7t hw y1 y2 ?_), hR⟩
      · rw [ek]; exact hX _ (xm_e h)
      · rw [← eva, ek]; exact hY _ (ym_e h)
    · obtain ⟨u1, u', v', hX, hO, hY, hR⟩ := lf_R (k := 0) (by decide) M
      have zz : xvariables (4 * d + a) ≤ 0 ∨ 4 ≤ xvariables (4 * d + a) := by
        rcases pk_ix (xvariables (4 * d + a)) (n := 4) (by decide) with y | y | ⟨k, k4, ek⟩
        · exact Or.inl (Int32.le_of_lt y)
        · exact Or.inr y
        · rcases Nat.eq_zero_or_pos k with y | y
          · left; rw [ek, y]; decide
          · exact absurd ⟨k, k4, y, ek⟩ z
      have z1 : xvariables (4 * d + a) < 1 ∨ 3 < xvariables (4 * d + a) := by
        rcases zz with y | y
        · exact Or.inl (Int32.lt_of_le_of_lt y (by decide))
        · exact Or.inr (Int32.lt_of_lt_of_le (by decide) y)
      exact ⟨u1, u', v', fun post h => xo_7f hd hm h24 hxd ha hp hxl eax ha4 hb3 hc4 o7 z1 (hX _ (xm_e h)), hO, fun post h => Y4 post 7 o7 (by decide) (by decide) (by decide) (by decide) (yt_7f hw (eva ▸ zz) (hY _ (ym_e h))), hR⟩
  by_cases o8 : xops (24 * m + i) = 8
  · obtain ⟨c1, c2, c3⟩ := gp_sz hP hc4
    rcases Nat.eq_zero_or_pos (sz_f xsizes c) with z | z
    · obtain ⟨u1, u', v', hX, hO, hY, hR⟩ := rf_R (x := -1) M
      rw [z] at c2
      exact ⟨u1, u', v', fun post h => xo_8n hd hm h24 hxd ha hp hxl eax ha4 hb3 hc4 hP o8 z (hX _ (xm_e h)), hO, fun post h => Y4 post 8 o8 (by decide) (by decide) (by decide) (by decide) (yt_8 hw (by omega) hb3y (yt_call0 hc4 c2 (hY _ (ym_e (ym_e h))))), hR⟩
    · rcases Nat.lt_or_ge d 5 with y | y
      · obtain ⟨u1, v', hX, hO, hY, hR⟩ := ef_R (a := xvariables (4 * d)) (b := xvariables (4 * d + 1)) M hc4 z y
        have v0 : xvariables (4 * d) = yvariable (4 * d) := hv 0 (by decide)
        have v1 : xvariables (4 * d + 1) = yvariable (4 * d + 1) := hv 1 (by decide)
        refine ⟨u1, u1, v', fun post h => xo_8e hd hm h24 hxd ha hp hxl eax ha4 hb3 hc4 hP o8 z y (hX _ (xm_e h)), hO, fun post h => Y4 post 8 o8 (by decide) (by decide) (by decide) (by decide) (yt_8 hw (by omega) hb3y (yt_calle hc4 c2 z c3 hyd y ?_)), hR⟩
        rw [← v0, ← v1]
        exact hY _ (ym_e (ym_e h))
      · obtain ⟨u1, u', v', hX, hO, hY, hR⟩ := rf_R (x := -2) M
        have d5 : d = 5 := by omega
        exact ⟨u1, u', v', fun post h => xo_8d hd hm h24 hxd ha hp hxl eax ha4 hb3 hc4 hP o8 z d5 (hX _ (xm_e h)), hO, fun post h => Y4 post 8 o8 (by decide) (by decide) (by decide) (by decide) (yt_8 hw (by omega) hb3y (yt_call6 hc4 c2 z c3 (by rw [hyd, d5]; decide) (hY _ (ym_e (ym_e h))))), hR⟩
  by_cases o9 : xops (24 * m + i) = 9
  · obtain ⟨u1, u', v1, v', hX, hO, hY1, hY2, hR⟩ := gf_R (g := xvariables (4 * d + a)) M o9
    refine ⟨u1, u', v', fun post h => xo_9 hd hm h24 hxd ha hp hxl eax ha4 hb3 hc4 o9 (hX _ (xm_e h)), hO, fun post h => Y4 post 9 o9 (by decide) (by decide) (by decide) (by decide) (yt_9 hw (by omega) eva.symm (hY1 _ ?_)), hR⟩
    have K := hY2 (fun u => match u with | (ydepth, ysteps, yresult, youtcome, yload, yover, yop, ya, yb, yline, ylength, yfrom, yto, yat, yhandlers, ybegun, ytaken, ythrown, yrowI, yrowWay, yrowLength, ytimes, ytold, ykOp, ykA, ykB, ykLine, ykLength, ykFrom, ykTo, ykAt, ykHandlers, ykBegun, ykTaken, ykThrown, ykept, ymethod, ypc, yvariable, yhereI, yhereWay, yhereLength, yinto, ykLoad, ypart) => post (ydepth, ysteps, yresult, youtcome, yload, yover, yop, ya, yb, yline, ylength, yfrom, yto, yat, yhandlers, ybegun, ytaken, ythrown, yrowI, yrowWay, yrowLength, ytimes, ytold, ykOp, ykA, ykB, ykLine, ykLength, ykFrom, ykTo, ykAt, ykHandlers, ykBegun, ykTaken, ykThrown, ykept, ymethod, ypc, yvariable, yhereI, yhereWay, yhereLength, yinto, ykLoad, ypart)) (ym_e h)
    obtain ⟨ydepth1, ysteps1, yresult1, youtcome1, yload1, yover1, yop1, ya1, yb1, yline1, ylength1, yfrom1, yto1, yat1, yhandlers1, ybegun1, ytaken1, ythrown1, yrowI1, yrowWay1, yrowLength1, ytimes1, ytold1, ykOp1, ykA1, ykB1, ykLine1, ykLength1, ykFrom1, ykTo1, ykAt1, ykHandlers1, ykBegun1, ykTaken1, ykThrown1, ykept1, ymethod1, ypc1, yvariable1, yhereI1, yhereWay1, yhereLength1, yinto1, ykLoad1, ypart1⟩ := v1
    exact K
  by_cases oA : xops (24 * m + i) = 10
  · obtain ⟨u1, u', v', hX, hO, hY, hR⟩ := rf_R (x := xvariables (4 * d + a)) M
    exact ⟨u1, u', v', fun post h => xo_10 hd hm h24 hxd ha hp hxl eax ha4 hb3 hc4 oA (hX _ (xm_e h)), hO, fun post h => Y4 post 10 oA (by decide) (by decide) (by decide) (by decide) (yt_10 hw (eva ▸ hY _ (ym_e h))), hR⟩
  by_cases oB : xops (24 * m + i) = 11
  · by_cases z : xvariables (4 * d + c) = 0
    · obtain ⟨u1, u', v', hX, hO, hY, hR⟩ := rf_R (x := 0) M
      exact ⟨u1, u', v', fun post h => xo_11z hd hm h24 hxd ha hp hxl eax ha4 hb3 hc4 oB z (hX _ (xm_e h)), hO, fun post h => Y4 post 11 oB (by decide) (by decide) (by decide) (by decide) (yt_11z hw (evc ▸ z) (hY _ (ym_e h))), hR⟩
    · obtain ⟨u1, u', v', hX, hO, hY, hR⟩ := lf_R (k := 0) (by decide) (md_var (a := a) (z := xvariables (4 * d + a) / xvariables (4 * d + c)) M)
      refine ⟨u1, u', v', fun post h => xo_11 hd hm h24 hxd ha hp hxl eax ha4 hb3 hc4 oB z (hX _ (xm_e h)), hO, fun post h => Y4 post 11 oB (by decide) (by decide) (by decide) (by decide) (yt_11 hw (evc ▸ z) ?_), hR⟩
      dsimp only
      rw [← eva, ← evc]
      exact hY _ (ym_e h)
  -- SET, ADD, MOVE, SUB
  have YV : ∀ (post : SY → Prop) (z : Int32), ((xops (24 * m + i) = 0 ∧ z = xargsB (24 * m + i)) ∨ (xops (24 * m + i) = 1 ∧ z = xvariables (4 * d + a) + xargsB (24 * m + i)) ∨ (xops (24 * m + i) = 2 ∧ z = xvariables (4 * d + c)) ∨ (xops (24 * m + i) = 3 ∧ z = xvariables (4 * d + a) - xvariables (4 * d + c))) →
      wpY_leave (fun u => match u with | (ydepth, ysteps, yresult, youtcome, yload, yover, yop, ya, yb, yline, ylength, yfrom, yto, yat, yhandlers, ybegun, ytaken, ythrown, yrowI, yrowWay, yrowLength, ytimes, ytold, ykOp, ykA, ykB, ykLine, ykLength, ykFrom, ykTo, ykAt, ykHandlers, ykBegun, ykTaken, ykThrown, ykept, ymethod, ypc, yvariable, yhereI, yhereWay, yhereLength, yinto, ykLoad, ypart) => post (ydepth, ysteps, yresult, youtcome, yload, yover, yop, ya, yb, yline, ylength, yfrom, yto, yat, yhandlers, ybegun, ytaken, ythrown, yrowI, yrowWay, yrowLength, ytimes, ytold, ykOp, ykA, ykB, ykLine, ykLength, ykFrom, ykTo, ykAt, ykHandlers, ykBegun, ykTaken, ykThrown, ykept, ymethod, ypc, yvariable, yhereI, yhereWay, yhereLength, yinto, ykLoad, ypart)) (ydepth, nI (n + 1), yresult, youtcome, nI (L + 1), yover, yop, ya, yb, yline, ylength, yfrom, yto, yat, yhandlers, upd ybegun (24 * m + i) (ybegun (24 * m + i) + 1), ytaken, ythrown, yrowI, yrowWay, yrowLength, ytimes, ytold, ykOp, ykA, ykB, ykLine, ykLength, ykFrom, ykTo, ykAt, ykHandlers, ykBegun, ykTaken, ykThrown, ykept, ymethod, ypc, upd yvariable (4 * d + a) z, upd yhereI (24 * d + q) (nI i), upd yhereWay (24 * d + q) (if q = 0 then 0 else yinto d), upd yhereLength d (nI (q + 1)), yinto, ykLoad, ypart) 0 → wpY_step post (ydepth, ysteps, yresult, youtcome, yload, yover, yop, ya, yb, yline, ylength, yfrom, yto, yat, yhandlers, ybegun, ytaken, ythrown, yrowI, yrowWay, yrowLength, ytimes, ytold, ykOp, ykA, ykB, ykLine, ykLength, ykFrom, ykTo, ykAt, ykHandlers, ykBegun, ykTaken, ykThrown, ykept, ymethod, ypc, yvariable, yhereI, yhereWay, yhereLength, yinto, ykLoad, ypart) := by
    intro post z hz h
    have es : (nI (24 * m + i)).toNatClampNeg = 24 * m + i := nI_clamp (by omega)
    have wv : vp_in (nI (4 * d + a)) 24 := vp_in_nI (by omega) (by omega)
    have cv : (nI (4 * d + a)).toNatClampNeg = 4 * d + a := nI_clamp (by omega)
    have ws : vp_in (nI (24 * m + i)) 120 := vp_in_nI (by omega) (by omega)
    rcases hz with ⟨e, rfl⟩ | ⟨e, rfl⟩ | ⟨e, rfl⟩ | ⟨e, rfl⟩
    · have ek : yop (24 * m + i) = 0 := by rw [← eo]; exact e
      refine ys_in hd hm h24 hyd hme hpc hql hq hyl hst eay ha4 hb3y hc4 (fun _ => ?_) (fun z => absurd ek z)
      rw [ek, ← eb]
      exact yt_178 (by decide) (by decide) (by decide) (yt_234 hw (by decide) (by decide) (by decide) (by decide) (by decide) (by decide) (by decide) h)
    · have ek : yop (24 * m + i) = 1 := by rw [← eo]; exact e
      refine ys_in hd hm h24 hyd hme hpc hql hq hyl hst eay ha4 hb3y hc4 (fun z => absurd (ek.symm.trans z) (by decide)) (fun _ => ?_)
      rw [ek]
      refine br_t rfl ⟨wv, ws, wv, nm_r (e' := upd yvariable (4 * d + a) (xvariables (4 * d + a) + xargsB (24 * m + i))) (by rw [cv, es, eva, eb]) (br_f (by decide) (br_f (by decide) ?_))⟩
      exact yt_234 hw (by decide) (by decide) (by decide) (by decide) (by decide) (by decide) (by decide) h
    · have ek : yop (24 * m + i) = 2 := by rw [← eo]; exact e
      refine ys_in hd hm h24 hyd hme hpc hql hq hyl hst eay ha4 hb3y hc4 (fun z => absurd (ek.symm.trans z) (by decide)) (fun _ => ?_)
      rw [ek]
      refine br_f (by decide) (br_t rfl ⟨wv, nm_r (e' := upd yvariable (4 * d + a) (xvariables (4 * d + c))) (by rw [cv, evc]) (br_f (by decide) ?_)⟩)
      exact yt_234 hw (by decide) (by decide) (by decide) (by decide) (by decide) (by decide) (by decide) h
    · have ek : yop (24 * m + i) = 3 := by rw [← eo]; exact e
      refine ys_in hd hm h24 hyd hme hpc hql hq hyl hst eay ha4 hb3y hc4 (fun z => absurd (ek.symm.trans z) (by decide)) (fun _ => ?_)
      rw [ek]
      refine br_f (by decide) (br_f (by decide) (br_t rfl ⟨wv, wv, nm_r (e' := upd yvariable (4 * d + a) (xvariables (4 * d + a) - xvariables (4 * d + c))) (by rw [cv, eva, evc]) ?_⟩))
      exact yt_234 hw (by decide) (by decide) (by decide) (by decide) (by decide) (by decide) (by decide) h
  have V : ∀ z : Int32, ((xops (24 * m + i) = 0 ∧ z = xargsB (24 * m + i)) ∨ (xops (24 * m + i) = 1 ∧ z = xvariables (4 * d + a) + xargsB (24 * m + i)) ∨ (xops (24 * m + i) = 2 ∧ z = xvariables (4 * d + c)) ∨ (xops (24 * m + i) = 3 ∧ z = xvariables (4 * d + a) - xvariables (4 * d + c))) →
      ∃ (u1 u' : SX) (v' : SY), (∀ post : SX → Prop, post u1 → wpX_performOne post (xdepth, xsignal, xcarried, xlatest, xload, xsizes, xops, xargsA, xargsB, xlines, xguards, xfroms, xtos, xats, xbegunCounts, xthrownCounts, xtakenCounts, xslotUsed, xslotLoad, xstretchNumber, xstretchGone, xstretchRow, xstretchWays, xatWork, xplace, xvariables, xrow, xrowWays, xwayOn, xpart)) ∧ (∀ post : SX → Prop, post u' → wpX_passOn post u1) ∧ (∀ post : SY → Prop, post v' → wpY_step post (ydepth, ysteps, yresult, youtcome, yload, yover, yop, ya, yb, yline, ylength, yfrom, yto, yat, yhandlers, ybegun, ytaken, ythrown, yrowI, yrowWay, yrowLength, ytimes, ytold, ykOp, ykA, ykB, ykLine, ykLength, ykFrom, ykTo, ykAt, ykHandlers, ykBegun, ykTaken, ykThrown, ykept, ymethod, ypc, yvariable, yhereI, yhereWay, yhereLength, yinto, ykLoad, ypart)) ∧ rs_R (L + 1) (n + 1) u' v' := by
    intro z hz
    obtain ⟨u1, u', v', hX, hO, hY, hR⟩ := lf_R (k := 0) (by decide) (md_var (a := a) (z := z) M)
    exact ⟨u1, u', v', fun post h => xo_v hd hm h24 hxd ha hp hxl eax ha4 hb3 hc4 hz (hX _ (xm_e h)), hO, fun post h => YV post z hz (hY _ (ym_e h)), hR⟩
  by_cases o0 : xops (24 * m + i) = 0
  · exact V _ (Or.inl ⟨o0, rfl⟩)
  by_cases o1 : xops (24 * m + i) = 1
  · exact V _ (Or.inr (Or.inl ⟨o1, rfl⟩))
  by_cases o2 : xops (24 * m + i) = 2
  · exact V _ (Or.inr (Or.inr (Or.inl ⟨o2, rfl⟩)))
  by_cases o3 : xops (24 * m + i) = 3
  · exact V _ (Or.inr (Or.inr (Or.inr ⟨o3, rfl⟩)))
  have oo : xops (24 * m + i) = 4 ∨ xops (24 * m + i) < 0 ∨ 11 < xops (24 * m + i) := by
    rcases pk_ix (xops (24 * m + i)) (n := 12) (by decide) with y | y | ⟨k, k12, ek⟩
    · exact Or.inr (Or.inl y)
    · exact Or.inr (Or.inr (Int32.lt_of_lt_of_le (by decide) y))
    · have hk : k = 0 ∨ k = 1 ∨ k = 2 ∨ k = 3 ∨ k = 4 ∨ k = 5 ∨ k = 6 ∨ k = 7 ∨ k = 8 ∨ k = 9 ∨ k = 10 ∨ k = 11 := by omega
      rcases hk with rfl | rfl | rfl | rfl | rfl | rfl | rfl | rfl | rfl | rfl | rfl | rfl
      · exact absurd ek o0
      · exact absurd ek o1
      · exact absurd ek o2
      · exact absurd ek o3
      · exact Or.inl ek
      · exact absurd ek o5
      · exact absurd ek o6
      · exact absurd ek o7
      · exact absurd ek o8
      · exact absurd ek o9
      · exact absurd ek oA
      · exact absurd ek oB
  obtain ⟨u1, u', v', hX, hO, hY, hR⟩ := lf_R (k := 0) (by decide) M
  exact ⟨u1, u', v', fun post h => xo_o hd hm h24 hxd ha hp hxl eax ha4 hb3 hc4 oo (hX _ (xm_e h)), hO, fun post h => Y4 post _ rfl o0 o1 o2 o3 (yt_234 hw o5 o6 o7 o8 o9 oA oB (hY _ (ym_e h))), hR⟩
end
end
section
/-! part 18: run -/
def xr_W (post : Int32 → SX → Prop) (N : Nat) (t : Int32) (u : SX) : Prop := match u with
  | (xdepth, xsignal, xcarried, xlatest, xload, xsizes, xops, xargsA, xargsB, xlines, xguards, xfroms, xtos, xats, xbegunCounts, xthrownCounts, xtakenCounts, xslotUsed, xslotLoad, xstretchNumber, xstretchGone, xstretchRow, xstretchWays, xatWork, xplace, xvariables, xrow, xrowWays, xwayOn, xpart) => wX_run_39 post N t xdepth xsignal xcarried xlatest xload xsizes xops xargsA xargsB xlines xguards xfroms xtos xats xbegunCounts xthrownCounts xtakenCounts xslotUsed xslotLoad xstretchNumber xstretchGone xstretchRow xstretchWays xatWork xplace xvariables xrow xrowWays xwayOn xpart
def yw_W (post : Int32 → SY → Prop) (N : Nat) (v : SY) : Prop := match v with
  | (ydepth, ysteps, yresult, youtcome, yload, yover, yop, ya, yb, yline, ylength, yfrom, yto, yat, yhandlers, ybegun, ytaken, ythrown, yrowI, yrowWay, yrowLength, ytimes, ytold, ykOp, ykA, ykB, ykLine, ykLength, ykFrom, ykTo, ykAt, ykHandlers, ykBegun, ykTaken, ykThrown, ykept, ymethod, ypc, yvariable, yhereI, yhereWay, yhereLength, yinto, ykLoad, ypart) => wY_run_51 post N ydepth ysteps yresult youtcome yload yover yop ya yb yline ylength yfrom yto yat yhandlers ybegun ytaken ythrown yrowI yrowWay yrowLength ytimes ytold ykOp ykA ykB ykLine ykLength ykFrom ykTo ykAt ykHandlers ykBegun ykTaken ykThrown ykept ymethod ypc yvariable yhereI yhereWay yhereLength yinto ykLoad ypart
def xk_W (post : SX → Prop) (N : Nat) (t : Int32) (u : SX) : Prop := match u with
  | (xdepth, xsignal, xcarried, xlatest, xload, xsizes, xops, xargsA, xargsB, xlines, xguards, xfroms, xtos, xats, xbegunCounts, xthrownCounts, xtakenCounts, xslotUsed, xslotLoad, xstretchNumber, xstretchGone, xstretchRow, xstretchWays, xatWork, xplace, xvariables, xrow, xrowWays, xwayOn, xpart) => wX_breakOff_7 post N t xdepth xsignal xcarried xlatest xload xsizes xops xargsA xargsB xlines xguards xfroms xtos xats xbegunCounts xthrownCounts xtakenCounts xslotUsed xslotLoad xstretchNumber xstretchGone xstretchRow xstretchWays xatWork xplace xvariables xrow xrowWays xwayOn xpart
def yl_W (post : Int32 → SY → Prop) (N : Nat) (v : SY) : Prop := match v with
  | (ydepth, ysteps, yresult, youtcome, yload, yover, yop, ya, yb, yline, ylength, yfrom, yto, yat, yhandlers, ybegun, ytaken, ythrown, yrowI, yrowWay, yrowLength, ytimes, ytold, ykOp, ykA, ykB, ykLine, ykLength, ykFrom, ykTo, ykAt, ykHandlers, ykBegun, ykTaken, ykThrown, ykept, ymethod, ypc, yvariable, yhereI, yhereWay, yhereLength, yinto, ykLoad, ypart) => wY_run_68 post N ydepth ysteps yresult youtcome yload yover yop ya yb yline ylength yfrom yto yat yhandlers ybegun ytaken ythrown yrowI yrowWay yrowLength ytimes ytold ykOp ykA ykB ykLine ykLength ykFrom ykTo ykAt ykHandlers ykBegun ykTaken ykThrown ykept ymethod ypc yvariable yhereI yhereWay yhereLength yinto ykLoad ypart
/-- D invocations are broken off -/
def bo_R (D L : Nat) (u : SX) (v : SY) : Prop := match u, v with
  | (xdepth, xsignal, xcarried, xlatest, xload, xsizes, xops, xargsA, xargsB, xlines, xguards, xfroms, xtos, xats, xbegunCounts, xthrownCounts, xtakenCounts, xslotUsed, xslotLoad, xstretchNumber, xstretchGone, xstretchRow, xstretchWays, xatWork, xplace, xvariables, xrow, xrowWays, xwayOn, xpart), (ydepth, ysteps, yresult, youtcome, yload, yover, yop, ya, yb, yline, ylength, yfrom, yto, yat, yhandlers, ybegun, ytaken, ythrown, yrowI, yrowWay, yrowLength, ytimes, ytold, ykOp, ykA, ykB, ykLine, ykLength, ykFrom, ykTo, ykAt, ykHandlers, ykBegun, ykTaken, ykThrown, ykept, ymethod, ypc, yvariable, yhereI, yhereWay, yhereLength, yinto, ykLoad, ypart) => ydepth = nI D ∧ yresult = 0 ∧ xload = nI L ∧ yload = nI L ∧ (gp_R xsizes xops xargsA xargsB xlines xguards xfroms xtos xats yop ya yb yline ylength yfrom yto yat yhandlers ykOp ykA ykB ykLine ykLength ykFrom ykTo ykAt ykHandlers) ∧ (gc_R xsizes xbegunCounts xthrownCounts xtakenCounts xslotUsed xslotLoad ybegun ythrown ytaken ykBegun ykThrown ykTaken ykept ykLoad) ∧ (st_R xstretchNumber xstretchGone xstretchRow xstretchWays yrowI yrowWay yrowLength ytimes ytold) ∧ (tb_R 0 L xtakenCounts) ∧
    (∀ d, d < D → ∃ (m q : Nat) (I W : Nat → Nat), m < 4 ∧ xatWork d = nI m ∧ ymethod d = nI m ∧ yhereLength d = nI q ∧ en_R yhereI yhereWay (24 * d) q (xrow d) (xrowWays d) I W)
theorem bo_L {L : Nat} : ∀ (D : Nat) (u : SX) (v : SY), D ≤ 6 → bo_R D L u v →
    ∃ (u' : SX) (v' : SY), (∀ (post : SX → Prop) (N : Nat), D < N → post u' → xk_W post N (nI D - 1) u) ∧ (∀ (post : Int32 → SY → Prop) (N : Nat), D < N → post 2 v' → yl_W post N v) ∧ bo_R 0 L u' v' := by
  intro D
  induction D with
  | zero =>
    intro u v _ H
    refine ⟨u, v, fun post N hN hp => ?_, fun post N hN hp => ?_, H⟩
    · obtain ⟨xdepth, xsignal, xcarried, xlatest, xload, xsizes, xops, xargsA, xargsB, xlines, xguards, xfroms, xtos, xats, xbegunCounts, xthrownCounts, xtakenCounts, xslotUsed, xslotLoad, xstretchNumber, xstretchGone, xstretchRow, xstretchWays, xatWork, xplace, xvariables, xrow, xrowWays, xwayOn, xpart⟩ := u
      obtain ⟨N, rfl⟩ : ∃ M, N = M + 1 := ⟨N - 1, by omega⟩
      show wX_breakOff_7 post (N + 1) (nI 0 - 1) xdepth xsignal xcarried xlatest xload xsizes xops xargsA xargsB xlines xguards xfroms xtos xats xbegunCounts xthrownCounts xtakenCounts xslotUsed xslotLoad xstretchNumber xstretchGone xstretchRow xstretchWays xatWork xplace xvariables xrow xrowWays xwayOn xpart
      rw [wX_breakOff_7]
      exact br_t (by decide) hp
    · obtain ⟨xdepth, xsignal, xcarried, xlatest, xload, xsizes, xops, xargsA, xargsB, xlines, xguards, xfroms, xtos, xats, xbegunCounts, xthrownCounts, xtakenCounts, xslotUsed, xslotLoad, xstretchNumber, xstretchGone, xstretchRow, xstretchWays, xatWork, xplace, xvariables, xrow, xrowWays, xwayOn, xpart⟩ := u
      obtain ⟨ydepth, ysteps, yresult, youtcome, yload, yover, yop, ya, yb, yline, ylength, yfrom, yto, yat, yhandlers, ybegun, ytaken, ythrown, yrowI, yrowWay, yrowLength, ytimes, ytold, ykOp, ykA, ykB, ykLine, ykLength, ykFrom, ykTo, ykAt, ykHandlers, ykBegun, ykTaken, ykThrown, ykept, ymethod, ypc, yvariable, yhereI, yhereWay, yhereLength, yinto, ykLoad, ypart⟩ := v
      obtain ⟨N, rfl⟩ : ∃ M, N = M + 1 := ⟨N - 1, by omega⟩
      show wY_run_68 post (N + 1) ydepth ysteps yresult youtcome yload yover yop ya yb yline ylength yfrom yto yat yhandlers ybegun ytaken ythrown yrowI yrowWay yrowLength ytimes ytold ykOp ykA ykB ykLine ykLength ykFrom ykTo ykAt ykHandlers ykBegun ykTaken ykThrown ykept ymethod ypc yvariable yhereI yhereWay yhereLength yinto ykLoad ypart
      rw [wY_run_68]
      exact br_t (by rw [H.1]; decide) hp
  | succ D ih =>
    intro u v hD H
    obtain ⟨xdepth, xsignal, xcarried, xlatest, xload, xsizes, xops, xargsA, xargsB, xlines, xguards, xfroms, xtos, xats, xbegunCounts, xthrownCounts, xtakenCounts, xslotUsed, xslotLoad, xstretchNumber, xstretchGone, xstretchRow, xstretchWays, xatWork, xplace, xvariables, xrow, xrowWays, xwayOn, xpart⟩ := u
    obtain ⟨ydepth, ysteps, yresult, youtcome, yload, yover, yop, ya, yb, yline, ylength, yfrom, yto, yat, yhandlers, ybegun, ytaken, ythrown, yrowI, yrowWay, yrowLength, ytimes, ytold, ykOp, ykA, ykB, ykLine, ykLength, ykFrom, ykTo, ykAt, ykHandlers, ykBegun, ykTaken, ykThrown, ykept, ymethod, ypc, yvariable, yhereI, yhereWay, yhereLength, yinto, ykLoad, ypart⟩ := v
    obtain ⟨hyd, hre, hxl, hyl, hP, hC, hS, hT, hF⟩ := H
    obtain ⟨m, q, I, W, hm, ha, hme, hl, he⟩ := hF D (by omega)
    obtain ⟨sn, sg, sr, sw, ri, rv, rl, ti, tl, hX, hY, hS'⟩ := cl_R (xdepth := xdepth) (xsignal := xsignal) (xcarried := xcarried) (xlatest := xlatest) (xload := xload) (xsizes := xsizes) (xops := xops) (xargsA := xargsA) (xargsB := xargsB) (xlines := xlines) (xguards := xguards) (xfroms := xfroms) (xtos := xtos) (xats := xats) (xbegunCounts := xbegunCounts) (xthrownCounts := xthrownCounts) (xtakenCounts := xtakenCounts) (xslotUsed := xslotUsed) (xslotLoad := xslotLoad) (xstretchNumber := xstretchNumber) (xstretchGone := xstretchGone) (xstretchRow := xstretchRow) (xstretchWays := xstretchWays) (xatWork := xatWork) (xplace := xplace) (xvariables := xvariables) (xrow := xrow) (xrowWays := xrowWays) (xwayOn := xwayOn) (xpart := xpart) (ydepth := ydepth) (ysteps := ysteps) (yresult := yresult) (youtcome := youtcome) (yload := yload) (yover := yover) (yop := yop) (ya := ya) (yb := yb) (yline := yline) (ylength := ylength) (yfrom := yfrom) (yto := yto) (yat := yat) (yhandlers := yhandlers) (ybegun := ybegun) (ytaken := ytaken) (ythrown := ythrown) (yrowI := yrowI) (yrowWay := yrowWay) (yrowLength := yrowLength) (ytimes := ytimes) (ytold := ytold) (ykOp := ykOp) (ykA := ykA) (ykB := ykB) (ykLine := ykLine) (ykLength := ykLength) (ykFrom := ykFrom) (ykTo := ykTo) (ykAt := ykAt) (ykHandlers := ykHandlers) (ykBegun := ykBegun) (ykTaken := ykTaken) (ykThrown := ykThrown) (ykept := ykept) (ymethod := ymethod) (ypc := ypc) (yvariable := yvariable) (yhereI := yhereI) (yhereWay := yhereWay) (yhereLength := yhereLength) (yinto := yinto) (ykLoad := ykLoad) (ypart := ypart) (show D < 6 by omega) hm ha hme hl he hS hyd
    have K : bo_R D L (xdepth, xsignal, xcarried, xlatest, xload, xsizes, xops, xargsA, xargsB, xlines, xguards, xfroms, xtos, xats, xbegunCounts, xthrownCounts, xtakenCounts, xslotUsed, xslotLoad, sn, sg, sr, sw, xatWork, xplace, xvariables, upd xrow D 0, vp_updL xrowWays D 0, vp_updL xwayOn D 0, xpart) (nI D, ysteps, yresult, youtcome, yload, yover, yop, ya, yb, yline, ylength, yfrom, yto, yat, yhandlers, ybegun, ytaken, ythrown, ri, rv, rl, ti, tl, ykOp, ykA, ykB, ykLine, ykLength, ykFrom, ykTo, ykAt, ykHandlers, ykBegun, ykTaken, ykThrown, ykept, ymethod, ypc, yvariable, yhereI, yhereWay, upd yhereLength D 0, yinto, ykLoad, ypart) := by
      refine ⟨rfl, hre, hxl, hyl, hP, hC, hS', hT, fun d hd => ?_⟩
      obtain ⟨m, q, I, W, g1, g2, g3, g4, g5⟩ := hF d (by omega)
      refine ⟨m, q, I, W, g1, g2, g3, by rw [pk_un (by omega)]; exact g4, ?_⟩
      rw [pk_un (by omega), pk_uLn (by omega)]
      exact g5
    obtain ⟨u', v', iX, iY, iR⟩ := ih _ _ (by omega) K
    refine ⟨u', v', fun post N hN hp => ?_, fun post N hN hp => ?_, iR⟩
    · obtain ⟨N, rfl⟩ : ∃ M, N = M + 1 := ⟨N - 1, by omega⟩
      show wX_breakOff_7 post (N + 1) (nI (D + 1) - 1) xdepth xsignal xcarried xlatest xload xsizes xops xargsA xargsB xlines xguards xfroms xtos xats xbegunCounts xthrownCounts xtakenCounts xslotUsed xslotLoad xstretchNumber xstretchGone xstretchRow xstretchWays xatWork xplace xvariables xrow xrowWays xwayOn xpart
      rw [nI_pred, wX_breakOff_7]
      refine br_f (nI_pos (by omega)) (hX _ ?_)
      exact nm_r (Int32.sub_eq_add_neg _ _).symm (iX post N (by omega) hp)
    · obtain ⟨N, rfl⟩ : ∃ M, N = M + 1 := ⟨N - 1, by omega⟩
      show wY_run_68 post (N + 1) ydepth ysteps yresult youtcome yload yover yop ya yb yline ylength yfrom yto yat yhandlers ybegun ytaken ythrown yrowI yrowWay yrowLength ytimes ytold ykOp ykA ykB ykLine ykLength ykFrom ykTo ykAt ykHandlers ykBegun ykTaken ykThrown ykept ymethod ypc yvariable yhereI yhereWay yhereLength yinto ykLoad ypart
      rw [wY_run_68]
      refine br_f (by rw [hyd]; exact nI_nle (by omega) (by omega)) (hY _ ?_)
      exact nm_r (by rw [hyd]; exact nI_pred D) (iY post N (by omega) hp)
theorem rl_0 {d m i L : Nat} {u : SX} {v : SY} (hL : L ≤ 1000000200) (H : hd_R d m i L 200 u v) :
    ∃ (u' : SX) (v' : SY), (∀ (post : Int32 → SX → Prop) (N : Nat), post 2 u' → xr_W post (N + 1) (nI 200) u) ∧ (∀ (post : Int32 → SY → Prop) (N : Nat), post 2 v' → yw_W post (N + 1) v) ∧ i_Rel 0 u' v' := by
  obtain ⟨xdepth, xsignal, xcarried, xlatest, xload, xsizes, xops, xargsA, xargsB, xlines, xguards, xfroms, xtos, xats, xbegunCounts, xthrownCounts, xtakenCounts, xslotUsed, xslotLoad, xstretchNumber, xstretchGone, xstretchRow, xstretchWays, xatWork, xplace, xvariables, xrow, xrowWays, xwayOn, xpart⟩ := u
  obtain ⟨ydepth, ysteps, yresult, youtcome, yload, yover, yop, ya, yb, yline, ylength, yfrom, yto, yat, yhandlers, ybegun, ytaken, ythrown, yrowI, yrowWay, yrowLength, ytimes, ytold, ykOp, ykA, ykB, ykLine, ykLength, ykFrom, ykTo, ykAt, ykHandlers, ykBegun, ykTaken, ykThrown, ykept, ymethod, ypc, yvariable, yhereI, yhereWay, yhereLength, yinto, ykLoad, ypart⟩ := v
  obtain ⟨hd, hxd, hyd, hsg, hxl, hyl, hst, hov, hou, hre, hP, hC, hS, hF, hA, hT⟩ := H
  have B : bo_R (d + 1) L (xdepth, xsignal, xcarried, xlatest, xload, xsizes, xops, xargsA, xargsB, xlines, xguards, xfroms, xtos, xats, xbegunCounts, xthrownCounts, xtakenCounts, xslotUsed, xslotLoad, xstretchNumber, xstretchGone, xstretchRow, xstretchWays, xatWork, xplace, xvariables, xrow, xrowWays, xwayOn, xpart) (ydepth, ysteps, yresult, youtcome, yload, yover, yop, ya, yb, yline, ylength, yfrom, yto, yat, yhandlers, ybegun, ytaken, ythrown, yrowI, yrowWay, yrowLength, ytimes, ytold, ykOp, ykA, ykB, ykLine, ykLength, ykFrom, ykTo, ykAt, ykHandlers, ykBegun, ykTaken, ykThrown, ykept, ymethod, ypc, yvariable, yhereI, yhereWay, yhereLength, yinto, ykLoad, ypart) := by
    refine ⟨hyd, hre, hxl, hyl, hP, hC, hS, tb_w hT (by omega), fun j hj => ?_⟩
    rcases Nat.lt_or_ge j d with z | z
    · obtain ⟨m, i, ⟨g1, g2, g3, g4, g5, g6, g7⟩, q, I, W, f1, f2, f3⟩ := hF j z
      exact ⟨m, q + 1, I, W, g1, g3, g4, f1, f2⟩
    · have e : j = d := by omega
      subst e
      obtain ⟨⟨g1, g2, g3, g4, g5, g6, g7⟩, q, I, W, f1, f2, f3⟩ := hA
      exact ⟨m, q, I, W, g1, g3, g4, f1, f2⟩
  obtain ⟨u', v', hX, hY, hR⟩ := bo_L (d + 1) _ _ (by omega) B
  obtain ⟨xdepth1, xsignal1, xcarried1, xlatest1, xload1, xsizes1, xops1, xargsA1, xargsB1, xlines1, xguards1, xfroms1, xtos1, xats1, xbegunCounts1, xthrownCounts1, xtakenCounts1, xslotUsed1, xslotLoad1, xstretchNumber1, xstretchGone1, xstretchRow1, xstretchWays1, xatWork1, xplace1, xvariables1, xrow1, xrowWays1, xwayOn1, xpart1⟩ := u'
  obtain ⟨ydepth1, ysteps1, yresult1, youtcome1, yload1, yover1, yop1, ya1, yb1, yline1, ylength1, yfrom1, yto1, yat1, yhandlers1, ybegun1, ytaken1, ythrown1, yrowI1, yrowWay1, yrowLength1, ytimes1, ytold1, ykOp1, ykA1, ykB1, ykLine1, ykLength1, ykFrom1, ykTo1, ykAt1, ykHandlers1, ykBegun1, ykTaken1, ykThrown1, ykept1, ymethod1, ypc1, yvariable1, yhereI1, yhereWay1, yhereLength1, yinto1, ykLoad1, ypart1⟩ := v'
  obtain ⟨k1, k2, k3, k4, k5, k6, k7, k8, k9⟩ := hR
  refine ⟨(xdepth1, xsignal1, xcarried1, 0, xload1, xsizes1, xops1, xargsA1, xargsB1, xlines1, xguards1, xfroms1, xtos1, xats1, xbegunCounts1, xthrownCounts1, xtakenCounts1, xslotUsed1, xslotLoad1, xstretchNumber1, xstretchGone1, xstretchRow1, xstretchWays1, xatWork1, xplace1, xvariables1, xrow1, xrowWays1, xwayOn1, xpart1), (ydepth1, ysteps1, yresult1, youtcome1, yload1, yover1, yop1, ya1, yb1, yline1, ylength1, yfrom1, yto1, yat1, yhandlers1, ybegun1, ytaken1, ythrown1, yrowI1, yrowWay1, yrowLength1, ytimes1, ytold1, ykOp1, ykA1, ykB1, ykLine1, ykLength1, ykFrom1, ykTo1, ykAt1, ykHandlers1, ykBegun1, ykTaken1, ykThrown1, ykept1, ymethod1, ypc1, yvariable1, yhereI1, yhereWay1, yhereLength1, yinto1, ykLoad1, ypart1), fun post N hp => ?_, fun post N hp => ?_, ⟨L, hL, k3, k4, k2.symm, k5, k6, k7, k8⟩⟩
  · show wX_run_39 post (N + 1) (nI 200) xdepth xsignal xcarried xlatest xload xsizes xops xargsA xargsB xlines xguards xfroms xtos xats xbegunCounts xthrownCounts xtakenCounts xslotUsed xslotLoad xstretchNumber xstretchGone xstretchRow xstretchWays xatWork xplace xvariables xrow xrowWays xwayOn xpart
    rw [wX_run_39]
    refine br_t (by decide) (br_f (by rw [hxd]; exact nI_nle (by omega) (by omega)) ?_)
    exact nm_r (e' := nI (d + 1) - 1) (by rw [hxd]) ⟨d + 2, hX (fun u => match u with | (xdepth, xsignal, xcarried, xlatest, xload, xsizes, xops, xargsA, xargsB, xlines, xguards, xfroms, xtos, xats, xbegunCounts, xthrownCounts, xtakenCounts, xslotUsed, xslotLoad, xstretchNumber, xstretchGone, xstretchRow, xstretchWays, xatWork, xplace, xvariables, xrow, xrowWays, xwayOn, xpart) => post 2 (xdepth, xsignal, xcarried, 0, xload, xsizes, xops, xargsA, xargsB, xlines, xguards, xfroms, xtos, xats, xbegunCounts, xthrownCounts, xtakenCounts, xslotUsed, xslotLoad, xstretchNumber, xstretchGone, xstretchRow, xstretchWays, xatWork, xplace, xvariables, xrow, xrowWays, xwayOn, xpart)) (d + 2) (by omega) hp⟩
  · show wY_run_51 post (N + 1) ydepth ysteps yresult youtcome yload yover yop ya yb yline ylength yfrom yto yat yhandlers ybegun ytaken ythrown yrowI yrowWay yrowLength ytimes ytold ykOp ykA ykB ykLine ykLength ykFrom ykTo ykAt ykHandlers ykBegun ykTaken ykThrown ykept ymethod ypc yvariable yhereI yhereWay yhereLength yinto ykLoad ypart
    rw [wY_run_51]
    exact br_t hov (br_t (by rw [hst]; decide) ⟨d + 2, hY _ (d + 2) (by omega) hp⟩)
/-- the run is over: the answer -/
theorem rl_e {s c : Int32} {L n : Nat} {u : SX} {v : SY} (hn : n ≤ 200) (hL : L ≤ 1000000200) (H : ov_R s c L u v) :
    ∃ (r : Int32) (u' : SX), (∀ (post : Int32 → SX → Prop) (N : Nat), post r u' → xr_W post (N + 1) (nI n) u) ∧ (∀ (post : Int32 → SY → Prop) (N : Nat), post r v → yw_W post (N + 1) v) ∧ i_Rel 0 u' v := by
  obtain ⟨xdepth, xsignal, xcarried, xlatest, xload, xsizes, xops, xargsA, xargsB, xlines, xguards, xfroms, xtos, xats, xbegunCounts, xthrownCounts, xtakenCounts, xslotUsed, xslotLoad, xstretchNumber, xstretchGone, xstretchRow, xstretchWays, xatWork, xplace, xvariables, xrow, xrowWays, xwayOn, xpart⟩ := u
  obtain ⟨ydepth, ysteps, yresult, youtcome, yload, yover, yop, ya, yb, yline, ylength, yfrom, yto, yat, yhandlers, ybegun, ytaken, ythrown, yrowI, yrowWay, yrowLength, ytimes, ytold, ykOp, ykA, ykB, ykLine, ykLength, ykFrom, ykTo, ykAt, ykHandlers, ykBegun, ykTaken, ykThrown, ykept, ymethod, ypc, yvariable, yhereI, yhereWay, yhereLength, yinto, ykLoad, ypart⟩ := v
  obtain ⟨hxd, hsg, hca, hov, hre, hou, hxl, hyl, hP, hC, hS, hT⟩ := H
  refine ⟨youtcome, (xdepth, xsignal, xcarried, xcarried, xload, xsizes, xops, xargsA, xargsB, xlines, xguards, xfroms, xtos, xats, xbegunCounts, xthrownCounts, xtakenCounts, xslotUsed, xslotLoad, xstretchNumber, xstretchGone, xstretchRow, xstretchWays, xatWork, xplace, xvariables, xrow, xrowWays, xwayOn, xpart), fun post N hp => ?_, fun post N hp => ?_, ⟨L, hL, hxl, hyl, hca.trans hre.symm, hP, hC, hS, hT⟩⟩
  · have z : xdepth ≤ 0 := by rw [hxd]; decide
    have K : wX_run_68 post xdepth xsignal xcarried xlatest xload xsizes xops xargsA xargsB xlines xguards xfroms xtos xats xbegunCounts xthrownCounts xtakenCounts xslotUsed xslotLoad xstretchNumber xstretchGone xstretchRow xstretchWays xatWork xplace xvariables xrow xrowWays xwayOn xpart := by
      refine br_t z ?_
      rcases hou with ⟨h1, h2⟩ | ⟨h1, h2⟩
      · rw [h2] at hp
        exact br_f (by rw [hsg, h1]; decide) hp
      · rw [h2] at hp
        exact br_t (by rw [hsg, h1]) hp
    show wX_run_39 post (N + 1) (nI n) xdepth xsignal xcarried xlatest xload xsizes xops xargsA xargsB xlines xguards xfroms xtos xats xbegunCounts xthrownCounts xtakenCounts xslotUsed xslotLoad xstretchNumber xstretchGone xstretchRow xstretchWays xatWork xplace xvariables xrow xrowWays xwayOn xpart
    rw [wX_run_39]
    by_cases y : (200 : Int32) ≤ nI n
    · exact br_t y K
    · exact br_f y (br_t z K)
  · show wY_run_51 post (N + 1) ydepth ysteps yresult youtcome yload yover yop ya yb yline ylength yfrom yto yat yhandlers ybegun ytaken ythrown yrowI yrowWay yrowLength ytimes ytold ykOp ykA ykB ykLine ykLength ykFrom ykTo ykAt ykHandlers ykBegun ykTaken ykThrown ykept ymethod ypc yvariable yhereI yhereWay yhereLength yinto ykLoad ypart
    rw [wY_run_51]
    exact br_f (by rw [hov]; decide) hp
theorem rl_R : ∀ (e n d m i L : Nat) (u : SX) (v : SY), n + e = 200 → L ≤ 1000000000 + n → hd_R d m i L n u v →
    ∃ (r : Int32) (u' : SX) (v' : SY), (∀ (post : Int32 → SX → Prop) (N : Nat), e < N → post r u' → xr_W post N (nI n) u) ∧ (∀ (post : Int32 → SY → Prop) (N : Nat), e < N → post r v' → yw_W post N v) ∧ i_Rel 0 u' v' := by
  intro e
  induction e with
  | zero =>
    intro n d m i L u v hn hL H
    have z : n = 200 := by omega
    subst z
    obtain ⟨u', v', hX, hY, hR⟩ := rl_0 (by omega) H
    refine ⟨2, u', v', fun post N hN hp => ?_, fun post N hN hp => ?_, hR⟩
    · obtain ⟨N, rfl⟩ : ∃ M, N = M + 1 := ⟨N - 1, by omega⟩
      exact hX post N hp
    · obtain ⟨N, rfl⟩ : ∃ M, N = M + 1 := ⟨N - 1, by omega⟩
      exact hY post N hp
  | succ e ih =>
    intro n d m i L u v hn hL H
    obtain ⟨xdepth, xsignal, xcarried, xlatest, xload, xsizes, xops, xargsA, xargsB, xlines, xguards, xfroms, xtos, xats, xbegunCounts, xthrownCounts, xtakenCounts, xslotUsed, xslotLoad, xstretchNumber, xstretchGone, xstretchRow, xstretchWays, xatWork, xplace, xvariables, xrow, xrowWays, xwayOn, xpart⟩ := u
    obtain ⟨ydepth, ysteps, yresult, youtcome, yload, yover, yop, ya, yb, yline, ylength, yfrom, yto, yat, yhandlers, ybegun, ytaken, ythrown, yrowI, yrowWay, yrowLength, ytimes, ytold, ykOp, ykA, ykB, ykLine, ykLength, ykFrom, ykTo, ykAt, ykHandlers, ykBegun, ykTaken, ykThrown, ykept, ymethod, ypc, yvariable, yhereI, yhereWay, yhereLength, yinto, ykLoad, ypart⟩ := v
    obtain ⟨u1, u2, v2, hX, hO, hY, hR⟩ := sp_R H
    obtain ⟨hd, hxd, hyd, hsg, hxl, hyl, hst, hov, hou, hre, _⟩ := H
    have X0 : ∀ (post : Int32 → SX → Prop) (N : Nat), xr_W post N (nI (n + 1)) u2 → xr_W post (N + 1) (nI n) (xdepth, xsignal, xcarried, xlatest, xload, xsizes, xops, xargsA, xargsB, xlines, xguards, xfroms, xtos, xats, xbegunCounts, xthrownCounts, xtakenCounts, xslotUsed, xslotLoad, xstretchNumber, xstretchGone, xstretchRow, xstretchWays, xatWork, xplace, xvariables, xrow, xrowWays, xwayOn, xpart) := by
      intro post N h
      show wX_run_39 post (N + 1) (nI n) xdepth xsignal xcarried xlatest xload xsizes xops xargsA xargsB xlines xguards xfroms xtos xats xbegunCounts xthrownCounts xtakenCounts xslotUsed xslotLoad xstretchNumber xstretchGone xstretchRow xstretchWays xatWork xplace xvariables xrow xrowWays xwayOn xpart
      rw [wX_run_39]
      refine br_f (nI_ge (b := 200) (by omega) (by decide)) (br_f (by rw [hxd]; exact nI_nle (by omega) (by omega)) (hX _ ?_))
      obtain ⟨xdepth1, xsignal1, xcarried1, xlatest1, xload1, xsizes1, xops1, xargsA1, xargsB1, xlines1, xguards1, xfroms1, xtos1, xats1, xbegunCounts1, xthrownCounts1, xtakenCounts1, xslotUsed1, xslotLoad1, xstretchNumber1, xstretchGone1, xstretchRow1, xstretchWays1, xatWork1, xplace1, xvariables1, xrow1, xrowWays1, xwayOn1, xpart1⟩ := u1
      refine hO _ ?_
      obtain ⟨xdepth2, xsignal2, xcarried2, xlatest2, xload2, xsizes2, xops2, xargsA2, xargsB2, xlines2, xguards2, xfroms2, xtos2, xats2, xbegunCounts2, xthrownCounts2, xtakenCounts2, xslotUsed2, xslotLoad2, xstretchNumber2, xstretchGone2, xstretchRow2, xstretchWays2, xatWork2, xplace2, xvariables2, xrow2, xrowWays2, xwayOn2, xpart2⟩ := u2
      exact nm_r (nI_1 n) h
    have Y0 : ∀ (post : Int32 → SY → Prop) (N : Nat), yw_W post N v2 → yw_W post (N + 1) (ydepth, ysteps, yresult, youtcome, yload, yover, yop, ya, yb, yline, ylength, yfrom, yto, yat, yhandlers, ybegun, ytaken, ythrown, yrowI, yrowWay, yrowLength, ytimes, ytold, ykOp, ykA, ykB, ykLine, ykLength, ykFrom, ykTo, ykAt, ykHandlers, ykBegun, ykTaken, ykThrown, ykept, ymethod, ypc, yvariable, yhereI, yhereWay, yhereLength, yinto, ykLoad, ypart) := by
      intro post N h
      have z : ¬ ysteps = 200 := by
        rw [hst]
        intro z
        have := (nI_eq (a := n) (b := 200) (by omega) (by omega)).mp z
        omega
      show wY_run_51 post (N + 1) ydepth ysteps yresult youtcome yload yover yop ya yb yline ylength yfrom yto yat yhandlers ybegun ytaken ythrown yrowI yrowWay yrowLength ytimes ytold ykOp ykA ykB ykLine ykLength ykFrom ykTo ykAt ykHandlers ykBegun ykTaken ykThrown ykept ymethod ypc yvariable yhereI yhereWay yhereLength yinto ykLoad ypart
      rw [wY_run_51]
      refine br_t hov (br_f z (hY _ ?_))
      obtain ⟨ydepth1, ysteps1, yresult1, youtcome1, yload1, yover1, yop1, ya1, yb1, yline1, ylength1, yfrom1, yto1, yat1, yhandlers1, ybegun1, ytaken1, ythrown1, yrowI1, yrowWay1, yrowLength1, ytimes1, ytold1, ykOp1, ykA1, ykB1, ykLine1, ykLength1, ykFrom1, ykTo1, ykAt1, ykHandlers1, ykBegun1, ykTaken1, ykThrown1, ykept1, ymethod1, ypc1, yvariable1, yhereI1, yhereWay1, yhereLength1, yinto1, ykLoad1, ypart1⟩ := v2
      exact h
    rcases hR with ⟨d', m', i', hR⟩ | ⟨s, c, hR⟩
    · obtain ⟨r, u', v', iX, iY, iR⟩ := ih (n + 1) d' m' i' (L + 1) u2 v2 (by omega) (by omega) hR
      refine ⟨r, u', v', fun post N hN hp => ?_, fun post N hN hp => ?_, iR⟩
      · obtain ⟨N, rfl⟩ : ∃ M, N = M + 1 := ⟨N - 1, by omega⟩
        exact X0 post N (iX post N (by omega) hp)
      · obtain ⟨N, rfl⟩ : ∃ M, N = M + 1 := ⟨N - 1, by omega⟩
        exact Y0 post N (iY post N (by omega) hp)
    · obtain ⟨r, u', iX, iY, iR⟩ := rl_e (n := n + 1) (by omega) (by omega) hR
      refine ⟨r, u', v2, fun post N hN hp => ?_, fun post N hN hp => ?_, iR⟩
      · obtain ⟨N, rfl⟩ : ∃ M, N = M + 2 := ⟨N - 2, by omega⟩
        exact X0 post (N + 1) (iX post N hp)
      · obtain ⟨N, rfl⟩ : ∃ M, N = M + 2 := ⟨N - 2, by omega⟩
        exact Y0 post (N + 1) (iY post N hp)
theorem i_vc_run {k : Nat} {u : SX} {v : SY} (I : i_Rel k u v) (hk : k + 5 ≤ 2560) (v1 : Int32) (v2 : Int32) (v3 : Int32) : wpX_run (fun r u' => wpY_run (fun r' v' => r' = r ∧ i_Rel (k + 5) u' v') v v1 v2 v3) u v1 v2 v3 := by
  obtain ⟨xdepth, xsignal, xcarried, xlatest, xload, xsizes, xops, xargsA, xargsB, xlines, xguards, xfroms, xtos, xats, xbegunCounts, xthrownCounts, xtakenCounts, xslotUsed, xslotLoad, xstretchNumber, xstretchGone, xstretchRow, xstretchWays, xatWork, xplace, xvariables, xrow, xrowWays, xwayOn, xpart⟩ := u
  obtain ⟨ydepth, ysteps, yresult, youtcome, yload, yover, yop, ya, yb, yline, ylength, yfrom, yto, yat, yhandlers, ybegun, ytaken, ythrown, yrowI, yrowWay, yrowLength, ytimes, ytold, ykOp, ykA, ykB, ykLine, ykLength, ykFrom, ykTo, ykAt, ykHandlers, ykBegun, ykTaken, ykThrown, ykept, ymethod, ypc, yvariable, yhereI, yhereWay, yhereLength, yinto, ykLoad, ypart⟩ := v
  have J := I
  obtain ⟨L, h1, h2, h3, h4, hP, hC, hS, hT⟩ := I
  unfold wpX_run wpY_run
  rcases th_c (xdepth := xdepth) (xsignal := xsignal) (xcarried := xcarried) (xlatest := xlatest) (xload := xload) (xsizes := xsizes) (xops := xops) (xargsA := xargsA) (xargsB := xargsB) (xlines := xlines) (xguards := xguards) (xfroms := xfroms) (xtos := xtos) (xats := xats) (xbegunCounts := xbegunCounts) (xthrownCounts := xthrownCounts) (xtakenCounts := xtakenCounts) (xslotUsed := xslotUsed) (xslotLoad := xslotLoad) (xstretchNumber := xstretchNumber) (xstretchGone := xstretchGone) (xstretchRow := xstretchRow) (xstretchWays := xstretchWays) (xatWork := xatWork) (xplace := xplace) (xvariables := xvariables) (xrow := xrow) (xrowWays := xrowWays) (xwayOn := xwayOn) (xpart := xpart) (ydepth := ydepth) (ysteps := ysteps) (yresult := yresult) (youtcome := youtcome) (yload := yload) (yover := yover) (yop := yop) (ya := ya) (yb := yb) (yline := yline) (ylength := ylength) (yfrom := yfrom) (yto := yto) (yat := yat) (yhandlers := yhandlers) (ybegun := ybegun) (ytaken := ytaken) (ythrown := ythrown) (yrowI := yrowI) (yrowWay := yrowWay) (yrowLength := yrowLength) (ytimes := ytimes) (ytold := ytold) (ykOp := ykOp) (ykA := ykA) (ykB := ykB) (ykLine := ykLine) (ykLength := ykLength) (ykFrom := ykFrom) (ykTo := ykTo) (ykAt := ykAt) (ykHandlers := ykHandlers) (ykBegun := ykBegun) (ykTaken := ykTaken) (ykThrown := ykThrown) (ykept := ykept) (ymethod := ymethod) (ypc := ypc) (yvariable := yvariable) (yhereI := yhereI) (yhereWay := yhereWay) (yhereLength := yhereLength) (yinto := yinto) (ykLoad := ykLoad) (ypart := ypart) v1 hP with ⟨m, hm, rfl, hs, hX, hY⟩ | ⟨hX, hY⟩
  · rcases Nat.lt_or_ge 1000000000 L with z | z
    · have zx : ¬ xload ≤ 1000000000 := by rw [h2]; exact nI_ge (a := 1000000000) z (by omega)
      have zy : ¬ yload ≤ 1000000000 := by rw [h3]; exact nI_ge (a := 1000000000) z (by omega)
      exact hX _ (br_f (by decide) (br_f zx (hY _ (br_f (by decide) (br_f zy ⟨rfl, J⟩)))))
    · have zx : xload ≤ 1000000000 := by rw [h2]; exact nI_le (b := 1000000000) z (by decide)
      have zy : yload ≤ 1000000000 := by rw [h3]; exact nI_le (b := 1000000000) z (by decide)
      have K : hd_R 0 m 0 L 0 (nI 1, 0, xcarried, xlatest, xload, xsizes, xops, xargsA, xargsB, xlines, xguards, xfroms, xtos, xats, xbegunCounts, xthrownCounts, xtakenCounts, xslotUsed, xslotLoad, xstretchNumber, xstretchGone, xstretchRow, xstretchWays, upd xatWork 0 (nI m), upd xplace 0 0, upd (upd (upd (upd xvariables 0 v2) 1 v3) 2 0) 3 0, upd xrow 0 0, vp_updL xrowWays 0 0, vp_updL xwayOn 0 0, xpart)
          (nI 1, 0, 0, 0, yload, 0, yop, ya, yb, yline, ylength, yfrom, yto, yat, yhandlers, ybegun, ytaken, ythrown, yrowI, yrowWay, yrowLength, ytimes, ytold, ykOp, ykA, ykB, ykLine, ykLength, ykFrom, ykTo, ykAt, ykHandlers, ykBegun, ykTaken, ykThrown, ykept, upd ymethod 0 (nI m), upd ypc 0 0, upd (upd (upd (upd yvariable 0 v2) 1 v3) 2 0) 3 0, yhereI, yhereWay, upd yhereLength 0 0, upd yinto 0 0, ykLoad, ypart) := by
        refine ⟨by omega, rfl, rfl, rfl, h2, h3, rfl, rfl, rfl, rfl, hP, hC, hS, fun d hd => absurd hd (by omega), ⟨⟨hm, hs, pk_us, pk_us, pk_us, pk_us, fun k hk => ?_⟩, 0, fun _ => 0, fun _ => 0, pk_us, ?_, Or.inl ⟨rfl, pk_uLs⟩⟩, tb_w hT (by omega)⟩
        · exact fr_4 (B := 0) hk
        · rw [pk_us, pk_uLs]; exact en_0 _ _ _ _ _
      obtain ⟨r, u', v', iX, iY, iR⟩ := rl_R 200 0 0 m 0 L _ _ rfl (by omega) K
      refine hX _ (br_f (by decide) (br_t zx ?_))
      refine nm_r (e' := 0) (by decide) ⟨by rw [vp_in_iff]; decide, nm_e ⟨by rw [vp_in_iff]; decide, nm_e ⟨by rw [vp_in_iff]; decide, nm_e ⟨by rw [vp_in_iff]; decide, nm_e ⟨by rw [vp_in_iff]; decide, nm_e ⟨by rw [vp_in_iff]; decide, nm_e ?_⟩⟩⟩⟩⟩⟩
      refine xc_clr (d := 0) (by decide) (nm_r (e' := nI 1) (by decide) ⟨201, iX _ 201 (by omega) ?_⟩)
      refine hY _ (br_f (by decide) (br_t zy ?_))
      refine ⟨by rw [vp_in_iff]; decide, nm_e ⟨by rw [vp_in_iff]; decide, nm_e ⟨by rw [vp_in_iff]; decide, nm_e ⟨by rw [vp_in_iff]; decide, nm_e ⟨by rw [vp_in_iff]; decide, nm_e ⟨by rw [vp_in_iff]; decide, nm_e ⟨by rw [vp_in_iff]; decide, nm_e ⟨by rw [vp_in_iff]; decide, nm_e ?_⟩⟩⟩⟩⟩⟩⟩⟩
      exact nm_r (e' := nI 1) (by decide) ⟨201, iY _ 201 (by omega) ⟨rfl, iR⟩⟩
  · exact hX _ (br_t rfl (hY _ (br_t rfl ⟨rfl, J⟩)))
end
section
/-! part 19: the constructors, add, guard, taken, stretches, stretch -/
theorem i_vc0 : wpX_init (fun u => wpY_init (fun v => i_Rel 0 u v)) := by
  have b : ∀ c, bk_R c (fun _ => 0) (fun _ => 0) (fun _ => 0) := fun c => ⟨fun _ _ => rfl, fun _ _ => rfl, fun _ _ => rfl⟩
  exact ⟨0, by omega, rfl, rfl, rfl, ⟨b 1, b 1, b 24, b 24, b 24, b 24, b 3, b 3, b 3, rg_0 _ _, rg_0 _ _, rg_0 _ _, rg_0 _ _⟩,
    ⟨ct_0 _ _, ct_0 _ _, ct_0 _ _, fun s hs => ⟨rfl, Or.inl rfl, 0, by omega, rfl, rfl, fun j hj => ⟨0, by omega, rfl⟩⟩⟩, st_init, fun j hj => ⟨0, rfl, by omega⟩⟩
section
variable {xdepth xsignal xcarried xlatest xload : Int32} {xsizes xops xargsA xargsB xlines xguards xfroms xtos xats xbegunCounts xthrownCounts xtakenCounts xslotUsed xslotLoad xstretchNumber xstretchGone xstretchRow xatWork xplace xvariables xrow xpart : Nat → Int32} {xstretchWays xrowWays xwayOn : Nat → Int64}
variable {ydepth ysteps yresult youtcome yload yover : Int32} {yop ya yb yline ylength yfrom yto yat yhandlers ybegun ytaken ythrown yrowI yrowWay yrowLength ytimes ytold ykOp ykA ykB ykLine ykLength ykFrom ykTo ykAt ykHandlers ykBegun ykTaken ykThrown ykept ymethod ypc yvariable yhereI yhereWay yhereLength yinto ykLoad ypart : Nat → Int32}
theorem gp_16 (h : (gp_R xsizes xops xargsA xargsB xlines xguards xfroms xtos xats yop ya yb yline ylength yfrom yto yat yhandlers ykOp ykA ykB ykLine ykLength ykFrom ykTo ykAt ykHandlers)) : xsizes 16 = nI (sz_f xsizes 16) ∧ ylength 4 = nI (sz_f xsizes 16) ∧ sz_f xsizes 16 ≤ 24 := by
  obtain ⟨h1, h2⟩ := rg_at h.2.2.2.2.2.2.2.2.2.1 (by decide) (show 16 < 17 by omega)
  exact ⟨h1, (h.1.2.1 0 (by omega)).symm.trans h1, h2⟩
theorem gp_g16 (h : (gp_R xsizes xops xargsA xargsB xlines xguards xfroms xtos xats yop ya yb yline ylength yfrom yto yat yhandlers ykOp ykA ykB ykLine ykLength ykFrom ykTo ykAt ykHandlers)) : xguards 16 = nI (sz_f xguards 16) ∧ yhandlers 4 = nI (sz_f xguards 16) ∧ sz_f xguards 16 ≤ 3 := by
  obtain ⟨h1, h2⟩ := rg_at h.2.2.2.2.2.2.2.2.2.2.1 (by decide) (show 16 < 17 by omega)
  exact ⟨h1, (h.2.1.2.1 0 (by omega)).symm.trans h1, h2⟩
end
theorem i_vc_add {k : Nat} {u : SX} {v : SY} (I : i_Rel k u v) (hk : k + 5 ≤ 2560) (v1 : Int32) (v2 : Int32) (v3 : Int32) (v4 : Int32) : wpX_add (fun r u' => wpY_add (fun r' v' => r' = r ∧ i_Rel (k + 5) u' v') v v1 v2 v3 v4) u v1 v2 v3 v4 := by
  obtain ⟨xdepth, xsignal, xcarried, xlatest, xload, xsizes, xops, xargsA, xargsB, xlines, xguards, xfroms, xtos, xats, xbegunCounts, xthrownCounts, xtakenCounts, xslotUsed, xslotLoad, xstretchNumber, xstretchGone, xstretchRow, xstretchWays, xatWork, xplace, xvariables, xrow, xrowWays, xwayOn, xpart⟩ := u
  obtain ⟨ydepth, ysteps, yresult, youtcome, yload, yover, yop, ya, yb, yline, ylength, yfrom, yto, yat, yhandlers, ybegun, ytaken, ythrown, yrowI, yrowWay, yrowLength, ytimes, ytold, ykOp, ykA, ykB, ykLine, ykLength, ykFrom, ykTo, ykAt, ykHandlers, ykBegun, ykTaken, ykThrown, ykept, ymethod, ypc, yvariable, yhereI, yhereWay, yhereLength, yinto, ykLoad, ypart⟩ := v
  have J := I
  obtain ⟨L, h1, h2, h3, h4, hP, hC, hS, hT⟩ := I
  obtain ⟨s1, s2, s3⟩ := gp_16 hP
  unfold wpX_add wpY_add
  refine nm_r s1 ?_
  rcases pk_ix v1 (n := 12) (by decide) with z | z | ⟨o, ho, rfl⟩
  · exact br_t z (wi_f (n := 12) (Or.inl z) (br_t rfl ⟨rfl, J⟩))
  · have y : ¬ v1 < 0 := fun w => by
      have := Int32.lt_of_le_of_lt z w
      exact absurd this (by decide)
    exact br_f y (br_t (Int32.lt_of_lt_of_le (by decide) z) (wi_f (n := 12) (Or.inr z) (br_t rfl ⟨rfl, J⟩)))
  · refine br_f (nI_pos (by omega)) (br_f (nI_nlt (a := 11) (by omega) (by decide)) ?_)
    rcases pk_ix v2 (n := 4) (by decide) with z | z | ⟨a, ha, rfl⟩
    · exact xi_f (n := 4) (Or.inl z) (br_t rfl (wi_t (n := 12) ho (by decide) (br_f (by decide) (wi_f (n := 4) (Or.inl z) (br_t rfl ⟨rfl, J⟩)))))
    · exact xi_f (n := 4) (Or.inr z) (br_t rfl (wi_t (n := 12) ho (by decide) (br_f (by decide) (wi_f (n := 4) (Or.inr z) (br_t rfl ⟨rfl, J⟩)))))
    · refine xi_t (n := 4) ha (by decide) (br_f (by decide) ?_)
      rcases pk_ix v4 (n := 16) (by decide) with z | z | ⟨l, hl, rfl⟩
      · exact xi_f (n := 16) (Or.inl z) (br_t rfl (wi_t (n := 12) ho (by decide) (br_f (by decide) (wi_t (n := 4) ha (by decide) (br_f (by decide) (wi_f (n := 16) (Or.inl z) (br_t rfl ⟨rfl, J⟩)))))))
      · exact xi_f (n := 16) (Or.inr z) (br_t rfl (wi_t (n := 12) ho (by decide) (br_f (by decide) (wi_t (n := 4) ha (by decide) (br_f (by decide) (wi_f (n := 16) (Or.inr z) (br_t rfl ⟨rfl, J⟩)))))))
      · refine xi_t (n := 16) hl (by decide) (br_f (by decide) ?_)
        rcases Nat.lt_or_ge (sz_f xsizes 16) 24 with z | z
        · have ex : 384 + nI (sz_f xsizes 16) = nI (384 + sz_f xsizes 16) := nI_add 384 _
          have ey : 96 + nI (sz_f xsizes 16) = nI (96 + sz_f xsizes 16) := nI_add 96 _
          have wx : vp_in (nI (384 + sz_f xsizes 16)) 408 := vp_in_nI (by omega) (by decide)
          have wy : vp_in (nI (96 + sz_f xsizes 16)) 120 := vp_in_nI (by omega) (by decide)
          have cx : (nI (384 + sz_f xsizes 16)).toNatClampNeg = 384 + sz_f xsizes 16 := nI_clamp (by omega)
          have cy : (nI (96 + sz_f xsizes 16)).toNatClampNeg = 96 + sz_f xsizes 16 := nI_clamp (by omega)
          have n24 : ¬ ylength 4 = 24 := fun y => by
            rw [s2] at y
            have := (nI_eq (a := sz_f xsizes 16) (b := 24) (by omega) (by omega)).mp y
            omega
          refine br_t (nI_lt (b := 24) z (by decide)) (nm_r ex ?_)
          rw [cx, nI_1]
          refine ⟨wx, nm_e ⟨wx, nm_e ⟨wx, nm_e ⟨wx, nm_e (nm_e ?_)⟩⟩⟩⟩
          refine wi_t (n := 12) ho (by decide) (br_f (by decide) (wi_t (n := 4) ha (by decide) (br_f (by decide) (wi_t (n := 16) hl (by decide) (br_f (by decide) (br_f n24 ?_))))))
          rw [s2]
          refine nm_r ey ?_
          rw [cy, nI_1]
          refine ⟨wy, nm_e ⟨wy, nm_e ⟨wy, nm_e ⟨wy, nm_e (nm_e ⟨rfl, ?_⟩)⟩⟩⟩⟩
          have e : ∀ b, b < 16 → sz_f (upd xsizes 16 (nI (sz_f xsizes 16 + 1))) b = sz_f xsizes b := fun b hb => sz_un (by omega)
          obtain ⟨p1, p2, p3, p4, p5, p6, p7, p8, p9, pa, pb, pc, pd⟩ := hP
          refine ⟨L, h1, h2, h3, h4, ⟨bk_add (c := 1) (i := 0) p1 (by omega), p2, bk_add (c := 24) p3 z, bk_add (c := 24) p4 z, bk_add (c := 24) p5 z, bk_add (c := 24) p6 z, p7, p8, p9, rg_u pa (by omega), pb, rg_u pc (by omega), pd⟩, ⟨ct_sz hC.1 e, ct_sz hC.2.1 e, ct_sz hC.2.2.1 e, hC.2.2.2⟩, hS, hT⟩
        · have z24 : sz_f xsizes 16 = 24 := by omega
          rw [z24] at s2
          rw [z24]
          exact br_f (by decide) (wi_t (n := 12) ho (by decide) (br_f (by decide) (wi_t (n := 4) ha (by decide) (br_f (by decide) (wi_t (n := 16) hl (by decide) (br_f (by decide) (br_t s2 ⟨rfl, J⟩)))))))
theorem i_vc_guard {k : Nat} {u : SX} {v : SY} (I : i_Rel k u v) (hk : k + 5 ≤ 2560) (v1 : Int32) (v2 : Int32) (v3 : Int32) : wpX_guard (fun r u' => wpY_guard (fun r' v' => r' = r ∧ i_Rel (k + 5) u' v') v v1 v2 v3) u v1 v2 v3 := by
  obtain ⟨xdepth, xsignal, xcarried, xlatest, xload, xsizes, xops, xargsA, xargsB, xlines, xguards, xfroms, xtos, xats, xbegunCounts, xthrownCounts, xtakenCounts, xslotUsed, xslotLoad, xstretchNumber, xstretchGone, xstretchRow, xstretchWays, xatWork, xplace, xvariables, xrow, xrowWays, xwayOn, xpart⟩ := u
  obtain ⟨ydepth, ysteps, yresult, youtcome, yload, yover, yop, ya, yb, yline, ylength, yfrom, yto, yat, yhandlers, ybegun, ytaken, ythrown, yrowI, yrowWay, yrowLength, ytimes, ytold, ykOp, ykA, ykB, ykLine, ykLength, ykFrom, ykTo, ykAt, ykHandlers, ykBegun, ykTaken, ykThrown, ykept, ymethod, ypc, yvariable, yhereI, yhereWay, yhereLength, yinto, ykLoad, ypart⟩ := v
  have J := I
  obtain ⟨L, h1, h2, h3, h4, hP, hC, hS, hT⟩ := I
  obtain ⟨s1, s2, s3⟩ := gp_g16 hP
  by_cases V : (∃ a, a < 24 ∧ v1 = nI a) ∧ (∃ b, b < 24 ∧ v2 = nI b) ∧ (∃ c, c < 24 ∧ v3 = nI c) ∧ ¬ v2 < v1 ∧ sz_f xguards 16 < 3
  · obtain ⟨⟨a, ha, rfl⟩, ⟨b, hb, rfl⟩, ⟨c, hc, rfl⟩, hab, z⟩ := V
    have ex : 48 + nI (sz_f xguards 16) = nI (48 + sz_f xguards 16) := nI_add 48 _
    have ey : 12 + nI (sz_f xguards 16) = nI (12 + sz_f xguards 16) := nI_add 12 _
    have wx : vp_in (nI (48 + sz_f xguards 16)) 51 := vp_in_nI (by omega) (by decide)
    have wy : vp_in (nI (12 + sz_f xguards 16)) 15 := vp_in_nI (by omega) (by decide)
    have cx : (nI (48 + sz_f xguards 16)).toNatClampNeg = 48 + sz_f xguards 16 := nI_clamp (by omega)
    have cy : (nI (12 + sz_f xguards 16)).toNatClampNeg = 12 + sz_f xguards 16 := nI_clamp (by omega)
    have n3 : ¬ yhandlers 4 = 3 := fun y => by
      rw [s2] at y
      have := (nI_eq (a := sz_f xguards 16) (b := 3) (by omega) (by omega)).mp y
      omega
    unfold wpX_guard wpY_guard
    refine nm_r s1 (br_f (nI_pos (by omega)) (br_f hab (br_f (nI_ge (b := 24) hb (by decide)) (xi_t (n := 24) hc (by decide) (br_f (by decide) (br_t (nI_lt (b := 3) z (by decide)) (nm_r ex ?_)))))))
    rw [cx, nI_1]
    refine ⟨wx, nm_e ⟨wx, nm_e ⟨wx, nm_e (nm_e ?_)⟩⟩⟩
    refine wi_t (n := 24) ha (by decide) (br_f (by decide) (wi_t (n := 24) hb (by decide) (br_f (by decide) (wi_t (n := 24) hc (by decide) (br_f (by decide) (br_f hab (br_f n3 ?_)))))))
    rw [s2]
    refine nm_r ey ?_
    rw [cy, nI_1]
    refine ⟨wy, nm_e ⟨wy, nm_e ⟨wy, nm_e (nm_e ⟨rfl, ?_⟩)⟩⟩⟩
    obtain ⟨p1, p2, p3, p4, p5, p6, p7, p8, p9, pa, pb, pc, pd⟩ := hP
    exact ⟨L, h1, h2, h3, h4, ⟨p1, bk_add (c := 1) (i := 0) p2 (by omega), p3, p4, p5, p6, bk_add (c := 3) p7 z, bk_add (c := 3) p8 z, bk_add (c := 3) p9 z, pa, rg_u pb (by omega), pc, rg_u pd (by omega)⟩, hC, hS, hT⟩
  · have X0 : ∀ post : Int32 → SX → Prop, post 0 (xdepth, xsignal, xcarried, xlatest, xload, xsizes, xops, xargsA, xargsB, xlines, xguards, xfroms, xtos, xats, xbegunCounts, xthrownCounts, xtakenCounts, xslotUsed, xslotLoad, xstretchNumber, xstretchGone, xstretchRow, xstretchWays, xatWork, xplace, xvariables, xrow, xrowWays, xwayOn, xpart) → wpX_guard post (xdepth, xsignal, xcarried, xlatest, xload, xsizes, xops, xargsA, xargsB, xlines, xguards, xfroms, xtos, xats, xbegunCounts, xthrownCounts, xtakenCounts, xslotUsed, xslotLoad, xstretchNumber, xstretchGone, xstretchRow, xstretchWays, xatWork, xplace, xvariables, xrow, xrowWays, xwayOn, xpart) v1 v2 v3 := by
      intro post h
      unfold wpX_guard
      refine nm_r s1 ?_
      by_cases a1 : v1 < 0
      · exact br_t a1 h
      by_cases a2 : v2 < v1
      · exact br_f a1 (br_t a2 h)
      by_cases a3 : (24 : Int32) ≤ v2
      · exact br_f a1 (br_f a2 (br_t a3 h))
      refine br_f a1 (br_f a2 (br_f a3 ?_))
      rcases pk_ix v3 (n := 24) (by decide) with z | z | ⟨c, hc, rfl⟩
      · exact xi_f (n := 24) (Or.inl z) (br_t rfl h)
      · exact xi_f (n := 24) (Or.inr z) (br_t rfl h)
      · refine xi_t (n := 24) hc (by decide) (br_f (by decide) ?_)
        by_cases a4 : sz_f xguards 16 < 3
        · exfalso
          apply V
          obtain ⟨a, ha, rfl⟩ := nI_of a1
          have b0 : ¬ v2 < 0 := fun w => a2 (Int32.lt_of_lt_of_le w (Int32.not_lt.mp a1))
          obtain ⟨b, hb, rfl⟩ := nI_of b0
          have hb24 : b < 24 := by
            rcases Nat.lt_or_ge b 24 with y | y
            · exact y
            · exact absurd (nI_le (a := 24) y hb) a3
          have hab : a ≤ b := by
            rcases Nat.lt_or_ge b a with y | y
            · exact absurd (nI_lt y ha) a2
            · exact y
          exact ⟨⟨a, by omega, rfl⟩, ⟨b, hb24, rfl⟩, ⟨c, hc, rfl⟩, a2, a4⟩
        · have z3 : sz_f xguards 16 = 3 := by omega
          rw [z3]
          exact br_f (by decide) h
    have Y0 : ∀ post : Int32 → SY → Prop, post 0 (ydepth, ysteps, yresult, youtcome, yload, yover, yop, ya, yb, yline, ylength, yfrom, yto, yat, yhandlers, ybegun, ytaken, ythrown, yrowI, yrowWay, yrowLength, ytimes, ytold, ykOp, ykA, ykB, ykLine, ykLength, ykFrom, ykTo, ykAt, ykHandlers, ykBegun, ykTaken, ykThrown, ykept, ymethod, ypc, yvariable, yhereI, yhereWay, yhereLength, yinto, ykLoad, ypart) → wpY_guard post (ydepth, ysteps, yresult, youtcome, yload, yover, yop, ya, yb, yline, ylength, yfrom, yto, yat, yhandlers, ybegun, ytaken, ythrown, yrowI, yrowWay, yrowLength, ytimes, ytold, ykOp, ykA, ykB, ykLine, ykLength, ykFrom, ykTo, ykAt, ykHandlers, ykBegun, ykTaken, ykThrown, ykept, ymethod, ypc, yvariable, yhereI, yhereWay, yhereLength, yinto, ykLoad, ypart) v1 v2 v3 := by
      intro post h
      unfold wpY_guard
      rcases pk_ix v1 (n := 24) (by decide) with z | z | ⟨a, ha, rfl⟩
      · exact wi_f (n := 24) (Or.inl z) (br_t rfl h)
      · exact wi_f (n := 24) (Or.inr z) (br_t rfl h)
      · refine wi_t (n := 24) ha (by decide) (br_f (by decide) ?_)
        rcases pk_ix v2 (n := 24) (by decide) with z | z | ⟨b, hb, rfl⟩
        · exact wi_f (n := 24) (Or.inl z) (br_t rfl h)
        · exact wi_f (n := 24) (Or.inr z) (br_t rfl h)
        · refine wi_t (n := 24) hb (by decide) (br_f (by decide) ?_)
          rcases pk_ix v3 (n := 24) (by decide) with z | z | ⟨c, hc, rfl⟩
          · exact wi_f (n := 24) (Or.inl z) (br_t rfl h)
          · exact wi_f (n := 24) (Or.inr z) (br_t rfl h)
          · refine wi_t (n := 24) hc (by decide) (br_f (by decide) ?_)
            by_cases a2 : nI b < nI a
            · exact br_t a2 h
            · refine br_f a2 ?_
              by_cases a4 : sz_f xguards 16 < 3
              · exact absurd ⟨⟨a, ha, rfl⟩, ⟨b, hb, rfl⟩, ⟨c, hc, rfl⟩, a2, a4⟩ V
              · have z3 : sz_f xguards 16 = 3 := by omega
                rw [z3] at s2
                exact br_t s2 h
    exact X0 _ (Y0 _ ⟨rfl, J⟩)
/-! how many ways -/
def wy_f (op : Int32) : Nat := if op = 10 then 0 else if op = 5 then 2 else if op = 6 then 2 else if op = 7 then 4 else 1
theorem wy_4 (op : Int32) : wy_f op ≤ 4 := by
  unfold wy_f
  split
  · omega
  split
  · omega
  split
  · omega
  split <;> omega
theorem wy_Y {post : Int32 → Prop} {op : Int32} (h : post (nI (wy_f op))) : wpY_ways post op := by
  unfold wy_f at h
  unfold wpY_ways
  by_cases z : op = 10
  · rw [if_pos z] at h; exact br_t z h
  rw [if_neg z] at h
  refine br_f z ?_
  by_cases z : op = 5
  · rw [if_pos z] at h; exact br_t z h
  rw [if_neg z] at h
  refine br_f z ?_
  by_cases z : op = 6
  · rw [if_pos z] at h; exact br_t z h
  rw [if_neg z] at h
  refine br_f z ?_
  by_cases z : op = 7
  · rw [if_pos z] at h; exact br_t z h
  rw [if_neg z] at h
  exact br_f z h
section
variable {xdepth xsignal xcarried xlatest xload : Int32} {xsizes xops xargsA xargsB xlines xguards xfroms xtos xats xbegunCounts xthrownCounts xtakenCounts xslotUsed xslotLoad xstretchNumber xstretchGone xstretchRow xatWork xplace xvariables xrow xpart : Nat → Int32} {xstretchWays xrowWays xwayOn : Nat → Int64}
variable {ydepth ysteps yresult youtcome yload yover : Int32} {yop ya yb yline ylength yfrom yto yat yhandlers ybegun ytaken ythrown yrowI yrowWay yrowLength ytimes ytold ykOp ykA ykB ykLine ykLength ykFrom ykTo ykAt ykHandlers ykBegun ykTaken ykThrown ykept ymethod ypc yvariable yhereI yhereWay yhereLength yinto ykLoad ypart : Nat → Int32}
theorem wy_X {post : Int32 → Prop} {s : Nat} (hs : s < 408) (h : post (nI (wy_f (xops s)))) : wpX_waysFrom post (xdepth, xsignal, xcarried, xlatest, xload, xsizes, xops, xargsA, xargsB, xlines, xguards, xfroms, xtos, xats, xbegunCounts, xthrownCounts, xtakenCounts, xslotUsed, xslotLoad, xstretchNumber, xstretchGone, xstretchRow, xstretchWays, xatWork, xplace, xvariables, xrow, xrowWays, xwayOn, xpart) (nI s) := by
  have cs : (nI s).toNatClampNeg = s := nI_clamp (by omega)
  refine ⟨vp_in_nI hs (by decide), nm_r (e' := xops s) (by rw [cs]) ?_⟩
  generalize xops s = op at h
  unfold wy_f at h
  by_cases z : op = 10
  · rw [if_pos z] at h
    subst z
    exact br_f (by decide) (br_f (by decide) (br_f (by decide) (br_f (by decide) (br_f (by decide) (br_f (by decide) (br_f (by decide) (br_t rfl h)))))))
  rw [if_neg z] at h
  by_cases z5 : op = 5
  · rw [if_pos z5] at h
    subst z5
    exact br_f (by decide) (br_f (by decide) (br_t rfl h))
  rw [if_neg z5] at h
  by_cases z6 : op = 6
  · rw [if_pos z6] at h
    subst z6
    exact br_f (by decide) (br_f (by decide) (br_f (by decide) (br_t rfl h)))
  rw [if_neg z6] at h
  by_cases z7 : op = 7
  · rw [if_pos z7] at h
    subst z7
    exact br_f (by decide) (br_f (by decide) (br_f (by decide) (br_f (by decide) (br_t rfl h))))
  rw [if_neg z7] at h
  exact br_c (fun _ => h) (fun _ => br_c (fun _ => h) (fun _ => br_f z5 (br_f z6 (br_f z7 (br_c (fun _ => h) (fun _ => br_c (fun _ => h) (fun _ => br_f z trivial)))))))
end
theorem i_vc_taken {k : Nat} {u : SX} {v : SY} (I : i_Rel k u v) (hk : k + 5 ≤ 2560) (v1 : Int32) (v2 : Int32) (v3 : Int32) : wpX_taken (fun r => wpY_taken (fun r' => r' = r ∧ i_Rel (k + 5) u v) v v1 v2 v3) u v1 v2 v3 := by
  obtain ⟨xdepth, xsignal, xcarried, xlatest, xload, xsizes, xops, xargsA, xargsB, xlines, xguards, xfroms, xtos, xats, xbegunCounts, xthrownCounts, xtakenCounts, xslotUsed, xslotLoad, xstretchNumber, xstretchGone, xstretchRow, xstretchWays, xatWork, xplace, xvariables, xrow, xrowWays, xwayOn, xpart⟩ := u
  obtain ⟨ydepth, ysteps, yresult, youtcome, yload, yover, yop, ya, yb, yline, ylength, yfrom, yto, yat, yhandlers, ybegun, ytaken, ythrown, yrowI, yrowWay, yrowLength, ytimes, ytold, ykOp, ykA, ykB, ykLine, ykLength, ykFrom, ykTo, ykAt, ykHandlers, ykBegun, ykTaken, ykThrown, ykept, ymethod, ypc, yvariable, yhereI, yhereWay, yhereLength, yinto, ykLoad, ypart⟩ := v
  have J := I
  obtain ⟨L, h1, h2, h3, h4, hP, hC, hS, hT⟩ := I
  unfold wpX_taken wpY_taken
  rcases th_i (xdepth := xdepth) (xsignal := xsignal) (xcarried := xcarried) (xlatest := xlatest) (xload := xload) (xsizes := xsizes) (xops := xops) (xargsA := xargsA) (xargsB := xargsB) (xlines := xlines) (xguards := xguards) (xfroms := xfroms) (xtos := xtos) (xats := xats) (xbegunCounts := xbegunCounts) (xthrownCounts := xthrownCounts) (xtakenCounts := xtakenCounts) (xslotUsed := xslotUsed) (xslotLoad := xslotLoad) (xstretchNumber := xstretchNumber) (xstretchGone := xstretchGone) (xstretchRow := xstretchRow) (xstretchWays := xstretchWays) (xatWork := xatWork) (xplace := xplace) (xvariables := xvariables) (xrow := xrow) (xrowWays := xrowWays) (xwayOn := xwayOn) (xpart := xpart) (ydepth := ydepth) (ysteps := ysteps) (yresult := yresult) (youtcome := youtcome) (yload := yload) (yover := yover) (yop := yop) (ya := ya) (yb := yb) (yline := yline) (ylength := ylength) (yfrom := yfrom) (yto := yto) (yat := yat) (yhandlers := yhandlers) (ybegun := ybegun) (ytaken := ytaken) (ythrown := ythrown) (yrowI := yrowI) (yrowWay := yrowWay) (yrowLength := yrowLength) (ytimes := ytimes) (ytold := ytold) (ykOp := ykOp) (ykA := ykA) (ykB := ykB) (ykLine := ykLine) (ykLength := ykLength) (ykFrom := ykFrom) (ykTo := ykTo) (ykAt := ykAt) (ykHandlers := ykHandlers) (ykBegun := ykBegun) (ykTaken := ykTaken) (ykThrown := ykThrown) (ykept := ykept) (ymethod := ymethod) (ypc := ypc) (yvariable := yvariable) (yhereI := yhereI) (yhereWay := yhereWay) (yhereLength := yhereLength) (yinto := yinto) (ykLoad := ykLoad) (ypart := ypart) v1 v2 hP with ⟨m, i, hm, rfl, hi, h24, rfl, hX, hY⟩ | ⟨hX, hY⟩
  · refine hX _ (br_f (by decide) (nm_r (ix_24 m i) (wy_X (by omega) ?_)))
    have w4 := wy_4 (xops (24 * m + i))
    have cy : (24 * nI m + nI i).toNatClampNeg = 24 * m + i := ix_cl (iy_24 m i) (by omega)
    have wy : vp_in (24 * nI m + nI i) 120 := ix_in (iy_24 m i) (by omega) (by decide)
    rcases pk_ix v3 (n := wy_f (xops (24 * m + i))) (by omega) with z | z | ⟨j, hj, rfl⟩
    · refine xi_f (Or.inl z) (br_t rfl (hY _ (br_f (by decide) ⟨wy, ?_⟩)))
      rw [cy, ← gp_op hP hm h24]
      exact wy_Y (wi_f (Or.inl z) (br_t rfl ⟨rfl, J⟩))
    · refine xi_f (Or.inr z) (br_t rfl (hY _ (br_f (by decide) ⟨wy, ?_⟩)))
      rw [cy, ← gp_op hP hm h24]
      exact wy_Y (wi_f (Or.inr z) (br_t rfl ⟨rfl, J⟩))
    · refine xi_t hj (by omega) (br_f (by decide) ⟨ix_in (ix_4 (24 * m + i) j) (by omega) (by decide), hY _ (br_f (by decide) ⟨wy, ?_⟩)⟩)
      rw [cy, ← gp_op hP hm h24]
      refine wy_Y (wi_t hj (by omega) (br_f (by decide) ⟨ix_in (iy_t m i j) (by omega) (by decide), ?_, J⟩))
      rw [ix_cl (iy_t m i j) (by omega), ix_cl (ix_4 (24 * m + i) j) (by omega)]
      exact (ct_at4 hC.2.2.1 hm hi (by omega)).symm
  · exact hX _ (br_t rfl (hY _ (br_t rfl ⟨rfl, J⟩)))
theorem i_vc_stretches {k : Nat} {u : SX} {v : SY} (I : i_Rel k u v) (hk : k + 5 ≤ 2560) (v1 : Int32) : wpX_stretches (fun r => wpY_stretches (fun r' => r' = r ∧ i_Rel (k + 5) u v) v v1) u v1 := by
  obtain ⟨xdepth, xsignal, xcarried, xlatest, xload, xsizes, xops, xargsA, xargsB, xlines, xguards, xfroms, xtos, xats, xbegunCounts, xthrownCounts, xtakenCounts, xslotUsed, xslotLoad, xstretchNumber, xstretchGone, xstretchRow, xstretchWays, xatWork, xplace, xvariables, xrow, xrowWays, xwayOn, xpart⟩ := u
  obtain ⟨ydepth, ysteps, yresult, youtcome, yload, yover, yop, ya, yb, yline, ylength, yfrom, yto, yat, yhandlers, ybegun, ytaken, ythrown, yrowI, yrowWay, yrowLength, ytimes, ytold, ykOp, ykA, ykB, ykLine, ykLength, ykFrom, ykTo, ykAt, ykHandlers, ykBegun, ykTaken, ykThrown, ykept, ymethod, ypc, yvariable, yhereI, yhereWay, yhereLength, yinto, ykLoad, ypart⟩ := v
  have J := I
  obtain ⟨L, h1, h2, h3, h4, hP, hC, hS, hT⟩ := I
  unfold wpX_stretches wpY_stretches
  rcases th_c (xdepth := xdepth) (xsignal := xsignal) (xcarried := xcarried) (xlatest := xlatest) (xload := xload) (xsizes := xsizes) (xops := xops) (xargsA := xargsA) (xargsB := xargsB) (xlines := xlines) (xguards := xguards) (xfroms := xfroms) (xtos := xtos) (xats := xats) (xbegunCounts := xbegunCounts) (xthrownCounts := xthrownCounts) (xtakenCounts := xtakenCounts) (xslotUsed := xslotUsed) (xslotLoad := xslotLoad) (xstretchNumber := xstretchNumber) (xstretchGone := xstretchGone) (xstretchRow := xstretchRow) (xstretchWays := xstretchWays) (xatWork := xatWork) (xplace := xplace) (xvariables := xvariables) (xrow := xrow) (xrowWays := xrowWays) (xwayOn := xwayOn) (xpart := xpart) (ydepth := ydepth) (ysteps := ysteps) (yresult := yresult) (youtcome := youtcome) (yload := yload) (yover := yover) (yop := yop) (ya := ya) (yb := yb) (yline := yline) (ylength := ylength) (yfrom := yfrom) (yto := yto) (yat := yat) (yhandlers := yhandlers) (ybegun := ybegun) (ytaken := ytaken) (ythrown := ythrown) (yrowI := yrowI) (yrowWay := yrowWay) (yrowLength := yrowLength) (ytimes := ytimes) (ytold := ytold) (ykOp := ykOp) (ykA := ykA) (ykB := ykB) (ykLine := ykLine) (ykLength := ykLength) (ykFrom := ykFrom) (ykTo := ykTo) (ykAt := ykAt) (ykHandlers := ykHandlers) (ykBegun := ykBegun) (ykTaken := ykTaken) (ykThrown := ykThrown) (ykept := ykept) (ymethod := ymethod) (ypc := ypc) (yvariable := yvariable) (yhereI := yhereI) (yhereWay := yhereWay) (yhereLength := yhereLength) (yinto := yinto) (ykLoad := ykLoad) (ypart := ypart) v1 hP with ⟨m, hm, rfl, hs, hX, hY⟩ | ⟨hX, hY⟩
  · obtain ⟨t, t1, t2, t3, t4⟩ := hS m hm
    refine hX _ (br_f (by decide) ⟨vp_in_nI hm (by decide), hY _ (br_f (by decide) ⟨vp_in_nI hm (by decide), ?_, J⟩)⟩)
    rw [nI_clamp (by omega), t2, t3]
  · exact hX _ (br_t rfl (hY _ (br_t rfl ⟨rfl, J⟩)))
section
variable {xdepth xsignal xcarried xlatest xload : Int32} {xsizes xops xargsA xargsB xlines xguards xfroms xtos xats xbegunCounts xthrownCounts xtakenCounts xslotUsed xslotLoad xstretchNumber xstretchGone xstretchRow xatWork xplace xvariables xrow xpart : Nat → Int32} {xstretchWays xrowWays xwayOn : Nat → Int64}
theorem xl_len {post : Int32 → Prop} {M : Nat} (hM : M < 2 ^ 24) (hp : post (nI (sr_pc M 24))) : ∀ e j, j + e = 24 → wX_lengthOf_4 post (nI M) xdepth xsignal xcarried xlatest xload xsizes xops xargsA xargsB xlines xguards xfroms xtos xats xbegunCounts xthrownCounts xtakenCounts xslotUsed xslotLoad xstretchNumber xstretchGone xstretchRow xstretchWays xatWork xplace xvariables xrow xrowWays xwayOn xpart (e + 1) (nI (sr_pc M j)) (nI j) := by
  intro e
  induction e with
  | zero =>
    intro j hj
    have z : j = 24 := by omega
    subst z
    rw [wX_lengthOf_4]
    exact br_t (by decide) hp
  | succ e ih =>
    intro j hj
    have h := ih (j + 1) (by omega)
    rw [wX_lengthOf_4]
    refine br_f (nI_ge (b := 24) (by omega) (by decide)) (nm_r (e' := nI (sr_pc M (j + 1))) ?_ (nm_r (nI_1 j) h))
    rw [nu_bit hM (by omega), nI_add]
    rfl
theorem xl_first {post : Int32 → Prop} {M f : Nat} (hM : M < 2 ^ 24) (hf : f < 24) (h0 : ∀ i, i < f → M / 2 ^ i % 2 = 0) (h1 : M / 2 ^ f % 2 = 1) (hp : post (nI f)) : ∀ e j, j + e = f → wX_firstOf_2 post (nI M) xdepth xsignal xcarried xlatest xload xsizes xops xargsA xargsB xlines xguards xfroms xtos xats xbegunCounts xthrownCounts xtakenCounts xslotUsed xslotLoad xstretchNumber xstretchGone xstretchRow xstretchWays xatWork xplace xvariables xrow xrowWays xwayOn xpart (e + 1) (nI j) := by
  intro e
  induction e with
  | zero =>
    intro j hj
    have z : j = f := by omega
    subst z
    rw [wX_firstOf_2]
    refine br_c (fun _ => hp) (fun _ => br_f ?_ hp)
    rw [nu_bit hM hf, h1]
    decide
  | succ e ih =>
    intro j hj
    have h := ih (j + 1) (by omega)
    rw [wX_firstOf_2]
    refine br_f (nI_ge (b := 23) (by omega) (by decide)) (br_t ?_ (nm_r (nI_1 j) h))
    rw [nu_bit hM (by omega), h0 j (by omega)]
    rfl
theorem xl_last {post : Int32 → Prop} {M f : Nat} (hM : M < 2 ^ 24) (hf : f < 24) (h0 : ∀ i, f < i → M / 2 ^ i % 2 = 0) (h1 : M / 2 ^ f % 2 = 1) (hp : post (nI f)) : ∀ e, f + e < 24 → wX_lastOf_3 post (nI M) xdepth xsignal xcarried xlatest xload xsizes xops xargsA xargsB xlines xguards xfroms xtos xats xbegunCounts xthrownCounts xtakenCounts xslotUsed xslotLoad xstretchNumber xstretchGone xstretchRow xstretchWays xatWork xplace xvariables xrow xrowWays xwayOn xpart (e + 1) (nI (f + e)) := by
  intro e
  induction e with
  | zero =>
    intro hj
    rw [wX_lastOf_3]
    refine br_c (fun _ => hp) (fun _ => br_f ?_ hp)
    show ¬ (nI M >>> (nI f &&& 31)) &&& 1 = 0
    rw [nu_bit hM hf, h1]
    decide
  | succ e ih =>
    intro hj
    have h := ih (by omega)
    rw [wX_lastOf_3]
    refine br_f (nI_nle (by omega) (by omega)) (br_t ?_ (nm_r (pk_m1 (f + e)) h))
    rw [nu_bit hM (by omega), h0 _ (by omega)]
    rfl
end
theorem wi_te {post : Int32 → Prop} {a n : Nat} {N : Int32} (e : N = nI n) (h : a < n) (hn : n < 2 ^ 31) (hp : post 1) : wpY_in post (nI a) N := by
  rw [e]; exact wi_t h hn hp
theorem wi_fe {post : Int32 → Prop} {x N : Int32} {n : Nat} (e : N = nI n) (h : x < 0 ∨ nI n ≤ x) (hp : post 0) : wpY_in post x N := by
  rw [e]; exact wi_f h hp
theorem i_vc_stretch {k : Nat} {u : SX} {v : SY} (I : i_Rel k u v) (hk : k + 5 ≤ 2560) (v1 : Int32) (v2 : Int32) (v3 : Int32) : wpX_stretch (fun r => wpY_stretch (fun r' => r' = r ∧ i_Rel (k + 5) u v) v v1 v2 v3) u v1 v2 v3 := by
  obtain ⟨xdepth, xsignal, xcarried, xlatest, xload, xsizes, xops, xargsA, xargsB, xlines, xguards, xfroms, xtos, xats, xbegunCounts, xthrownCounts, xtakenCounts, xslotUsed, xslotLoad, xstretchNumber, xstretchGone, xstretchRow, xstretchWays, xatWork, xplace, xvariables, xrow, xrowWays, xwayOn, xpart⟩ := u
  obtain ⟨ydepth, ysteps, yresult, youtcome, yload, yover, yop, ya, yb, yline, ylength, yfrom, yto, yat, yhandlers, ybegun, ytaken, ythrown, yrowI, yrowWay, yrowLength, ytimes, ytold, ykOp, ykA, ykB, ykLine, ykLength, ykFrom, ykTo, ykAt, ykHandlers, ykBegun, ykTaken, ykThrown, ykept, ymethod, ypc, yvariable, yhereI, yhereWay, yhereLength, yinto, ykLoad, ypart⟩ := v
  have J := I
  obtain ⟨L, h1, h2, h3, h4, hP, hC, hS, hT⟩ := I
  unfold wpX_stretch wpY_stretch
  rcases th_c (xdepth := xdepth) (xsignal := xsignal) (xcarried := xcarried) (xlatest := xlatest) (xload := xload) (xsizes := xsizes) (xops := xops) (xargsA := xargsA) (xargsB := xargsB) (xlines := xlines) (xguards := xguards) (xfroms := xfroms) (xtos := xtos) (xats := xats) (xbegunCounts := xbegunCounts) (xthrownCounts := xthrownCounts) (xtakenCounts := xtakenCounts) (xslotUsed := xslotUsed) (xslotLoad := xslotLoad) (xstretchNumber := xstretchNumber) (xstretchGone := xstretchGone) (xstretchRow := xstretchRow) (xstretchWays := xstretchWays) (xatWork := xatWork) (xplace := xplace) (xvariables := xvariables) (xrow := xrow) (xrowWays := xrowWays) (xwayOn := xwayOn) (xpart := xpart) (ydepth := ydepth) (ysteps := ysteps) (yresult := yresult) (youtcome := youtcome) (yload := yload) (yover := yover) (yop := yop) (ya := ya) (yb := yb) (yline := yline) (ylength := ylength) (yfrom := yfrom) (yto := yto) (yat := yat) (yhandlers := yhandlers) (ybegun := ybegun) (ytaken := ytaken) (ythrown := ythrown) (yrowI := yrowI) (yrowWay := yrowWay) (yrowLength := yrowLength) (ytimes := ytimes) (ytold := ytold) (ykOp := ykOp) (ykA := ykA) (ykB := ykB) (ykLine := ykLine) (ykLength := ykLength) (ykFrom := ykFrom) (ykTo := ykTo) (ykAt := ykAt) (ykHandlers := ykHandlers) (ykBegun := ykBegun) (ykTaken := ykTaken) (ykThrown := ykThrown) (ykept := ykept) (ymethod := ymethod) (ypc := ypc) (yvariable := yvariable) (yhereI := yhereI) (yhereWay := yhereWay) (yhereLength := yhereLength) (yinto := yinto) (ykLoad := ykLoad) (ypart := ypart) v1 hP with ⟨m, hm, rfl, hs, hX, hY⟩ | ⟨hX, hY⟩
  · obtain ⟨t, t1, t2, t3, t4⟩ := hS m hm
    have cm : (nI m).toNatClampNeg = m := nI_clamp (by omega)
    have wm : vp_in (nI m) 4 := vp_in_nI hm (by decide)
    refine hX _ (br_f (by decide) ⟨wm, ?_⟩)
    rw [cm, t2]
    rcases pk_ix v2 (n := t) (by omega) with z | z | ⟨j, hj, rfl⟩
    · exact xi_f (Or.inl z) (br_t rfl (hY _ (br_f (by decide) ⟨wm, wi_fe t3 (Or.inl z) (br_t rfl ⟨rfl, J⟩)⟩)))
    · exact xi_f (Or.inr z) (br_t rfl (hY _ (br_f (by decide) ⟨wm, wi_fe t3 (Or.inr z) (br_t rfl ⟨rfl, J⟩)⟩)))
    · obtain ⟨g1, q, I, W, g2, g3, g4⟩ := t4 j hj
      have l24 := sr_len g4.1
      have ws : vp_in (nI (40 * m + j)) 160 := vp_in_nI (by omega) (by decide)
      have cs : (nI (40 * m + j)).toNatClampNeg = 40 * m + j := nI_clamp (by omega)
      refine xi_t hj (by omega) (br_f (by decide) (nm_r (ix_40 m j) ?_))
      rw [cs]
      rcases pk_ix v3 (n := 4) (by decide) with z | z | ⟨f, hf, rfl⟩
      · exact br_t z (hY _ (br_f (by decide) ⟨wm, wi_te t3 hj (by omega) (br_f (by decide) (wi_f (n := 4) (Or.inl z) (br_t rfl ⟨rfl, J⟩)))⟩))
      · have y : ¬ v3 < 0 := fun w => absurd (Int32.lt_of_le_of_lt z w) (by decide)
        exact br_f y (br_t (Int32.lt_of_lt_of_le (by decide) z) (hY _ (br_f (by decide) ⟨wm, wi_te t3 hj (by omega) (br_f (by decide) (wi_f (n := 4) (Or.inr z) (br_t rfl ⟨rfl, J⟩)))⟩)))
      · have hM := sr_mk_24 g4.1
        have hf' : f = 0 ∨ f = 1 ∨ f = 2 ∨ f = 3 := by omega
        rcases hf' with rfl | rfl | rfl | rfl
        · refine br_f (by decide) (br_f (by decide) (br_t rfl ⟨ws, hY _ (br_f (by decide) ⟨wm, wi_te t3 hj (by omega) (br_f (by decide) (wi_t (n := 4) hf (by decide) (br_f (by decide) (nm_r (iy_40 m j) (br_t rfl ⟨ws, ?_, J⟩)))))⟩)⟩))
          rw [cs, g1]
        · refine br_f (by decide) (br_f (by decide) (br_f (by decide) (br_t rfl ⟨ws, ?_⟩)))
          rw [g4.2.2.1]
          refine ⟨25, xl_len hM ?_ 24 0 rfl⟩
          rw [sr_pc_mk q g4.1]
          refine hY _ (br_f (by decide) ⟨wm, wi_te t3 hj (by omega) (br_f (by decide) (wi_t (n := 4) hf (by decide) (br_f (by decide) (nm_r (iy_40 m j) (br_f (by decide) (br_t rfl ⟨ws, ?_, J⟩))))))⟩)
          rw [cs, g3]
        · refine br_f (by decide) (br_f (by decide) (br_f (by decide) (br_f (by decide) (br_t rfl ⟨ws, ?_⟩))))
          rw [g4.2.2.1]
          have i24 := (g4.1.1 0 g2).1
          refine ⟨I 0 + 1, xl_first hM i24 (fun i hi => sr_first g4.1 hi) (sr_bit_1 q g4.1 0 g2) ?_ (I 0) 0 (by omega)⟩
          have e24 : 24 * nI (40 * m + j) = nI (24 * (40 * m + j)) := pk_mul 24 _
          refine hY _ (br_f (by decide) ⟨wm, wi_te t3 hj (by omega) (br_f (by decide) (wi_t (n := 4) hf (by decide) (br_f (by decide) (nm_r (iy_40 m j) (br_f (by decide) (br_f (by decide) (br_t rfl ⟨ix_in e24 (by omega) (by decide), ?_, J⟩)))))))⟩)
          rw [ix_cl e24 (by omega)]
          exact (g4.2.1 0 g2).1
        · refine br_f (by decide) (br_f (by decide) (br_f (by decide) (br_f (by decide) (br_f (by decide) (br_t rfl ⟨ws, ?_⟩)))))
          rw [g4.2.2.1]
          obtain ⟨p, rfl⟩ : ∃ p, q = p + 1 := ⟨q - 1, by omega⟩
          have i24 := (g4.1.1 p (by omega)).1
          refine ⟨23 - I p + 1, ?_⟩
          have e23 : (23 : Int32) = nI (I p + (23 - I p)) := by rw [show I p + (23 - I p) = 23 from by omega]; rfl
          rw [e23]
          refine xl_last hM i24 (fun i hi => sr_last g4.1 hi) (sr_bit_1 (p + 1) g4.1 p (by omega)) ?_ (23 - I p) (by omega)
          have e24 : 24 * nI (40 * m + j) + nI (p + 1) - 1 = nI (24 * (40 * m + j) + p) := by rw [iy_24]; exact nI_pred _
          refine hY _ (br_f (by decide) ⟨wm, wi_te t3 hj (by omega) (br_f (by decide) (wi_t (n := 4) hf (by decide) (br_f (by decide) (nm_r (iy_40 m j) (br_f (by decide) (br_f (by decide) (br_f (by decide) ?_)))))))⟩)
          rw [cs, g3, ix_cl e24 (by omega)]
          exact ⟨ws, ix_in e24 (by omega) (by decide), (g4.2.1 p (by omega)).1, J⟩
  · exact hX _ (br_t rfl (hY _ (br_t rfl ⟨rfl, J⟩)))
end
section
/-! part 20: copies and clearings; define, reset -/
theorem cy_1 {S T : Nat} {x y : Nat → Int32} : upd x T (y S) = cy_f S T 1 x y := by
  have h := cy_s (S := S) (T := T) (i := 0) (x := x) (y := y)
  rw [cy_0] at h
  exact h
theorem ix_z (b i k : Nat) : nI (24 * b + i) * 4 + nI k = nI (96 * b + (4 * i + k)) := by
  rw [ix_4]
  exact congrArg nI (by omega)
theorem iy_z (b i k : Nat) : 4 * nI (24 * b + i) + nI k = nI (96 * b + (4 * i + k)) := by
  rw [iy_4]
  exact congrArg nI (by omega)
theorem tb_zr {L T n : Nat} {tk : Nat → Int32} (h : tb_R 0 L tk) : tb_R 0 L (zr_f T n tk) := by
  intro j hj
  by_cases w : T ≤ j ∧ j < T + n
  · rw [zr_in w.1 w.2]; exact ⟨0, rfl, by omega⟩
  · rw [zr_out (by omega)]; exact h j hj
section
variable {xdepth xsignal xcarried xlatest xload : Int32} {xsizes xops xargsA xargsB xlines xguards xfroms xtos xats xbegunCounts xthrownCounts xtakenCounts xslotUsed xslotLoad xstretchNumber xstretchGone xstretchRow xatWork xplace xvariables xrow xpart : Nat → Int32} {xstretchWays xrowWays xwayOn : Nat → Int64}
variable {ydepth ysteps yresult youtcome yload yover : Int32} {yop ya yb yline ylength yfrom yto yat yhandlers ybegun ytaken ythrown yrowI yrowWay yrowLength ytimes ytold ykOp ykA ykB ykLine ykLength ykFrom ykTo ykAt ykHandlers ykBegun ykTaken ykThrown ykept ymethod ypc yvariable yhereI yhereWay yhereLength yinto ykLoad ypart : Nat → Int32}
theorem cp_X3 {post : SX → Prop} {s t : Nat} (hs : s < 17) (ht : t < 17) (hst : s ≠ t)
    (h : post (xdepth, xsignal, xcarried, xlatest, xload, xsizes, xops, xargsA, xargsB, xlines, xguards, cy_f (3 * s) (3 * t) 3 xfroms xfroms, cy_f (3 * s) (3 * t) 3 xtos xtos, cy_f (3 * s) (3 * t) 3 xats xats, xbegunCounts, xthrownCounts, xtakenCounts, xslotUsed, xslotLoad, xstretchNumber, xstretchGone, xstretchRow, xstretchWays, xatWork, xplace, xvariables, xrow, xrowWays, xwayOn, xpart)) :
    ∀ e j, j + e = 3 → wX_copyProgram_112 post (nI s) (nI t) xdepth xsignal xcarried xlatest xload (e + 1) (nI j) xsizes xops xargsA xargsB xlines xguards (cy_f (3 * s) (3 * t) j xfroms xfroms) (cy_f (3 * s) (3 * t) j xtos xtos) (cy_f (3 * s) (3 * t) j xats xats) xbegunCounts xthrownCounts xtakenCounts xslotUsed xslotLoad xstretchNumber xstretchGone xstretchRow xstretchWays xatWork xplace xvariables xrow xrowWays xwayOn xpart := by
  intro e
  induction e with
  | zero =>
    intro j hj
    have z : j = 3 := by omega
    subst z
    rw [wX_copyProgram_112]
    exact br_t (by decide) h
  | succ e ih =>
    intro j hj
    have h2 := ih (j + 1) (by omega)
    have ws : vp_in (nI (3 * s + j)) 51 := vp_in_nI (by omega) (by decide)
    have wt : vp_in (nI (3 * t + j)) 51 := vp_in_nI (by omega) (by decide)
    have cs : (nI (3 * s + j)).toNatClampNeg = 3 * s + j := nI_clamp (by omega)
    have ct : (nI (3 * t + j)).toNatClampNeg = 3 * t + j := nI_clamp (by omega)
    have hd : 3 * s + 3 ≤ 3 * t ∨ 3 * t + 3 ≤ 3 * s := by omega
    rw [wX_copyProgram_112]
    refine br_f (nI_ge (b := 3) (by omega) (by decide)) (nm_r (ix_3 s j) (nm_r (ix_3 t j) ?_))
    rw [cs, ct]
    exact ⟨ws, wt, nm_r (cy_self hd (by omega)) ⟨ws, wt, nm_r (cy_self hd (by omega)) ⟨ws, wt, nm_r (cy_self hd (by omega)) (nm_r (nI_1 j) h2)⟩⟩⟩
theorem cp_X24 {post : SX → Prop} {s t : Nat} (hs : s < 17) (ht : t < 17) (hst : s ≠ t)
    (h : ∃ n, wX_copyProgram_112 post (nI s) (nI t) xdepth xsignal xcarried xlatest xload n 0 xsizes (cy_f (24 * s) (24 * t) 24 xops xops) (cy_f (24 * s) (24 * t) 24 xargsA xargsA) (cy_f (24 * s) (24 * t) 24 xargsB xargsB) (cy_f (24 * s) (24 * t) 24 xlines xlines) xguards xfroms xtos xats xbegunCounts xthrownCounts xtakenCounts xslotUsed xslotLoad xstretchNumber xstretchGone xstretchRow xstretchWays xatWork xplace xvariables xrow xrowWays xwayOn xpart) :
    ∀ e j, j + e = 24 → wX_copyProgram_26 post (nI s) (nI t) xdepth xsignal xcarried xlatest xload (e + 1) (nI j) xsizes (cy_f (24 * s) (24 * t) j xops xops) (cy_f (24 * s) (24 * t) j xargsA xargsA) (cy_f (24 * s) (24 * t) j xargsB xargsB) (cy_f (24 * s) (24 * t) j xlines xlines) xguards xfroms xtos xats xbegunCounts xthrownCounts xtakenCounts xslotUsed xslotLoad xstretchNumber xstretchGone xstretchRow xstretchWays xatWork xplace xvariables xrow xrowWays xwayOn xpart := by
  intro e
  induction e with
  | zero =>
    intro j hj
    have z : j = 24 := by omega
    subst z
    rw [wX_copyProgram_26]
    exact br_t (by decide) h
  | succ e ih =>
    intro j hj
    have h2 := ih (j + 1) (by omega)
    have ws : vp_in (nI (24 * s + j)) 408 := vp_in_nI (by omega) (by decide)
    have wt : vp_in (nI (24 * t + j)) 408 := vp_in_nI (by omega) (by decide)
    have cs : (nI (24 * s + j)).toNatClampNeg = 24 * s + j := nI_clamp (by omega)
    have ct : (nI (24 * t + j)).toNatClampNeg = 24 * t + j := nI_clamp (by omega)
    have hd : 24 * s + 24 ≤ 24 * t ∨ 24 * t + 24 ≤ 24 * s := by omega
    rw [wX_copyProgram_26]
    refine br_f (nI_ge (b := 24) (by omega) (by decide)) (nm_r (ix_24 s j) (nm_r (ix_24 t j) ?_))
    rw [cs, ct]
    exact ⟨ws, wt, nm_r (cy_self hd (by omega)) ⟨ws, wt, nm_r (cy_self hd (by omega)) ⟨ws, wt, nm_r (cy_self hd (by omega)) ⟨ws, wt, nm_r (cy_self hd (by omega)) (nm_r (nI_1 j) h2)⟩⟩⟩⟩
/-- copyProgram of the class -/
theorem cp_X {post : SX → Prop} {s t : Nat} (hs : s < 17) (ht : t < 17) (hst : s ≠ t)
    (h : post (xdepth, xsignal, xcarried, xlatest, xload, upd xsizes t (xsizes s), cy_f (24 * s) (24 * t) 24 xops xops, cy_f (24 * s) (24 * t) 24 xargsA xargsA, cy_f (24 * s) (24 * t) 24 xargsB xargsB, cy_f (24 * s) (24 * t) 24 xlines xlines, upd xguards t (xguards s), cy_f (3 * s) (3 * t) 3 xfroms xfroms, cy_f (3 * s) (3 * t) 3 xtos xtos, cy_f (3 * s) (3 * t) 3 xats xats, xbegunCounts, xthrownCounts, xtakenCounts, xslotUsed, xslotLoad, xstretchNumber, xstretchGone, xstretchRow, xstretchWays, xatWork, xplace, xvariables, xrow, xrowWays, xwayOn, xpart)) : wpX_copyProgram post (xdepth, xsignal, xcarried, xlatest, xload, xsizes, xops, xargsA, xargsB, xlines, xguards, xfroms, xtos, xats, xbegunCounts, xthrownCounts, xtakenCounts, xslotUsed, xslotLoad, xstretchNumber, xstretchGone, xstretchRow, xstretchWays, xatWork, xplace, xvariables, xrow, xrowWays, xwayOn, xpart) (nI s) (nI t) := by
  have ws : vp_in (nI s) 17 := vp_in_nI hs (by decide)
  have wt : vp_in (nI t) 17 := vp_in_nI ht (by decide)
  have cs : (nI s).toNatClampNeg = s := nI_clamp (by omega)
  have ct : (nI t).toNatClampNeg = t := nI_clamp (by omega)
  have H3 := cp_X3 hs ht hst h 3 0 rfl
  rw [cy_0, cy_0, cy_0] at H3
  have H := cp_X24 (post := post) hs ht hst ⟨_, H3⟩ 24 0 rfl
  rw [cy_0, cy_0, cy_0, cy_0] at H
  exact ⟨ws, wt, nm_r (e' := upd xsizes t (xsizes s)) (by rw [cs, ct]) ⟨ws, wt, nm_r (e' := upd xguards t (xguards s)) (by rw [cs, ct]) ⟨_, H⟩⟩⟩
theorem cc_X4 {post : SX → Prop} {J : _} {b i : Nat} (hb : b < 17) (hi : i < 24)
    (h : J (nI (i + 1)) xsizes xops xargsA xargsB xlines xguards xfroms xtos xats xbegunCounts xthrownCounts (zr_f (96 * b) (4 * (i + 1)) xtakenCounts) xslotUsed xslotLoad xstretchNumber xstretchGone xstretchRow xstretchWays xatWork xplace xvariables xrow xrowWays xwayOn xpart) :
    ∀ e k, k + e = 4 → wX_clearCounts_32 post J (nI b) (nI i) (nI (24 * b + i)) xdepth xsignal xcarried xlatest xload (e + 1) (nI k) xsizes xops xargsA xargsB xlines xguards xfroms xtos xats xbegunCounts xthrownCounts (zr_f (96 * b) (4 * i + k) xtakenCounts) xslotUsed xslotLoad xstretchNumber xstretchGone xstretchRow xstretchWays xatWork xplace xvariables xrow xrowWays xwayOn xpart := by
  intro e
  induction e with
  | zero =>
    intro k hk
    have z : k = 4 := by omega
    subst z
    rw [wX_clearCounts_32]
    exact br_t (by decide) (nm_r (nI_1 i) h)
  | succ e ih =>
    intro k hk
    have h2 := ih (k + 1) (by omega)
    rw [wX_clearCounts_32]
    refine br_f (nI_ge (b := 4) (by omega) (by decide)) ⟨ix_in (ix_z b i k) (by omega) (by decide), ?_⟩
    rw [ix_cl (ix_z b i k) (by omega)]
    exact nm_r zr_s (nm_r (nI_1 k) h2)
/-- clearCounts of the class -/
theorem cc_X {post : SX → Prop} {b : Nat} (hb : b < 17)
    (h : post (xdepth, xsignal, xcarried, xlatest, xload, xsizes, xops, xargsA, xargsB, xlines, xguards, xfroms, xtos, xats, zr_f (24 * b) 24 xbegunCounts, zr_f (24 * b) 24 xthrownCounts, zr_f (96 * b) 96 xtakenCounts, xslotUsed, xslotLoad, xstretchNumber, xstretchGone, xstretchRow, xstretchWays, xatWork, xplace, xvariables, xrow, xrowWays, xwayOn, xpart)) : wpX_clearCounts post (xdepth, xsignal, xcarried, xlatest, xload, xsizes, xops, xargsA, xargsB, xlines, xguards, xfroms, xtos, xats, xbegunCounts, xthrownCounts, xtakenCounts, xslotUsed, xslotLoad, xstretchNumber, xstretchGone, xstretchRow, xstretchWays, xatWork, xplace, xvariables, xrow, xrowWays, xwayOn, xpart) (nI b) := by
  have H : ∀ e i, i + e = 24 → wX_clearCounts_2 post (nI b) xdepth xsignal xcarried xlatest xload (e + 1) (nI i) xsizes xops xargsA xargsB xlines xguards xfroms xtos xats (zr_f (24 * b) i xbegunCounts) (zr_f (24 * b) i xthrownCounts) (zr_f (96 * b) (4 * i) xtakenCounts) xslotUsed xslotLoad xstretchNumber xstretchGone xstretchRow xstretchWays xatWork xplace xvariables xrow xrowWays xwayOn xpart := by
    intro e
    induction e with
    | zero =>
      intro i hi
      have z : i = 24 := by omega
      subst z
      rw [wX_clearCounts_2]
      exact br_t (by decide) h
    | succ e ih =>
      intro i hi
      have h2 := ih (i + 1) (by omega)
      have w : vp_in (nI (24 * b + i)) 408 := vp_in_nI (by omega) (by decide)
      have c : (nI (24 * b + i)).toNatClampNeg = 24 * b + i := nI_clamp (by omega)
      rw [wX_clearCounts_2]
      refine br_f (nI_ge (b := 24) (by omega) (by decide)) (nm_r (ix_24 b i) ?_)
      rw [c]
      exact ⟨w, nm_r zr_s ⟨w, nm_r zr_s ⟨4 + 1, cc_X4 hb (by omega) h2 4 0 rfl⟩⟩⟩
  have H0 := H 24 0 rfl
  rw [Nat.mul_zero, zr_0, zr_0, zr_0] at H0
  exact ⟨_, H0⟩
theorem cc_Y4 {post : SY → Prop} {J : _} {x : Int32} {b i : Nat} (hb : b < 4) (hi : i < 24)
    (h : J (nI (24 * b + (i + 1))) yop ya yb yline ylength yfrom yto yat yhandlers ybegun (zr_f (96 * b) (4 * (i + 1)) ytaken) ythrown yrowI yrowWay yrowLength ytimes ytold ykOp ykA ykB ykLine ykLength ykFrom ykTo ykAt ykHandlers ykBegun ykTaken ykThrown ykept ymethod ypc yvariable yhereI yhereWay yhereLength yinto ykLoad ypart) :
    ∀ e k, k + e = 4 → wY_forget_32 post J x (nI (24 * b + i)) ydepth ysteps yresult youtcome yload yover (e + 1) (nI k) yop ya yb yline ylength yfrom yto yat yhandlers ybegun (zr_f (96 * b) (4 * i + k) ytaken) ythrown yrowI yrowWay yrowLength ytimes ytold ykOp ykA ykB ykLine ykLength ykFrom ykTo ykAt ykHandlers ykBegun ykTaken ykThrown ykept ymethod ypc yvariable yhereI yhereWay yhereLength yinto ykLoad ypart := by
  intro e
  induction e with
  | zero =>
    intro k hk
    have z : k = 4 := by omega
    subst z
    rw [wY_forget_32]
    exact br_t (by decide) (nm_r (nI_1 _) h)
  | succ e ih =>
    intro k hk
    have h2 := ih (k + 1) (by omega)
    rw [wY_forget_32]
    refine br_f (nI_ge (b := 4) (by omega) (by decide)) ⟨ix_in (iy_z b i k) (by omega) (by decide), ?_⟩
    rw [ix_cl (iy_z b i k) (by omega)]
    exact nm_r zr_s (nm_r (nI_1 k) h2)
/-- forget of the reference -/
theorem cc_Y {post : SY → Prop} {b : Nat} (hb : b < 4)
    (h : post (ydepth, ysteps, yresult, youtcome, yload, yover, yop, ya, yb, yline, ylength, yfrom, yto, yat, yhandlers, zr_f (24 * b) 24 ybegun, zr_f (96 * b) 96 ytaken, zr_f (24 * b) 24 ythrown, yrowI, yrowWay, yrowLength, ytimes, upd ytold b 0, ykOp, ykA, ykB, ykLine, ykLength, ykFrom, ykTo, ykAt, ykHandlers, ykBegun, ykTaken, ykThrown, ykept, ymethod, ypc, yvariable, yhereI, yhereWay, yhereLength, yinto, ykLoad, ypart)) : wpY_forget post (ydepth, ysteps, yresult, youtcome, yload, yover, yop, ya, yb, yline, ylength, yfrom, yto, yat, yhandlers, ybegun, ytaken, ythrown, yrowI, yrowWay, yrowLength, ytimes, ytold, ykOp, ykA, ykB, ykLine, ykLength, ykFrom, ykTo, ykAt, ykHandlers, ykBegun, ykTaken, ykThrown, ykept, ymethod, ypc, yvariable, yhereI, yhereWay, yhereLength, yinto, ykLoad, ypart) (nI b) := by
  have cb : (nI b).toNatClampNeg = b := nI_clamp (by omega)
  have eb : 24 * nI b + 24 = nI (24 * b + 24) := iy_24 b 24
  have H : ∀ e i, i + e = 24 → wY_forget_5 post (nI b) ydepth ysteps yresult youtcome yload yover (e + 1) (nI (24 * b + i)) yop ya yb yline ylength yfrom yto yat yhandlers (zr_f (24 * b) i ybegun) (zr_f (96 * b) (4 * i) ytaken) (zr_f (24 * b) i ythrown) yrowI yrowWay yrowLength ytimes ytold ykOp ykA ykB ykLine ykLength ykFrom ykTo ykAt ykHandlers ykBegun ykTaken ykThrown ykept ymethod ypc yvariable yhereI yhereWay yhereLength yinto ykLoad ypart := by
    intro e
    induction e with
    | zero =>
      intro i hi
      have z : i = 24 := by omega
      subst z
      rw [wY_forget_5]
      refine br_t (by rw [eb]; exact nI_le (Nat.le_refl _) (by omega)) ⟨vp_in_nI hb (by decide), nm_r (e' := upd ytold b 0) (by rw [cb]) h⟩
    | succ e ih =>
      intro i hi
      have h2 := ih (i + 1) (by omega)
      have w : vp_in (nI (24 * b + i)) 96 := vp_in_nI (by omega) (by decide)
      have c : (nI (24 * b + i)).toNatClampNeg = 24 * b + i := nI_clamp (by omega)
      rw [wY_forget_5]
      refine br_f (by rw [eb]; exact nI_ge (by omega) (by omega)) ?_
      rw [c]
      exact ⟨w, nm_r zr_s ⟨w, nm_r zr_s ⟨4 + 1, cc_Y4 hb (by omega) h2 4 0 rfl⟩⟩⟩
  have H0 := H 24 0 rfl
  rw [Nat.mul_zero, zr_0, zr_0, zr_0] at H0
  exact nm_r (e' := nI (24 * b)) (pk_mul 24 b) ⟨_, H0⟩
/-- define of the reference -/
theorem df_Y {post : Int32 → SY → Prop} {m : Nat} (hm : m < 4)
    (h : post (ylength 4) (ydepth, ysteps, yresult, youtcome, yload, yover, cy_f 96 (24 * m) 24 yop yop, cy_f 96 (24 * m) 24 ya ya, cy_f 96 (24 * m) 24 yb yb, cy_f 96 (24 * m) 24 yline yline, upd (upd ylength m (ylength 4)) 4 0, cy_f 12 (3 * m) 3 yfrom yfrom, cy_f 12 (3 * m) 3 yto yto, cy_f 12 (3 * m) 3 yat yat, upd (upd yhandlers m (yhandlers 4)) 4 0, zr_f (24 * m) 24 ybegun, zr_f (96 * m) 96 ytaken, zr_f (24 * m) 24 ythrown, yrowI, yrowWay, yrowLength, ytimes, upd ytold m 0, ykOp, ykA, ykB, ykLine, ykLength, ykFrom, ykTo, ykAt, ykHandlers, ykBegun, ykTaken, ykThrown, ykept, ymethod, ypc, yvariable, yhereI, yhereWay, yhereLength, yinto, ykLoad, ypart)) : wpY_define post (ydepth, ysteps, yresult, youtcome, yload, yover, yop, ya, yb, yline, ylength, yfrom, yto, yat, yhandlers, ybegun, ytaken, ythrown, yrowI, yrowWay, yrowLength, ytimes, ytold, ykOp, ykA, ykB, ykLine, ykLength, ykFrom, ykTo, ykAt, ykHandlers, ykBegun, ykTaken, ykThrown, ykept, ymethod, ypc, yvariable, yhereI, yhereWay, yhereLength, yinto, ykLoad, ypart) (nI m) := by
  have cm : (nI m).toNatClampNeg = m := nI_clamp (by omega)
  have wm : vp_in (nI m) 5 := vp_in_nI (by omega) (by decide)
  have H3 : ∀ e j, j + e = 3 → wY_define_106 post (nI m) ydepth ysteps yresult youtcome yload yover (e + 1) (nI j) (cy_f 96 (24 * m) 24 yop yop) (cy_f 96 (24 * m) 24 ya ya) (cy_f 96 (24 * m) 24 yb yb) (cy_f 96 (24 * m) 24 yline yline) ylength (cy_f 12 (3 * m) j yfrom yfrom) (cy_f 12 (3 * m) j yto yto) (cy_f 12 (3 * m) j yat yat) yhandlers ybegun ytaken ythrown yrowI yrowWay yrowLength ytimes ytold ykOp ykA ykB ykLine ykLength ykFrom ykTo ykAt ykHandlers ykBegun ykTaken ykThrown ykept ymethod ypc yvariable yhereI yhereWay yhereLength yinto ykLoad ypart := by
    intro e
    induction e with
    | zero =>
      intro j hj
      have z : j = 3 := by omega
      subst z
      rw [wY_define_106]
      refine br_t (by decide) ⟨wm, nm_r (e' := upd ylength m (ylength 4)) (by rw [cm]) ⟨wm, nm_r (e' := upd yhandlers m (yhandlers 4)) (by rw [cm]) (nm_e (nm_e ?_))⟩⟩
      refine cc_Y hm ⟨wm, ?_⟩
      rw [cm, pk_un (show m ≠ 4 by omega), pk_us]
      exact h
    | succ e ih =>
      intro j hj
      have h2 := ih (j + 1) (by omega)
      have es : 12 + nI j = nI (12 + j) := nI_add 12 j
      have ws : vp_in (12 + nI j) 15 := ix_in es (by omega) (by decide)
      have wt : vp_in (3 * nI m + nI j) 15 := ix_in (iy_3 m j) (by omega) (by decide)
      have hd : 12 + 3 ≤ 3 * m ∨ 3 * m + 3 ≤ 12 := by omega
      rw [wY_define_106]
      refine br_f (nI_ge (b := 3) (by omega) (by decide)) ?_
      rw [ix_cl es (by omega), ix_cl (iy_3 m j) (by omega)]
      exact ⟨ws, wt, nm_r (cy_self hd (by omega)) ⟨ws, wt, nm_r (cy_self hd (by omega)) ⟨ws, wt, nm_r (cy_self hd (by omega)) (nm_r (nI_1 j) h2)⟩⟩⟩
  have H24 : ∀ e j, j + e = 24 → wY_define_12 post (nI m) ydepth ysteps yresult youtcome yload yover (e + 1) (nI j) (cy_f 96 (24 * m) j yop yop) (cy_f 96 (24 * m) j ya ya) (cy_f 96 (24 * m) j yb yb) (cy_f 96 (24 * m) j yline yline) ylength yfrom yto yat yhandlers ybegun ytaken ythrown yrowI yrowWay yrowLength ytimes ytold ykOp ykA ykB ykLine ykLength ykFrom ykTo ykAt ykHandlers ykBegun ykTaken ykThrown ykept ymethod ypc yvariable yhereI yhereWay yhereLength yinto ykLoad ypart := by
    intro e
    induction e with
    | zero =>
      intro j hj
      have z : j = 24 := by omega
      subst z
      have H := H3 3 0 rfl
      rw [cy_0, cy_0, cy_0] at H
      rw [wY_define_12]
      exact br_t (by decide) ⟨_, H⟩
    | succ e ih =>
      intro j hj
      have h2 := ih (j + 1) (by omega)
      have es : 96 + nI j = nI (96 + j) := nI_add 96 j
      have ws : vp_in (96 + nI j) 120 := ix_in es (by omega) (by decide)
      have wt : vp_in (24 * nI m + nI j) 120 := ix_in (iy_24 m j) (by omega) (by decide)
      have hd : 96 + 24 ≤ 24 * m ∨ 24 * m + 24 ≤ 96 := by omega
      rw [wY_define_12]
      refine br_f (nI_ge (b := 24) (by omega) (by decide)) ?_
      rw [ix_cl es (by omega), ix_cl (iy_24 m j) (by omega)]
      exact ⟨ws, wt, nm_r (cy_self hd (by omega)) ⟨ws, wt, nm_r (cy_self hd (by omega)) ⟨ws, wt, nm_r (cy_self hd (by omega)) ⟨ws, wt, nm_r (cy_self hd (by omega)) (nm_r (nI_1 j) h2)⟩⟩⟩⟩
  have H := H24 24 0 rfl
  rw [cy_0, cy_0, cy_0, cy_0] at H
  unfold wpY_define
  exact wi_t (n := 4) hm (by decide) (br_f (by decide) ⟨_, H⟩)
end
theorem i_vc_define {k : Nat} {u : SX} {v : SY} (I : i_Rel k u v) (hk : k + 5 ≤ 2560) (v1 : Int32) : wpX_define (fun r u' => wpY_define (fun r' v' => r' = r ∧ i_Rel (k + 5) u' v') v v1) u v1 := by
  obtain ⟨xdepth, xsignal, xcarried, xlatest, xload, xsizes, xops, xargsA, xargsB, xlines, xguards, xfroms, xtos, xats, xbegunCounts, xthrownCounts, xtakenCounts, xslotUsed, xslotLoad, xstretchNumber, xstretchGone, xstretchRow, xstretchWays, xatWork, xplace, xvariables, xrow, xrowWays, xwayOn, xpart⟩ := u
  obtain ⟨ydepth, ysteps, yresult, youtcome, yload, yover, yop, ya, yb, yline, ylength, yfrom, yto, yat, yhandlers, ybegun, ytaken, ythrown, yrowI, yrowWay, yrowLength, ytimes, ytold, ykOp, ykA, ykB, ykLine, ykLength, ykFrom, ykTo, ykAt, ykHandlers, ykBegun, ykTaken, ykThrown, ykept, ymethod, ypc, yvariable, yhereI, yhereWay, yhereLength, yinto, ykLoad, ypart⟩ := v
  have J := I
  obtain ⟨L, h1, h2, h3, h4, hP, hC, hS, hT⟩ := I
  rcases pk_ix v1 (n := 4) (by decide) with z | z | ⟨m, hm, rfl⟩
  · unfold wpX_define wpY_define
    exact xi_f (n := 4) (Or.inl z) (br_t rfl (wi_f (n := 4) (Or.inl z) (br_t rfl ⟨rfl, J⟩)))
  · unfold wpX_define wpY_define
    exact xi_f (n := 4) (Or.inr z) (br_t rfl (wi_f (n := 4) (Or.inr z) (br_t rfl ⟨rfl, J⟩)))
  · obtain ⟨s1, s2, s3⟩ := gp_16 hP
    obtain ⟨t1, t2, t3⟩ := gp_g16 hP
    have cm : (nI m).toNatClampNeg = m := nI_clamp (by omega)
    unfold wpX_define
    refine xi_t (n := 4) hm (by decide) (br_f (by decide) (cp_X (s := 16) (by omega) (by omega) (by omega) ?_))
    refine cc_X (by omega) ⟨vp_in_nI hm (by decide), nm_r (e' := upd xstretchNumber m 0) (by rw [cm]) (nm_e (nm_e ⟨vp_in_nI (by omega) (by decide), ?_⟩))⟩
    rw [cm, pk_un (show m ≠ 16 by omega), pk_us]
    refine df_Y hm ⟨by rw [s1, s2], ?_⟩
    obtain ⟨p1, p2, p3, p4, p5, p6, p7, p8, p9, pa, pb, pc, pd⟩ := hP
    have q1 : rg_R 17 24 (upd (upd xsizes m (xsizes 16)) 16 0) := by
      rw [s1]
      exact rg_u (n := 0) (rg_u pa s3) (by omega)
    have q2 : rg_R 17 3 (upd (upd xguards m (xguards 16)) 16 0) := by
      rw [t1]
      exact rg_u (n := 0) (rg_u pb t3) (by omega)
    have b1 := bk_add (c := 1) (i := 0) (v := 0) (bk_def (c := 1) (M := m) p1 (by omega)) (by omega)
    have b2 := bk_add (c := 1) (i := 0) (v := 0) (bk_def (c := 1) (M := m) p2 (by omega)) (by omega)
    rw [← cy_1, ← cy_1] at b1 b2
    have e : ∀ b, b < 16 → b ≠ m → sz_f (upd (upd xsizes m (xsizes 16)) 16 0) b = sz_f xsizes b := fun b hb hbm => by
      rw [sz_un (by omega), sz_un hbm]
    have hs : ∀ b, b < 16 → sz_f (upd (upd xsizes m (xsizes 16)) 16 0) b ≤ 24 := fun b hb => (rg_at q1 (by decide) (by omega)).2
    refine ⟨L, h1, h2, h3, h4, ⟨b1, b2, bk_def (c := 24) p3 (by omega), bk_def (c := 24) p4 (by omega), bk_def (c := 24) p5 (by omega), bk_def (c := 24) p6 (by omega), bk_def (c := 3) p7 (by omega), bk_def (c := 3) p8 (by omega), bk_def (c := 3) p9 (by omega), q1, q2, rg_cy pc (by omega), rg_cy pd (by omega)⟩,
      ⟨ct_clr1 hC.1 hm hs e, ct_clr1 hC.2.1 hm hs e, ct_clr4 hC.2.2.1 hm hs e, sl_t hC.2.2.2 (fun j hj => zr_out (by omega))⟩, st_none hS, tb_zr hT⟩
theorem i_vc_reset {k : Nat} {u : SX} {v : SY} (I : i_Rel k u v) (hk : k + 5 ≤ 2560) (v1 : Int32) : wpX_reset (fun r u' => wpY_reset (fun r' v' => r' = r ∧ i_Rel (k + 5) u' v') v v1) u v1 := by
  obtain ⟨xdepth, xsignal, xcarried, xlatest, xload, xsizes, xops, xargsA, xargsB, xlines, xguards, xfroms, xtos, xats, xbegunCounts, xthrownCounts, xtakenCounts, xslotUsed, xslotLoad, xstretchNumber, xstretchGone, xstretchRow, xstretchWays, xatWork, xplace, xvariables, xrow, xrowWays, xwayOn, xpart⟩ := u
  obtain ⟨ydepth, ysteps, yresult, youtcome, yload, yover, yop, ya, yb, yline, ylength, yfrom, yto, yat, yhandlers, ybegun, ytaken, ythrown, yrowI, yrowWay, yrowLength, ytimes, ytold, ykOp, ykA, ykB, ykLine, ykLength, ykFrom, ykTo, ykAt, ykHandlers, ykBegun, ykTaken, ykThrown, ykept, ymethod, ypc, yvariable, yhereI, yhereWay, yhereLength, yinto, ykLoad, ypart⟩ := v
  have J := I
  obtain ⟨L, h1, h2, h3, h4, hP, hC, hS, hT⟩ := I
  unfold wpX_reset wpY_reset
  rcases th_c (xdepth := xdepth) (xsignal := xsignal) (xcarried := xcarried) (xlatest := xlatest) (xload := xload) (xsizes := xsizes) (xops := xops) (xargsA := xargsA) (xargsB := xargsB) (xlines := xlines) (xguards := xguards) (xfroms := xfroms) (xtos := xtos) (xats := xats) (xbegunCounts := xbegunCounts) (xthrownCounts := xthrownCounts) (xtakenCounts := xtakenCounts) (xslotUsed := xslotUsed) (xslotLoad := xslotLoad) (xstretchNumber := xstretchNumber) (xstretchGone := xstretchGone) (xstretchRow := xstretchRow) (xstretchWays := xstretchWays) (xatWork := xatWork) (xplace := xplace) (xvariables := xvariables) (xrow := xrow) (xrowWays := xrowWays) (xwayOn := xwayOn) (xpart := xpart) (ydepth := ydepth) (ysteps := ysteps) (yresult := yresult) (youtcome := youtcome) (yload := yload) (yover := yover) (yop := yop) (ya := ya) (yb := yb) (yline := yline) (ylength := ylength) (yfrom := yfrom) (yto := yto) (yat := yat) (yhandlers := yhandlers) (ybegun := ybegun) (ytaken := ytaken) (ythrown := ythrown) (yrowI := yrowI) (yrowWay := yrowWay) (yrowLength := yrowLength) (ytimes := ytimes) (ytold := ytold) (ykOp := ykOp) (ykA := ykA) (ykB := ykB) (ykLine := ykLine) (ykLength := ykLength) (ykFrom := ykFrom) (ykTo := ykTo) (ykAt := ykAt) (ykHandlers := ykHandlers) (ykBegun := ykBegun) (ykTaken := ykTaken) (ykThrown := ykThrown) (ykept := ykept) (ymethod := ymethod) (ypc := ypc) (yvariable := yvariable) (yhereI := yhereI) (yhereWay := yhereWay) (yhereLength := yhereLength) (yinto := yinto) (ykLoad := ykLoad) (ypart := ypart) v1 hP with ⟨m, hm, rfl, hs, hX, hY⟩ | ⟨hX, hY⟩
  · have cm : (nI m).toNatClampNeg = m := nI_clamp (by omega)
    refine hX _ (br_f (by decide) (cc_X (by omega) ⟨vp_in_nI hm (by decide), nm_r (e' := upd xstretchNumber m 0) (by rw [cm]) ?_⟩))
    refine hY _ (br_f (by decide) (cc_Y hm ⟨rfl, ?_⟩))
    have hs : ∀ b, b < 16 → sz_f xsizes b ≤ 24 := fun b hb => (rg_at hP.2.2.2.2.2.2.2.2.2.1 (by decide) (by omega)).2
    exact ⟨L, h1, h2, h3, h4, hP, ⟨ct_clr1 hC.1 hm hs (fun _ _ _ => rfl), ct_clr1 hC.2.1 hm hs (fun _ _ _ => rfl), ct_clr4 hC.2.2.1 hm hs (fun _ _ _ => rfl), sl_t hC.2.2.2 (fun j hj => zr_out (by omega))⟩, st_none hS, tb_zr hT⟩
  · exact hX _ (br_t rfl (hY _ (br_t rfl ⟨rfl, J⟩)))
end
section
/-! part 21: counters -/
def pi_f (i : Nat) (x : Nat → Int32) : Nat → Int32 := fun j => if j < i then nI j else x j
theorem pi_0 (x : Nat → Int32) : pi_f 0 x = x := by
  funext j
  exact if_neg (by omega)
theorem pi_s {i : Nat} {x : Nat → Int32} : upd (pi_f i x) i (nI i) = pi_f (i + 1) x := by
  funext j
  unfold upd pi_f
  by_cases z : j = i
  · rw [if_pos z, if_pos (by omega), z]
  · rw [if_neg z]
    by_cases y : j < i
    · rw [if_pos y, if_pos (by omega)]
    · rw [if_neg y, if_neg (by omega)]
theorem pi_at {i j : Nat} {x : Nat → Int32} (h : j < i) : pi_f i x j = nI j := if_pos h
/-- a point of the class: outside is 24 -/
def pn_R (z : Int32) (A : Nat) : Prop := (z = -1 ∧ A = 24) ∨ (z = nI A ∧ A < 24)
theorem pn_n {A : Nat} (h : A < 24) : ¬ nI A = -1 := fun z => by
  have q := nI_pos (n := A) (by omega)
  rw [z] at q
  exact q (by decide)
section
variable {xdepth xsignal xcarried xlatest xload : Int32} {xsizes xops xargsA xargsB xlines xguards xfroms xtos xats xbegunCounts xthrownCounts xtakenCounts xslotUsed xslotLoad xstretchNumber xstretchGone xstretchRow xatWork xplace xvariables xrow xpart : Nat → Int32} {xstretchWays xrowWays xwayOn : Nat → Int64}
variable {ydepth ysteps yresult youtcome yload yover : Int32} {yop ya yb yline ylength yfrom yto yat yhandlers ybegun ytaken ythrown yrowI yrowWay yrowLength ytimes ytold ykOp ykA ykB ykLine ykLength ykFrom ykTo ykAt ykHandlers ykBegun ykTaken ykThrown ykept ymethod ypc yvariable yhereI yhereWay yhereLength yinto ykLoad ypart : Nat → Int32}
theorem jx_L {post : Int32 → SX → Prop} {P Q : Int32} (h : (P = Q → post 0 (xdepth, xsignal, xcarried, xlatest, xload, xsizes, xops, xargsA, xargsB, xlines, xguards, xfroms, xtos, xats, xbegunCounts, xthrownCounts, xtakenCounts, xslotUsed, xslotLoad, xstretchNumber, xstretchGone, xstretchRow, xstretchWays, xatWork, xplace, xvariables, xrow, xrowWays, xwayOn, cn_rl xpart P Q 25)) ∧ (¬ P = Q → post 1 (xdepth, xsignal, xcarried, xlatest, xload, xsizes, xops, xargsA, xargsB, xlines, xguards, xfroms, xtos, xats, xbegunCounts, xthrownCounts, xtakenCounts, xslotUsed, xslotLoad, xstretchNumber, xstretchGone, xstretchRow, xstretchWays, xatWork, xplace, xvariables, xrow, xrowWays, xwayOn, cn_rl xpart P Q 25))) :
    ∀ e j, j + e = 25 → wX_joinsTwoParts_38 post P Q xdepth xsignal xcarried xlatest xload (e + 1) (nI j) xsizes xops xargsA xargsB xlines xguards xfroms xtos xats xbegunCounts xthrownCounts xtakenCounts xslotUsed xslotLoad xstretchNumber xstretchGone xstretchRow xstretchWays xatWork xplace xvariables xrow xrowWays xwayOn (cn_rl xpart P Q j) := by
  intro e
  induction e with
  | zero =>
    intro j hj
    have z : j = 25 := by omega
    subst z
    rw [wX_joinsTwoParts_38]
    exact br_t (by decide) h
  | succ e ih =>
    intro j hj
    have h2 := ih (j + 1) (by omega)
    have w : vp_in (nI j) 25 := vp_in_nI (by omega) (by decide)
    have c : (nI j).toNatClampNeg = j := nI_clamp (by omega)
    rw [wX_joinsTwoParts_38]
    refine br_f (nI_ge (b := 25) (by omega) (by decide)) ⟨w, ?_⟩
    rw [c, cn_rl_at']
    by_cases z : xpart j = P
    · exact br_t z ⟨w, nm_r (cn_rl_t z) (nm_r (nI_1 j) h2)⟩
    · rw [← cn_rl_f z] at h2
      exact br_f z (nm_r (nI_1 j) h2)
theorem jx_R {post : Int32 → SX → Prop} {za zb : Int32} {A B : Nat} (ha : pn_R za A) (hb : pn_R zb B)
    (h : (xpart A = xpart B → post 0 (xdepth, xsignal, xcarried, xlatest, xload, xsizes, xops, xargsA, xargsB, xlines, xguards, xfroms, xtos, xats, xbegunCounts, xthrownCounts, xtakenCounts, xslotUsed, xslotLoad, xstretchNumber, xstretchGone, xstretchRow, xstretchWays, xatWork, xplace, xvariables, xrow, xrowWays, xwayOn, cn_rl xpart (xpart A) (xpart B) 25)) ∧ (¬ xpart A = xpart B → post 1 (xdepth, xsignal, xcarried, xlatest, xload, xsizes, xops, xargsA, xargsB, xlines, xguards, xfroms, xtos, xats, xbegunCounts, xthrownCounts, xtakenCounts, xslotUsed, xslotLoad, xstretchNumber, xstretchGone, xstretchRow, xstretchWays, xatWork, xplace, xvariables, xrow, xrowWays, xwayOn, cn_rl xpart (xpart A) (xpart B) 25))) : wpX_joinsTwoParts post (xdepth, xsignal, xcarried, xlatest, xload, xsizes, xops, xargsA, xargsB, xlines, xguards, xfroms, xtos, xats, xbegunCounts, xthrownCounts, xtakenCounts, xslotUsed, xslotLoad, xstretchNumber, xstretchGone, xstretchRow, xstretchWays, xatWork, xplace, xvariables, xrow, xrowWays, xwayOn, xpart) za zb := by
  have H := jx_L h 25 0 rfl
  rw [cn_rl_0] at H
  have K : ∀ z : Int32, z = nI A → A < 25 → wX_joinsTwoParts_15 post zb z xdepth xsignal xcarried xlatest xload xsizes xops xargsA xargsB xlines xguards xfroms xtos xats xbegunCounts xthrownCounts xtakenCounts xslotUsed xslotLoad xstretchNumber xstretchGone xstretchRow xstretchWays xatWork xplace xvariables xrow xrowWays xwayOn xpart := by
    intro z hz hA
    subst hz
    refine ⟨vp_in_nI hA (by decide), nm_r (e' := xpart A) (by rw [nI_clamp (by omega)]) ?_⟩
    rcases hb with ⟨rfl, rfl⟩ | ⟨rfl, h24⟩
    · exact br_t rfl (nm_e ⟨_, H⟩)
    · exact br_f (pn_n h24) ⟨vp_in_nI (by omega) (by decide), nm_r (e' := xpart B) (by rw [nI_clamp (by omega)]) ⟨_, H⟩⟩
  unfold wpX_joinsTwoParts
  rcases ha with ⟨rfl, rfl⟩ | ⟨rfl, h24⟩
  · exact br_t rfl (K 24 rfl (by omega))
  · exact br_f (pn_n h24) (K (nI A) rfl (by omega))
theorem uy_L {post : SY → Prop} {P Q : Int32} {n : Nat} (hn : n ≤ 24) (h : post (ydepth, ysteps, yresult, youtcome, yload, yover, yop, ya, yb, yline, ylength, yfrom, yto, yat, yhandlers, ybegun, ytaken, ythrown, yrowI, yrowWay, yrowLength, ytimes, ytold, ykOp, ykA, ykB, ykLine, ykLength, ykFrom, ykTo, ykAt, ykHandlers, ykBegun, ykTaken, ykThrown, ykept, ymethod, ypc, yvariable, yhereI, yhereWay, yhereLength, yinto, ykLoad, cn_rl ypart P Q (n + 1))) :
    ∀ e j, j + e = n + 1 → wY_unite_67 post (nI n) Q P ydepth ysteps yresult youtcome yload yover (e + 1) (nI j) yop ya yb yline ylength yfrom yto yat yhandlers ybegun ytaken ythrown yrowI yrowWay yrowLength ytimes ytold ykOp ykA ykB ykLine ykLength ykFrom ykTo ykAt ykHandlers ykBegun ykTaken ykThrown ykept ymethod ypc yvariable yhereI yhereWay yhereLength yinto ykLoad (cn_rl ypart P Q j) := by
  intro e
  induction e with
  | zero =>
    intro j hj
    have z : j = n + 1 := by omega
    subst z
    rw [wY_unite_67]
    exact br_t (nI_lt (by omega) (by omega)) h
  | succ e ih =>
    intro j hj
    have h2 := ih (j + 1) (by omega)
    have w : vp_in (nI j) 25 := vp_in_nI (by omega) (by decide)
    have c : (nI j).toNatClampNeg = j := nI_clamp (by omega)
    rw [wY_unite_67]
    refine br_f (nI_nlt (by omega) (by omega)) ⟨w, ?_⟩
    rw [c, cn_rl_at']
    by_cases z : ypart j = P
    · exact br_t z ⟨w, nm_r (cn_rl_t z) (nm_r (nI_1 j) h2)⟩
    · rw [← cn_rl_f z] at h2
      exact br_f z (nm_r (nI_1 j) h2)
theorem uy_R {post : SY → Prop} {f : Nat → Nat} {p q n : Nat} (hn : n ≤ 24) (hp : p ≤ n) (hq : q ≤ n) (hY : ∀ j, j ≤ n → ypart j = nI (f j)) (hf : ∀ j, j ≤ n → f j ≤ n)
    (h : post (ydepth, ysteps, yresult, youtcome, yload, yover, yop, ya, yb, yline, ylength, yfrom, yto, yat, yhandlers, ybegun, ytaken, ythrown, yrowI, yrowWay, yrowLength, ytimes, ytold, ykOp, ykA, ykB, ykLine, ykLength, ykFrom, ykTo, ykAt, ykHandlers, ykBegun, ykTaken, ykThrown, ykept, ymethod, ypc, yvariable, yhereI, yhereWay, yhereLength, yinto, ykLoad, cn_rl ypart (nI (cn_hi f p q)) (nI (cn_lo f p q)) (n + 1))) : wpY_unite post (ydepth, ysteps, yresult, youtcome, yload, yover, yop, ya, yb, yline, ylength, yfrom, yto, yat, yhandlers, ybegun, ytaken, ythrown, yrowI, yrowWay, yrowLength, ytimes, ytold, ykOp, ykA, ykB, ykLine, ykLength, ykFrom, ykTo, ykAt, ykHandlers, ykBegun, ykTaken, ykThrown, ykept, ymethod, ypc, yvariable, yhereI, yhereWay, yhereLength, yinto, ykLoad, ypart) (nI p) (nI q) (nI n) := by
  have H := uy_L hn h (n + 1) 0 (by omega)
  rw [cn_rl_0] at H
  have cp : (nI p).toNatClampNeg = p := nI_clamp (by omega)
  have cq : (nI q).toNatClampNeg = q := nI_clamp (by omega)
  have wp : vp_in (nI p) 25 := vp_in_nI (by omega) (by decide)
  have wq : vp_in (nI q) 25 := vp_in_nI (by omega) (by decide)
  have bp := hf p hp
  have bq := hf q hq
  unfold wpY_unite wY_unite_30
  dsimp only
  rw [cp, cq, hY p hp, hY q hq]
  unfold cn_lo cn_hi at H
  by_cases z : f p < f q
  · rw [if_pos z, if_pos z] at H
    have y : ¬ nI (f q) ≤ nI (f p) := nI_ge z (by omega)
    exact ⟨wp, wq, br_f y ⟨wp, wp, wq, br_f y ⟨wq, nm_e ⟨_, H⟩⟩⟩⟩
  · rw [if_neg z, if_neg z] at H
    have y : nI (f q) ≤ nI (f p) := nI_le (by omega) (by omega)
    exact ⟨wp, wq, br_t y ⟨wq, wp, wq, br_t y ⟨wp, nm_e ⟨_, H⟩⟩⟩⟩
theorem uy_f {f : Nat → Nat} {p q n : Nat} {Yp : Nat → Int32} (hn : n ≤ 24) (hp : p ≤ n) (hq : q ≤ n) (hY : ∀ j, j ≤ n → Yp j = nI (f j)) (hf : ∀ j, j ≤ n → f j ≤ n) :
    ∀ j, j ≤ n → cn_rl Yp (nI (cn_hi f p q)) (nI (cn_lo f p q)) (n + 1) j = nI (cn_u f (cn_lo f p q) (cn_hi f p q) j) := by
  intro j hj
  have b := hf j hj
  have bh : cn_hi f p q ≤ n := by
    unfold cn_hi
    split
    · exact hf q hq
    · exact hf p hp
  unfold cn_rl cn_u
  rw [hY j hj]
  by_cases z : f j = cn_hi f p q
  · rw [if_pos ⟨by omega, by rw [z]⟩, if_pos z]
  · rw [if_neg (fun w => z ((nI_eq (by omega) (by omega)).mp w.2)), if_neg z]
/-- all ways of one instruction -/
theorem ci_R {m i n : Nat} (hP : (gp_R xsizes xops xargsA xargsB xlines xguards xfroms xtos xats yop ya yb yline ylength yfrom yto yat yhandlers ykOp ykA ykB ykLine ykLength ykFrom ykTo ykAt ykHandlers)) (hm : m < 4) (hn : n = sz_f xsizes m) (hi : i < n) :
    ∀ (e k nd ln : Nat) (Xp : Nat → Int32) (f : Nat → Nat) (Yp : Nat → Int32), k + e = wy_f (xops (24 * m + i)) → cn_I Xp nd f ln n → (∀ j, j ≤ n → Yp j = nI (f j)) →
      ∃ (Xq : Nat → Int32) (nd' : Nat) (f' : Nat → Nat) (ln' : Nat) (Yq : Nat → Int32), cn_I Xq nd' f' ln' n ∧ (∀ j, j ≤ n → Yq j = nI (f' j)) ∧
        (∀ (post : Int32 → SX → Prop) (J : _), J (nI nd') (nI (i + 1)) xdepth xsignal xcarried xlatest xload xsizes xops xargsA xargsB xlines xguards xfroms xtos xats xbegunCounts xthrownCounts xtakenCounts xslotUsed xslotLoad xstretchNumber xstretchGone xstretchRow xstretchWays xatWork xplace xvariables xrow xrowWays xwayOn Xq → wX_counters_67 post J (nI m) (nI i) (nI (wy_f (xops (24 * m + i)))) (e + 1) (nI nd) (nI k) xdepth xsignal xcarried xlatest xload xsizes xops xargsA xargsB xlines xguards xfroms xtos xats xbegunCounts xthrownCounts xtakenCounts xslotUsed xslotLoad xstretchNumber xstretchGone xstretchRow xstretchWays xatWork xplace xvariables xrow xrowWays xwayOn Xp) ∧
        (∀ (post : Int32 → SY → Prop) (J : _) (x4 : Int32), J (nI ln') (nI (i + 1)) ydepth ysteps yresult youtcome yload yover yop ya yb yline ylength yfrom yto yat yhandlers ybegun ytaken ythrown yrowI yrowWay yrowLength ytimes ytold ykOp ykA ykB ykLine ykLength ykFrom ykTo ykAt ykHandlers ykBegun ykTaken ykThrown ykept ymethod ypc yvariable yhereI yhereWay yhereLength yinto ykLoad Yq → wY_counters_65 post J (nI m) (nI n) x4 (nI i) (e + 1) (nI ln) (nI k) ydepth ysteps yresult youtcome yload yover yop ya yb yline ylength yfrom yto yat yhandlers ybegun ytaken ythrown yrowI yrowWay yrowLength ytimes ytold ykOp ykA ykB ykLine ykLength ykFrom ykTo ykAt ykHandlers ykBegun ykTaken ykThrown ykept ymethod ypc yvariable yhereI yhereWay yhereLength yinto ykLoad Yp) := by
  obtain ⟨e1, e2, e3⟩ := gp_sz hP hm
  have h24 : i < 24 := by omega
  have n24 : n ≤ 24 := by omega
  have w4 := wy_4 (xops (24 * m + i))
  have wy : vp_in (24 * nI m + nI i) 120 := ix_in (iy_24 m i) (by omega) (by decide)
  have cy : (24 * nI m + nI i).toNatClampNeg = 24 * m + i := ix_cl (iy_24 m i) (by omega)
  have eo := gp_op hP hm h24
  intro e
  induction e with
  | zero =>
    intro k nd ln Xp f Yp hk hI hY
    refine ⟨Xp, nd, f, ln, Yp, hI, hY, fun post J h => ?_, fun post J x4 h => ?_⟩
    · rw [wX_counters_67]
      exact br_t (nI_le (by omega) (by omega)) (nm_r (nI_1 i) h)
    · rw [wY_counters_65]
      refine ⟨wy, ?_⟩
      rw [cy, ← eo]
      exact wy_Y (br_t (nI_le (by omega) (by omega)) (nm_r (nI_1 i) h))
  | succ e ih =>
    intro k nd ln Xp f Yp hk hI hY
    have hf : ∀ j, j ≤ n → f j ≤ n := fun j hj => (hI.2.1 j hj).1
    have pi : cn_ph n i = i := if_neg (by omega)
    have hk4 : k < 4 := by omega
    -- the point that way k leads to
    have T : ∃ (q B : Nat) (zb : Int32), q ≤ n ∧ cn_ph n q = B ∧ pn_R zb B ∧ (∀ post : Int32 → Prop, post zb → wpX_wayTo post (xdepth, xsignal, xcarried, xlatest, xload, xsizes, xops, xargsA, xargsB, xlines, xguards, xfroms, xtos, xats, xbegunCounts, xthrownCounts, xtakenCounts, xslotUsed, xslotLoad, xstretchNumber, xstretchGone, xstretchRow, xstretchWays, xatWork, xplace, xvariables, xrow, xrowWays, xwayOn, Xp) (nI m) (nI i) (nI k)) ∧
        (∀ (post : Int32 → SY → Prop) (J56 J65 : _) (x4 : Int32) (M : Nat), (J65 = wY_counters_65 post J56 (nI m) (nI n) x4 (nI i) M) → wY_counters_111 post J56 J65 (nI m) (nI n) (nI ln) x4 (nI i) (nI k) (nI q) ydepth ysteps yresult youtcome yload yover yop ya yb yline ylength yfrom yto yat yhandlers ybegun ytaken ythrown yrowI yrowWay yrowLength ytimes ytold ykOp ykA ykB ykLine ykLength ykFrom ykTo ykAt ykHandlers ykBegun ykTaken ykThrown ykept ymethod ypc yvariable yhereI yhereWay yhereLength yinto ykLoad Yp →
          wpY_target (fun r_108 => (wpY_in (fun r_154 => (((r_154 = 0 → (wY_counters_111 post J56 J65 (nI m) (nI n) (nI ln) x4 (nI i) (nI k) (nI n) ydepth ysteps yresult youtcome yload yover yop ya yb yline ylength yfrom yto yat yhandlers ybegun ytaken ythrown yrowI yrowWay yrowLength ytimes ytold ykOp ykA ykB ykLine ykLength ykFrom ykTo ykAt ykHandlers ykBegun ykTaken ykThrown ykept ymethod ypc yvariable yhereI yhereWay yhereLength yinto ykLoad Yp)) ∧ (¬ r_154 = 0 → (wY_counters_111 post J56 J65 (nI m) (nI n) (nI ln) x4 (nI i) (nI k) r_108 ydepth ysteps yresult youtcome yload yover yop ya yb yline ylength yfrom yto yat yhandlers ybegun ytaken ythrown yrowI yrowWay yrowLength ytimes ytold ykOp ykA ykB ykLine ykLength ykFrom ykTo ykAt ykHandlers ykBegun ykTaken ykThrown ykept ymethod ypc yvariable yhereI yhereWay yhereLength yinto ykLoad Yp))))) r_108 (nI n))) (ydepth, ysteps, yresult, youtcome, yload, yover, yop, ya, yb, yline, ylength, yfrom, yto, yat, yhandlers, ybegun, ytaken, ythrown, yrowI, yrowWay, yrowLength, ytimes, ytold, ykOp, ykA, ykB, ykLine, ykLength, ykFrom, ykTo, ykAt, ykHandlers, ykBegun, ykTaken, ykThrown, ykept, ymethod, ypc, yvariable, yhereI, yhereWay, yhereLength, yinto, ykLoad, Yp) (nI m) (nI i) (nI k)) := by
      rcases tg_R (xdepth := xdepth) (xsignal := xsignal) (xcarried := xcarried) (xlatest := xlatest) (xload := xload) (xsizes := xsizes) (xops := xops) (xargsA := xargsA) (xargsB := xargsB) (xlines := xlines) (xguards := xguards) (xfroms := xfroms) (xtos := xtos) (xats := xats) (xbegunCounts := xbegunCounts) (xthrownCounts := xthrownCounts) (xtakenCounts := xtakenCounts) (xslotUsed := xslotUsed) (xslotLoad := xslotLoad) (xstretchNumber := xstretchNumber) (xstretchGone := xstretchGone) (xstretchRow := xstretchRow) (xstretchWays := xstretchWays) (xatWork := xatWork) (xplace := xplace) (xvariables := xvariables) (xrow := xrow) (xrowWays := xrowWays) (xwayOn := xwayOn) (xpart := Xp) (ydepth := ydepth) (ysteps := ysteps) (yresult := yresult) (youtcome := youtcome) (yload := yload) (yover := yover) (yop := yop) (ya := ya) (yb := yb) (yline := yline) (ylength := ylength) (yfrom := yfrom) (yto := yto) (yat := yat) (yhandlers := yhandlers) (ybegun := ybegun) (ytaken := ytaken) (ythrown := ythrown) (yrowI := yrowI) (yrowWay := yrowWay) (yrowLength := yrowLength) (ytimes := ytimes) (ytold := ytold) (ykOp := ykOp) (ykA := ykA) (ykB := ykB) (ykLine := ykLine) (ykLength := ykLength) (ykFrom := ykFrom) (ykTo := ykTo) (ykAt := ykAt) (ykHandlers := ykHandlers) (ykBegun := ykBegun) (ykTaken := ykTaken) (ykThrown := ykThrown) (ykept := ykept) (ymethod := ymethod) (ypc := ypc) (yvariable := yvariable) (yhereI := yhereI) (yhereWay := yhereWay) (yhereLength := yhereLength) (yinto := yinto) (ykLoad := ykLoad) (ypart := Yp) hP hm h24 hk4 with ⟨j, hj, hj24, tX, tY, _⟩ | ⟨t, ht, tX, tY⟩
      · refine ⟨j, j, nI j, by omega, if_neg (by omega), Or.inr ⟨rfl, hj24⟩, tX, fun post J56 J65 x4 M _ h => tY _ ?_⟩
        exact wi_t (by omega) (by omega) (br_f (by decide) h)
      · refine ⟨n, 24, -1, Nat.le_refl n, if_pos rfl, Or.inl ⟨rfl, rfl⟩, tX, fun post J56 J65 x4 M _ h => tY _ ?_⟩
        rw [← hn] at ht
        exact wi_f ht (br_t rfl h)
    obtain ⟨q, B, zb, hq, hB, hzb, tX, tY⟩ := T
    have Lq := cn_line hI n24 (show i ≤ n by omega) hq
    rw [pi, hB] at Lq
    have hY' := uy_f n24 (show i ≤ n by omega) hq hY hf
    have YY : ∀ (post : Int32 → SY → Prop) (J : _) (x4 : Int32), wY_counters_65 post J (nI m) (nI n) x4 (nI i) (e + 1) (nI (ln + 1)) (nI (k + 1)) ydepth ysteps yresult youtcome yload yover yop ya yb yline ylength yfrom yto yat yhandlers ybegun ytaken ythrown yrowI yrowWay yrowLength ytimes ytold ykOp ykA ykB ykLine ykLength ykFrom ykTo ykAt ykHandlers ykBegun ykTaken ykThrown ykept ymethod ypc yvariable yhereI yhereWay yhereLength yinto ykLoad (cn_rl Yp (nI (cn_hi f i q)) (nI (cn_lo f i q)) (n + 1)) → wY_counters_65 post J (nI m) (nI n) x4 (nI i) (e + 1 + 1) (nI ln) (nI k) ydepth ysteps yresult youtcome yload yover yop ya yb yline ylength yfrom yto yat yhandlers ybegun ytaken ythrown yrowI yrowWay yrowLength ytimes ytold ykOp ykA ykB ykLine ykLength ykFrom ykTo ykAt ykHandlers ykBegun ykTaken ykThrown ykept ymethod ypc yvariable yhereI yhereWay yhereLength yinto ykLoad Yp := by
      intro post J x4 h
      rw [wY_counters_65]
      refine ⟨wy, ?_⟩
      rw [cy, ← eo]
      refine wy_Y (br_f (nI_ge (by omega) (by omega)) (tY post J _ x4 (e + 1) rfl ?_))
      unfold wY_counters_111
      exact uy_R n24 (by omega) hq hY hf (nm_r (nI_1 ln) (nm_r (nI_1 k) h))
    by_cases z : Xp i = Xp B
    · obtain ⟨Xq, nd', f', ln', Yq, g1, g2, g3, g4⟩ := ih (k + 1) (nd + 1) (ln + 1) _ _ _ (by omega) (Lq.1 z) hY'
      refine ⟨Xq, nd', f', ln', Yq, g1, g2, fun post J h => ?_, fun post J x4 h => YY post J x4 (g4 post J x4 h)⟩
      rw [wX_counters_67]
      refine br_f (nI_ge (by omega) (by omega)) (tX _ (jx_R (A := i) (Or.inr ⟨rfl, h24⟩) hzb ⟨fun _ => ?_, fun y => absurd z y⟩))
      exact br_t rfl (nm_r (nI_1 nd) (nm_r (nI_1 k) (g3 post J h)))
    · obtain ⟨Xq, nd', f', ln', Yq, g1, g2, g3, g4⟩ := ih (k + 1) nd (ln + 1) _ _ _ (by omega) (Lq.2 z) hY'
      refine ⟨Xq, nd', f', ln', Yq, g1, g2, fun post J h => ?_, fun post J x4 h => YY post J x4 (g4 post J x4 h)⟩
      rw [wX_counters_67]
      refine br_f (nI_ge (by omega) (by omega)) (tX _ (jx_R (A := i) (Or.inr ⟨rfl, h24⟩) hzb ⟨fun y => absurd y z, fun _ => ?_⟩))
      exact br_f (by decide) (nm_r (nI_1 k) (g3 post J h))
/-- the reference counts the parts -/
theorem ce_Y {post : Int32 → SY → Prop} {f : Nat → Nat} {ln n : Nat} (hn : n ≤ 24) (hY : ∀ j, j ≤ n → ypart j = nI (f j)) (hf : ∀ j, j ≤ n → f j ≤ n) (h : post (nI ln - (nI n + 1) + nI (cn_rp f n)) (ydepth, ysteps, yresult, youtcome, yload, yover, yop, ya, yb, yline, ylength, yfrom, yto, yat, yhandlers, ybegun, ytaken, ythrown, yrowI, yrowWay, yrowLength, ytimes, ytold, ykOp, ykA, ykB, ykLine, ykLength, ykFrom, ykTo, ykAt, ykHandlers, ykBegun, ykTaken, ykThrown, ykept, ymethod, ypc, yvariable, yhereI, yhereWay, yhereLength, yinto, ykLoad, ypart)) :
    ∀ e j, j + e = n + 1 → wY_counters_140 post (nI n) (nI ln) ydepth ysteps yresult youtcome yload yover yop ya yb yline ylength yfrom yto yat yhandlers ybegun ytaken ythrown yrowI yrowWay yrowLength ytimes ytold ykOp ykA ykB ykLine ykLength ykFrom ykTo ykAt ykHandlers ykBegun ykTaken ykThrown ykept ymethod ypc yvariable yhereI yhereWay yhereLength yinto ykLoad ypart (e + 1) (nI (cn_ct (fun k => decide (f k = k)) j)) (nI j) := by
  intro e
  induction e with
  | zero =>
    intro j hj
    have z : j = n + 1 := by omega
    subst z
    rw [wY_counters_140]
    exact br_t (nI_lt (by omega) (by omega)) h
  | succ e ih =>
    intro j hj
    have h2 := ih (j + 1) (by omega)
    have b := hf j (by omega)
    rw [cn_ct_s] at h2
    rw [wY_counters_140]
    refine br_f (nI_nlt (by omega) (by omega)) ⟨vp_in_nI (by omega) (by decide), ?_⟩
    rw [nI_clamp (by omega), hY j (by omega)]
    by_cases z : f j = j
    · rw [if_pos (decide_eq_true z)] at h2
      exact br_t (by rw [z]) (nm_r (nI_1 _) (nm_r (nI_1 j) h2))
    · rw [if_neg (by rw [decide_eq_false z]; decide), Nat.add_zero] at h2
      exact br_f (fun y => z ((nI_eq (by omega) (by omega)).mp y)) (nm_r (nI_1 j) h2)
/-- all instructions -/
theorem co_R {m n : Nat} (hP : (gp_R xsizes xops xargsA xargsB xlines xguards xfroms xtos xats yop ya yb yline ylength yfrom yto yat yhandlers ykOp ykA ykB ykLine ykLength ykFrom ykTo ykAt ykHandlers)) (hm : m < 4) (hn : n = sz_f xsizes m) :
    ∀ (e i nd ln : Nat) (Xp : Nat → Int32) (f : Nat → Nat) (Yp : Nat → Int32), i + e = n → cn_I Xp nd f ln n → (∀ j, j ≤ n → Yp j = nI (f j)) →
      ∃ (r : Int32) (Xq Yq : Nat → Int32),
        (∀ (post : Int32 → SX → Prop), post r (xdepth, xsignal, xcarried, xlatest, xload, xsizes, xops, xargsA, xargsB, xlines, xguards, xfroms, xtos, xats, xbegunCounts, xthrownCounts, xtakenCounts, xslotUsed, xslotLoad, xstretchNumber, xstretchGone, xstretchRow, xstretchWays, xatWork, xplace, xvariables, xrow, xrowWays, xwayOn, Xq) → wX_counters_42 post (nI m) (e + 1) (nI nd) (nI i) xdepth xsignal xcarried xlatest xload xsizes xops xargsA xargsB xlines xguards xfroms xtos xats xbegunCounts xthrownCounts xtakenCounts xslotUsed xslotLoad xstretchNumber xstretchGone xstretchRow xstretchWays xatWork xplace xvariables xrow xrowWays xwayOn Xp) ∧
        (∀ (post : Int32 → SY → Prop), post r (ydepth, ysteps, yresult, youtcome, yload, yover, yop, ya, yb, yline, ylength, yfrom, yto, yat, yhandlers, ybegun, ytaken, ythrown, yrowI, yrowWay, yrowLength, ytimes, ytold, ykOp, ykA, ykB, ykLine, ykLength, ykFrom, ykTo, ykAt, ykHandlers, ykBegun, ykTaken, ykThrown, ykept, ymethod, ypc, yvariable, yhereI, yhereWay, yhereLength, yinto, ykLoad, Yq) → wY_counters_56 post (nI m) (nI n) 0 (e + 1) (nI ln) (nI i) ydepth ysteps yresult youtcome yload yover yop ya yb yline ylength yfrom yto yat yhandlers ybegun ytaken ythrown yrowI yrowWay yrowLength ytimes ytold ykOp ykA ykB ykLine ykLength ykFrom ykTo ykAt ykHandlers ykBegun ykTaken ykThrown ykept ymethod ypc yvariable yhereI yhereWay yhereLength yinto ykLoad Yp) := by
  obtain ⟨e1, e2, e3⟩ := gp_sz hP hm
  have n24 : n ≤ 24 := by omega
  have cm : (nI m).toNatClampNeg = m := nI_clamp (by omega)
  have wm : vp_in (nI m) 17 := vp_in_nI (by omega) (by decide)
  intro e
  induction e with
  | zero =>
    intro i nd ln Xp f Yp hi hI hY
    have hf : ∀ j, j ≤ n → f j ≤ n := fun j hj => (hI.2.1 j hj).1
    refine ⟨nI nd, Xp, Yp, fun post h => ?_, fun post h => ?_⟩
    · rw [wX_counters_42]
      refine ⟨wm, ?_⟩
      rw [cm, e1]
      exact br_t (nI_le (by omega) (by omega)) h
    · rw [wY_counters_56]
      refine br_t (nI_le (by omega) (by omega)) ⟨n + 1 + 1, ?_⟩
      have := ce_Y (ydepth := ydepth) (ysteps := ysteps) (yresult := yresult) (youtcome := youtcome) (yload := yload) (yover := yover) (yop := yop) (ya := ya) (yb := yb) (yline := yline) (ylength := ylength) (yfrom := yfrom) (yto := yto) (yat := yat) (yhandlers := yhandlers) (ybegun := ybegun) (ytaken := ytaken) (ythrown := ythrown) (yrowI := yrowI) (yrowWay := yrowWay) (yrowLength := yrowLength) (ytimes := ytimes) (ytold := ytold) (ykOp := ykOp) (ykA := ykA) (ykB := ykB) (ykLine := ykLine) (ykLength := ykLength) (ykFrom := ykFrom) (ykTo := ykTo) (ykAt := ykAt) (ykHandlers := ykHandlers) (ykBegun := ykBegun) (ykTaken := ykTaken) (ykThrown := ykThrown) (ykept := ykept) (ymethod := ymethod) (ypc := ypc) (yvariable := yvariable) (yhereI := yhereI) (yhereWay := yhereWay) (yhereLength := yhereLength) (yinto := yinto) (ykLoad := ykLoad) (ypart := Yp) (post := post) (ln := ln) n24 hY hf (by rw [cn_end hI.2.2]; exact h) (n + 1) 0 (by omega)
      exact this
  | succ e ih =>
    intro i nd ln Xp f Yp hi hI hY
    obtain ⟨Xq, nd', f', ln', Yq, g1, g2, g3, g4⟩ := ci_R (xdepth := xdepth) (xsignal := xsignal) (xcarried := xcarried) (xlatest := xlatest) (xload := xload) (xsizes := xsizes) (xops := xops) (xargsA := xargsA) (xargsB := xargsB) (xlines := xlines) (xguards := xguards) (xfroms := xfroms) (xtos := xtos) (xats := xats) (xbegunCounts := xbegunCounts) (xthrownCounts := xthrownCounts) (xtakenCounts := xtakenCounts) (xslotUsed := xslotUsed) (xslotLoad := xslotLoad) (xstretchNumber := xstretchNumber) (xstretchGone := xstretchGone) (xstretchRow := xstretchRow) (xstretchWays := xstretchWays) (xatWork := xatWork) (xplace := xplace) (xvariables := xvariables) (xrow := xrow) (xrowWays := xrowWays) (xwayOn := xwayOn) (ydepth := ydepth) (ysteps := ysteps) (yresult := yresult) (youtcome := youtcome) (yload := yload) (yover := yover) (yop := yop) (ya := ya) (yb := yb) (yline := yline) (ylength := ylength) (yfrom := yfrom) (yto := yto) (yat := yat) (yhandlers := yhandlers) (ybegun := ybegun) (ytaken := ytaken) (ythrown := ythrown) (yrowI := yrowI) (yrowWay := yrowWay) (yrowLength := yrowLength) (ytimes := ytimes) (ytold := ytold) (ykOp := ykOp) (ykA := ykA) (ykB := ykB) (ykLine := ykLine) (ykLength := ykLength) (ykFrom := ykFrom) (ykTo := ykTo) (ykAt := ykAt) (ykHandlers := ykHandlers) (ykBegun := ykBegun) (ykTaken := ykTaken) (ykThrown := ykThrown) (ykept := ykept) (ymethod := ymethod) (ypc := ypc) (yvariable := yvariable) (yhereI := yhereI) (yhereWay := yhereWay) (yhereLength := yhereLength) (yinto := yinto) (ykLoad := ykLoad) hP hm hn (show i < n by omega) (wy_f (xops (24 * m + i))) 0 nd ln Xp f Yp (by omega) hI hY
    obtain ⟨r, Xr, Yr, hX, hY'⟩ := ih (i + 1) nd' ln' Xq f' Yq (by omega) g1 g2
    refine ⟨r, Xr, Yr, fun post h => ?_, fun post h => ?_⟩
    · rw [wX_counters_42]
      refine ⟨wm, ?_⟩
      rw [cm, e1, ix_24]
      exact br_f (nI_ge (by omega) (by omega)) (wy_X (by omega) ⟨_, g3 post _ (hX post h)⟩)
    · rw [wY_counters_56]
      exact br_f (nI_ge (by omega) (by omega)) ⟨_, g4 post _ 0 (hY' post h)⟩
end
theorem i_vc_counters {k : Nat} {u : SX} {v : SY} (I : i_Rel k u v) (hk : k + 5 ≤ 2560) (v1 : Int32) : wpX_counters (fun r u' => wpY_counters (fun r' v' => r' = r ∧ i_Rel (k + 5) u' v') v v1) u v1 := by
  obtain ⟨xdepth, xsignal, xcarried, xlatest, xload, xsizes, xops, xargsA, xargsB, xlines, xguards, xfroms, xtos, xats, xbegunCounts, xthrownCounts, xtakenCounts, xslotUsed, xslotLoad, xstretchNumber, xstretchGone, xstretchRow, xstretchWays, xatWork, xplace, xvariables, xrow, xrowWays, xwayOn, xpart⟩ := u
  obtain ⟨ydepth, ysteps, yresult, youtcome, yload, yover, yop, ya, yb, yline, ylength, yfrom, yto, yat, yhandlers, ybegun, ytaken, ythrown, yrowI, yrowWay, yrowLength, ytimes, ytold, ykOp, ykA, ykB, ykLine, ykLength, ykFrom, ykTo, ykAt, ykHandlers, ykBegun, ykTaken, ykThrown, ykept, ymethod, ypc, yvariable, yhereI, yhereWay, yhereLength, yinto, ykLoad, ypart⟩ := v
  have J := I
  obtain ⟨L, h1, h2, h3, h4, hP, hC, hS, hT⟩ := I
  unfold wpX_counters
  rcases th_c (xdepth := xdepth) (xsignal := xsignal) (xcarried := xcarried) (xlatest := xlatest) (xload := xload) (xsizes := xsizes) (xops := xops) (xargsA := xargsA) (xargsB := xargsB) (xlines := xlines) (xguards := xguards) (xfroms := xfroms) (xtos := xtos) (xats := xats) (xbegunCounts := xbegunCounts) (xthrownCounts := xthrownCounts) (xtakenCounts := xtakenCounts) (xslotUsed := xslotUsed) (xslotLoad := xslotLoad) (xstretchNumber := xstretchNumber) (xstretchGone := xstretchGone) (xstretchRow := xstretchRow) (xstretchWays := xstretchWays) (xatWork := xatWork) (xplace := xplace) (xvariables := xvariables) (xrow := xrow) (xrowWays := xrowWays) (xwayOn := xwayOn) (xpart := xpart) (ydepth := ydepth) (ysteps := ysteps) (yresult := yresult) (youtcome := youtcome) (yload := yload) (yover := yover) (yop := yop) (ya := ya) (yb := yb) (yline := yline) (ylength := ylength) (yfrom := yfrom) (yto := yto) (yat := yat) (yhandlers := yhandlers) (ybegun := ybegun) (ytaken := ytaken) (ythrown := ythrown) (yrowI := yrowI) (yrowWay := yrowWay) (yrowLength := yrowLength) (ytimes := ytimes) (ytold := ytold) (ykOp := ykOp) (ykA := ykA) (ykB := ykB) (ykLine := ykLine) (ykLength := ykLength) (ykFrom := ykFrom) (ykTo := ykTo) (ykAt := ykAt) (ykHandlers := ykHandlers) (ykBegun := ykBegun) (ykTaken := ykTaken) (ykThrown := ykThrown) (ykept := ykept) (ymethod := ymethod) (ypc := ypc) (yvariable := yvariable) (yhereI := yhereI) (yhereWay := yhereWay) (yhereLength := yhereLength) (yinto := yinto) (ykLoad := ykLoad) (ypart := ypart) v1 hP with ⟨m, hm, rfl, hs, hX, hY⟩ | ⟨hX, hY⟩
  · obtain ⟨e1, e2, e3⟩ := gp_sz hP hm
    have cm : (nI m).toNatClampNeg = m := nI_clamp (by omega)
    -- the points as they are set at first, and the line from outside to instruction 0
    have I0 : cn_I (pi_f 25 xpart) 0 (fun k => k) 0 (sz_f xsizes m) := cn_I0 e3 (fun j hj => pi_at hj) (fun k _ => rfl)
    have Y0 : ∀ j, j ≤ sz_f xsizes m → pi_f (sz_f xsizes m + 1) ypart j = nI ((fun k => k) j) := fun j hj => pi_at (by omega)
    have p0 : cn_ph (sz_f xsizes m) (sz_f xsizes m) = 24 := if_pos rfl
    have p1 : cn_ph (sz_f xsizes m) 0 = 0 := if_neg (by omega)
    have I1 := (cn_line I0 e3 (Nat.le_refl (sz_f xsizes m)) (Nat.zero_le _)).2
    rw [p0, p1] at I1
    have ne : ¬ pi_f 25 xpart 24 = pi_f 25 xpart 0 := by rw [pi_at (by omega), pi_at (by omega)]; decide
    have I2 := I1 ne
    have Y1 := uy_f e3 (Nat.le_refl (sz_f xsizes m)) (Nat.zero_le _) Y0 (fun j hj => hj)
    obtain ⟨r, Xq, Yq, gX, gY⟩ := co_R (xdepth := xdepth) (xsignal := xsignal) (xcarried := xcarried) (xlatest := xlatest) (xload := xload) (xsizes := xsizes) (xops := xops) (xargsA := xargsA) (xargsB := xargsB) (xlines := xlines) (xguards := xguards) (xfroms := xfroms) (xtos := xtos) (xats := xats) (xbegunCounts := xbegunCounts) (xthrownCounts := xthrownCounts) (xtakenCounts := xtakenCounts) (xslotUsed := xslotUsed) (xslotLoad := xslotLoad) (xstretchNumber := xstretchNumber) (xstretchGone := xstretchGone) (xstretchRow := xstretchRow) (xstretchWays := xstretchWays) (xatWork := xatWork) (xplace := xplace) (xvariables := xvariables) (xrow := xrow) (xrowWays := xrowWays) (xwayOn := xwayOn) (ydepth := ydepth) (ysteps := ysteps) (yresult := yresult) (youtcome := youtcome) (yload := yload) (yover := yover) (yop := yop) (ya := ya) (yb := yb) (yline := yline) (ylength := ylength) (yfrom := yfrom) (yto := yto) (yat := yat) (yhandlers := yhandlers) (ybegun := ybegun) (ytaken := ytaken) (ythrown := ythrown) (yrowI := yrowI) (yrowWay := yrowWay) (yrowLength := yrowLength) (ytimes := ytimes) (ytold := ytold) (ykOp := ykOp) (ykA := ykA) (ykB := ykB) (ykLine := ykLine) (ykLength := ykLength) (ykFrom := ykFrom) (ykTo := ykTo) (ykAt := ykAt) (ykHandlers := ykHandlers) (ykBegun := ykBegun) (ykTaken := ykTaken) (ykThrown := ykThrown) (ykept := ykept) (ymethod := ymethod) (ypc := ypc) (yvariable := yvariable) (yhereI := yhereI) (yhereWay := yhereWay) (yhereLength := yhereLength) (yinto := yinto) (ykLoad := ykLoad) hP hm rfl (sz_f xsizes m) 0 0 1 _ _ _ (by omega) I2 Y1
    have X1 : ∀ post : Int32 → SX → Prop, post r (xdepth, xsignal, xcarried, xlatest, xload, xsizes, xops, xargsA, xargsB, xlines, xguards, xfroms, xtos, xats, xbegunCounts, xthrownCounts, xtakenCounts, xslotUsed, xslotLoad, xstretchNumber, xstretchGone, xstretchRow, xstretchWays, xatWork, xplace, xvariables, xrow, xrowWays, xwayOn, Xq) → ∀ e j, j + e = 25 → wX_counters_12 post (nI m) xdepth xsignal xcarried xlatest xload (e + 1) (nI j) xsizes xops xargsA xargsB xlines xguards xfroms xtos xats xbegunCounts xthrownCounts xtakenCounts xslotUsed xslotLoad xstretchNumber xstretchGone xstretchRow xstretchWays xatWork xplace xvariables xrow xrowWays xwayOn (pi_f j xpart) := by
      intro post h e
      induction e with
      | zero =>
        intro j hj
        have z : j = 25 := by omega
        subst z
        rw [wX_counters_12]
        refine br_t (by decide) (jx_R (A := 24) (B := 0) (Or.inl ⟨rfl, rfl⟩) (Or.inr ⟨rfl, by omega⟩) ⟨fun y => absurd y ne, fun _ => ?_⟩)
        exact ⟨_, gX post h⟩
      | succ e ih =>
        intro j hj
        have h2 := ih (j + 1) (by omega)
        rw [wX_counters_12]
        refine br_f (nI_ge (b := 25) (by omega) (by decide)) ⟨vp_in_nI (by omega) (by decide), ?_⟩
        rw [nI_clamp (by omega)]
        exact nm_r pi_s (nm_r (nI_1 j) h2)
    have Y2 : ∀ post : Int32 → SY → Prop, post r (ydepth, ysteps, yresult, youtcome, yload, yover, yop, ya, yb, yline, ylength, yfrom, yto, yat, yhandlers, ybegun, ytaken, ythrown, yrowI, yrowWay, yrowLength, ytimes, ytold, ykOp, ykA, ykB, ykLine, ykLength, ykFrom, ykTo, ykAt, ykHandlers, ykBegun, ykTaken, ykThrown, ykept, ymethod, ypc, yvariable, yhereI, yhereWay, yhereLength, yinto, ykLoad, Yq) → ∀ e j, j + e = sz_f xsizes m + 1 → wY_counters_25 post (nI m) (nI (sz_f xsizes m)) 1 0 ydepth ysteps yresult youtcome yload yover (e + 1) (nI j) yop ya yb yline ylength yfrom yto yat yhandlers ybegun ytaken ythrown yrowI yrowWay yrowLength ytimes ytold ykOp ykA ykB ykLine ykLength ykFrom ykTo ykAt ykHandlers ykBegun ykTaken ykThrown ykept ymethod ypc yvariable yhereI yhereWay yhereLength yinto ykLoad (pi_f j ypart) := by
      intro post h e
      induction e with
      | zero =>
        intro j hj
        have z : j = sz_f xsizes m + 1 := by omega
        subst z
        rw [wY_counters_25]
        refine br_t (nI_lt (by omega) (by omega)) (uy_R (q := 0) e3 (Nat.le_refl _) (Nat.zero_le _) Y0 (fun j hj => hj) ?_)
        exact ⟨_, gY post h⟩
      | succ e ih =>
        intro j hj
        have h2 := ih (j + 1) (by omega)
        rw [wY_counters_25]
        refine br_f (nI_nlt (by omega) (by omega)) ⟨vp_in_nI (by omega) (by decide), ?_⟩
        rw [nI_clamp (by omega)]
        exact nm_r pi_s (nm_r (nI_1 j) h2)
    refine hX _ (br_f (by decide) ⟨25 + 1, ?_⟩)
    refine (pi_0 xpart) ▸ X1 (fun r u' => wpY_counters (fun r' v' => r' = r ∧ i_Rel (k + 5) u' v') (ydepth, ysteps, yresult, youtcome, yload, yover, yop, ya, yb, yline, ylength, yfrom, yto, yat, yhandlers, ybegun, ytaken, ythrown, yrowI, yrowWay, yrowLength, ytimes, ytold, ykOp, ykA, ykB, ykLine, ykLength, ykFrom, ykTo, ykAt, ykHandlers, ykBegun, ykTaken, ykThrown, ykept, ymethod, ypc, yvariable, yhereI, yhereWay, yhereLength, yinto, ykLoad, ypart) (nI m)) ?_ 25 0 rfl
    · unfold wpY_counters
      refine hY _ (br_f (by decide) ⟨vp_in_nI (by omega) (by decide), nm_r (e' := nI (sz_f xsizes m)) (by rw [cm]; exact e2) ⟨sz_f xsizes m + 1 + 1, ?_⟩⟩)
      have HY := Y2 (fun r' v' => r' = r ∧ i_Rel (k + 5) (xdepth, xsignal, xcarried, xlatest, xload, xsizes, xops, xargsA, xargsB, xlines, xguards, xfroms, xtos, xats, xbegunCounts, xthrownCounts, xtakenCounts, xslotUsed, xslotLoad, xstretchNumber, xstretchGone, xstretchRow, xstretchWays, xatWork, xplace, xvariables, xrow, xrowWays, xwayOn, Xq) v') ⟨rfl, ⟨L, h1, h2, h3, h4, hP, hC, hS, hT⟩⟩ (sz_f xsizes m + 1) 0 (by omega)
      rw [pi_0] at HY
      exact HY
  · refine hX _ (br_t rfl ?_)
    unfold wpY_counters
    exact hY _ (br_t rfl ⟨rfl, J⟩)
end
section
/-! part 22: line -/
def bt_P (op : Int32) (tk : Nat → Int32) (s : Nat) : Prop := wy_f op ≤ 1 ∨ ∀ j, j < wy_f op → ¬ tk (4 * s + j) = 0
theorem wy_mid {op : Int32} (h : ¬ wy_f op ≤ 1) : ¬ op ≤ 4 ∧ ¬ 8 ≤ op := by
  unfold wy_f at h
  by_cases z : op = 10
  · rw [if_pos z] at h; omega
  rw [if_neg z] at h
  by_cases z : op = 5
  · subst z; decide
  rw [if_neg z] at h
  by_cases z : op = 6
  · subst z; decide
  rw [if_neg z] at h
  by_cases z : op = 7
  · subst z; decide
  rw [if_neg z] at h
  omega
theorem wy_out {op : Int32} (h : wy_f op = 1) : op ≤ 4 ∨ 8 ≤ op := by
  rcases pk_ix op (n := 8) (by decide) with z | z | ⟨k, hk, rfl⟩
  · exact Or.inl (Int32.le_of_lt (Int32.lt_trans z (by decide)))
  · exact Or.inr z
  · have hk' : k = 0 ∨ k = 1 ∨ k = 2 ∨ k = 3 ∨ k = 4 ∨ k = 5 ∨ k = 6 ∨ k = 7 := by omega
    rcases hk' with rfl | rfl | rfl | rfl | rfl | rfl | rfl | rfl
    · exact Or.inl (by decide)
    · exact Or.inl (by decide)
    · exact Or.inl (by decide)
    · exact Or.inl (by decide)
    · exact Or.inl (by decide)
    · exact absurd h (by decide)
    · exact absurd h (by decide)
    · exact absurd h (by decide)
section
variable {xdepth xsignal xcarried xlatest xload : Int32} {xsizes xops xargsA xargsB xlines xguards xfroms xtos xats xbegunCounts xthrownCounts xtakenCounts xslotUsed xslotLoad xstretchNumber xstretchGone xstretchRow xatWork xplace xvariables xrow xpart : Nat → Int32} {xstretchWays xrowWays xwayOn : Nat → Int64}
variable {ydepth ysteps yresult youtcome yload yover : Int32} {yop ya yb yline ylength yfrom yto yat yhandlers ybegun ytaken ythrown yrowI yrowWay yrowLength ytimes ytold ykOp ykA ykB ykLine ykLength ykFrom ykTo ykAt ykHandlers ykBegun ykTaken ykThrown ykept ymethod ypc yvariable yhereI yhereWay yhereLength yinto ykLoad ypart : Nat → Int32}
theorem bx_0 {post : Int32 → Prop} {s W : Nat} (hW : 1 < W) (hW4 : W ≤ 4) (hp : post 0) : ∀ e k, k + e = W → wX_branchesTaken_11 post (nI s) (nI W) xdepth xsignal xcarried xlatest xload xsizes xops xargsA xargsB xlines xguards xfroms xtos xats xbegunCounts xthrownCounts xtakenCounts xslotUsed xslotLoad xstretchNumber xstretchGone xstretchRow xstretchWays xatWork xplace xvariables xrow xrowWays xwayOn xpart (e + 1) 0 (nI k) := by
  have w1 : ¬ nI W ≤ 1 := nI_ge (a := 1) hW (by omega)
  intro e
  induction e with
  | zero =>
    intro k hk
    rw [wX_branchesTaken_11]
    exact br_f w1 (br_t (nI_le (by omega) (by omega)) ⟨rfl, hp⟩)
  | succ e ih =>
    intro k hk
    have h := ih (k + 1) (by omega)
    rw [wX_branchesTaken_11]
    exact br_f w1 (br_f (nI_ge (by omega) (by omega)) (br_t rfl (nm_r (nI_1 k) h)))
theorem bx_1 {post : Int32 → Prop} {s W : Nat} (hs : s < 96) (hW : 1 < W) (hW4 : W ≤ 4) (ht : ∀ j, j < 384 → ∃ t, xtakenCounts j = nI t ∧ t < 2 ^ 31) : ∀ e k, k + e = W → ((∀ j, k ≤ j → j < W → ¬ xtakenCounts (4 * s + j) = 0) → post 1) → (¬ (∀ j, k ≤ j → j < W → ¬ xtakenCounts (4 * s + j) = 0) → post 0) → wX_branchesTaken_11 post (nI s) (nI W) xdepth xsignal xcarried xlatest xload xsizes xops xargsA xargsB xlines xguards xfroms xtos xats xbegunCounts xthrownCounts xtakenCounts xslotUsed xslotLoad xstretchNumber xstretchGone xstretchRow xstretchWays xatWork xplace xvariables xrow xrowWays xwayOn xpart (e + 1) 1 (nI k) := by
  have w1 : ¬ nI W ≤ 1 := nI_ge (a := 1) hW (by omega)
  intro e
  induction e with
  | zero =>
    intro k hk h1 h0
    rw [wX_branchesTaken_11]
    exact br_f w1 (br_t (nI_le (by omega) (by omega)) ⟨rfl, h1 (fun j a b => absurd b (by omega))⟩)
  | succ e ih =>
    intro k hk h1 h0
    rw [wX_branchesTaken_11]
    refine br_f w1 (br_f (nI_ge (by omega) (by omega)) (br_f (by decide) ⟨ix_in (ix_4 s k) (by omega) (by decide), ?_⟩))
    rw [ix_cl (ix_4 s k) (by omega)]
    obtain ⟨t, et, ht'⟩ := ht (4 * s + k) (by omega)
    rcases Nat.eq_zero_or_pos t with z | z
    · have e0 : xtakenCounts (4 * s + k) = 0 := by rw [et, z]; rfl
      refine br_t (by rw [e0]; decide) (nm_r (nI_1 k) (bx_0 hW hW4 (h0 (fun y => y k (by omega) (by omega) e0)) e (k + 1) (by omega)))
    · have e0 : ¬ xtakenCounts (4 * s + k) ≤ 0 := by rw [et]; exact nI_nle z ht'
      have e1 : ¬ xtakenCounts (4 * s + k) = 0 := by rw [et]; exact nI_ne0 z ht'
      refine br_f e0 (nm_r (nI_1 k) (ih (k + 1) (by omega) (fun y => h1 (fun j a b => ?_)) (fun y => h0 (fun q => y (fun j a b => q j (by omega) b)))))
      rcases Nat.lt_or_ge k j with w | w
      · exact y j w b
      · have ej : j = k := by omega
        rw [ej]; exact e1
theorem bx_R {post : Int32 → Prop} {s : Nat} (hs : s < 96) (ht : ∀ j, j < 384 → ∃ t, xtakenCounts j = nI t ∧ t < 2 ^ 31) (h1 : bt_P (xops s) xtakenCounts s → post 1) (h0 : ¬ bt_P (xops s) xtakenCounts s → post 0) : wpX_branchesTaken post (xdepth, xsignal, xcarried, xlatest, xload, xsizes, xops, xargsA, xargsB, xlines, xguards, xfroms, xtos, xats, xbegunCounts, xthrownCounts, xtakenCounts, xslotUsed, xslotLoad, xstretchNumber, xstretchGone, xstretchRow, xstretchWays, xatWork, xplace, xvariables, xrow, xrowWays, xwayOn, xpart) (nI s) := by
  have w4 := wy_4 (xops s)
  unfold wpX_branchesTaken
  refine wy_X (by omega) ?_
  by_cases z : wy_f (xops s) ≤ 1
  · refine ⟨0 + 1, ?_⟩
    rw [wX_branchesTaken_11]
    exact br_t (nI_le (b := 1) z (by decide)) ⟨rfl, h1 (Or.inl z)⟩
  · refine ⟨wy_f (xops s) + 1, bx_1 hs (by omega) w4 ht _ 0 (by omega) (fun y => h1 (Or.inr (fun j hj => y j (by omega) hj))) (fun y => h0 (fun q => y (fun j _ hj => ?_)))⟩
    rcases q with q | q
    · exact absurd q z
    · exact q j hj
theorem by_R {post : Int32 → Prop} {J : _} {x1 x2 x3 x4 x5 : Int32} {s : Nat} (hs : s < 96) (h1 : bt_P (yop s) ytaken s → J x3 x4 x5 (nI (s + 1))) (h0 : ¬ bt_P (yop s) ytaken s → J x3 x4 0 (nI (s + 1))) :
    ∃ N, wY_line_82 post J x1 x2 x3 x4 (nI s) ydepth ysteps yresult youtcome yload yover yop ya yb yline ylength yfrom yto yat yhandlers ybegun ytaken ythrown yrowI yrowWay yrowLength ytimes ytold ykOp ykA ykB ykLine ykLength ykFrom ykTo ykAt ykHandlers ykBegun ykTaken ykThrown ykept ymethod ypc yvariable yhereI yhereWay yhereLength yinto ykLoad ypart N x5 0 := by
  have w4 := wy_4 (yop s)
  have cs : (nI s).toNatClampNeg = s := nI_clamp (by omega)
  have w : vp_in (nI s) 120 := vp_in_nI (by omega) (by decide)
  by_cases z : wy_f (yop s) ≤ 1
  · refine ⟨0 + 1, ?_⟩
    rw [wY_line_82]
    refine ⟨w, ?_⟩
    rw [cs]
    refine wy_Y ?_
    rcases Nat.eq_zero_or_pos (wy_f (yop s)) with y | y
    · rw [y]
      exact br_t (by decide) (nm_r (nI_1 s) (h1 (Or.inl z)))
    · have y1 : wy_f (yop s) = 1 := by omega
      rw [y1]
      refine br_f (by decide) ⟨w, ?_⟩
      by_cases q : yop s ≤ 4
      · exact br_t q (nm_r (nI_1 s) (h1 (Or.inl z)))
      · refine br_f q ⟨w, br_t ?_ (nm_r (nI_1 s) (h1 (Or.inl z)))⟩
        rcases wy_out y1 with p | p
        · exact absurd p q
        · exact p
  · obtain ⟨m1, m2⟩ := wy_mid z
    have H : ∀ e k (y5 : Int32), k + e = wy_f (yop s) → ((∀ j, k ≤ j → j < wy_f (yop s) → ¬ ytaken (4 * s + j) = 0) → J x3 x4 y5 (nI (s + 1))) → (¬ (∀ j, k ≤ j → j < wy_f (yop s) → ¬ ytaken (4 * s + j) = 0) → J x3 x4 0 (nI (s + 1))) → wY_line_82 post J x1 x2 x3 x4 (nI s) ydepth ysteps yresult youtcome yload yover yop ya yb yline ylength yfrom yto yat yhandlers ybegun ytaken ythrown yrowI yrowWay yrowLength ytimes ytold ykOp ykA ykB ykLine ykLength ykFrom ykTo ykAt ykHandlers ykBegun ykTaken ykThrown ykept ymethod ypc yvariable yhereI yhereWay yhereLength yinto ykLoad ypart (e + 1) y5 (nI k) := by
      intro e
      induction e with
      | zero =>
        intro k y5 hk g1 g0
        rw [wY_line_82]
        refine ⟨w, ?_⟩
        rw [cs]
        exact wy_Y (br_t (nI_le (by omega) (by omega)) (nm_r (nI_1 s) (g1 (fun j a b => absurd b (by omega)))))
      | succ e ih =>
        intro k y5 hk g1 g0
        rw [wY_line_82]
        refine ⟨w, ?_⟩
        rw [cs]
        refine wy_Y (br_f (nI_ge (by omega) (by omega)) ⟨w, br_f m1 ⟨w, br_f m2 ⟨ix_in (iy_4 s k) (by omega) (by decide), ?_⟩⟩⟩)
        rw [ix_cl (iy_4 s k) (by omega)]
        by_cases e0 : ytaken (4 * s + k) = 0
        · have K : J x3 x4 0 (nI (s + 1)) := g0 (fun y => y k (by omega) (by omega) e0)
          exact br_t e0 (nm_r (nI_1 k) (ih (k + 1) 0 (by omega) (fun _ => K) (fun _ => K)))
        · refine br_f e0 (nm_r (nI_1 k) (ih (k + 1) y5 (by omega) (fun y => g1 (fun j a b => ?_)) (fun y => g0 (fun q => y (fun j a b => q j (by omega) b)))))
          rcases Nat.lt_or_ge k j with v | v
          · exact y j v b
          · have ej : j = k := by omega
            rw [ej]; exact e0
    refine ⟨_, H _ 0 x5 (Nat.zero_add _) (fun y => h1 (Or.inr (fun j hj => y j (by omega) hj))) (fun y => h0 (fun q => y (fun j _ hj => ?_)))⟩
    rcases q with q | q
    · exact absurd q z
    · exact q j hj
theorem ln_R {m n L : Nat} {l : Int32} (hP : (gp_R xsizes xops xargsA xargsB xlines xguards xfroms xtos xats yop ya yb yline ylength yfrom yto yat yhandlers ykOp ykA ykB ykLine ykLength ykFrom ykTo ykAt ykHandlers)) (hC : (gc_R xsizes xbegunCounts xthrownCounts xtakenCounts xslotUsed xslotLoad ybegun ythrown ytaken ykBegun ykThrown ykTaken ykept ykLoad)) (hT : (tb_R 0 L xtakenCounts)) (hL : L ≤ 1000000200) (hm : m < 4) (hn : n = sz_f xsizes m) :
    ∀ (e i t g : Nat) (w : Int32), i + e = n → g ≤ t → t ≤ i → (w = 0 ∨ w = 1) →
      ∃ r : Int32, (∀ post : Int32 → Prop, post r → wX_line_31 post (nI m) l xdepth xsignal xcarried xlatest xload xsizes xops xargsA xargsB xlines xguards xfroms xtos xats xbegunCounts xthrownCounts xtakenCounts xslotUsed xslotLoad xstretchNumber xstretchGone xstretchRow xstretchWays xatWork xplace xvariables xrow xrowWays xwayOn xpart (e + 1) (nI t) (nI g) w (nI i)) ∧ (∀ post : Int32 → Prop, post r → wY_line_33 post (nI m) l ydepth ysteps yresult youtcome yload yover yop ya yb yline ylength yfrom yto yat yhandlers ybegun ytaken ythrown yrowI yrowWay yrowLength ytimes ytold ykOp ykA ykB ykLine ykLength ykFrom ykTo ykAt ykHandlers ykBegun ykTaken ykThrown ykept ymethod ypc yvariable yhereI yhereWay yhereLength yinto ykLoad ypart (e + 1) (nI g) (nI t) w (nI (24 * m + i))) := by
  obtain ⟨e1, e2, e3⟩ := gp_sz hP hm
  have cm : (nI m).toNatClampNeg = m := nI_clamp (by omega)
  have wm : vp_in (nI m) 17 := vp_in_nI (by omega) (by decide)
  have wm5 : vp_in (nI m) 5 := vp_in_nI (by omega) (by decide)
  have ht : ∀ j, j < 384 → ∃ t, xtakenCounts j = nI t ∧ t < 2 ^ 31 := fun j hj => by
    obtain ⟨t, a, b⟩ := hT j hj
    exact ⟨t, a, by omega⟩
  intro e
  induction e with
  | zero =>
    intro i t g w hi hg htt hw
    have X0 : ∀ post : Int32 → Prop, ((nI t = 0 → (post 0)) ∧ (¬ nI t = 0 → (((nI g = 0 → (post 1)) ∧ (¬ nI g = 0 → (((nI g = nI t → (((w = 0 → (post 2)) ∧ (¬ w = 0 → (post 3))))) ∧ (¬ nI g = nI t → (post 2))))))))) → wX_line_31 post (nI m) l xdepth xsignal xcarried xlatest xload xsizes xops xargsA xargsB xlines xguards xfroms xtos xats xbegunCounts xthrownCounts xtakenCounts xslotUsed xslotLoad xstretchNumber xstretchGone xstretchRow xstretchWays xatWork xplace xvariables xrow xrowWays xwayOn xpart (0 + 1) (nI t) (nI g) w (nI i) := by
      intro post h
      rw [wX_line_31]
      refine ⟨wm, ?_⟩
      rw [cm, e1]
      exact br_t (nI_le (by omega) (by omega)) h
    have Y0 : ∀ post : Int32 → Prop, ((nI t = 0 → (post 0)) ∧ (¬ nI t = 0 → (((nI g = 0 → (post 1)) ∧ (¬ nI g = 0 → (((nI g < nI t → (post 2)) ∧ (¬ nI g < nI t → (((w = 0 → (post 2)) ∧ (¬ w = 0 → (post 3)))))))))))) → wY_line_33 post (nI m) l ydepth ysteps yresult youtcome yload yover yop ya yb yline ylength yfrom yto yat yhandlers ybegun ytaken ythrown yrowI yrowWay yrowLength ytimes ytold ykOp ykA ykB ykLine ykLength ykFrom ykTo ykAt ykHandlers ykBegun ykTaken ykThrown ykept ymethod ypc yvariable yhereI yhereWay yhereLength yinto ykLoad ypart (0 + 1) (nI g) (nI t) w (nI (24 * m + i)) := by
      intro post h
      rw [wY_line_33]
      refine ⟨wm5, ?_⟩
      rw [cm, e2, iy_24]
      exact br_t (nI_le (by omega) (by omega)) h
    rcases Nat.eq_zero_or_pos t with z | z
    · subst z
      exact ⟨0, fun post h => X0 post (br_t rfl h), fun post h => Y0 post (br_t rfl h)⟩
    · have t0 : ¬ nI t = 0 := nI_ne0 z (by omega)
      rcases Nat.eq_zero_or_pos g with y | y
      · subst y
        exact ⟨1, fun post h => X0 post (br_f t0 (br_t rfl h)), fun post h => Y0 post (br_f t0 (br_t rfl h))⟩
      · have g0 : ¬ nI g = 0 := nI_ne0 y (by omega)
        rcases Nat.lt_or_ge g t with q | q
        · have gt : ¬ nI g = nI t := fun p => by
            have := (nI_eq (by omega) (by omega)).mp p
            omega
          exact ⟨2, fun post h => X0 post (br_f t0 (br_f g0 (br_f gt h))), fun post h => Y0 post (br_f t0 (br_f g0 (br_t (nI_lt q (by omega)) h)))⟩
        · have gt : nI g = nI t := by rw [show g = t from by omega]
          have nl : ¬ nI g < nI t := nI_nlt q (by omega)
          by_cases p : w = 0
          · exact ⟨2, fun post h => X0 post (br_f t0 (br_f g0 (br_t gt (br_t p h)))), fun post h => Y0 post (br_f t0 (br_f g0 (br_f nl (br_t p h))))⟩
          · exact ⟨3, fun post h => X0 post (br_f t0 (br_f g0 (br_t gt (br_f p h)))), fun post h => Y0 post (br_f t0 (br_f g0 (br_f nl (br_f p h))))⟩
  | succ e ih =>
    intro i t g w hi hg htt hw
    have hin : i < sz_f xsizes m := by omega
    have h24 : i < 24 := by omega
    have cs : (nI (24 * m + i)).toNatClampNeg = 24 * m + i := nI_clamp (by omega)
    have ws : vp_in (nI (24 * m + i)) 408 := vp_in_nI (by omega) (by decide)
    have w120 : vp_in (nI (24 * m + i)) 120 := vp_in_nI (by omega) (by decide)
    have w96 : vp_in (nI (24 * m + i)) 96 := vp_in_nI (by omega) (by decide)
    have el := gp_ln hP hm h24
    have eb := ct_at1 hC.1 hm hin
    have eo := gp_op hP hm h24
    have EP : bt_P (xops (24 * m + i)) xtakenCounts (24 * m + i) ↔ bt_P (yop (24 * m + i)) ytaken (24 * m + i) := by
      unfold bt_P
      rw [← eo]
      constructor
      · rintro (q | q)
        · exact Or.inl q
        · exact Or.inr (fun j hj => by rw [← ct_at4 hC.2.2.1 hm hin (by have := wy_4 (xops (24 * m + i)); omega)]; exact q j hj)
      · rintro (q | q)
        · exact Or.inl q
        · exact Or.inr (fun j hj => by rw [ct_at4 hC.2.2.1 hm hin (by have := wy_4 (xops (24 * m + i)); omega)]; exact q j hj)
    by_cases zl : xlines (24 * m + i) = l
    · -- an instruction of this line
      have zly : yline (24 * m + i) = l := by rw [← el]; exact zl
      -- what the flags become
      obtain ⟨w', hw', fX, fY⟩ : ∃ w' : Int32, (w' = 0 ∨ w' = 1) ∧
          (∀ (post : Int32 → Prop) (J : _) (x1 x2 x3 z0 z1 : Int32), (∀ x4 : Int32, x4 = z1 + z0 → J x3 x4 w' (nI (i + 1))) → wX_line_82 post J x1 x2 x3 w (nI i) (nI (24 * m + i)) z0 z1 xdepth xsignal xcarried xlatest xload xsizes xops xargsA xargsB xlines xguards xfroms xtos xats xbegunCounts xthrownCounts xtakenCounts xslotUsed xslotLoad xstretchNumber xstretchGone xstretchRow xstretchWays xatWork xplace xvariables xrow xrowWays xwayOn xpart) ∧
          (∀ (post : Int32 → Prop) (J : _) (x1 x2 x3 x4 : Int32), J x3 x4 w' (nI (24 * m + i + 1)) → ∃ N, wY_line_82 post J x1 x2 x3 x4 (nI (24 * m + i)) ydepth ysteps yresult youtcome yload yover yop ya yb yline ylength yfrom yto yat yhandlers ybegun ytaken ythrown yrowI yrowWay yrowLength ytimes ytold ykOp ykA ykB ykLine ykLength ykFrom ykTo ykAt ykHandlers ykBegun ykTaken ykThrown ykept ymethod ypc yvariable yhereI yhereWay yhereLength yinto ykLoad ypart N w 0) := by
        by_cases p : bt_P (xops (24 * m + i)) xtakenCounts (24 * m + i)
        · refine ⟨w, hw, fun post J x1 x2 x3 z0 z1 h => ?_, fun post J x1 x2 x3 x4 h => by_R (by omega) (fun _ => h) (fun q => absurd (EP.mp p) q)⟩
          intro x4 e4
          have h' := h x4 e4
          rcases hw with rfl | rfl
          · exact br_t rfl (nm_r (nI_1 i) h')
          · exact br_f (by decide) (bx_R (by omega) ht (fun _ => br_f (by decide) (nm_r (nI_1 i) h')) (fun q => absurd p q))
        · refine ⟨0, Or.inl rfl, fun post J x1 x2 x3 z0 z1 h => ?_, fun post J x1 x2 x3 x4 h => by_R (by omega) (fun q => absurd (EP.mpr q) p) (fun _ => h)⟩
          intro x4 e4
          have h' := h x4 e4
          rcases hw with rfl | rfl
          · exact br_t rfl (nm_r (nI_1 i) h')
          · exact br_f (by decide) (bx_R (by omega) ht (fun q => absurd q p) (fun _ => br_t rfl (nm_r (nI_1 i) h')))
      by_cases zb : xbegunCounts (24 * m + i) ≤ 0
      · obtain ⟨r, iX, iY⟩ := ih (i + 1) (t + 1) g w' (by omega) (by omega) (by omega) hw'
        refine ⟨r, fun post h => ?_, fun post h => ?_⟩
        · rw [wX_line_31]
          refine ⟨wm, ?_⟩
          rw [cm, e1]
          refine br_f (nI_ge (by omega) (by omega)) (nm_r (ix_24 m i) ⟨ws, ?_⟩)
          rw [cs]
          refine br_t zl (nm_r (nI_1 t) ⟨ws, br_t zb (fX post _ _ _ _ _ _ (fun x4 e4 => ?_))⟩)
          rw [e4, show nI g + 0 = nI g from Int32.add_zero _]
          exact iX post h
        · rw [wY_line_33]
          refine ⟨wm5, ?_⟩
          rw [cm, e2, iy_24, cs]
          refine br_f (nI_ge (by omega) (by omega)) ⟨w120, br_t zly (nm_r (nI_1 t) ⟨w96, br_t (by rw [← eb]; exact zb) (fY post _ _ _ _ _ (iY post h))⟩)⟩
      · obtain ⟨r, iX, iY⟩ := ih (i + 1) (t + 1) (g + 1) w' (by omega) (by omega) (by omega) hw'
        refine ⟨r, fun post h => ?_, fun post h => ?_⟩
        · rw [wX_line_31]
          refine ⟨wm, ?_⟩
          rw [cm, e1]
          refine br_f (nI_ge (by omega) (by omega)) (nm_r (ix_24 m i) ⟨ws, ?_⟩)
          rw [cs]
          refine br_t zl (nm_r (nI_1 t) ⟨ws, br_f zb (fX post _ _ _ _ _ _ (fun x4 e4 => ?_))⟩)
          rw [e4, nI_1]
          exact iX post h
        · rw [wY_line_33]
          refine ⟨wm5, ?_⟩
          rw [cm, e2, iy_24, cs]
          refine br_f (nI_ge (by omega) (by omega)) ⟨w120, br_t zly (nm_r (nI_1 t) ⟨w96, br_f (by rw [← eb]; exact zb) (nm_r (nI_1 g) (fY post _ _ _ _ _ (iY post h)))⟩)⟩
    · have zly : ¬ yline (24 * m + i) = l := by rw [← el]; exact zl
      obtain ⟨r, iX, iY⟩ := ih (i + 1) t g w (by omega) hg (by omega) hw
      refine ⟨r, fun post h => ?_, fun post h => ?_⟩
      · rw [wX_line_31]
        refine ⟨wm, ?_⟩
        rw [cm, e1]
        refine br_f (nI_ge (by omega) (by omega)) (nm_r (ix_24 m i) ⟨ws, ?_⟩)
        rw [cs]
        exact br_f zl (nm_r (nI_1 i) (iX post h))
      · rw [wY_line_33]
        refine ⟨wm5, ?_⟩
        rw [cm, e2, iy_24, cs]
        exact br_f (nI_ge (by omega) (by omega)) ⟨w120, br_f zly (nm_r (nI_1 _) (iY post h))⟩
end
theorem i_vc_line {k : Nat} {u : SX} {v : SY} (I : i_Rel k u v) (hk : k + 5 ≤ 2560) (v1 : Int32) (v2 : Int32) : wpX_line (fun r => wpY_line (fun r' => r' = r ∧ i_Rel (k + 5) u v) v v1 v2) u v1 v2 := by
  obtain ⟨xdepth, xsignal, xcarried, xlatest, xload, xsizes, xops, xargsA, xargsB, xlines, xguards, xfroms, xtos, xats, xbegunCounts, xthrownCounts, xtakenCounts, xslotUsed, xslotLoad, xstretchNumber, xstretchGone, xstretchRow, xstretchWays, xatWork, xplace, xvariables, xrow, xrowWays, xwayOn, xpart⟩ := u
  obtain ⟨ydepth, ysteps, yresult, youtcome, yload, yover, yop, ya, yb, yline, ylength, yfrom, yto, yat, yhandlers, ybegun, ytaken, ythrown, yrowI, yrowWay, yrowLength, ytimes, ytold, ykOp, ykA, ykB, ykLine, ykLength, ykFrom, ykTo, ykAt, ykHandlers, ykBegun, ykTaken, ykThrown, ykept, ymethod, ypc, yvariable, yhereI, yhereWay, yhereLength, yinto, ykLoad, ypart⟩ := v
  have J := I
  obtain ⟨L, h1, h2, h3, h4, hP, hC, hS, hT⟩ := I
  unfold wpX_line wpY_line
  rcases th_c (xdepth := xdepth) (xsignal := xsignal) (xcarried := xcarried) (xlatest := xlatest) (xload := xload) (xsizes := xsizes) (xops := xops) (xargsA := xargsA) (xargsB := xargsB) (xlines := xlines) (xguards := xguards) (xfroms := xfroms) (xtos := xtos) (xats := xats) (xbegunCounts := xbegunCounts) (xthrownCounts := xthrownCounts) (xtakenCounts := xtakenCounts) (xslotUsed := xslotUsed) (xslotLoad := xslotLoad) (xstretchNumber := xstretchNumber) (xstretchGone := xstretchGone) (xstretchRow := xstretchRow) (xstretchWays := xstretchWays) (xatWork := xatWork) (xplace := xplace) (xvariables := xvariables) (xrow := xrow) (xrowWays := xrowWays) (xwayOn := xwayOn) (xpart := xpart) (ydepth := ydepth) (ysteps := ysteps) (yresult := yresult) (youtcome := youtcome) (yload := yload) (yover := yover) (yop := yop) (ya := ya) (yb := yb) (yline := yline) (ylength := ylength) (yfrom := yfrom) (yto := yto) (yat := yat) (yhandlers := yhandlers) (ybegun := ybegun) (ytaken := ytaken) (ythrown := ythrown) (yrowI := yrowI) (yrowWay := yrowWay) (yrowLength := yrowLength) (ytimes := ytimes) (ytold := ytold) (ykOp := ykOp) (ykA := ykA) (ykB := ykB) (ykLine := ykLine) (ykLength := ykLength) (ykFrom := ykFrom) (ykTo := ykTo) (ykAt := ykAt) (ykHandlers := ykHandlers) (ykBegun := ykBegun) (ykTaken := ykTaken) (ykThrown := ykThrown) (ykept := ykept) (ymethod := ymethod) (ypc := ypc) (yvariable := yvariable) (yhereI := yhereI) (yhereWay := yhereWay) (yhereLength := yhereLength) (yinto := yinto) (ykLoad := ykLoad) (ypart := ypart) v1 hP with ⟨m, hm, rfl, hs, hX, hY⟩ | ⟨hX, hY⟩
  · refine hX _ (br_f (by decide) ?_)
    rcases pk_ix v2 (n := 16) (by decide) with z | z | ⟨l, hl, rfl⟩
    · exact xi_f (n := 16) (Or.inl z) (br_t rfl (hY _ (br_f (by decide) (wi_f (n := 16) (Or.inl z) (br_t rfl ⟨rfl, J⟩)))))
    · exact xi_f (n := 16) (Or.inr z) (br_t rfl (hY _ (br_f (by decide) (wi_f (n := 16) (Or.inr z) (br_t rfl ⟨rfl, J⟩)))))
    · obtain ⟨r, iX, iY⟩ := ln_R (xdepth := xdepth) (xsignal := xsignal) (xcarried := xcarried) (xlatest := xlatest) (xload := xload) (xsizes := xsizes) (xops := xops) (xargsA := xargsA) (xargsB := xargsB) (xlines := xlines) (xguards := xguards) (xfroms := xfroms) (xtos := xtos) (xats := xats) (xbegunCounts := xbegunCounts) (xthrownCounts := xthrownCounts) (xtakenCounts := xtakenCounts) (xslotUsed := xslotUsed) (xslotLoad := xslotLoad) (xstretchNumber := xstretchNumber) (xstretchGone := xstretchGone) (xstretchRow := xstretchRow) (xstretchWays := xstretchWays) (xatWork := xatWork) (xplace := xplace) (xvariables := xvariables) (xrow := xrow) (xrowWays := xrowWays) (xwayOn := xwayOn) (xpart := xpart) (ydepth := ydepth) (ysteps := ysteps) (yresult := yresult) (youtcome := youtcome) (yload := yload) (yover := yover) (yop := yop) (ya := ya) (yb := yb) (yline := yline) (ylength := ylength) (yfrom := yfrom) (yto := yto) (yat := yat) (yhandlers := yhandlers) (ybegun := ybegun) (ytaken := ytaken) (ythrown := ythrown) (yrowI := yrowI) (yrowWay := yrowWay) (yrowLength := yrowLength) (ytimes := ytimes) (ytold := ytold) (ykOp := ykOp) (ykA := ykA) (ykB := ykB) (ykLine := ykLine) (ykLength := ykLength) (ykFrom := ykFrom) (ykTo := ykTo) (ykAt := ykAt) (ykHandlers := ykHandlers) (ykBegun := ykBegun) (ykTaken := ykTaken) (ykThrown := ykThrown) (ykept := ykept) (ymethod := ymethod) (ypc := ypc) (yvariable := yvariable) (yhereI := yhereI) (yhereWay := yhereWay) (yhereLength := yhereLength) (yinto := yinto) (ykLoad := ykLoad) (ypart := ypart) (l := nI l) hP hC hT h1 hm rfl (sz_f xsizes m) 0 0 0 1 (by omega) (Nat.le_refl 0) (Nat.le_refl 0) (Or.inr rfl)
      refine xi_t (n := 16) hl (by decide) (br_f (by decide) ⟨_, iX _ ?_⟩)
      exact hY _ (br_f (by decide) (wi_t (n := 16) hl (by decide) (br_f (by decide) (nm_r (e' := nI (24 * m)) (pk_mul 24 m) ⟨_, iY _ ⟨rfl, J⟩⟩))))
  · exact hX _ (br_t rfl (hY _ (br_t rfl ⟨rfl, J⟩)))
end
section
/-! part 23: addCounts; keep -/
theorem kz_1 {s m : Nat} {x : Nat → Int32} (hm : m < 4) : upd (cy_f 0 (4 + 4 * s) m x x) (4 + 4 * s + m) (cy_f 0 (4 + 4 * s) m x x m) = cy_f 0 (4 + 4 * s) (m + 1) x x := by
  have h := cy_self (S := 0) (T := 4 + 4 * s) (i := m) (c := 4) (x := x) (by omega) hm
  rw [Nat.zero_add] at h
  exact h
theorem kz_24 {s m : Nat} {x : Nat → Int32} (hm : m < 4) : cy_f (24 * m) (24 * (4 + 4 * s + m)) 24 (cy_f 0 (96 + 96 * s) (24 * m) x x) (cy_f 0 (96 + 96 * s) (24 * m) x x) = cy_f 0 (96 + 96 * s) (24 * (m + 1)) x x := by
  have h := bk_more (c := 24) (A := 24 * m) (K := 96 + 96 * s) (x := x) (by omega)
  rw [show 24 * (4 + 4 * s + m) = 96 + 96 * s + 24 * m from by omega, h]
  congr 1
theorem kz_3 {s m : Nat} {x : Nat → Int32} (hm : m < 4) : cy_f (3 * m) (3 * (4 + 4 * s + m)) 3 (cy_f 0 (12 + 12 * s) (3 * m) x x) (cy_f 0 (12 + 12 * s) (3 * m) x x) = cy_f 0 (12 + 12 * s) (3 * (m + 1)) x x := by
  have h := bk_more (c := 3) (A := 3 * m) (K := 12 + 12 * s) (x := x) (by omega)
  rw [show 3 * (4 + 4 * s + m) = 12 + 12 * s + 3 * m from by omega, h]
  congr 1
theorem kz_96 {s m : Nat} {x : Nat → Int32} (hm : m < 4) : cy_f (96 * m) (96 * (4 + 4 * s + m)) 96 (cy_f 0 (384 + 384 * s) (96 * m) x x) (cy_f 0 (384 + 384 * s) (96 * m) x x) = cy_f 0 (384 + 384 * s) (96 * (m + 1)) x x := by
  have h := bk_more (c := 96) (A := 96 * m) (K := 384 + 384 * s) (x := x) (by omega)
  rw [show 96 * (4 + 4 * s + m) = 384 + 384 * s + 96 * m from by omega, h]
  congr 1
theorem iz_k (s i k : Nat) : 4 * nI (96 * s + i) + nI k = nI (384 * s + (4 * i + k)) := by
  rw [iy_4]
  exact congrArg nI (by omega)
section
variable {xdepth xsignal xcarried xlatest xload : Int32} {xsizes xops xargsA xargsB xlines xguards xfroms xtos xats xbegunCounts xthrownCounts xtakenCounts xslotUsed xslotLoad xstretchNumber xstretchGone xstretchRow xatWork xplace xvariables xrow xpart : Nat → Int32} {xstretchWays xrowWays xwayOn : Nat → Int64}
variable {ydepth ysteps yresult youtcome yload yover : Int32} {yop ya yb yline ylength yfrom yto yat yhandlers ybegun ytaken ythrown yrowI yrowWay yrowLength ytimes ytold ykOp ykA ykB ykLine ykLength ykFrom ykTo ykAt ykHandlers ykBegun ykTaken ykThrown ykept ymethod ypc yvariable yhereI yhereWay yhereLength yinto ykLoad ypart : Nat → Int32}
theorem ac_X4 {post : SX → Prop} {J : _} {s t i : Nat} (hs : s < 17) (ht : t < 17) (hst : s ≠ t) (hi : i < 24)
    (h : J (nI (i + 1)) xsizes xops xargsA xargsB xlines xguards xfroms xtos xats xbegunCounts xthrownCounts (ad_f (96 * s) (96 * t) (4 * (i + 1)) xtakenCounts xtakenCounts) xslotUsed xslotLoad xstretchNumber xstretchGone xstretchRow xstretchWays xatWork xplace xvariables xrow xrowWays xwayOn xpart) :
    ∀ e k, k + e = 4 → wX_addCounts_61 post J (nI s) (nI t) (nI i) (nI (24 * s + i)) (nI (24 * t + i)) xdepth xsignal xcarried xlatest xload (e + 1) (nI k) xsizes xops xargsA xargsB xlines xguards xfroms xtos xats xbegunCounts xthrownCounts (ad_f (96 * s) (96 * t) (4 * i + k) xtakenCounts xtakenCounts) xslotUsed xslotLoad xstretchNumber xstretchGone xstretchRow xstretchWays xatWork xplace xvariables xrow xrowWays xwayOn xpart := by
  intro e
  induction e with
  | zero =>
    intro k hk
    have z : k = 4 := by omega
    subst z
    rw [wX_addCounts_61]
    exact br_t (by decide) (nm_r (nI_1 i) h)
  | succ e ih =>
    intro k hk
    have h2 := ih (k + 1) (by omega)
    have ws : vp_in (nI (24 * s + i) * 4 + nI k) 1632 := ix_in (ix_z s i k) (by omega) (by decide)
    have wt : vp_in (nI (24 * t + i) * 4 + nI k) 1632 := ix_in (ix_z t i k) (by omega) (by decide)
    have hd : 96 * s + 96 ≤ 96 * t ∨ 96 * t + 96 ≤ 96 * s := by omega
    rw [wX_addCounts_61]
    refine br_f (nI_ge (b := 4) (by omega) (by decide)) ?_
    rw [ix_cl (ix_z s i k) (by omega), ix_cl (ix_z t i k) (by omega)]
    exact ⟨wt, ws, wt, nm_r (ad_self hd (by omega)) (nm_r (nI_1 k) h2)⟩
/-- addCounts of the class -/
theorem ac_X {post : SX → Prop} {s t : Nat} (hs : s < 17) (ht : t < 17) (hst : s ≠ t)
    (h : post (xdepth, xsignal, xcarried, xlatest, xload, xsizes, xops, xargsA, xargsB, xlines, xguards, xfroms, xtos, xats, ad_f (24 * s) (24 * t) 24 xbegunCounts xbegunCounts, ad_f (24 * s) (24 * t) 24 xthrownCounts xthrownCounts, ad_f (96 * s) (96 * t) 96 xtakenCounts xtakenCounts, xslotUsed, xslotLoad, xstretchNumber, xstretchGone, xstretchRow, xstretchWays, xatWork, xplace, xvariables, xrow, xrowWays, xwayOn, xpart)) : wpX_addCounts post (xdepth, xsignal, xcarried, xlatest, xload, xsizes, xops, xargsA, xargsB, xlines, xguards, xfroms, xtos, xats, xbegunCounts, xthrownCounts, xtakenCounts, xslotUsed, xslotLoad, xstretchNumber, xstretchGone, xstretchRow, xstretchWays, xatWork, xplace, xvariables, xrow, xrowWays, xwayOn, xpart) (nI s) (nI t) := by
  have H : ∀ e i, i + e = 24 → wX_addCounts_2 post (nI s) (nI t) xdepth xsignal xcarried xlatest xload (e + 1) (nI i) xsizes xops xargsA xargsB xlines xguards xfroms xtos xats (ad_f (24 * s) (24 * t) i xbegunCounts xbegunCounts) (ad_f (24 * s) (24 * t) i xthrownCounts xthrownCounts) (ad_f (96 * s) (96 * t) (4 * i) xtakenCounts xtakenCounts) xslotUsed xslotLoad xstretchNumber xstretchGone xstretchRow xstretchWays xatWork xplace xvariables xrow xrowWays xwayOn xpart := by
    intro e
    induction e with
    | zero =>
      intro i hi
      have z : i = 24 := by omega
      subst z
      rw [wX_addCounts_2]
      exact br_t (by decide) h
    | succ e ih =>
      intro i hi
      have h2 := ih (i + 1) (by omega)
      have ws : vp_in (nI (24 * s + i)) 408 := vp_in_nI (by omega) (by decide)
      have wt : vp_in (nI (24 * t + i)) 408 := vp_in_nI (by omega) (by decide)
      have cs : (nI (24 * s + i)).toNatClampNeg = 24 * s + i := nI_clamp (by omega)
      have ct : (nI (24 * t + i)).toNatClampNeg = 24 * t + i := nI_clamp (by omega)
      have hd : 24 * s + 24 ≤ 24 * t ∨ 24 * t + 24 ≤ 24 * s := by omega
      rw [wX_addCounts_2]
      refine br_f (nI_ge (b := 24) (by omega) (by decide)) (nm_r (ix_24 s i) (nm_r (ix_24 t i) ?_))
      rw [cs, ct]
      exact ⟨wt, ws, wt, nm_r (ad_self hd (by omega)) ⟨wt, ws, wt, nm_r (ad_self hd (by omega)) ⟨4 + 1, ac_X4 hs ht hst (by omega) h2 4 0 rfl⟩⟩⟩
  have H0 := H 24 0 rfl
  rw [Nat.mul_zero, ad_0, ad_0, ad_0] at H0
  exact ⟨_, H0⟩
theorem ke_X {post : Int32 → SX → Prop} {s : Nat} (hs : s < 3) (h : post 1 (xdepth, xsignal, xcarried, xlatest, xload, cy_f 0 (4 + 4 * s) 4 xsizes xsizes, cy_f 0 (96 + 96 * s) 96 xops xops, cy_f 0 (96 + 96 * s) 96 xargsA xargsA, cy_f 0 (96 + 96 * s) 96 xargsB xargsB, cy_f 0 (96 + 96 * s) 96 xlines xlines, cy_f 0 (4 + 4 * s) 4 xguards xguards, cy_f 0 (12 + 12 * s) 12 xfroms xfroms, cy_f 0 (12 + 12 * s) 12 xtos xtos, cy_f 0 (12 + 12 * s) 12 xats xats, cy_f 0 (96 + 96 * s) 96 xbegunCounts xbegunCounts, cy_f 0 (96 + 96 * s) 96 xthrownCounts xthrownCounts, cy_f 0 (384 + 384 * s) 384 xtakenCounts xtakenCounts, upd xslotUsed s (vp_nar .boolean 1), upd xslotLoad s xload, xstretchNumber, xstretchGone, xstretchRow, xstretchWays, xatWork, xplace, xvariables, xrow, xrowWays, xwayOn, xpart)) : wpX_keep post (xdepth, xsignal, xcarried, xlatest, xload, xsizes, xops, xargsA, xargsB, xlines, xguards, xfroms, xtos, xats, xbegunCounts, xthrownCounts, xtakenCounts, xslotUsed, xslotLoad, xstretchNumber, xstretchGone, xstretchRow, xstretchWays, xatWork, xplace, xvariables, xrow, xrowWays, xwayOn, xpart) (nI s) := by
  have cs : (nI s).toNatClampNeg = s := nI_clamp (by omega)
  have ws : vp_in (nI s) 3 := vp_in_nI hs (by decide)
  have H : ∀ e m, m + e = 4 → wX_keep_13 post (nI s) (e + 1) (nI m) xdepth xsignal xcarried xlatest xload (cy_f 0 (4 + 4 * s) m xsizes xsizes) (cy_f 0 (96 + 96 * s) (24 * m) xops xops) (cy_f 0 (96 + 96 * s) (24 * m) xargsA xargsA) (cy_f 0 (96 + 96 * s) (24 * m) xargsB xargsB) (cy_f 0 (96 + 96 * s) (24 * m) xlines xlines) (cy_f 0 (4 + 4 * s) m xguards xguards) (cy_f 0 (12 + 12 * s) (3 * m) xfroms xfroms) (cy_f 0 (12 + 12 * s) (3 * m) xtos xtos) (cy_f 0 (12 + 12 * s) (3 * m) xats xats) (cy_f 0 (96 + 96 * s) (24 * m) xbegunCounts xbegunCounts) (cy_f 0 (96 + 96 * s) (24 * m) xthrownCounts xthrownCounts) (cy_f 0 (384 + 384 * s) (96 * m) xtakenCounts xtakenCounts) xslotUsed xslotLoad xstretchNumber xstretchGone xstretchRow xstretchWays xatWork xplace xvariables xrow xrowWays xwayOn xpart := by
    intro e
    induction e with
    | zero =>
      intro m hm
      have z : m = 4 := by omega
      subst z
      rw [wX_keep_13]
      refine br_t (by decide) ⟨ws, nm_r (e' := upd xslotUsed s (vp_nar .boolean 1)) (by rw [cs]) ⟨ws, nm_r (e' := upd xslotLoad s xload) (by rw [cs]) h⟩⟩
    | succ e ih =>
      intro m hm
      have h2 := ih (m + 1) (by omega)
      have eb : (4 + nI s * 4) + nI m = nI (4 + 4 * s + m) := by
        rw [show nI s * 4 = nI (4 * s) from ix_c s 4, show (4 : Int32) + nI (4 * s) = nI (4 + 4 * s) from nI_add 4 _, nI_add]
      have hd24 : 24 * m + 24 ≤ 24 * (4 + 4 * s + m) ∨ 24 * (4 + 4 * s + m) + 24 ≤ 24 * m := by omega
      have hd96 : 96 * m + 96 ≤ 96 * (4 + 4 * s + m) ∨ 96 * (4 + 4 * s + m) + 96 ≤ 96 * m := by omega
      have h3 : wX_keep_13 post (nI s) (e + 1) (nI (m + 1)) xdepth xsignal xcarried xlatest xload (upd (cy_f 0 (4 + 4 * s) m xsizes xsizes) (4 + 4 * s + m) (cy_f 0 (4 + 4 * s) m xsizes xsizes m)) (cy_f (24 * m) (24 * (4 + 4 * s + m)) 24 (cy_f 0 (96 + 96 * s) (24 * m) xops xops) (cy_f 0 (96 + 96 * s) (24 * m) xops xops)) (cy_f (24 * m) (24 * (4 + 4 * s + m)) 24 (cy_f 0 (96 + 96 * s) (24 * m) xargsA xargsA) (cy_f 0 (96 + 96 * s) (24 * m) xargsA xargsA)) (cy_f (24 * m) (24 * (4 + 4 * s + m)) 24 (cy_f 0 (96 + 96 * s) (24 * m) xargsB xargsB) (cy_f 0 (96 + 96 * s) (24 * m) xargsB xargsB)) (cy_f (24 * m) (24 * (4 + 4 * s + m)) 24 (cy_f 0 (96 + 96 * s) (24 * m) xlines xlines) (cy_f 0 (96 + 96 * s) (24 * m) xlines xlines)) (upd (cy_f 0 (4 + 4 * s) m xguards xguards) (4 + 4 * s + m) (cy_f 0 (4 + 4 * s) m xguards xguards m)) (cy_f (3 * m) (3 * (4 + 4 * s + m)) 3 (cy_f 0 (12 + 12 * s) (3 * m) xfroms xfroms) (cy_f 0 (12 + 12 * s) (3 * m) xfroms xfroms)) (cy_f (3 * m) (3 * (4 + 4 * s + m)) 3 (cy_f 0 (12 + 12 * s) (3 * m) xtos xtos) (cy_f 0 (12 + 12 * s) (3 * m) xtos xtos)) (cy_f (3 * m) (3 * (4 + 4 * s + m)) 3 (cy_f 0 (12 + 12 * s) (3 * m) xats xats) (cy_f 0 (12 + 12 * s) (3 * m) xats xats)) (ad_f (24 * m) (24 * (4 + 4 * s + m)) 24 (zr_f (24 * (4 + 4 * s + m)) 24 (cy_f 0 (96 + 96 * s) (24 * m) xbegunCounts xbegunCounts)) (zr_f (24 * (4 + 4 * s + m)) 24 (cy_f 0 (96 + 96 * s) (24 * m) xbegunCounts xbegunCounts))) (ad_f (24 * m) (24 * (4 + 4 * s + m)) 24 (zr_f (24 * (4 + 4 * s + m)) 24 (cy_f 0 (96 + 96 * s) (24 * m) xthrownCounts xthrownCounts)) (zr_f (24 * (4 + 4 * s + m)) 24 (cy_f 0 (96 + 96 * s) (24 * m) xthrownCounts xthrownCounts))) (ad_f (96 * m) (96 * (4 + 4 * s + m)) 96 (zr_f (96 * (4 + 4 * s + m)) 96 (cy_f 0 (384 + 384 * s) (96 * m) xtakenCounts xtakenCounts)) (zr_f (96 * (4 + 4 * s + m)) 96 (cy_f 0 (384 + 384 * s) (96 * m) xtakenCounts xtakenCounts))) xslotUsed xslotLoad xstretchNumber xstretchGone xstretchRow xstretchWays xatWork xplace xvariables xrow xrowWays xwayOn xpart := by
        rw [ad_zr hd24, ad_zr hd24, ad_zr hd96, kz_1 (by omega), kz_1 (by omega), kz_24 (by omega), kz_24 (by omega), kz_24 (by omega), kz_24 (by omega), kz_3 (by omega), kz_3 (by omega), kz_3 (by omega), kz_24 (by omega), kz_24 (by omega), kz_96 (by omega)]
        exact h2
      rw [wX_keep_13]
      refine br_f (nI_ge (b := 4) (by omega) (by decide)) ?_
      unfold wpX_keptBank
      dsimp only
      rw [eb]
      refine cp_X (by omega) (by omega) (by omega) (cc_X (by omega) (ac_X (by omega) (by omega) (by omega) (nm_r (nI_1 m) h3)))
  have H0 := H 4 0 rfl
  simp only [Nat.mul_zero, cy_0] at H0
  unfold wpX_keep
  exact xi_t (n := 3) hs (by decide) (br_f (by decide) ⟨_, H0⟩)
theorem ke_Y4 {post : Int32 → SY → Prop} {J : _} {s i : Nat} (hs : s < 3) (hi : i < 96)
    (h : J (nI (i + 1)) yop ya yb yline ylength yfrom yto yat yhandlers ybegun ytaken ythrown yrowI yrowWay yrowLength ytimes ytold ykOp ykA ykB ykLine ykLength ykFrom ykTo ykAt ykHandlers ykBegun (cy_f 0 (384 * s) (4 * (i + 1)) ykTaken ytaken) ykThrown ykept ymethod ypc yvariable yhereI yhereWay yhereLength yinto ykLoad ypart) :
    ∀ e k, k + e = 4 → wY_keep_117 post J (nI s) (nI i) (nI (96 * s + i)) ydepth ysteps yresult youtcome yload yover (e + 1) (nI k) yop ya yb yline ylength yfrom yto yat yhandlers ybegun ytaken ythrown yrowI yrowWay yrowLength ytimes ytold ykOp ykA ykB ykLine ykLength ykFrom ykTo ykAt ykHandlers ykBegun (cy_f 0 (384 * s) (4 * i + k) ykTaken ytaken) ykThrown ykept ymethod ypc yvariable yhereI yhereWay yhereLength yinto ykLoad ypart := by
  intro e
  induction e with
  | zero =>
    intro k hk
    have z : k = 4 := by omega
    subst z
    rw [wY_keep_117]
    exact br_t (by decide) (nm_r (nI_1 i) h)
  | succ e ih =>
    intro k hk
    have h2 := ih (k + 1) (by omega)
    have c := cy_s (S := 0) (T := 384 * s) (i := 4 * i + k) (x := ykTaken) (y := ytaken)
    rw [Nat.zero_add] at c
    rw [wY_keep_117]
    refine br_f (nI_ge (b := 4) (by omega) (by decide)) ?_
    rw [ix_cl (iy_4 i k) (by omega), ix_cl (iz_k s i k) (by omega)]
    exact ⟨ix_in (iy_4 i k) (by omega) (by decide), ix_in (iz_k s i k) (by omega) (by decide), nm_r c (nm_r (nI_1 k) h2)⟩
theorem cy_sz {T i : Nat} {x y : Nat → Int32} : upd (cy_f 0 T i x y) (T + i) (y i) = cy_f 0 T (i + 1) x y := by
  have c := cy_s (S := 0) (T := T) (i := i) (x := x) (y := y)
  rw [Nat.zero_add] at c
  exact c
theorem ke_Y {post : Int32 → SY → Prop} {s : Nat} (hs : s < 3)
    (h : post 1 (ydepth, ysteps, yresult, youtcome, yload, yover, yop, ya, yb, yline, ylength, yfrom, yto, yat, yhandlers, ybegun, ytaken, ythrown, yrowI, yrowWay, yrowLength, ytimes, ytold, cy_f 0 (96 * s) 96 ykOp yop, cy_f 0 (96 * s) 96 ykA ya, cy_f 0 (96 * s) 96 ykB yb, cy_f 0 (96 * s) 96 ykLine yline, cy_f 0 (4 * s) 4 ykLength ylength, cy_f 0 (12 * s) 12 ykFrom yfrom, cy_f 0 (12 * s) 12 ykTo yto, cy_f 0 (12 * s) 12 ykAt yat, cy_f 0 (4 * s) 4 ykHandlers yhandlers, cy_f 0 (96 * s) 96 ykBegun ybegun, cy_f 0 (384 * s) 384 ykTaken ytaken, cy_f 0 (96 * s) 96 ykThrown ythrown, upd ykept s (vp_nar .boolean 1), ymethod, ypc, yvariable, yhereI, yhereWay, yhereLength, yinto, upd ykLoad s yload, ypart)) : wpY_keep post (ydepth, ysteps, yresult, youtcome, yload, yover, yop, ya, yb, yline, ylength, yfrom, yto, yat, yhandlers, ybegun, ytaken, ythrown, yrowI, yrowWay, yrowLength, ytimes, ytold, ykOp, ykA, ykB, ykLine, ykLength, ykFrom, ykTo, ykAt, ykHandlers, ykBegun, ykTaken, ykThrown, ykept, ymethod, ypc, yvariable, yhereI, yhereWay, yhereLength, yinto, ykLoad, ypart) (nI s) := by
  have cs : (nI s).toNatClampNeg = s := nI_clamp (by omega)
  have ws : vp_in (nI s) 3 := vp_in_nI hs (by decide)
  have H4 : ∀ e j, j + e = 4 → wY_keep_224 post (nI s) ydepth ysteps yresult youtcome yload yover (e + 1) (nI j) yop ya yb yline ylength yfrom yto yat yhandlers ybegun ytaken ythrown yrowI yrowWay yrowLength ytimes ytold (cy_f 0 (96 * s) 96 ykOp yop) (cy_f 0 (96 * s) 96 ykA ya) (cy_f 0 (96 * s) 96 ykB yb) (cy_f 0 (96 * s) 96 ykLine yline) (cy_f 0 (4 * s) j ykLength ylength) (cy_f 0 (12 * s) 12 ykFrom yfrom) (cy_f 0 (12 * s) 12 ykTo yto) (cy_f 0 (12 * s) 12 ykAt yat) (cy_f 0 (4 * s) j ykHandlers yhandlers) (cy_f 0 (96 * s) 96 ykBegun ybegun) (cy_f 0 (384 * s) 384 ykTaken ytaken) (cy_f 0 (96 * s) 96 ykThrown ythrown) (upd ykept s (vp_nar .boolean 1)) ymethod ypc yvariable yhereI yhereWay yhereLength yinto (upd ykLoad s yload) ypart := by
    intro e
    induction e with
    | zero =>
      intro j hj
      have z : j = 4 := by omega
      subst z
      rw [wY_keep_224]
      exact br_t (by decide) h
    | succ e ih =>
      intro j hj
      have h2 := ih (j + 1) (by omega)
      have wj : vp_in (nI j) 5 := vp_in_nI (by omega) (by decide)
      have wt : vp_in (4 * nI s + nI j) 12 := ix_in (iy_4 s j) (by omega) (by decide)
      rw [wY_keep_224]
      refine br_f (nI_ge (b := 4) (by omega) (by decide)) ?_
      rw [ix_cl (iy_4 s j) (by omega), nI_clamp (n := j) (by omega)]
      exact ⟨wj, wt, nm_r cy_sz ⟨wj, wt, nm_r cy_sz (nm_r (nI_1 j) h2)⟩⟩
  have H12 : ∀ e j, j + e = 12 → wY_keep_159 post (nI s) ydepth ysteps yresult youtcome yload yover (e + 1) (nI j) yop ya yb yline ylength yfrom yto yat yhandlers ybegun ytaken ythrown yrowI yrowWay yrowLength ytimes ytold (cy_f 0 (96 * s) 96 ykOp yop) (cy_f 0 (96 * s) 96 ykA ya) (cy_f 0 (96 * s) 96 ykB yb) (cy_f 0 (96 * s) 96 ykLine yline) ykLength (cy_f 0 (12 * s) j ykFrom yfrom) (cy_f 0 (12 * s) j ykTo yto) (cy_f 0 (12 * s) j ykAt yat) ykHandlers (cy_f 0 (96 * s) 96 ykBegun ybegun) (cy_f 0 (384 * s) 384 ykTaken ytaken) (cy_f 0 (96 * s) 96 ykThrown ythrown) (upd ykept s (vp_nar .boolean 1)) ymethod ypc yvariable yhereI yhereWay yhereLength yinto (upd ykLoad s yload) ypart := by
    intro e
    induction e with
    | zero =>
      intro j hj
      have z : j = 12 := by omega
      subst z
      have H := H4 4 0 rfl
      simp only [cy_0] at H
      rw [wY_keep_159]
      exact br_t (by decide) ⟨_, H⟩
    | succ e ih =>
      intro j hj
      have h2 := ih (j + 1) (by omega)
      have wj : vp_in (nI j) 15 := vp_in_nI (by omega) (by decide)
      have wt : vp_in (12 * nI s + nI j) 36 := ix_in (iy_12 s j) (by omega) (by decide)
      rw [wY_keep_159]
      refine br_f (nI_ge (b := 12) (by omega) (by decide)) ?_
      rw [ix_cl (iy_12 s j) (by omega), nI_clamp (n := j) (by omega)]
      exact ⟨wj, wt, nm_r cy_sz ⟨wj, wt, nm_r cy_sz ⟨wj, wt, nm_r cy_sz (nm_r (nI_1 j) h2)⟩⟩⟩
  have H96 : ∀ e i, i + e = 96 → wY_keep_29 post (nI s) ydepth ysteps yresult youtcome yload yover (e + 1) (nI i) yop ya yb yline ylength yfrom yto yat yhandlers ybegun ytaken ythrown yrowI yrowWay yrowLength ytimes ytold (cy_f 0 (96 * s) i ykOp yop) (cy_f 0 (96 * s) i ykA ya) (cy_f 0 (96 * s) i ykB yb) (cy_f 0 (96 * s) i ykLine yline) ykLength ykFrom ykTo ykAt ykHandlers (cy_f 0 (96 * s) i ykBegun ybegun) (cy_f 0 (384 * s) (4 * i) ykTaken ytaken) (cy_f 0 (96 * s) i ykThrown ythrown) (upd ykept s (vp_nar .boolean 1)) ymethod ypc yvariable yhereI yhereWay yhereLength yinto (upd ykLoad s yload) ypart := by
    intro e
    induction e with
    | zero =>
      intro i hi
      have z : i = 96 := by omega
      subst z
      have H := H12 12 0 rfl
      simp only [cy_0] at H
      rw [wY_keep_29]
      exact br_t (by decide) ⟨_, H⟩
    | succ e ih =>
      intro i hi
      have h2 := ih (i + 1) (by omega)
      have wi : vp_in (nI i) 120 := vp_in_nI (by omega) (by decide)
      have wi96 : vp_in (nI i) 96 := vp_in_nI (by omega) (by decide)
      have wt : vp_in (nI (96 * s + i)) 288 := vp_in_nI (by omega) (by decide)
      have ct : (nI (96 * s + i)).toNatClampNeg = 96 * s + i := nI_clamp (by omega)
      rw [wY_keep_29]
      refine br_f (nI_ge (b := 96) (by omega) (by decide)) (nm_r (iy_96 s i) ?_)
      rw [ct, nI_clamp (n := i) (by omega)]
      exact ⟨wi, wt, nm_r cy_sz ⟨wi, wt, nm_r cy_sz ⟨wi, wt, nm_r cy_sz ⟨wi, wt, nm_r cy_sz ⟨wi96, wt, nm_r cy_sz ⟨wi96, wt, nm_r cy_sz ⟨4 + 1, ke_Y4 hs (by omega) h2 4 0 rfl⟩⟩⟩⟩⟩⟩⟩
  have H := H96 96 0 rfl
  simp only [Nat.mul_zero, cy_0] at H
  unfold wpY_keep
  exact wi_t (n := 3) hs (by decide) (br_f (by decide) ⟨ws, nm_r (e' := upd ykept s (vp_nar .boolean 1)) (by rw [cs]) ⟨ws, nm_r (e' := upd ykLoad s yload) (by rw [cs]) ⟨_, H⟩⟩⟩)
end
theorem kp_b1 : vp_nar .boolean 1 = 1 := by decide
theorem i_vc_keep {k : Nat} {u : SX} {v : SY} (I : i_Rel k u v) (hk : k + 5 ≤ 2560) (v1 : Int32) : wpX_keep (fun r u' => wpY_keep (fun r' v' => r' = r ∧ i_Rel (k + 5) u' v') v v1) u v1 := by
  obtain ⟨xdepth, xsignal, xcarried, xlatest, xload, xsizes, xops, xargsA, xargsB, xlines, xguards, xfroms, xtos, xats, xbegunCounts, xthrownCounts, xtakenCounts, xslotUsed, xslotLoad, xstretchNumber, xstretchGone, xstretchRow, xstretchWays, xatWork, xplace, xvariables, xrow, xrowWays, xwayOn, xpart⟩ := u
  obtain ⟨ydepth, ysteps, yresult, youtcome, yload, yover, yop, ya, yb, yline, ylength, yfrom, yto, yat, yhandlers, ybegun, ytaken, ythrown, yrowI, yrowWay, yrowLength, ytimes, ytold, ykOp, ykA, ykB, ykLine, ykLength, ykFrom, ykTo, ykAt, ykHandlers, ykBegun, ykTaken, ykThrown, ykept, ymethod, ypc, yvariable, yhereI, yhereWay, yhereLength, yinto, ykLoad, ypart⟩ := v
  have J := I
  obtain ⟨L, h1, h2, h3, h4, hP, hC, hS, hT⟩ := I
  rcases pk_ix v1 (n := 3) (by decide) with z | z | ⟨s, hs, rfl⟩
  · unfold wpX_keep wpY_keep
    exact xi_f (n := 3) (Or.inl z) (br_t rfl (wi_f (n := 3) (Or.inl z) (br_t rfl ⟨rfl, J⟩)))
  · unfold wpX_keep wpY_keep
    exact xi_f (n := 3) (Or.inr z) (br_t rfl (wi_f (n := 3) (Or.inr z) (br_t rfl ⟨rfl, J⟩)))
  · refine ke_X hs (ke_Y hs ⟨rfl, ?_⟩)
    obtain ⟨p1, p2, p3, p4, p5, p6, p7, p8, p9, pa, pb, pc, pd⟩ := hP
    have hz : ∀ b, b < 16 → sz_f xsizes b ≤ 24 := fun b hb => (rg_at pa (by decide) (by omega)).2
    have e : ∀ b, b < 4 + 4 * s ∨ 8 + 4 * s ≤ b → sz_f (cy_f 0 (4 + 4 * s) 4 xsizes xsizes) b = sz_f xsizes b := fun b hb => by
      unfold sz_f
      rw [cy_out (by omega)]
    have e2 : ∀ m, m < 4 → sz_f (cy_f 0 (4 + 4 * s) 4 xsizes xsizes) (4 + 4 * s + m) = sz_f xsizes m := fun m hm => by
      unfold sz_f
      rw [cy_in (by omega) (by omega), Nat.zero_add, Nat.add_sub_cancel_left]
    refine ⟨L, h1, h2, h3, h4, ⟨bk_keep (c := 1) (T := 4 * s) p1 (by omega), bk_keep (c := 1) (T := 4 * s) p2 (by omega), bk_keep (c := 24) (T := 96 * s) p3 (by omega), bk_keep (c := 24) (T := 96 * s) p4 (by omega), bk_keep (c := 24) (T := 96 * s) p5 (by omega), bk_keep (c := 24) (T := 96 * s) p6 (by omega), bk_keep (c := 3) (T := 12 * s) p7 (by omega), bk_keep (c := 3) (T := 12 * s) p8 (by omega), bk_keep (c := 3) (T := 12 * s) p9 (by omega), rg_cy pa (by omega), rg_cy pb (by omega), rg_cy pc (by omega), rg_cy pd (by omega)⟩,
      ⟨ct_keep1 hC.1 hs hz e e2, ct_keep1 hC.2.1 hs hz e e2, ct_keep4 hC.2.2.1 hs hz e e2, ?_⟩, hS, ?_⟩
    · intro s' hs'
      by_cases z : s' = s
      · subst z
        rw [pk_us, pk_us, pk_us, pk_us, kp_b1]
        refine ⟨rfl, Or.inr rfl, L, h1, h2, h3, fun j hj => ?_⟩
        obtain ⟨t, a, b⟩ := hT j hj
        rw [cy_in (by omega) (by omega), Nat.zero_add, Nat.add_sub_cancel_left]
        exact ⟨t, by omega, a⟩
      · obtain ⟨g1, g2, K, g3, g4, g5, g6⟩ := hC.2.2.2 s' hs'
        rw [pk_un z, pk_un z, pk_un z, pk_un z]
        refine ⟨g1, g2, K, g3, g4, g5, fun j hj => ?_⟩
        rw [cy_out (by omega)]
        exact g6 j hj
    · intro j hj
      rw [cy_out (by omega)]
      exact hT j hj
end
section
/-! part 24: merge -/
theorem pk_sub_toInt {a b : Nat} (ha : a < 2 ^ 30) (hb : b < 2 ^ 30) : (nI a - nI b).toInt = (a : Int) - b := by
  rw [Int32.toInt_sub, nI_toInt (by omega), nI_toInt (by omega)]
  exact Int.bmod_eq_of_le (by omega) (by omega)
theorem ml_le {K L : Nat} (hK : K ≤ 1000000200) (hL : L ≤ 1000000200) : nI K ≤ 1000000000 - nI L ↔ K + L ≤ 1000000000 := by
  have e : ((1000000000 : Int32) - nI L).toInt = ((1000000000 : Nat) : Int) - L := pk_sub_toInt (a := 1000000000) (by decide) (by omega)
  rw [Int32.le_iff_toInt_le, e, nI_toInt (by omega)]
  omega
/-- what the taken counts may have become when methods below m are merged -/
def mb_R (m L K : Nat) (tk : Nat → Int32) : Prop := ∀ j, j < 384 → ∃ t, tk j = nI t ∧ (j < 96 * m → t ≤ L + K) ∧ (96 * m ≤ j → t ≤ L)
theorem mb_0 {L K : Nat} {tk : Nat → Int32} (h : tb_R 0 L tk) : mb_R 0 L K tk := fun j hj => by
  obtain ⟨t, a, b⟩ := h j hj
  exact ⟨t, a, fun z => absurd z (by omega), fun _ => by omega⟩
theorem mb_4 {L K : Nat} {tk : Nat → Int32} (h : mb_R 4 L K tk) : tb_R 0 (L + K) tk := fun j hj => by
  obtain ⟨t, a, b, c⟩ := h j hj
  have := b (by omega)
  exact ⟨t, a, by omega⟩
theorem mb_s {m L K : Nat} {tk : Nat → Int32} (h : mb_R m L K tk) : mb_R (m + 1) L K tk := fun j hj => by
  obtain ⟨t, a, b, c⟩ := h j hj
  refine ⟨t, a, fun z => ?_, fun z => c (by omega)⟩
  rcases Nat.lt_or_ge j (96 * m) with y | y
  · exact b y
  · have := c y
    omega
theorem mb_a {s m L K : Nat} {tk : Nat → Int32} (hm : m < 4) (h : mb_R m L K tk) (hk : kt_R s K tk) : mb_R (m + 1) L K (ad_f (96 * (4 + 4 * s + m)) (96 * m) 96 tk tk) := fun j hj => by
  obtain ⟨t, a, b, c⟩ := h j hj
  by_cases w : 96 * m ≤ j ∧ j < 96 * m + 96
  · obtain ⟨t', a', b'⟩ := hk j hj
    rw [ad_in w.1 w.2, show 96 * (4 + 4 * s + m) + (j - 96 * m) = 384 + 384 * s + j from by omega, a, b', nI_add]
    have := c w.1
    exact ⟨t + t', rfl, fun _ => by omega, fun z => absurd z (by omega)⟩
  · rw [ad_out (by omega)]
    exact ⟨t, a, fun z => b (by omega), fun z => c (by omega)⟩
section
variable {xdepth xsignal xcarried xlatest xload : Int32} {xsizes xops xargsA xargsB xlines xguards xfroms xtos xats xbegunCounts xthrownCounts xtakenCounts xslotUsed xslotLoad xstretchNumber xstretchGone xstretchRow xatWork xplace xvariables xrow xpart : Nat → Int32} {xstretchWays xrowWays xwayOn : Nat → Int64}
variable {ydepth ysteps yresult youtcome yload yover : Int32} {yop ya yb yline ylength yfrom yto yat yhandlers ybegun ytaken ythrown yrowI yrowWay yrowLength ytimes ytold ykOp ykA ykB ykLine ykLength ykFrom ykTo ykAt ykHandlers ykBegun ykTaken ykThrown ykept ymethod ypc yvariable yhereI yhereWay yhereLength yinto ykLoad ypart : Nat → Int32}
def sx_24 (xops xargsA xargsB xlines : Nat → Int32) (m b i : Nat) : Prop := xops (24 * m + i) = xops (24 * b + i) ∧ xargsA (24 * m + i) = xargsA (24 * b + i) ∧ xargsB (24 * m + i) = xargsB (24 * b + i) ∧ xlines (24 * m + i) = xlines (24 * b + i)
def sx_3 (xfroms xtos xats : Nat → Int32) (m b i : Nat) : Prop := xfroms (3 * m + i) = xfroms (3 * b + i) ∧ xtos (3 * m + i) = xtos (3 * b + i) ∧ xats (3 * m + i) = xats (3 * b + i)
theorem sx_0 {post : Int32 → Prop} {x1 x2 x4 : Int32} {n : Nat} (hp : post 0) : wX_sameProgram_155 post x1 x2 xdepth xsignal xcarried xlatest xload xsizes xops xargsA xargsB xlines xguards xfroms xtos xats xbegunCounts xthrownCounts xtakenCounts xslotUsed xslotLoad xstretchNumber xstretchGone xstretchRow xstretchWays xatWork xplace xvariables xrow xrowWays xwayOn xpart (n + 1) 0 x4 := by
  rw [wX_sameProgram_155]
  exact br_t rfl ⟨rfl, hp⟩
theorem sx_00 {post : Int32 → Prop} {x1 x2 x4 : Int32} {n : Nat} (hp : post 0) : wX_sameProgram_39 post x1 x2 xdepth xsignal xcarried xlatest xload xsizes xops xargsA xargsB xlines xguards xfroms xtos xats xbegunCounts xthrownCounts xtakenCounts xslotUsed xslotLoad xstretchNumber xstretchGone xstretchRow xstretchWays xatWork xplace xvariables xrow xrowWays xwayOn xpart (n + 1) 0 x4 := by
  rw [wX_sameProgram_39]
  exact br_t rfl ⟨0 + 1, sx_0 hp⟩
theorem sx_L3 {post : Int32 → Prop} {m b g : Nat} (hm : m < 17) (hb : b < 17) (hg : xguards m = nI g) (hg3 : g ≤ 3) : ∀ e j, j + e = g → ((∀ q, j ≤ q → q < g → sx_3 xfroms xtos xats m b q) → post 1) → (¬ (∀ q, j ≤ q → q < g → sx_3 xfroms xtos xats m b q) → post 0) →
    wX_sameProgram_155 post (nI m) (nI b) xdepth xsignal xcarried xlatest xload xsizes xops xargsA xargsB xlines xguards xfroms xtos xats xbegunCounts xthrownCounts xtakenCounts xslotUsed xslotLoad xstretchNumber xstretchGone xstretchRow xstretchWays xatWork xplace xvariables xrow xrowWays xwayOn xpart (e + 1) 1 (nI j) := by
  have cm : (nI m).toNatClampNeg = m := nI_clamp (by omega)
  have wm : vp_in (nI m) 17 := vp_in_nI hm (by decide)
  intro e
  induction e with
  | zero =>
    intro j hj h1 h0
    rw [wX_sameProgram_155]
    refine br_f (by decide) ⟨wm, ?_⟩
    rw [cm, hg]
    exact br_t (nI_le (by omega) (by omega)) ⟨rfl, h1 (fun q a b => absurd b (by omega))⟩
  | succ e ih =>
    intro j hj h1 h0
    have ws : vp_in (nI (3 * m + j)) 51 := vp_in_nI (by omega) (by decide)
    have wt : vp_in (nI (3 * b + j)) 51 := vp_in_nI (by omega) (by decide)
    rw [wX_sameProgram_155]
    refine br_f (by decide) ⟨wm, ?_⟩
    rw [cm, hg]
    refine br_f (nI_ge (by omega) (by omega)) (nm_r (ix_3 m j) (nm_r (ix_3 b j) ⟨ws, wt, ?_⟩))
    rw [nI_clamp (n := 3 * m + j) (by omega), nI_clamp (n := 3 * b + j) (by omega)]
    have bad : ¬ sx_3 xfroms xtos xats m b j → post 0 := fun y => h0 (fun z => y (z j (Nat.le_refl j) (by omega)))
    by_cases a1 : xfroms (3 * m + j) = xfroms (3 * b + j)
    · by_cases a2 : xtos (3 * m + j) = xtos (3 * b + j)
      · by_cases a3 : xats (3 * m + j) = xats (3 * b + j)
        · refine br_t a1 ⟨ws, wt, br_t a2 ⟨ws, wt, br_t a3 (nm_r (nI_1 j) (ih (j + 1) (by omega) (fun y => h1 (fun q p1 p2 => ?_)) (fun y => h0 (fun z => y (fun q p1 p2 => z q (by omega) p2)))))⟩⟩
          rcases Nat.lt_or_ge j q with v | v
          · exact y q v p2
          · have eq : q = j := by omega
            rw [eq]; exact ⟨a1, a2, a3⟩
        · exact br_t a1 ⟨ws, wt, br_t a2 ⟨ws, wt, br_f a3 (nm_e (sx_0 (bad (fun y => a3 y.2.2))))⟩⟩
      · exact br_t a1 ⟨ws, wt, br_f a2 (nm_e (sx_0 (bad (fun y => a2 y.2.1))))⟩
    · exact br_f a1 (nm_e (sx_0 (bad (fun y => a1 y.1))))
theorem sx_L24 {post : Int32 → Prop} {m b g z : Nat} (hm : m < 17) (hb : b < 17) (hz : xsizes m = nI z) (hz24 : z ≤ 24) (hg : xguards m = nI g) (hg3 : g ≤ 3) : ∀ e j, j + e = z → (((∀ q, j ≤ q → q < z → sx_24 xops xargsA xargsB xlines m b q) ∧ (∀ q, q < g → sx_3 xfroms xtos xats m b q)) → post 1) → (¬ ((∀ q, j ≤ q → q < z → sx_24 xops xargsA xargsB xlines m b q) ∧ (∀ q, q < g → sx_3 xfroms xtos xats m b q)) → post 0) →
    wX_sameProgram_39 post (nI m) (nI b) xdepth xsignal xcarried xlatest xload xsizes xops xargsA xargsB xlines xguards xfroms xtos xats xbegunCounts xthrownCounts xtakenCounts xslotUsed xslotLoad xstretchNumber xstretchGone xstretchRow xstretchWays xatWork xplace xvariables xrow xrowWays xwayOn xpart (e + 1) 1 (nI j) := by
  have cm : (nI m).toNatClampNeg = m := nI_clamp (by omega)
  have wm : vp_in (nI m) 17 := vp_in_nI hm (by decide)
  intro e
  induction e with
  | zero =>
    intro j hj h1 h0
    rw [wX_sameProgram_39]
    refine br_f (by decide) ⟨wm, ?_⟩
    rw [cm, hz]
    refine br_t (nI_le (by omega) (by omega)) ⟨g + 1, sx_L3 hm hb hg hg3 g 0 (by omega) (fun y => h1 ⟨fun q a b => absurd b (by omega), fun q hq => y q (by omega) hq⟩) (fun y => h0 (fun w => y (fun q _ hq => w.2 q hq)))⟩
  | succ e ih =>
    intro j hj h1 h0
    have ws : vp_in (nI (24 * m + j)) 408 := vp_in_nI (by omega) (by decide)
    have wt : vp_in (nI (24 * b + j)) 408 := vp_in_nI (by omega) (by decide)
    rw [wX_sameProgram_39]
    refine br_f (by decide) ⟨wm, ?_⟩
    rw [cm, hz]
    refine br_f (nI_ge (by omega) (by omega)) (nm_r (ix_24 m j) (nm_r (ix_24 b j) ⟨ws, wt, ?_⟩))
    rw [nI_clamp (n := 24 * m + j) (by omega), nI_clamp (n := 24 * b + j) (by omega)]
    have bad : ¬ sx_24 xops xargsA xargsB xlines m b j → post 0 := fun y => h0 (fun w => y (w.1 j (Nat.le_refl j) (by omega)))
    by_cases a1 : xops (24 * m + j) = xops (24 * b + j)
    · by_cases a2 : xargsA (24 * m + j) = xargsA (24 * b + j)
      · by_cases a3 : xargsB (24 * m + j) = xargsB (24 * b + j)
        · by_cases a4 : xlines (24 * m + j) = xlines (24 * b + j)
          · refine br_t a1 ⟨ws, wt, br_t a2 ⟨ws, wt, br_t a3 ⟨ws, wt, br_t a4 (nm_r (nI_1 j) (ih (j + 1) (by omega) (fun y => h1 ⟨fun q p1 p2 => ?_, y.2⟩) (fun y => h0 (fun w => y ⟨fun q p1 p2 => w.1 q (by omega) p2, w.2⟩))))⟩⟩⟩
            rcases Nat.lt_or_ge j q with v | v
            · exact y.1 q v p2
            · have eq : q = j := by omega
              rw [eq]; exact ⟨a1, a2, a3, a4⟩
          · exact br_t a1 ⟨ws, wt, br_t a2 ⟨ws, wt, br_t a3 ⟨ws, wt, br_f a4 (nm_e (sx_00 (bad (fun y => a4 y.2.2.2))))⟩⟩⟩
        · exact br_t a1 ⟨ws, wt, br_t a2 ⟨ws, wt, br_f a3 (nm_e (sx_00 (bad (fun y => a3 y.2.2.1))))⟩⟩
      · exact br_t a1 ⟨ws, wt, br_f a2 (nm_e (sx_00 (bad (fun y => a2 y.2.1))))⟩
    · exact br_f a1 (nm_e (sx_00 (bad (fun y => a1 y.1))))
/-- sameProgram of the class -/
theorem sx_R {post : Int32 → Prop} {m b g z : Nat} (hm : m < 17) (hb : b < 17) (hz : xsizes m = nI z) (hz24 : z ≤ 24) (hg : xguards m = nI g) (hg3 : g ≤ 3)
    (h1 : (xsizes m = xsizes b ∧ xguards m = xguards b ∧ (∀ q, q < z → sx_24 xops xargsA xargsB xlines m b q) ∧ (∀ q, q < g → sx_3 xfroms xtos xats m b q)) → post 1)
    (h0 : ¬ (xsizes m = xsizes b ∧ xguards m = xguards b ∧ (∀ q, q < z → sx_24 xops xargsA xargsB xlines m b q) ∧ (∀ q, q < g → sx_3 xfroms xtos xats m b q)) → post 0) : wpX_sameProgram post (xdepth, xsignal, xcarried, xlatest, xload, xsizes, xops, xargsA, xargsB, xlines, xguards, xfroms, xtos, xats, xbegunCounts, xthrownCounts, xtakenCounts, xslotUsed, xslotLoad, xstretchNumber, xstretchGone, xstretchRow, xstretchWays, xatWork, xplace, xvariables, xrow, xrowWays, xwayOn, xpart) (nI m) (nI b) := by
  have cm : (nI m).toNatClampNeg = m := nI_clamp (by omega)
  have wm : vp_in (nI m) 17 := vp_in_nI hm (by decide)
  have cb : (nI b).toNatClampNeg = b := nI_clamp (by omega)
  have wb : vp_in (nI b) 17 := vp_in_nI hb (by decide)
  unfold wpX_sameProgram
  dsimp only
  rw [cm, cb]
  refine ⟨wm, wb, ?_⟩
  by_cases a1 : xsizes m = xsizes b
  · refine br_t a1 ⟨wm, wb, ?_⟩
    by_cases a2 : xguards m = xguards b
    · refine br_t a2 ⟨z + 1, sx_L24 hm hb hz hz24 hg hg3 z 0 (by omega) (fun y => h1 ⟨a1, a2, fun q hq => y.1 q (by omega) hq, y.2⟩) (fun y => h0 (fun w => y ⟨fun q _ hq => w.2.2.1 q hq, w.2.2.2⟩))⟩
    · exact br_f a2 ⟨0 + 1, sx_00 (h0 (fun w => a2 w.2.1))⟩
  · exact br_f a1 ⟨0 + 1, sx_00 (h0 (fun w => a1 w.1))⟩
def sy_24 (yop ya yb yline ykOp ykA ykB ykLine : Nat → Int32) (s m i : Nat) : Prop := ykOp (96 * s + (24 * m + i)) = yop (24 * m + i) ∧ ykA (96 * s + (24 * m + i)) = ya (24 * m + i) ∧ ykB (96 * s + (24 * m + i)) = yb (24 * m + i) ∧ ykLine (96 * s + (24 * m + i)) = yline (24 * m + i)
def sy_3 (yfrom yto yat ykFrom ykTo ykAt : Nat → Int32) (s m i : Nat) : Prop := ykFrom (12 * s + (3 * m + i)) = yfrom (3 * m + i) ∧ ykTo (12 * s + (3 * m + i)) = yto (3 * m + i) ∧ ykAt (12 * s + (3 * m + i)) = yat (3 * m + i)
theorem sy_L3 {post : Int32 → Prop} {s m g : Nat} (hs : s < 3) (hm : m < 4) (hg : yhandlers m = nI g) (hg3 : g ≤ 3) : ∀ e j, j + e = g → ((∀ q, j ≤ q → q < g → sy_3 yfrom yto yat ykFrom ykTo ykAt s m q) → post 1) → (¬ (∀ q, j ≤ q → q < g → sy_3 yfrom yto yat ykFrom ykTo ykAt s m q) → post 0) →
    wY_isKept_153 post (nI s) (nI m) ydepth ysteps yresult youtcome yload yover yop ya yb yline ylength yfrom yto yat yhandlers ybegun ytaken ythrown yrowI yrowWay yrowLength ytimes ytold ykOp ykA ykB ykLine ykLength ykFrom ykTo ykAt ykHandlers ykBegun ykTaken ykThrown ykept ymethod ypc yvariable yhereI yhereWay yhereLength yinto ykLoad ypart (e + 1) (nI (3 * m + j)) := by
  have cm : (nI m).toNatClampNeg = m := nI_clamp (by omega)
  have wm : vp_in (nI m) 5 := vp_in_nI (by omega) (by decide)
  intro e
  induction e with
  | zero =>
    intro j hj h1 h0
    rw [wY_isKept_153]
    refine ⟨wm, ?_⟩
    rw [cm, hg, iy_3]
    exact br_t (nI_le (by omega) (by omega)) (h1 (fun q a b => absurd b (by omega)))
  | succ e ih =>
    intro j hj h1 h0
    have ws : vp_in (nI (3 * m + j)) 15 := vp_in_nI (by omega) (by decide)
    have wt : vp_in (nI (12 * s + (3 * m + j))) 36 := vp_in_nI (by omega) (by decide)
    rw [wY_isKept_153]
    refine ⟨wm, ?_⟩
    rw [cm, hg, iy_3]
    refine br_f (nI_ge (by omega) (by omega)) (nm_r (iy_12 s (3 * m + j)) ⟨wt, ws, ?_⟩)
    rw [nI_clamp (n := 3 * m + j) (by omega), nI_clamp (n := 12 * s + (3 * m + j)) (by omega)]
    have bad : ¬ sy_3 yfrom yto yat ykFrom ykTo ykAt s m j → post 0 := fun y => h0 (fun z => y (z j (Nat.le_refl j) (by omega)))
    by_cases a1 : ykFrom (12 * s + (3 * m + j)) = yfrom (3 * m + j)
    · by_cases a2 : ykTo (12 * s + (3 * m + j)) = yto (3 * m + j)
      · by_cases a3 : ykAt (12 * s + (3 * m + j)) = yat (3 * m + j)
        · refine br_t a1 ⟨wt, ws, br_t a2 ⟨wt, ws, br_t a3 (nm_r (nI_1 _) (ih (j + 1) (by omega) (fun y => h1 (fun q p1 p2 => ?_)) (fun y => h0 (fun z => y (fun q p1 p2 => z q (by omega) p2)))))⟩⟩
          rcases Nat.lt_or_ge j q with v | v
          · exact y q v p2
          · have eq : q = j := by omega
            rw [eq]; exact ⟨a1, a2, a3⟩
        · exact br_t a1 ⟨wt, ws, br_t a2 ⟨wt, ws, br_f a3 (bad (fun y => a3 y.2.2))⟩⟩
      · exact br_t a1 ⟨wt, ws, br_f a2 (bad (fun y => a2 y.2.1))⟩
    · exact br_f a1 (bad (fun y => a1 y.1))
theorem sy_L24 {post : Int32 → Prop} {s m g z : Nat} (hs : s < 3) (hm : m < 4) (hz : ylength m = nI z) (hz24 : z ≤ 24) (hg : yhandlers m = nI g) (hg3 : g ≤ 3) : ∀ e j, j + e = z → (((∀ q, j ≤ q → q < z → sy_24 yop ya yb yline ykOp ykA ykB ykLine s m q) ∧ (∀ q, q < g → sy_3 yfrom yto yat ykFrom ykTo ykAt s m q)) → post 1) → (¬ ((∀ q, j ≤ q → q < z → sy_24 yop ya yb yline ykOp ykA ykB ykLine s m q) ∧ (∀ q, q < g → sy_3 yfrom yto yat ykFrom ykTo ykAt s m q)) → post 0) →
    wY_isKept_54 post (nI s) (nI m) ydepth ysteps yresult youtcome yload yover yop ya yb yline ylength yfrom yto yat yhandlers ybegun ytaken ythrown yrowI yrowWay yrowLength ytimes ytold ykOp ykA ykB ykLine ykLength ykFrom ykTo ykAt ykHandlers ykBegun ykTaken ykThrown ykept ymethod ypc yvariable yhereI yhereWay yhereLength yinto ykLoad ypart (e + 1) (nI (24 * m + j)) := by
  have cm : (nI m).toNatClampNeg = m := nI_clamp (by omega)
  have wm : vp_in (nI m) 5 := vp_in_nI (by omega) (by decide)
  intro e
  induction e with
  | zero =>
    intro j hj h1 h0
    rw [wY_isKept_54]
    refine ⟨wm, ?_⟩
    rw [cm, hz, iy_24]
    refine br_t (nI_le (by omega) (by omega)) (nm_r (e' := nI (3 * m)) (pk_mul 3 m) ⟨g + 1, sy_L3 hs hm hg hg3 g 0 (by omega) (fun y => h1 ⟨fun q a b => absurd b (by omega), fun q hq => y q (by omega) hq⟩) (fun y => h0 (fun w => y (fun q _ hq => w.2 q hq)))⟩)
  | succ e ih =>
    intro j hj h1 h0
    have ws : vp_in (nI (24 * m + j)) 120 := vp_in_nI (by omega) (by decide)
    have wt : vp_in (nI (96 * s + (24 * m + j))) 288 := vp_in_nI (by omega) (by decide)
    rw [wY_isKept_54]
    refine ⟨wm, ?_⟩
    rw [cm, hz, iy_24]
    refine br_f (nI_ge (by omega) (by omega)) (nm_r (iy_96 s (24 * m + j)) ⟨wt, ws, ?_⟩)
    rw [nI_clamp (n := 24 * m + j) (by omega), nI_clamp (n := 96 * s + (24 * m + j)) (by omega)]
    have bad : ¬ sy_24 yop ya yb yline ykOp ykA ykB ykLine s m j → post 0 := fun y => h0 (fun w => y (w.1 j (Nat.le_refl j) (by omega)))
    by_cases a1 : ykOp (96 * s + (24 * m + j)) = yop (24 * m + j)
    · by_cases a2 : ykA (96 * s + (24 * m + j)) = ya (24 * m + j)
      · by_cases a3 : ykB (96 * s + (24 * m + j)) = yb (24 * m + j)
        · by_cases a4 : ykLine (96 * s + (24 * m + j)) = yline (24 * m + j)
          · refine br_t a1 ⟨wt, ws, br_t a2 ⟨wt, ws, br_t a3 ⟨wt, ws, br_t a4 (nm_r (nI_1 _) (ih (j + 1) (by omega) (fun y => h1 ⟨fun q p1 p2 => ?_, y.2⟩) (fun y => h0 (fun w => y ⟨fun q p1 p2 => w.1 q (by omega) p2, w.2⟩))))⟩⟩⟩
            rcases Nat.lt_or_ge j q with v | v
            · exact y.1 q v p2
            · have eq : q = j := by omega
              rw [eq]; exact ⟨a1, a2, a3, a4⟩
          · exact br_t a1 ⟨wt, ws, br_t a2 ⟨wt, ws, br_t a3 ⟨wt, ws, br_f a4 (bad (fun y => a4 y.2.2.2))⟩⟩⟩
        · exact br_t a1 ⟨wt, ws, br_t a2 ⟨wt, ws, br_f a3 (bad (fun y => a3 y.2.2.1))⟩⟩
      · exact br_t a1 ⟨wt, ws, br_f a2 (bad (fun y => a2 y.2.1))⟩
    · exact br_f a1 (bad (fun y => a1 y.1))
/-- isKept of the reference -/
theorem sy_R {post : Int32 → Prop} {s m g z : Nat} (hs : s < 3) (hm : m < 4) (hz : ylength m = nI z) (hz0 : 0 < z) (hz24 : z ≤ 24) (hg : yhandlers m = nI g) (hg3 : g ≤ 3)
    (h1 : (ykLength (4 * s + m) = ylength m ∧ ykHandlers (4 * s + m) = yhandlers m ∧ (∀ q, q < z → sy_24 yop ya yb yline ykOp ykA ykB ykLine s m q) ∧ (∀ q, q < g → sy_3 yfrom yto yat ykFrom ykTo ykAt s m q)) → post 1)
    (h0 : ¬ (ykLength (4 * s + m) = ylength m ∧ ykHandlers (4 * s + m) = yhandlers m ∧ (∀ q, q < z → sy_24 yop ya yb yline ykOp ykA ykB ykLine s m q) ∧ (∀ q, q < g → sy_3 yfrom yto yat ykFrom ykTo ykAt s m q)) → post 0) : wpY_isKept post (ydepth, ysteps, yresult, youtcome, yload, yover, yop, ya, yb, yline, ylength, yfrom, yto, yat, yhandlers, ybegun, ytaken, ythrown, yrowI, yrowWay, yrowLength, ytimes, ytold, ykOp, ykA, ykB, ykLine, ykLength, ykFrom, ykTo, ykAt, ykHandlers, ykBegun, ykTaken, ykThrown, ykept, ymethod, ypc, yvariable, yhereI, yhereWay, yhereLength, yinto, ykLoad, ypart) (nI s) (nI m) := by
  have cm : (nI m).toNatClampNeg = m := nI_clamp (by omega)
  have wm : vp_in (nI m) 5 := vp_in_nI (by omega) (by decide)
  have wk : vp_in (4 * nI s + nI m) 12 := ix_in (iy_4 s m) (by omega) (by decide)
  unfold wpY_isKept
  dsimp only
  rw [cm, ix_cl (iy_4 s m) (by omega)]
  refine ⟨wm, br_f (by rw [hz]; exact nI_ne0 hz0 (by omega)) ⟨wk, wm, ?_⟩⟩
  by_cases a1 : ykLength (4 * s + m) = ylength m
  · refine br_t a1 ⟨wk, wm, ?_⟩
    by_cases a2 : ykHandlers (4 * s + m) = yhandlers m
    · refine br_t a2 (nm_r (e' := nI (24 * m)) (pk_mul 24 m) ⟨z + 1, sy_L24 hs hm hz hz24 hg hg3 z 0 (by omega) (fun y => h1 ⟨a1, a2, fun q hq => y.1 q (by omega) hq, y.2⟩) (fun y => h0 (fun w => y ⟨fun q _ hq => w.2.2.1 q hq, w.2.2.2⟩))⟩)
    · exact br_f a2 (h0 (fun w => a2 w.2.1))
  · exact br_f a1 (h0 (fun w => a1 w.1))
/-- join of the reference, at instruction i of method m -/
theorem jn_Y {post : SY → Prop} {s m i : Nat} (hs : s < 3) (hm : m < 4) (hi : i < 24)
    (h : post (ydepth, ysteps, yresult, youtcome, yload, yover, yop, ya, yb, yline, ylength, yfrom, yto, yat, yhandlers, ad_f (24 * (4 * s + m)) (24 * m) (i + 1) ybegun ykBegun, ad_f (96 * (4 * s + m)) (96 * m) (4 * (i + 1)) ytaken ykTaken, ad_f (24 * (4 * s + m)) (24 * m) (i + 1) ythrown ykThrown, yrowI, yrowWay, yrowLength, ytimes, ytold, ykOp, ykA, ykB, ykLine, ykLength, ykFrom, ykTo, ykAt, ykHandlers, ykBegun, ykTaken, ykThrown, ykept, ymethod, ypc, yvariable, yhereI, yhereWay, yhereLength, yinto, ykLoad, ypart)) :
    wpY_join post (ydepth, ysteps, yresult, youtcome, yload, yover, yop, ya, yb, yline, ylength, yfrom, yto, yat, yhandlers, ad_f (24 * (4 * s + m)) (24 * m) i ybegun ykBegun, ad_f (96 * (4 * s + m)) (96 * m) (4 * i) ytaken ykTaken, ad_f (24 * (4 * s + m)) (24 * m) i ythrown ykThrown, yrowI, yrowWay, yrowLength, ytimes, ytold, ykOp, ykA, ykB, ykLine, ykLength, ykFrom, ykTo, ykAt, ykHandlers, ykBegun, ykTaken, ykThrown, ykept, ymethod, ypc, yvariable, yhereI, yhereWay, yhereLength, yinto, ykLoad, ypart) (nI (24 * (4 * s + m) + i)) (nI (24 * m + i)) := by
  have H : ∀ e k, k + e = 4 → wY_join_32 post (nI (24 * (4 * s + m) + i)) (nI (24 * m + i)) ydepth ysteps yresult youtcome yload yover (e + 1) (nI k) yop ya yb yline ylength yfrom yto yat yhandlers (ad_f (24 * (4 * s + m)) (24 * m) (i + 1) ybegun ykBegun) (ad_f (96 * (4 * s + m)) (96 * m) (4 * i + k) ytaken ykTaken) (ad_f (24 * (4 * s + m)) (24 * m) (i + 1) ythrown ykThrown) yrowI yrowWay yrowLength ytimes ytold ykOp ykA ykB ykLine ykLength ykFrom ykTo ykAt ykHandlers ykBegun ykTaken ykThrown ykept ymethod ypc yvariable yhereI yhereWay yhereLength yinto ykLoad ypart := by
    intro e
    induction e with
    | zero =>
      intro k hk
      have z : k = 4 := by omega
      subst z
      rw [wY_join_32]
      exact br_t (by decide) h
    | succ e ih =>
      intro k hk
      have h2 := ih (k + 1) (by omega)
      rw [wY_join_32]
      refine br_f (nI_ge (b := 4) (by omega) (by decide)) ?_
      rw [ix_cl (iy_z m i k) (by omega), ix_cl (iy_z (4 * s + m) i k) (by omega)]
      exact ⟨ix_in (iy_z m i k) (by omega) (by decide), ix_in (iy_z (4 * s + m) i k) (by omega) (by decide), ix_in (iy_z m i k) (by omega) (by decide), nm_r ad_s (nm_r (nI_1 k) h2)⟩
  have c1 : (nI (24 * m + i)).toNatClampNeg = 24 * m + i := nI_clamp (by omega)
  have c2 : (nI (24 * (4 * s + m) + i)).toNatClampNeg = 24 * (4 * s + m) + i := nI_clamp (by omega)
  have w1 : vp_in (nI (24 * m + i)) 96 := vp_in_nI (by omega) (by decide)
  have w2 : vp_in (nI (24 * (4 * s + m) + i)) 288 := vp_in_nI (by omega) (by decide)
  unfold wpY_join
  dsimp only
  rw [c1, c2]
  exact ⟨w1, w2, w1, nm_r ad_s ⟨w1, w2, w1, nm_r ad_s ⟨_, H 4 0 rfl⟩⟩⟩
theorem mj_Y {post : Int32 → SY → Prop} {J : _} {x2 : Int32} {s m z : Nat} (hs : s < 3) (hm : m < 4) (hz : ylength m = nI z) (hz24 : z ≤ 24)
    (h : J x2 (nI (m + 1)) ydepth ysteps yresult youtcome yload yover yop ya yb yline ylength yfrom yto yat yhandlers (ad_f (24 * (4 * s + m)) (24 * m) z ybegun ykBegun) (ad_f (96 * (4 * s + m)) (96 * m) (4 * z) ytaken ykTaken) (ad_f (24 * (4 * s + m)) (24 * m) z ythrown ykThrown) yrowI yrowWay yrowLength ytimes ytold ykOp ykA ykB ykLine ykLength ykFrom ykTo ykAt ykHandlers ykBegun ykTaken ykThrown ykept ymethod ypc yvariable yhereI yhereWay yhereLength yinto ykLoad ypart) :
    ∀ e i, i + e = z → wY_merge_80 post J (nI s) x2 (nI m) (e + 1) (nI (24 * m + i)) ydepth ysteps yresult youtcome yload yover yop ya yb yline ylength yfrom yto yat yhandlers (ad_f (24 * (4 * s + m)) (24 * m) i ybegun ykBegun) (ad_f (96 * (4 * s + m)) (96 * m) (4 * i) ytaken ykTaken) (ad_f (24 * (4 * s + m)) (24 * m) i ythrown ykThrown) yrowI yrowWay yrowLength ytimes ytold ykOp ykA ykB ykLine ykLength ykFrom ykTo ykAt ykHandlers ykBegun ykTaken ykThrown ykept ymethod ypc yvariable yhereI yhereWay yhereLength yinto ykLoad ypart := by
  have cm : (nI m).toNatClampNeg = m := nI_clamp (by omega)
  have wm : vp_in (nI m) 5 := vp_in_nI (by omega) (by decide)
  intro e
  induction e with
  | zero =>
    intro i hi
    have q : i = z := by omega
    subst q
    rw [wY_merge_80]
    refine ⟨wm, ?_⟩
    rw [cm, hz, iy_24]
    exact br_t (nI_le (by omega) (by omega)) (nm_r (nI_1 m) h)
  | succ e ih =>
    intro i hi
    have h2 := ih (i + 1) (by omega)
    have ek : 96 * nI s + nI (24 * m + i) = nI (24 * (4 * s + m) + i) := by
      rw [iy_96]
      exact congrArg nI (by omega)
    rw [wY_merge_80]
    refine ⟨wm, ?_⟩
    rw [cm, hz, iy_24, ek]
    exact br_f (nI_ge (by omega) (by omega)) (jn_Y hs hm (by omega) (nm_r (nI_1 _) h2))
/-- the four methods -/
theorem mg_R {s L K : Nat} (hs : s < 3) (hP : (gp_R xsizes xops xargsA xargsB xlines xguards xfroms xtos xats yop ya yb yline ylength yfrom yto yat yhandlers ykOp ykA ykB ykLine ykLength ykFrom ykTo ykAt ykHandlers)) (hsl : xslotLoad s = nI K) :
    ∀ (e m c : Nat) (xB xH xT yB yH yT : Nat → Int32), m + e = 4 → ct_R 1 xsizes xB yB ykBegun → ct_R 1 xsizes xH yH ykThrown → ct_R 4 xsizes xT yT ykTaken → mb_R m L K xT → sl_R xslotUsed xslotLoad xT ykept ykLoad → kt_R s K xT →
      ∃ (r : Int32) (xB' xH' xT' yB' yH' yT' : Nat → Int32), ct_R 1 xsizes xB' yB' ykBegun ∧ ct_R 1 xsizes xH' yH' ykThrown ∧ ct_R 4 xsizes xT' yT' ykTaken ∧ mb_R 4 L K xT' ∧ sl_R xslotUsed xslotLoad xT' ykept ykLoad ∧
        (∀ post : Int32 → SX → Prop, post r (xdepth, xsignal, xcarried, xlatest, xload + nI K, xsizes, xops, xargsA, xargsB, xlines, xguards, xfroms, xtos, xats, xB', xH', xT', xslotUsed, xslotLoad, xstretchNumber, xstretchGone, xstretchRow, xstretchWays, xatWork, xplace, xvariables, xrow, xrowWays, xwayOn, xpart) → wX_merge_40 post (nI s) (e + 1) (nI c) (nI m) xdepth xsignal xcarried xlatest xload xsizes xops xargsA xargsB xlines xguards xfroms xtos xats xB xH xT xslotUsed xslotLoad xstretchNumber xstretchGone xstretchRow xstretchWays xatWork xplace xvariables xrow xrowWays xwayOn xpart) ∧
        (∀ post : Int32 → SY → Prop, post r (ydepth, ysteps, yresult, youtcome, yload, yover, yop, ya, yb, yline, ylength, yfrom, yto, yat, yhandlers, yB', yT', yH', yrowI, yrowWay, yrowLength, ytimes, ytold, ykOp, ykA, ykB, ykLine, ykLength, ykFrom, ykTo, ykAt, ykHandlers, ykBegun, ykTaken, ykThrown, ykept, ymethod, ypc, yvariable, yhereI, yhereWay, yhereLength, yinto, ykLoad, ypart) → wY_merge_54 post (nI s) (e + 1) (nI c) (nI m) ydepth ysteps yresult youtcome yload yover yop ya yb yline ylength yfrom yto yat yhandlers yB yT yH yrowI yrowWay yrowLength ytimes ytold ykOp ykA ykB ykLine ykLength ykFrom ykTo ykAt ykHandlers ykBegun ykTaken ykThrown ykept ymethod ypc yvariable yhereI yhereWay yhereLength yinto ykLoad ypart) := by
  have cs : (nI s).toNatClampNeg = s := nI_clamp (by omega)
  have ws : vp_in (nI s) 3 := vp_in_nI hs (by decide)
  obtain ⟨p1, p2, p3, p4, p5, p6, p7, p8, p9, pa, pb, pc, pd⟩ := id hP
  have hz : ∀ b, b < 16 → sz_f xsizes b ≤ 24 := fun b hb => (rg_at pa (by decide) (by omega)).2
  intro e
  induction e with
  | zero =>
    intro m c xB xH xT yB yH yT hm hB hH hT hM hU hK
    have q : m = 4 := by omega
    subst q
    refine ⟨nI c, xB, xH, xT, yB, yH, yT, hB, hH, hT, hM, hU, fun post h => ?_, fun post h => ?_⟩
    · rw [wX_merge_40]
      exact br_t (by decide) ⟨ws, nm_r (e' := xload + nI K) (by rw [cs, hsl]) h⟩
    · rw [wY_merge_54]
      exact br_t (by decide) h
  | succ e ih =>
    intro m c xB xH xT yB yH yT hm hB hH hT hM hU hK
    have hm4 : m < 4 := by omega
    obtain ⟨e1, e2, e3⟩ := gp_sz hP hm4
    obtain ⟨g1, g2, g3⟩ := gp_gd hP hm4
    have eb : (4 + nI s * 4) + nI m = nI (4 + 4 * s + m) := by
      rw [show nI s * 4 = nI (4 * s) from ix_c s 4, show (4 : Int32) + nI (4 * s) = nI (4 + 4 * s) from nI_add 4 _, nI_add]
    rcases Nat.eq_zero_or_pos (sz_f xsizes m) with y | y
    · -- no such method
      obtain ⟨r, a1, a2, a3, a4, a5, a6, k1, k2, k3, k4, k5, iX, iY⟩ := ih (m + 1) c xB xH xT yB yH yT (by omega) hB hH hT (mb_s hM) hU hK
      refine ⟨r, a1, a2, a3, a4, a5, a6, k1, k2, k3, k4, k5, fun post h => ?_, fun post h => ?_⟩
      · rw [wX_merge_40]
        refine br_f (nI_ge (b := 4) hm4 (by decide)) ?_
        unfold wpX_keptBank
        dsimp only
        exact it_f hP hm4 y (br_t rfl (nm_r (nI_1 m) (iX post h)))
      · rw [wY_merge_54]
        refine br_f (nI_ge (b := 4) hm4 (by decide)) ?_
        refine ⟨vp_in_nI (by omega) (by decide), br_t (by rw [nI_clamp (by omega), e2, y]; rfl) (br_t rfl (nm_r (nI_1 m) (iY post h)))⟩
    · -- is it as it was kept?
      have EQ : (xsizes m = xsizes (4 + 4 * s + m) ∧ xguards m = xguards (4 + 4 * s + m) ∧ (∀ q, q < sz_f xsizes m → sx_24 xops xargsA xargsB xlines m (4 + 4 * s + m) q) ∧ (∀ q, q < sz_f xguards m → sx_3 xfroms xtos xats m (4 + 4 * s + m) q)) ↔
          (ykLength (4 * s + m) = ylength m ∧ ykHandlers (4 * s + m) = yhandlers m ∧ (∀ q, q < sz_f xsizes m → sy_24 yop ya yb yline ykOp ykA ykB ykLine s m q) ∧ (∀ q, q < sz_f xguards m → sy_3 yfrom yto yat ykFrom ykTo ykAt s m q)) := by
        have r1 : ∀ {x y k : Nat → Int32}, bk_R 1 x y k → (x m = x (4 + 4 * s + m) ↔ k (4 * s + m) = y m) := by
          intro x y k hb
          have u1 := hb.1 m (by omega)
          have u2 := hb.2.2 (4 * s + m) (by omega)
          rw [show 4 * 1 + (4 * s + m) = 4 + 4 * s + m from by omega] at u2
          rw [u1, u2]
          exact eq_comm
        have r24 : ∀ {x y k : Nat → Int32}, bk_R 24 x y k → ∀ q, q < 24 → (x (24 * m + q) = x (24 * (4 + 4 * s + m) + q) ↔ k (96 * s + (24 * m + q)) = y (24 * m + q)) := by
          intro x y k hb q hq
          have u1 := hb.1 (24 * m + q) (by omega)
          have u2 := hb.2.2 (96 * s + (24 * m + q)) (by omega)
          rw [show 4 * 24 + (96 * s + (24 * m + q)) = 24 * (4 + 4 * s + m) + q from by omega] at u2
          rw [u1, u2]
          exact eq_comm
        have r3 : ∀ {x y k : Nat → Int32}, bk_R 3 x y k → ∀ q, q < 3 → (x (3 * m + q) = x (3 * (4 + 4 * s + m) + q) ↔ k (12 * s + (3 * m + q)) = y (3 * m + q)) := by
          intro x y k hb q hq
          have u1 := hb.1 (3 * m + q) (by omega)
          have u2 := hb.2.2 (12 * s + (3 * m + q)) (by omega)
          rw [show 4 * 3 + (12 * s + (3 * m + q)) = 3 * (4 + 4 * s + m) + q from by omega] at u2
          rw [u1, u2]
          exact eq_comm
        have t24 : ∀ q, q < sz_f xsizes m → (sx_24 xops xargsA xargsB xlines m (4 + 4 * s + m) q ↔ sy_24 yop ya yb yline ykOp ykA ykB ykLine s m q) := fun q hq => by
          unfold sx_24 sy_24
          rw [r24 p3 q (by omega), r24 p4 q (by omega), r24 p5 q (by omega), r24 p6 q (by omega)]
        have t3 : ∀ q, q < sz_f xguards m → (sx_3 xfroms xtos xats m (4 + 4 * s + m) q ↔ sy_3 yfrom yto yat ykFrom ykTo ykAt s m q) := fun q hq => by
          unfold sx_3 sy_3
          rw [r3 p7 q (by omega), r3 p8 q (by omega), r3 p9 q (by omega)]
        rw [r1 p1, r1 p2]
        constructor
        · intro ⟨b1, b2, b3, b4⟩
          exact ⟨b1, b2, fun q hq => (t24 q hq).mp (b3 q hq), fun q hq => (t3 q hq).mp (b4 q hq)⟩
        · intro ⟨b1, b2, b3, b4⟩
          exact ⟨b1, b2, fun q hq => (t24 q hq).mpr (b3 q hq), fun q hq => (t3 q hq).mpr (b4 q hq)⟩
      by_cases S : (xsizes m = xsizes (4 + 4 * s + m) ∧ xguards m = xguards (4 + 4 * s + m) ∧ (∀ q, q < sz_f xsizes m → sx_24 xops xargsA xargsB xlines m (4 + 4 * s + m) q) ∧ (∀ q, q < sz_f xguards m → sx_3 xfroms xtos xats m (4 + 4 * s + m) q))
      · have ez : sz_f xsizes (4 + (4 * s + m)) = sz_f xsizes m := by
          unfold sz_f
          rw [show 4 + (4 * s + m) = 4 + 4 * s + m from by omega, ← S.1]
        have n24 : 96 + 24 * (4 * s + m) = 24 * (4 + 4 * s + m) := by omega
        have n96 : 384 + 96 * (4 * s + m) = 96 * (4 + 4 * s + m) := by omega
        have hB' := ct_mrg1 hB hm4 (show 4 * s + m < 12 by omega) hz ez
        have hH' := ct_mrg1 hH hm4 (show 4 * s + m < 12 by omega) hz ez
        have hT' := ct_mrg4 hT hm4 (show 4 * s + m < 12 by omega) hz ez
        rw [n24] at hB' hH'
        rw [n96] at hT'
        have far : ∀ j, 384 ≤ j → ad_f (96 * (4 + 4 * s + m)) (96 * m) 96 xT xT j = xT j := fun j hj => ad_out (by omega)
        have hK' : kt_R s K (ad_f (96 * (4 + 4 * s + m)) (96 * m) 96 xT xT) := fun j hj => by rw [far _ (by omega)]; exact hK j hj
        obtain ⟨r, a1, a2, a3, a4, a5, a6, k1, k2, k3, k4, k5, iX, iY⟩ := ih (m + 1) (c + 1) _ _ _ _ _ _ (by omega) hB' hH' hT' (mb_a hm4 hM hK) (sl_t hU far) hK'
        refine ⟨r, a1, a2, a3, a4, a5, a6, k1, k2, k3, k4, k5, fun post h => ?_, fun post h => ?_⟩
        · have h3 := iX post h
          rw [wX_merge_40]
          refine br_f (nI_ge (b := 4) hm4 (by decide)) ?_
          unfold wpX_keptBank
          dsimp only
          rw [eb]
          refine it_t hP hm4 y (br_f (by decide) (sx_R (by omega) (by omega) e1 e3 g1 g3 (fun _ => br_f (by decide) ?_) (fun w => absurd S w)))
          exact ac_X (by omega) (by omega) (by omega) (nm_r (nI_1 c) (nm_r (nI_1 m) h3))
        · have h3 := iY post h
          have H := mj_Y (ydepth := ydepth) (ysteps := ysteps) (yresult := yresult) (youtcome := youtcome) (yload := yload) (yover := yover) (yop := yop) (ya := ya) (yb := yb) (yline := yline) (ylength := ylength) (yfrom := yfrom) (yto := yto) (yat := yat) (yhandlers := yhandlers) (ybegun := yB) (ytaken := yT) (ythrown := yH) (yrowI := yrowI) (yrowWay := yrowWay) (yrowLength := yrowLength) (ytimes := ytimes) (ytold := ytold) (ykOp := ykOp) (ykA := ykA) (ykB := ykB) (ykLine := ykLine) (ykLength := ykLength) (ykFrom := ykFrom) (ykTo := ykTo) (ykAt := ykAt) (ykHandlers := ykHandlers) (ykBegun := ykBegun) (ykTaken := ykTaken) (ykThrown := ykThrown) (ykept := ykept) (ymethod := ymethod) (ypc := ypc) (yvariable := yvariable) (yhereI := yhereI) (yhereWay := yhereWay) (yhereLength := yhereLength) (yinto := yinto) (ykLoad := ykLoad) (ypart := ypart) (post := post) (J := wY_merge_54 post (nI s) (e + 1)) (x2 := nI (c + 1)) hs hm4 e2 e3 h3 (sz_f xsizes m) 0 (by omega)
          rw [Nat.mul_zero, ad_0, ad_0, ad_0] at H
          rw [wY_merge_54]
          refine br_f (nI_ge (b := 4) hm4 (by decide)) (sy_R hs hm4 e2 y e3 g2 g3 (fun _ => br_f (by decide) ?_) (fun w => absurd (EQ.mp S) w))
          exact nm_r (nI_1 c) (nm_r (e' := nI (24 * m)) (pk_mul 24 m) ⟨_, H⟩)
      · obtain ⟨r, a1, a2, a3, a4, a5, a6, k1, k2, k3, k4, k5, iX, iY⟩ := ih (m + 1) c xB xH xT yB yH yT (by omega) hB hH hT (mb_s hM) hU hK
        refine ⟨r, a1, a2, a3, a4, a5, a6, k1, k2, k3, k4, k5, fun post h => ?_, fun post h => ?_⟩
        · have h3 := iX post h
          rw [wX_merge_40]
          refine br_f (nI_ge (b := 4) hm4 (by decide)) ?_
          unfold wpX_keptBank
          dsimp only
          rw [eb]
          exact it_t hP hm4 y (br_f (by decide) (sx_R (by omega) (by omega) e1 e3 g1 g3 (fun w => absurd w S) (fun _ => br_t rfl (nm_r (nI_1 m) h3))))
        · have h3 := iY post h
          rw [wY_merge_54]
          exact br_f (nI_ge (b := 4) hm4 (by decide)) (sy_R hs hm4 e2 y e3 g2 g3 (fun w => absurd (EQ.mpr w) S) (fun _ => br_t rfl (nm_r (nI_1 m) h3)))
end
theorem i_vc_merge {k : Nat} {u : SX} {v : SY} (I : i_Rel k u v) (hk : k + 5 ≤ 2560) (v1 : Int32) : wpX_merge (fun r u' => wpY_merge (fun r' v' => r' = r ∧ i_Rel (k + 5) u' v') v v1) u v1 := by
  obtain ⟨xdepth, xsignal, xcarried, xlatest, xload, xsizes, xops, xargsA, xargsB, xlines, xguards, xfroms, xtos, xats, xbegunCounts, xthrownCounts, xtakenCounts, xslotUsed, xslotLoad, xstretchNumber, xstretchGone, xstretchRow, xstretchWays, xatWork, xplace, xvariables, xrow, xrowWays, xwayOn, xpart⟩ := u
  obtain ⟨ydepth, ysteps, yresult, youtcome, yload, yover, yop, ya, yb, yline, ylength, yfrom, yto, yat, yhandlers, ybegun, ytaken, ythrown, yrowI, yrowWay, yrowLength, ytimes, ytold, ykOp, ykA, ykB, ykLine, ykLength, ykFrom, ykTo, ykAt, ykHandlers, ykBegun, ykTaken, ykThrown, ykept, ymethod, ypc, yvariable, yhereI, yhereWay, yhereLength, yinto, ykLoad, ypart⟩ := v
  have J := I
  obtain ⟨L, h1, h2, h3, h4, hP, hC, hS, hT⟩ := I
  unfold wpX_merge wpY_merge
  rcases pk_ix v1 (n := 3) (by decide) with z | z | ⟨s, hs, rfl⟩
  · exact xi_f (n := 3) (Or.inl z) (br_t rfl (wi_f (n := 3) (Or.inl z) (br_t rfl ⟨rfl, J⟩)))
  · exact xi_f (n := 3) (Or.inr z) (br_t rfl (wi_f (n := 3) (Or.inr z) (br_t rfl ⟨rfl, J⟩)))
  · obtain ⟨g1, g2, K, g3, g4, g5, g6⟩ := hC.2.2.2 s hs
    have cs : (nI s).toNatClampNeg = s := nI_clamp (by omega)
    have ws : vp_in (nI s) 3 := vp_in_nI hs (by decide)
    refine xi_t (n := 3) hs (by decide) (br_f (by decide) ⟨ws, ?_⟩)
    rw [cs]
    by_cases a1 : xslotUsed s = 0
    · have a1y : ykept s = 0 := by rw [← g1]; exact a1
      exact br_t a1 (wi_t (n := 3) hs (by decide) (br_f (by decide) ⟨ws, br_t a1y ⟨rfl, J⟩⟩))
    · have a1y : ¬ ykept s = 0 := by rw [← g1]; exact a1
      by_cases a2 : K + L ≤ 1000000000
      · have x2 : xslotLoad s ≤ 1000000000 - xload := by rw [g4, h2, ml_le g3 h1]; exact a2
        have y2 : yload ≤ 1000000000 - ykLoad s := by rw [g5, h3, ml_le h1 g3]; omega
        obtain ⟨r, xB', xH', xT', yB', yH', yT', k1, k2, k3, k4, k5, iX, iY⟩ := mg_R (xdepth := xdepth) (xsignal := xsignal) (xcarried := xcarried) (xlatest := xlatest) (xload := xload) (xsizes := xsizes) (xops := xops) (xargsA := xargsA) (xargsB := xargsB) (xlines := xlines) (xguards := xguards) (xfroms := xfroms) (xtos := xtos) (xats := xats) (xslotUsed := xslotUsed) (xslotLoad := xslotLoad) (xstretchNumber := xstretchNumber) (xstretchGone := xstretchGone) (xstretchRow := xstretchRow) (xstretchWays := xstretchWays) (xatWork := xatWork) (xplace := xplace) (xvariables := xvariables) (xrow := xrow) (xrowWays := xrowWays) (xwayOn := xwayOn) (xpart := xpart) (ydepth := ydepth) (ysteps := ysteps) (yresult := yresult) (youtcome := youtcome) (yload := (yload + ykLoad s)) (yover := yover) (yop := yop) (ya := ya) (yb := yb) (yline := yline) (ylength := ylength) (yfrom := yfrom) (yto := yto) (yat := yat) (yhandlers := yhandlers) (yrowI := yrowI) (yrowWay := yrowWay) (yrowLength := yrowLength) (ytimes := ytimes) (ytold := ytold) (ykOp := ykOp) (ykA := ykA) (ykB := ykB) (ykLine := ykLine) (ykLength := ykLength) (ykFrom := ykFrom) (ykTo := ykTo) (ykAt := ykAt) (ykHandlers := ykHandlers) (ykBegun := ykBegun) (ykTaken := ykTaken) (ykThrown := ykThrown) (ykept := ykept) (ymethod := ymethod) (ypc := ypc) (yvariable := yvariable) (yhereI := yhereI) (yhereWay := yhereWay) (yhereLength := yhereLength) (yinto := yinto) (ykLoad := ykLoad) (ypart := ypart) hs hP g4 4 0 0 _ _ _ _ _ _ rfl hC.1 hC.2.1 hC.2.2.1 (mb_0 (K := K) hT) hC.2.2.2 g6
        refine br_f a1 ⟨ws, br_t x2 ⟨_, iX _ ?_⟩⟩
        refine wi_t (n := 3) hs (by decide) (br_f (by decide) ⟨ws, br_f a1y ⟨ws, br_t y2 ⟨ws, nm_e ⟨_, iY _ ⟨rfl, ?_⟩⟩⟩⟩⟩)
        exact ⟨L + K, by omega, by rw [h2, nI_add], by rw [h3, g5, nI_add], h4, hP, ⟨k1, k2, k3, k5⟩, hS, mb_4 k4⟩
      · have x2 : ¬ xslotLoad s ≤ 1000000000 - xload := by rw [g4, h2, ml_le g3 h1]; exact a2
        have y2 : ¬ yload ≤ 1000000000 - ykLoad s := by rw [g5, h3, ml_le h1 g3]; omega
        exact br_f a1 ⟨ws, br_f x2 (wi_t (n := 3) hs (by decide) (br_f (by decide) ⟨ws, br_f a1y ⟨ws, br_f y2 ⟨rfl, J⟩⟩⟩))⟩
end
