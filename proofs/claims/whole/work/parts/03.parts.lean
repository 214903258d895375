/-! part 03: counters: two ways of keeping which points hang together (pure) -/
def cn_ct (P : Nat → Bool) : Nat → Nat
  | 0 => 0
  | n + 1 => cn_ct P n + if P n = true then 1 else 0
theorem cn_ct_s (P : Nat → Bool) (n : Nat) : cn_ct P (n + 1) = cn_ct P n + if P n = true then 1 else 0 := rfl
theorem cn_ct_c {P Q : Nat → Bool} : ∀ n, (∀ k, k < n → P k = Q k) → cn_ct P n = cn_ct Q n := by
  intro n
  induction n with
  | zero => intro _; rfl
  | succ n ih =>
    intro h
    rw [cn_ct_s, cn_ct_s, ih (fun k hk => h k (by omega)), h n (by omega)]
theorem cn_ct_1 {P Q : Nat → Bool} {y : Nat} (hp : P y = true) (hq : Q y = false) (h : ∀ k, k ≠ y → P k = Q k) : ∀ n, y < n → cn_ct Q n + 1 = cn_ct P n := by
  intro n
  induction n with
  | zero => intro z; omega
  | succ n ih =>
    intro hy
    rw [cn_ct_s, cn_ct_s]
    rcases Nat.lt_or_ge y n with z | z
    · have := ih z
      rw [h n (by omega)]
      omega
    · have e : n = y := by omega
      rw [cn_ct_c (P := Q) (Q := P) n (fun k hk => (h k (by omega)).symm), e, hp, hq]
      simp
theorem cn_ct_t : ∀ n, cn_ct (fun _ => true) n = n := by
  intro n
  induction n with
  | zero => rfl
  | succ n ih => rw [cn_ct_s, ih, if_pos rfl]
theorem cn_ct_le (P : Nat → Bool) : ∀ n, cn_ct P n ≤ n := by
  intro n
  induction n with
  | zero => exact Nat.le_refl _
  | succ n ih =>
    rw [cn_ct_s]
    by_cases z : P n = true
    · rw [if_pos z]; omega
    · rw [if_neg z]; omega
/-- how many of 0 .. n stand for their part -/
def cn_rp (f : Nat → Nat) (n : Nat) : Nat := cn_ct (fun k => decide (f k = k)) (n + 1)
def cn_u (f : Nat → Nat) (x y : Nat) : Nat → Nat := fun k => if f k = y then x else f k
def cn_id (f : Nat → Nat) (n : Nat) : Prop := ∀ k, k ≤ n → f k ≤ n ∧ f (f k) = f k
theorem cn_id_u {f : Nat → Nat} {n x y : Nat} (h : cn_id f n) (hx : x ≤ n) (hxx : f x = x) (hy : x ≠ y) : cn_id (cn_u f x y) n := by
  intro k hk
  obtain ⟨h1, h2⟩ := h k hk
  unfold cn_u
  by_cases z : f k = y
  · simp only [if_pos z]
    exact ⟨hx, by rw [hxx, if_neg hy]⟩
  · simp only [if_neg z]
    exact ⟨h1, by rw [h2, if_neg z]⟩
theorem cn_u_same (f : Nat → Nat) (x : Nat) : cn_u f x x = f := by
  funext k
  unfold cn_u
  by_cases z : f k = x
  · rw [if_pos z, z]
  · rw [if_neg z]
theorem cn_rp_u {f : Nat → Nat} {n x y : Nat} (hy : y ≤ n) (hxx : f x = x) (hyy : f y = y) (hxy : x ≠ y) : cn_rp (cn_u f x y) n + 1 = cn_rp f n := by
  refine cn_ct_1 (y := y) (by simp [hyy]) ?_ ?_ (n + 1) (by omega)
  · have : cn_u f x y y = x := if_pos hyy
    simp only [this]
    exact decide_eq_false hxy
  · intro k hk
    have e : (f k = k) ↔ (cn_u f x y k = k) := by
      unfold cn_u
      by_cases z : f k = y
      · rw [if_pos z]
        constructor
        · intro w; exact absurd (w.symm.trans z) hk
        · intro w
          rw [← w, hxx] at z
          exact absurd z hxy
      · rw [if_neg z]
    simp only [e]
theorem cn_lab {A B P Q : Int32} {a b p q : Nat} (hab : A = B ↔ a = b) (hap : A = P ↔ a = p) (haq : A = Q ↔ a = q) (hbp : B = P ↔ b = p) (hbq : B = Q ↔ b = q) (hpq : P = Q ↔ p = q) :
    ((if A = P then Q else A) = (if B = P then Q else B) ↔ (if a = q then p else a) = (if b = q then p else b)) ∧
    ((if A = P then Q else A) = (if B = P then Q else B) ↔ (if a = p then q else a) = (if b = p then q else b)) := by
  constructor <;> grind
/-- the class's name for point a of n + 1 -/
def cn_ph (n a : Nat) : Nat := if a = n then 24 else a
theorem cn_ph_lt {n a : Nat} (hn : n ≤ 24) (ha : a ≤ n) : cn_ph n a < 25 := by
  unfold cn_ph
  by_cases z : a = n
  · rw [if_pos z]; omega
  · rw [if_neg z]; omega
def cn_rl (X : Nat → Int32) (L R : Int32) (i : Nat) : Nat → Int32 := fun j => if j < i ∧ X j = L then R else X j
theorem cn_rl_at {X : Nat → Int32} {L R : Int32} {j : Nat} (h : j < 25) : cn_rl X L R 25 j = if X j = L then R else X j := by
  unfold cn_rl
  by_cases z : X j = L
  · rw [if_pos ⟨h, z⟩, if_pos z]
  · rw [if_neg (fun w => z w.2), if_neg z]
theorem cn_rl_0 (X : Nat → Int32) (L R : Int32) : cn_rl X L R 0 = X := by
  funext j
  exact if_neg (fun w => absurd w.1 (by omega))
theorem cn_rl_at' {X : Nat → Int32} {L R : Int32} {i : Nat} : cn_rl X L R i i = X i := if_neg (fun w => absurd w.1 (by omega))
theorem cn_rl_t {X : Nat → Int32} {L R : Int32} {i : Nat} (h : X i = L) : upd (cn_rl X L R i) i R = cn_rl X L R (i + 1) := by
  funext j
  unfold upd cn_rl
  by_cases z : j = i
  · rw [if_pos z, if_pos ⟨by omega, by rw [z]; exact h⟩]
  · rw [if_neg z]
    have e : (j < i ∧ X j = L) ↔ (j < i + 1 ∧ X j = L) := ⟨fun w => ⟨by omega, w.2⟩, fun w => ⟨by omega, w.2⟩⟩
    simp only [e]
theorem cn_rl_f {X : Nat → Int32} {L R : Int32} {i : Nat} (h : ¬ X i = L) : cn_rl X L R i = cn_rl X L R (i + 1) := by
  funext j
  unfold cn_rl
  have e : (j < i ∧ X j = L) ↔ (j < i + 1 ∧ X j = L) := by
    constructor
    · exact fun w => ⟨by omega, w.2⟩
    · intro w
      refine ⟨?_, w.2⟩
      rcases Nat.lt_or_ge j i with z | z
      · exact z
      · have : j = i := by omega
        rw [this] at w
        exact absurd w.2 h
  simp only [e]
def cn_E (X : Nat → Int32) (f : Nat → Nat) (n : Nat) : Prop := ∀ a b, a ≤ n → b ≤ n → (X (cn_ph n a) = X (cn_ph n b) ↔ f a = f b)
def cn_lo (f : Nat → Nat) (p q : Nat) : Nat := if f p < f q then f p else f q
def cn_hi (f : Nat → Nat) (p q : Nat) : Nat := if f p < f q then f q else f p
theorem cn_E_u {X : Nat → Int32} {f : Nat → Nat} {n p q : Nat} (h : cn_E X f n) (hn : n ≤ 24) (hp : p ≤ n) (hq : q ≤ n) :
    cn_E (cn_rl X (X (cn_ph n p)) (X (cn_ph n q)) 25) (cn_u f (cn_lo f p q) (cn_hi f p q)) n := by
  intro a b ha hb
  rw [cn_rl_at (cn_ph_lt hn ha), cn_rl_at (cn_ph_lt hn hb)]
  have H := cn_lab (h a b ha hb) (h a p ha hp) (h a q ha hq) (h b p hb hp) (h b q hb hq) (h p q hp hq)
  unfold cn_u cn_lo cn_hi
  by_cases z : f p < f q
  · simp only [if_pos z]; exact H.1
  · simp only [if_neg z]; exact H.2
/-- the class's labels and count, the reference's labels and lines -/
def cn_I (X : Nat → Int32) (nd : Nat) (f : Nat → Nat) (ln n : Nat) : Prop := cn_E X f n ∧ cn_id f n ∧ nd + (n + 1) = ln + cn_rp f n
theorem cn_I0 {X : Nat → Int32} {f : Nat → Nat} {n : Nat} (hn : n ≤ 24) (hX : ∀ j, j < 25 → X j = nI j) (hf : ∀ k, k ≤ n → f k = k) : cn_I X 0 f 0 n := by
  refine ⟨?_, ?_, ?_⟩
  · intro a b ha hb
    have h1 := cn_ph_lt hn ha
    have h2 := cn_ph_lt hn hb
    rw [hX _ h1, hX _ h2, nI_eq (by omega) (by omega), hf a ha, hf b hb]
    unfold cn_ph
    by_cases z : a = n <;> by_cases y : b = n <;> simp [z, y] <;> omega
  · intro k hk
    rw [hf k hk]
    exact ⟨hk, hf k hk⟩
  · have : cn_rp f n = n + 1 := by
      unfold cn_rp
      rw [cn_ct_c (Q := fun _ => true) (n + 1) (fun k hk => by simp [hf k (by omega)]), cn_ct_t]
    omega
theorem cn_line {X : Nat → Int32} {f : Nat → Nat} {nd ln n p q : Nat} (h : cn_I X nd f ln n) (hn : n ≤ 24) (hp : p ≤ n) (hq : q ≤ n) :
    (X (cn_ph n p) = X (cn_ph n q) → cn_I (cn_rl X (X (cn_ph n p)) (X (cn_ph n q)) 25) (nd + 1) (cn_u f (cn_lo f p q) (cn_hi f p q)) (ln + 1) n) ∧
    (¬ X (cn_ph n p) = X (cn_ph n q) → cn_I (cn_rl X (X (cn_ph n p)) (X (cn_ph n q)) 25) nd (cn_u f (cn_lo f p q) (cn_hi f p q)) (ln + 1) n) := by
  obtain ⟨h1, h2, h3⟩ := h
  have hE := cn_E_u h1 hn hp hq
  have e := h1 p q hp hq
  constructor
  · intro z
    have y := e.mp z
    have e1 : cn_lo f p q = f p := by unfold cn_lo; rw [if_neg (by omega)]; exact y.symm
    have e2 : cn_hi f p q = f p := by unfold cn_hi; rw [if_neg (by omega)]
    refine ⟨hE, ?_, ?_⟩
    · rw [e1, e2, cn_u_same]; exact h2
    · rw [e1, e2, cn_u_same]; omega
  · intro z
    have y : ¬ f p = f q := fun w => z (e.mpr w)
    have ip := h2 p hp
    have iq := h2 q hq
    have hlo : cn_lo f p q ≤ n ∧ f (cn_lo f p q) = cn_lo f p q := by
      unfold cn_lo
      by_cases w : f p < f q
      · rw [if_pos w]; exact ip
      · rw [if_neg w]; exact iq
    have hhi : cn_hi f p q ≤ n ∧ f (cn_hi f p q) = cn_hi f p q := by
      unfold cn_hi
      by_cases w : f p < f q
      · rw [if_pos w]; exact iq
      · rw [if_neg w]; exact ip
    have hne : cn_lo f p q ≠ cn_hi f p q := by
      unfold cn_lo cn_hi
      by_cases w : f p < f q
      · rw [if_pos w, if_pos w]; exact y
      · rw [if_neg w, if_neg w]; exact fun v => y v.symm
    refine ⟨hE, cn_id_u h2 hlo.1 hlo.2 hne, ?_⟩
    have := cn_rp_u hhi.1 hlo.2 hhi.2 hne
    omega
/-- the reference's last reckoning -/
theorem cn_end {nd ln rp n : Nat} (h : nd + (n + 1) = ln + rp) : nI ln - (nI n + 1) + nI rp = nI nd := by
  have e : nI nd + (nI n + 1) = nI ln + nI rp := by rw [nI_1, nI_add, nI_add, h]
  generalize nI nd = A at e ⊢
  generalize nI ln = B at e ⊢
  generalize nI rp = C at e ⊢
  generalize nI n + 1 = D at e ⊢
  grind
