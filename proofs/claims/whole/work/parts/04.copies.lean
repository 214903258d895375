/-! part 04: copies, clearings, sums over a segment of an array; banks (pure) -/
def cy_f (S T i : Nat) (x y : Nat → Int32) : Nat → Int32 := fun j => if T ≤ j ∧ j < T + i then y (S + (j - T)) else x j
theorem cy_0 (S T : Nat) (x y : Nat → Int32) : cy_f S T 0 x y = x := by
  funext j
  exact if_neg (fun w => absurd w.2 (by omega))
theorem cy_in {S T i j : Nat} {x y : Nat → Int32} (h : T ≤ j) (h2 : j < T + i) : cy_f S T i x y j = y (S + (j - T)) := if_pos ⟨h, h2⟩
theorem cy_out {S T i j : Nat} {x y : Nat → Int32} (h : j < T ∨ T + i ≤ j) : cy_f S T i x y j = x j := if_neg (fun w => absurd w (by omega))
theorem cy_s {S T i : Nat} {x y : Nat → Int32} : upd (cy_f S T i x y) (T + i) (y (S + i)) = cy_f S T (i + 1) x y := by
  funext j
  unfold upd
  by_cases z : j = T + i
  · rw [if_pos z, cy_in (by omega) (by omega), z, Nat.add_sub_cancel_left]
  · rw [if_neg z]
    by_cases w : T ≤ j ∧ j < T + i
    · rw [cy_in w.1 w.2, cy_in w.1 (by omega)]
    · rw [cy_out (by omega), cy_out (by omega)]
/-- within one array, source and target apart -/
theorem cy_self {S T i c : Nat} {x : Nat → Int32} (h : S + c ≤ T ∨ T + c ≤ S) (hi : i < c) : upd (cy_f S T i x x) (T + i) (cy_f S T i x x (S + i)) = cy_f S T (i + 1) x x := by
  rw [cy_out (j := S + i) (by omega)]
  exact cy_s
def zr_f (T i : Nat) (x : Nat → Int32) : Nat → Int32 := fun j => if T ≤ j ∧ j < T + i then 0 else x j
theorem zr_0 (T : Nat) (x : Nat → Int32) : zr_f T 0 x = x := by
  funext j
  exact if_neg (fun w => absurd w.2 (by omega))
theorem zr_in {T i j : Nat} {x : Nat → Int32} (h : T ≤ j) (h2 : j < T + i) : zr_f T i x j = 0 := if_pos ⟨h, h2⟩
theorem zr_out {T i j : Nat} {x : Nat → Int32} (h : j < T ∨ T + i ≤ j) : zr_f T i x j = x j := if_neg (fun w => absurd w (by omega))
theorem zr_s {T i : Nat} {x : Nat → Int32} : upd (zr_f T i x) (T + i) 0 = zr_f T (i + 1) x := by
  funext j
  unfold upd
  by_cases z : j = T + i
  · rw [if_pos z, zr_in (by omega) (by omega)]
  · rw [if_neg z]
    by_cases w : T ≤ j ∧ j < T + i
    · rw [zr_in w.1 w.2, zr_in w.1 (by omega)]
    · rw [zr_out (by omega), zr_out (by omega)]
def ad_f (S T i : Nat) (x y : Nat → Int32) : Nat → Int32 := fun j => if T ≤ j ∧ j < T + i then x j + y (S + (j - T)) else x j
theorem ad_0 (S T : Nat) (x y : Nat → Int32) : ad_f S T 0 x y = x := by
  funext j
  exact if_neg (fun w => absurd w.2 (by omega))
theorem ad_in {S T i j : Nat} {x y : Nat → Int32} (h : T ≤ j) (h2 : j < T + i) : ad_f S T i x y j = x j + y (S + (j - T)) := if_pos ⟨h, h2⟩
theorem ad_out {S T i j : Nat} {x y : Nat → Int32} (h : j < T ∨ T + i ≤ j) : ad_f S T i x y j = x j := if_neg (fun w => absurd w (by omega))
theorem ad_s {S T i : Nat} {x y : Nat → Int32} : upd (ad_f S T i x y) (T + i) (ad_f S T i x y (T + i) + y (S + i)) = ad_f S T (i + 1) x y := by
  funext j
  unfold upd
  by_cases z : j = T + i
  · rw [if_pos z, ad_out (j := T + i) (by omega), ad_in (by omega) (by omega), z, Nat.add_sub_cancel_left]
  · rw [if_neg z]
    by_cases w : T ≤ j ∧ j < T + i
    · rw [ad_in w.1 w.2, ad_in w.1 (by omega)]
    · rw [ad_out (by omega), ad_out (by omega)]
theorem ad_self {S T i c : Nat} {x : Nat → Int32} (h : S + c ≤ T ∨ T + c ≤ S) (hi : i < c) : upd (ad_f S T i x x) (T + i) (ad_f S T i x x (T + i) + ad_f S T i x x (S + i)) = ad_f S T (i + 1) x x := by
  rw [ad_out (j := S + i) (by omega)]
  exact ad_s
/-! a bank table: c cells a bank; the class has 4 in use, 12 kept, the draft; the reference 4 in use and the draft, and 12 kept elsewhere -/
def bk_R (c : Nat) (x y k : Nat → Int32) : Prop := (∀ j, j < 4 * c → x j = y j) ∧ (∀ j, j < c → x (16 * c + j) = y (4 * c + j)) ∧ (∀ j, j < 12 * c → x (4 * c + j) = k j)
theorem bk_def {c M : Nat} {x y k : Nat → Int32} (h : bk_R c x y k) (hM : M + c ≤ 4 * c) : bk_R c (cy_f (16 * c) M c x x) (cy_f (4 * c) M c y y) k := by
  refine ⟨fun j hj => ?_, fun j hj => ?_, fun j hj => ?_⟩
  · by_cases w : M ≤ j ∧ j < M + c
    · rw [cy_in w.1 w.2, cy_in w.1 w.2]
      exact h.2.1 (j - M) (by omega)
    · rw [cy_out (by omega), cy_out (by omega)]
      exact h.1 j hj
  · rw [cy_out (by omega), cy_out (by omega)]
    exact h.2.1 j hj
  · rw [cy_out (by omega)]
    exact h.2.2 j hj
theorem bk_add {c i : Nat} {x y k : Nat → Int32} {v : Int32} (h : bk_R c x y k) (hi : i < c) : bk_R c (upd x (16 * c + i) v) (upd y (4 * c + i) v) k := by
  refine ⟨fun j hj => ?_, fun j hj => ?_, fun j hj => ?_⟩
  · rw [pk_un (by omega), pk_un (by omega)]; exact h.1 j hj
  · by_cases z : j = i
    · rw [z, pk_us, pk_us]
    · rw [pk_un (by omega), pk_un (by omega)]; exact h.2.1 j hj
  · rw [pk_un (by omega)]; exact h.2.2 j hj
theorem bk_more {c A K : Nat} {x : Nat → Int32} (h : A + c ≤ K) : cy_f A (K + A) c (cy_f 0 K A x x) (cy_f 0 K A x x) = cy_f 0 K (A + c) x x := by
  funext j
  by_cases w : K + A ≤ j ∧ j < K + A + c
  · rw [cy_in w.1 w.2, cy_out (by omega), cy_in (by omega) (by omega)]
    congr 1
    omega
  · rw [cy_out (by omega)]
    by_cases v : K ≤ j ∧ j < K + A
    · rw [cy_in v.1 v.2, cy_in v.1 (by omega)]
    · rw [cy_out (by omega), cy_out (by omega)]
theorem bk_keep {c T : Nat} {x y k : Nat → Int32} (h : bk_R c x y k) (hT : T + 4 * c ≤ 12 * c) : bk_R c (cy_f 0 (4 * c + T) (4 * c) x x) y (cy_f 0 T (4 * c) k y) := by
  refine ⟨fun j hj => ?_, fun j hj => ?_, fun j hj => ?_⟩
  · rw [cy_out (by omega)]; exact h.1 j hj
  · rw [cy_out (by omega)]; exact h.2.1 j hj
  · by_cases w : T ≤ j ∧ j < T + 4 * c
    · rw [cy_in (by omega) (by omega), cy_in w.1 w.2]
      rw [show 0 + (4 * c + j - (4 * c + T)) = 0 + (j - T) from by omega]
      exact h.1 _ (by omega)
    · rw [cy_out (by omega), cy_out (by omega)]
      exact h.2.2 j hj
