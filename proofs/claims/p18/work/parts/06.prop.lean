/-! a row that stands in proportion to the row of minors -/
def mk_P (A : Nat → Nat → Int) (m k i : Nat) (y : Nat → Int) : Prop :=
  (∃ a b : Int, 0 < a ∧ 0 < b ∧ ∀ j, j < m + 1 → b * mk_E A k i j = a * y j) ∧ ∀ j, j < m + 1 → (y j).natAbs ≤ 1073741824
def mk_H (A : Nat → Nat → Int) (m : Nat) : Prop :=
  m ≤ 10 ∧ (∀ r, r < m → mk_r A r (m + 1) ≤ 8) ∧ ∃ ρ : Nat → Nat, ∀ i, i < m → mk_Row A ρ m 0 i
theorem mk_H_B {A : Nat → Nat → Int} {m : Nat} (H : mk_H A m) {k i j : Nat} (hk : k ≤ m) (hi : i < m) (hj : j < m + 1) : (mk_E A k i j).natAbs ≤ 1073741824 := by
  have h1 := mk_E_bd H.2.1 hk hi (show j ≤ m by omega)
  have h2 := mk_B_mono 10 H.1
  rw [mk_B_10] at h2
  omega
theorem mk_H_d {A : Nat → Nat → Int} {m : Nat} (H : mk_H A m) {k : Nat} (hk : k ≤ m) : 0 < mk_d k A := by
  obtain ⟨_, _, ρ, h⟩ := H
  exact (mk_sgn h k hk).1 k (Nat.le_refl k)
theorem mk_H_dB {A : Nat → Nat → Int} {m : Nat} (H : mk_H A m) {k : Nat} (hk : k ≤ m) (h0 : 0 < m) : (mk_d k A).natAbs ≤ 1073741824 := by
  cases k with
  | zero => exact (by decide : (1 : Int).natAbs ≤ 1073741824)
  | succ k =>
    rw [← mk_E_kk]
    exact mk_H_B H (by omega) (by omega) (by omega)
theorem mk_H_own {A : Nat → Nat → Int} {m : Nat} (H : mk_H A m) {k i : Nat} (hk : k ≤ m) (hi : i < m) : 0 < mk_E A k i i := by
  by_cases h : i < k
  · rw [mk_E_lo A h, if_pos rfl]; exact mk_H_d H hk
  · obtain ⟨_, _, ρ, h'⟩ := H
    exact mk_Row_own ((mk_sgn h' k hk).2 i hi) hi (by omega)
theorem mk_H_rhs {A : Nat → Nat → Int} {m : Nat} (H : mk_H A m) {k i : Nat} (hk : k ≤ m) (hi : i < m) : 0 ≤ mk_E A k i m := by
  obtain ⟨_, _, ρ, h'⟩ := H
  exact ((mk_sgn h' k hk).2 i hi).2.1
theorem mk_H_step {A : Nat → Nat → Int} {m : Nat} (H : mk_H A m) {k i : Nat} (hk : k < m) (hi : i ≠ k) (j : Nat) : mk_d k A * mk_E A (k + 1) i j = mk_d (k + 1) A * mk_E A k i j - mk_E A k i k * mk_E A k k j :=
  mk_step A (fun l hl => by have := mk_H_d H (k := l) (by omega); omega) hi j
theorem mk_P_0 {A : Nat → Nat → Int} {m : Nat} (H : mk_H A m) {i : Nat} (hi : i < m) : mk_P A m 0 i (A i) := by
  refine ⟨⟨1, 1, Int.zero_lt_one, Int.zero_lt_one, ?_⟩, ?_⟩
  · intro j _; rw [mk_E_0]
  · intro j hj
    have := mk_H_B H (k := 0) (by omega) hi hj
    rw [mk_E_0] at this
    exact this
theorem mk_P_congr {A : Nat → Nat → Int} {m k i : Nat} {y z : Nat → Int} (h : mk_P A m k i y) (e : ∀ j, j < m + 1 → y j = z j) : mk_P A m k i z := by
  obtain ⟨⟨a, b, ha, hb, h1⟩, h2⟩ := h
  exact ⟨⟨a, b, ha, hb, fun j hj => by rw [h1 j hj, e j hj]⟩, fun j hj => by rw [← e j hj]; exact h2 j hj⟩
theorem mk_P_pos {A : Nat → Nat → Int} {m : Nat} (H : mk_H A m) {k i : Nat} {y : Nat → Int} (h : mk_P A m k i y) (hk : k ≤ m) (hi : i < m) : 0 < y i := by
  obtain ⟨⟨a, b, ha, hb, h1⟩, _⟩ := h
  have h3 := Int.mul_pos hb (mk_H_own H hk hi)
  rw [h1 i (by omega)] at h3
  exact mk_ps ha h3
theorem mk_P_rhs {A : Nat → Nat → Int} {m : Nat} (H : mk_H A m) {k i : Nat} {y : Nat → Int} (h : mk_P A m k i y) (hk : k ≤ m) (hi : i < m) : 0 ≤ y m := by
  obtain ⟨⟨a, b, ha, hb, h1⟩, _⟩ := h
  have h3 := Int.mul_nonneg (Int.le_of_lt hb) (mk_H_rhs H hk hi)
  rw [h1 m (by omega)] at h3
  exact mk_nn ha h3
/-- the row divided by a common divisor -/
theorem mk_P_div {A : Nat → Nat → Int} {m k i : Nat} {y z : Nat → Int} (h : mk_P A m k i y) {G : Nat} (hG : 0 < G) (e : ∀ j, j < m + 1 → y j = (G : Int) * z j) : mk_P A m k i z := by
  obtain ⟨⟨a, b, ha, hb, h1⟩, h2⟩ := h
  refine ⟨⟨a * (G : Int), b, Int.mul_pos ha (by omega), hb, ?_⟩, ?_⟩
  · intro j hj
    rw [h1 j hj, e j hj, Int.mul_assoc]
  · intro j hj
    have h3 := h2 j hj
    rw [e j hj, Int.natAbs_mul, Int.natAbs_natCast] at h3
    have h4 : 1 * (z j).natAbs ≤ G * (z j).natAbs := Nat.mul_le_mul_right _ hG
    omega
/-- the pivot's row at the next stage -/
theorem mk_P_piv {A : Nat → Nat → Int} {m k : Nat} {y : Nat → Int} (h : mk_P A m k k y) : mk_P A m (k + 1) k y := by
  obtain ⟨⟨a, b, ha, hb, h1⟩, h2⟩ := h
  exact ⟨⟨a, b, ha, hb, fun j hj => by rw [mk_E_piv]; exact h1 j hj⟩, h2⟩
/-- a row whose entry in the pivot's column is 0 already -/
theorem mk_P_same {A : Nat → Nat → Int} {m : Nat} (H : mk_H A m) {k i : Nat} {y : Nat → Int} (h : mk_P A m k i y) (hk : k < m) (hi : i ≠ k) (h0 : y k = 0) : mk_P A m (k + 1) i y := by
  obtain ⟨⟨a, b, ha, hb, h1⟩, h2⟩ := h
  have hE : mk_E A k i k = 0 := by
    have h3 := h1 k (by omega)
    rw [h0, Int.mul_zero] at h3
    rcases Int.mul_eq_zero.mp h3 with g | g
    · omega
    · exact g
  refine ⟨⟨mk_d (k + 1) A * a, mk_d k A * b, Int.mul_pos (mk_H_d H hk) ha, Int.mul_pos (mk_H_d H (by omega)) hb, ?_⟩, h2⟩
  intro j hj
  have h3 := mk_H_step H hk hi j
  rw [hE, Int.zero_mul, Int.sub_zero] at h3
  have h4 := h1 j hj
  grind
/-- the row after the elimination, before it is divided -/
theorem mk_P_x {A : Nat → Nat → Int} {m : Nat} (H : mk_H A m) {k i : Nat} {y p : Nat → Int} (h : mk_P A m k i y) (hp : mk_P A m k k p) (hk : k < m) (hi : i ≠ k) : ∃ a b : Int, 0 < a ∧ 0 < b ∧ ∀ j, j < m + 1 → b * mk_E A (k + 1) i j = a * (y j * p k - p j * y k) := by
  obtain ⟨⟨a, b, ha, hb, h1⟩, _⟩ := h
  obtain ⟨⟨c, d, hc, hd, h2⟩, _⟩ := hp
  refine ⟨a * c, b * d * mk_d k A, Int.mul_pos ha hc, Int.mul_pos (Int.mul_pos hb hd) (mk_H_d H (by omega)), ?_⟩
  intro j hj
  have h3 := mk_H_step H hk hi j
  have e1 := h1 j hj
  have e2 := h1 k (by omega)
  have e3 := h2 j hj
  have e4 := h2 k (by omega)
  rw [mk_E_kk] at e4
  have g1 : b * d * mk_d k A * mk_E A (k + 1) i j = (d * mk_d (k + 1) A) * (b * mk_E A k i j) - (b * mk_E A k i k) * (d * mk_E A k k j) := by
    have g2 : b * d * mk_d k A * mk_E A (k + 1) i j = b * d * (mk_d k A * mk_E A (k + 1) i j) := by grind
    rw [g2, h3]; grind
  rw [g1, e1, e2, e3, e4]; grind
theorem mk_P_xpos {A : Nat → Nat → Int} {m : Nat} (H : mk_H A m) {k i : Nat} {y p : Nat → Int} (h : mk_P A m k i y) (hp : mk_P A m k k p) (hk : k < m) (hi : i ≠ k) (him : i < m) : 0 < y i * p k - p i * y k := by
  obtain ⟨a, b, ha, hb, h1⟩ := mk_P_x H h hp hk hi
  have h3 := Int.mul_pos hb (mk_H_own H (k := k + 1) hk him)
  rw [h1 i (by omega)] at h3
  exact mk_ps ha h3
theorem mk_P_elim {A : Nat → Nat → Int} {m : Nat} (H : mk_H A m) {k i : Nat} {y p z : Nat → Int} (h : mk_P A m k i y) (hp : mk_P A m k k p) (hk : k < m) (hi : i ≠ k) (him : i < m) {G : Nat} (hG : 0 < G) (hz : mk_g z (m + 1) = 1) (e : ∀ j, j < m + 1 → y j * p k - p j * y k = (G : Int) * z j) : mk_P A m (k + 1) i z := by
  obtain ⟨a, b, ha, hb, h1⟩ := mk_P_x H h hp hk hi
  have h2 : ∀ j, j < m + 1 → b * mk_E A (k + 1) i j = (a * (G : Int)) * z j := by
    intro j hj
    rw [h1 j hj, e j hj, Int.mul_assoc]
  have ha' : 0 < a * (G : Int) := Int.mul_pos ha (by omega)
  refine ⟨⟨a * (G : Int), b, ha', hb, h2⟩, ?_⟩
  intro j hj
  exact Nat.le_trans (mk_prim ha' hb h2 hz j hj) (mk_H_B H (k := k + 1) hk him hj)
/-- at the end: one reduced fraction -/
theorem mk_P_end {A : Nat → Nat → Int} {m : Nat} (H : mk_H A m) {i : Nat} {y : Nat → Int} (h : mk_P A m m i y) (hi : i < m) : (mk_E A m i m).natAbs / Nat.gcd (mk_E A m i m).natAbs (mk_E A m i i).natAbs = (y m).natAbs / Nat.gcd (y m).natAbs (y i).natAbs ∧ (mk_E A m i i).natAbs / Nat.gcd (mk_E A m i m).natAbs (mk_E A m i i).natAbs = (y i).natAbs / Nat.gcd (y m).natAbs (y i).natAbs := by
  obtain ⟨⟨a, b, ha, hb, h1⟩, _⟩ := h
  have g : ∀ j, j < m + 1 → b.natAbs * (mk_E A m i j).natAbs = a.natAbs * (y j).natAbs := by
    intro j hj
    rw [← Int.natAbs_mul, ← Int.natAbs_mul, h1 j hj]
  exact mk_red (by omega) (by omega) (g m (by omega)) (g i (by omega))
theorem mk_mulN {x y : Int} (hx : x.natAbs ≤ 1073741824) (hy : y.natAbs ≤ 1073741824) : (x * y).natAbs ≤ 1152921504606846976 := by
  rw [Int.natAbs_mul]
  exact Nat.mul_le_mul hx hy
/-! the unknown states listed, and the matrix of their equations -/
def mk_cn (U : Nat → Bool) : Nat → Nat
  | 0 => 0
  | s + 1 => mk_cn U s + (if U s = true then 1 else 0)
theorem mk_cn_t {U : Nat → Bool} {s : Nat} (h : U s = true) : mk_cn U (s + 1) = mk_cn U s + 1 := by
  show mk_cn U s + (if U s = true then 1 else 0) = _
  rw [if_pos h]
theorem mk_cn_f {U : Nat → Bool} {s : Nat} (h : ¬ U s = true) : mk_cn U (s + 1) = mk_cn U s := by
  show mk_cn U s + (if U s = true then 1 else 0) = _
  rw [if_neg h, Nat.add_zero]
theorem mk_cn_le (U : Nat → Bool) (n : Nat) : mk_cn U n ≤ n := by
  induction n with
  | zero => exact Nat.le_refl 0
  | succ n ih =>
    by_cases h : U n = true
    · rw [mk_cn_t h]; omega
    · rw [mk_cn_f h]; omega
theorem mk_cn_mono {U : Nat → Bool} {a : Nat} : ∀ b, a ≤ b → mk_cn U a ≤ mk_cn U b := by
  intro b
  induction b with
  | zero =>
    intro h
    have : a = 0 := by omega
    subst this
    exact Nat.le_refl _
  | succ b ih =>
    intro h
    by_cases e : a = b + 1
    · subst e; exact Nat.le_refl _
    · have h1 := ih (by omega)
      by_cases h : U b = true
      · rw [mk_cn_t h]; omega
      · rw [mk_cn_f h]; omega
theorem mk_cn_lt {U : Nat → Bool} {s n : Nat} (h : U s = true) (hs : s < n) : mk_cn U s < mk_cn U n := by
  have h1 := mk_cn_mono (U := U) n (show s + 1 ≤ n by omega)
  rw [mk_cn_t h] at h1
  omega
theorem mk_cn_ex {U : Nat → Bool} (n : Nat) : ∀ r, r < mk_cn U n → ∃ s, s < n ∧ U s = true ∧ mk_cn U s = r := by
  induction n with
  | zero => intro r h; exact absurd h (Nat.not_lt_zero r)
  | succ n ih =>
    intro r h
    by_cases hU : U n = true
    · rw [mk_cn_t hU] at h
      by_cases e : r = mk_cn U n
      · exact ⟨n, by omega, hU, e.symm⟩
      · obtain ⟨s, a, b, c⟩ := ih r (by omega)
        exact ⟨s, by omega, b, c⟩
    · rw [mk_cn_f hU] at h
      obtain ⟨s, a, b, c⟩ := ih r h
      exact ⟨s, by omega, b, c⟩
/-- two states that are not counted -/
theorem mk_cn_two {U : Nat → Bool} {p q : Nat} (hpq : p ≠ q) (hp : ¬ U p = true) (hq : ¬ U q = true) (n : Nat) : mk_cn U n + (if p < n then 1 else 0) + (if q < n then 1 else 0) ≤ n := by
  induction n with
  | zero => rw [if_neg (by omega), if_neg (by omega)]; exact Nat.le_refl 0
  | succ n ih =>
    by_cases hU : U n = true
    · have e1 : n ≠ p := fun z => hp (z ▸ hU)
      have e2 : n ≠ q := fun z => hq (z ▸ hU)
      rw [mk_cn_t hU]
      by_cases h1 : p < n <;> by_cases h2 : q < n <;> simp only [h1, h2, if_true, if_false] at ih ⊢ <;> (try split) <;> (try split) <;> omega
    · rw [mk_cn_f hU]
      by_cases h1 : p < n <;> by_cases h2 : q < n <;> simp only [h1, h2, if_true, if_false] at ih ⊢ <;> (try split) <;> (try split) <;> omega
def mk_L (U : Nat → Bool) (N : Nat) (idx : Nat → Nat) : Prop := ∀ s, s < N → U s = true → idx (mk_cn U s) = s
theorem mk_L_s {U : Nat → Bool} {N : Nat} {idx : Nat → Nat} (L : mk_L U N idx) (f : Nat → Int) : ∀ n, n ≤ N → mk_s (fun c => f (idx c)) (mk_cn U n) = mk_s (fun t => if U t = true then f t else 0) n := by
  intro n
  induction n with
  | zero => intro _; rfl
  | succ n ih =>
    intro hn
    show _ = mk_s (fun t => if U t = true then f t else 0) n + (if U n = true then f n else 0)
    by_cases hU : U n = true
    · rw [mk_cn_t hU, if_pos hU, ← ih (by omega)]
      show mk_s (fun c => f (idx c)) (mk_cn U n) + f (idx (mk_cn U n)) = _
      rw [L n (by omega) hU]
    · rw [mk_cn_f hU, if_neg hU, ← ih (by omega), Int.add_zero]
theorem mk_L_idx {U : Nat → Bool} {N : Nat} {idx : Nat → Nat} (L : mk_L U N idx) {r : Nat} (h : r < mk_cn U N) : idx r < N ∧ U (idx r) = true ∧ mk_cn U (idx r) = r := by
  obtain ⟨s, a, b, c⟩ := mk_cn_ex N r h
  have e := L s a b
  rw [c] at e
  rw [e]
  exact ⟨a, b, c⟩
