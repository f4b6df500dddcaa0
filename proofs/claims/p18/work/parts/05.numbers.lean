/-! common divisors, reduced fractions, rows in proportion -/
def mk_g (y : Nat → Int) : Nat → Nat
  | 0 => 0
  | n + 1 => Nat.gcd (mk_g y n) (y n).natAbs
theorem mk_g_congr {f g : Nat → Int} (n : Nat) (h : ∀ c, c < n → f c = g c) : mk_g f n = mk_g g n := by
  induction n with
  | zero => rfl
  | succ n ih =>
    show Nat.gcd (mk_g f n) (f n).natAbs = Nat.gcd (mk_g g n) (g n).natAbs
    rw [ih (fun c hc => h c (by omega)), h n (by omega)]
theorem mk_g_dvd (y : Nat → Int) (n : Nat) : ∀ c, c < n → mk_g y n ∣ (y c).natAbs := by
  induction n with
  | zero => intro c h; omega
  | succ n ih =>
    intro c h
    show Nat.gcd (mk_g y n) (y n).natAbs ∣ _
    by_cases e : c = n
    · rw [e]; exact Nat.gcd_dvd_right _ _
    · exact Nat.dvd_trans (Nat.gcd_dvd_left _ _) (ih c (by omega))
theorem mk_g_mul (y : Nat → Int) (d a : Nat) (n : Nat) : (∀ c, c < n → d ∣ a * (y c).natAbs) → d ∣ a * mk_g y n := by
  induction n with
  | zero =>
    intro _
    show d ∣ a * 0
    rw [Nat.mul_zero]; exact Nat.dvd_zero d
  | succ n ih =>
    intro h
    show d ∣ a * Nat.gcd (mk_g y n) (y n).natAbs
    rw [← Nat.gcd_mul_left]
    exact Nat.dvd_gcd (ih (fun c hc => h c (by omega))) (h n (by omega))
theorem mk_g_scale (y : Nat → Int) (a : Int) (n : Nat) : mk_g (fun c => a * y c) n = a.natAbs * mk_g y n := by
  induction n with
  | zero =>
    show 0 = a.natAbs * 0
    rw [Nat.mul_zero]
  | succ n ih =>
    show Nat.gcd (mk_g (fun c => a * y c) n) (a * y n).natAbs = a.natAbs * Nat.gcd (mk_g y n) (y n).natAbs
    rw [ih, Int.natAbs_mul, Nat.gcd_mul_left]
theorem mk_g_bd (y : Nat → Int) (n : Nat) {c : Nat} (hc : c < n) (h0 : y c ≠ 0) : 0 < mk_g y n ∧ mk_g y n ≤ (y c).natAbs := by
  have h := mk_g_dvd y n c hc
  have hp : 0 < (y c).natAbs := by omega
  exact ⟨Nat.pos_of_dvd_of_pos h hp, Nat.le_of_dvd hp h⟩
theorem mk_g_zero (y : Nat → Int) (n : Nat) (h : mk_g y n = 0) : ∀ c, c < n → y c = 0 := by
  intro c hc
  have h1 := mk_g_dvd y n c hc
  rw [h] at h1
  have h2 := Nat.eq_zero_of_zero_dvd h1
  omega
/-- divided by its common divisor a row is primitive -/
theorem mk_g_one {y z : Nat → Int} {n : Nat} {G : Nat} (hG : 0 < G) (hg : mk_g y n = G) (h : ∀ c, c < n → y c = (G : Int) * z c) : mk_g z n = 1 := by
  have h1 : mk_g y n = (G : Int).natAbs * mk_g z n := by
    rw [← mk_g_scale]; exact mk_g_congr n h
  rw [hg, Int.natAbs_natCast] at h1
  have h2 : G * 1 = G * mk_g z n := by rw [Nat.mul_one]; exact h1
  exact (Nat.eq_of_mul_eq_mul_left hG h2).symm
theorem mk_prim {E y : Nat → Int} {n : Nat} {a b : Int} (ha : 0 < a) (hb : 0 < b) (h : ∀ c, c < n → b * E c = a * y c) (hg : mk_g y n = 1) : ∀ c, c < n → (y c).natAbs ≤ (E c).natAbs := by
  have hm : ∀ c, c < n → b.natAbs * (E c).natAbs = a.natAbs * (y c).natAbs := by
    intro c hc
    rw [← Int.natAbs_mul, ← Int.natAbs_mul, h c hc]
  have hd : b.natAbs ∣ a.natAbs * mk_g y n := by
    apply mk_g_mul
    intro c hc
    exact ⟨(E c).natAbs, (hm c hc).symm⟩
  rw [hg, Nat.mul_one] at hd
  have hp : 0 < a.natAbs := by omega
  have hle : b.natAbs ≤ a.natAbs := Nat.le_of_dvd hp hd
  intro c hc
  have h1 : a.natAbs * (y c).natAbs ≤ a.natAbs * (E c).natAbs := by
    rw [← hm c hc]; exact Nat.mul_le_mul_right _ hle
  exact Nat.le_of_mul_le_mul_left h1 hp
theorem mk_red {p q p' q' a b : Nat} (ha : 0 < a) (hb : 0 < b) (h1 : b * p = a * p') (h2 : b * q = a * q') : p / Nat.gcd p q = p' / Nat.gcd p' q' ∧ q / Nat.gcd p q = q' / Nat.gcd p' q' := by
  have hg : b * Nat.gcd p q = a * Nat.gcd p' q' := by
    rw [← Nat.gcd_mul_left, ← Nat.gcd_mul_left, h1, h2]
  constructor
  · rw [← Nat.mul_div_mul_left p (Nat.gcd p q) hb, ← Nat.mul_div_mul_left p' (Nat.gcd p' q') ha, hg, h1]
  · rw [← Nat.mul_div_mul_left q (Nat.gcd p q) hb, ← Nat.mul_div_mul_left q' (Nat.gcd p' q') ha, hg, h2]
/-! Euclid with a bound on its steps -/
def mk_e : Nat → Nat → Nat → Nat
  | 0, a, _ => a
  | f + 1, a, b => if b = 0 then a else mk_e f b (a % b)
theorem mk_e_0 (f a : Nat) : mk_e f a 0 = a := by
  cases f with
  | zero => rfl
  | succ f => exact if_pos rfl
theorem mk_e_s (f a : Nat) {b : Nat} (h : b ≠ 0) : mk_e (f + 1) a b = mk_e f b (a % b) := if_neg h
theorem mk_gcd_s (a b : Nat) : Nat.gcd b (a % b) = Nat.gcd a b := by
  rw [Nat.gcd_comm b (a % b), ← Nat.gcd_rec, Nat.gcd_comm]
theorem mk_e_gcd (h : Nat) : ∀ a b f : Nat, b < 2 ^ h → 2 * h ≤ f → mk_e f a b = Nat.gcd a b := by
  induction h with
  | zero =>
    intro a b f hb _
    have : b = 0 := by simpa using hb
    subst this
    rw [mk_e_0, Nat.gcd_zero_right]
  | succ h ih =>
    intro a b f hb hf
    by_cases e : b = 0
    · subst e; rw [mk_e_0, Nat.gcd_zero_right]
    · obtain ⟨f', rfl⟩ : ∃ f', f = f' + 1 + 1 := ⟨f - 2, by omega⟩
      rw [mk_e_s _ _ e, ← mk_gcd_s a b]
      have hr : a % b < b := Nat.mod_lt a (by omega)
      by_cases e2 : a % b = 0
      · rw [e2, mk_e_0, Nat.gcd_zero_right]
      · rw [mk_e_s _ _ e2, ← mk_gcd_s b (a % b)]
        apply ih _ _ f' _ (by omega)
        have h1 : b % (a % b) < a % b := Nat.mod_lt b (by omega)
        have h2 : b % (a % b) + (a % b) ≤ b := by
          have h3 := Nat.div_add_mod b (a % b)
          have h4 : 1 ≤ b / (a % b) := (Nat.le_div_iff_mul_le (by omega)).mpr (by omega)
          have h5 : (a % b) * 1 ≤ (a % b) * (b / (a % b)) := Nat.mul_le_mul_left _ h4
          omega
        have h6 : 2 ^ (h + 1) = 2 ^ h * 2 := Nat.pow_succ 2 h
        omega
/-! longs as integers -/
def mk_z (x : Int) : Int64 := Int64.ofInt x
theorem mk_z_n (n : Nat) : mk_z (n : Int) = lN n := Int64.ofInt_eq_ofNat
theorem mk_z_T {x : Int} (h1 : -9223372036854775808 ≤ x) (h2 : x < 9223372036854775808) : (mk_z x).toInt = x := Int64.toInt_ofInt_of_le (by omega) (by omega)
theorem mk_z_add (a b : Int) : mk_z a + mk_z b = mk_z (a + b) := (Int64.ofInt_add a b).symm
theorem mk_z_sub (a b : Int) : mk_z a - mk_z b = mk_z (a - b) := (Int64.ofInt_sub a b).symm
theorem mk_z_mul (a b : Int) : mk_z a * mk_z b = mk_z (a * b) := (Int64.ofInt_mul a b).symm
theorem mk_z_neg (a : Int) : - mk_z a = mk_z (- a) := (Int64.ofInt_neg a).symm
theorem mk_z_0 : mk_z 0 = 0 := rfl
theorem mk_z_1 : mk_z 1 = 1 := rfl
theorem mk_z_div {a b : Int} (h1 : -9223372036854775808 ≤ a) (h2 : a < 9223372036854775808) (h3 : -9223372036854775808 ≤ b) (h4 : b < 9223372036854775808) : mk_z a / mk_z b = mk_z (a.tdiv b) := by
  have e1 : Int64.minValue.toInt = -9223372036854775808 := by decide
  have e2 : Int64.maxValue.toInt = 9223372036854775807 := by decide
  exact (Int64.ofInt_tdiv (by rw [e1]; exact h1) (by rw [e2]; omega) (by rw [e1]; exact h3) (by rw [e2]; omega)).symm
theorem mk_z_dvd {a b c : Int} (h1 : -9223372036854775808 ≤ a) (h2 : a < 9223372036854775808) (h3 : -9223372036854775808 ≤ b) (h4 : b < 9223372036854775808) (hb : b ≠ 0) (h : a = b * c) : mk_z a / mk_z b = mk_z c := by
  rw [mk_z_div h1 h2 h3 h4, Int.tdiv_eq_of_eq_mul_right hb h]
theorem mk_z_eq0 {x : Int} (h1 : -9223372036854775808 ≤ x) (h2 : x < 9223372036854775808) : mk_z x = 0 ↔ x = 0 := by
  rw [← Int64.toInt_inj, mk_z_T h1 h2]; exact Iff.rfl
theorem mk_z_lt0 {x : Int} (h1 : -9223372036854775808 ≤ x) (h2 : x < 9223372036854775808) : mk_z x < 0 ↔ x < 0 := by
  rw [Int64.lt_iff_toInt_lt, mk_z_T h1 h2]; exact Iff.rfl
theorem mk_z_i {n : Nat} (h : n < 2 ^ 31) : (nI n).toInt64 = mk_z (n : Int) := by
  rw [mk_z_n]; exact nI_l h
