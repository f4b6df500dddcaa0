/-! fractions over one denominator, the least common denominator, the sum -/
def mk_fn (X D : Nat) : Nat := X / Nat.gcd X D
def mk_fq (X D : Nat) : Nat := D / Nat.gcd X D
theorem mk_f_all {X D : Nat} (hD : 0 < D) (hX : X ≤ D) : 0 < mk_fq X D ∧ mk_fq X D ≤ D ∧ mk_fn X D ≤ mk_fq X D ∧ Nat.gcd (mk_fn X D) (mk_fq X D) = 1 ∧ mk_fq X D ∣ D ∧ mk_fn X D * D = X * mk_fq X D := by
  have hg : 0 < Nat.gcd X D := Nat.gcd_pos_of_pos_right X hD
  obtain ⟨a, ha⟩ := Nat.gcd_dvd_left X D
  obtain ⟨b, hb⟩ := Nat.gcd_dvd_right X D
  have e1 : mk_fn X D = a := by
    unfold mk_fn
    exact Nat.div_eq_of_eq_mul_right hg ha
  have e2 : mk_fq X D = b := by
    unfold mk_fq
    exact Nat.div_eq_of_eq_mul_right hg hb
  rw [e1, e2]
  generalize hG : Nat.gcd X D = G at *
  have hb0 : 0 < b := by
    rcases Nat.eq_zero_or_pos b with z | z
    · rw [z, Nat.mul_zero] at hb; omega
    · exact z
  refine ⟨hb0, ?_, ?_, ?_, ⟨G, by rw [Nat.mul_comm]; exact hb⟩, ?_⟩
  · have : 1 * b ≤ G * b := Nat.mul_le_mul_right b hg
    omega
  · have : G * a ≤ G * b := by rw [← ha, ← hb]; exact hX
    exact Nat.le_of_mul_le_mul_left this hg
  · have h1 : G * Nat.gcd a b = G * 1 := by
      rw [← Nat.gcd_mul_left, ← ha, ← hb, hG, Nat.mul_one]
    exact Nat.eq_of_mul_eq_mul_left hg h1
  · rw [hb, ha, Nat.mul_comm G b, ← Nat.mul_assoc, Nat.mul_comm (a * b) G, ← Nat.mul_assoc]
theorem mk_lc {L q D : Nat} (hL : 0 < L) (hq : 0 < q) (hLD : L ∣ D) (hqD : q ∣ D) (hD : 0 < D) : 0 < L / Nat.gcd L q * q ∧ L / Nat.gcd L q * q ∣ D ∧ L ∣ L / Nat.gcd L q * q ∧ q ∣ L / Nat.gcd L q * q ∧ L / Nat.gcd L q * q ≤ D := by
  have e : L / Nat.gcd L q * q = Nat.lcm L q := by
    obtain ⟨a, ha⟩ := Nat.gcd_dvd_left L q
    have hg : 0 < Nat.gcd L q := Nat.gcd_pos_of_pos_right L hq
    have e1 : L / Nat.gcd L q = a := Nat.div_eq_of_eq_mul_right hg ha
    have e2 : Nat.lcm L q = a * q := by
      show L * q / Nat.gcd L q = a * q
      apply Nat.div_eq_of_eq_mul_right hg
      rw [← Nat.mul_assoc, ← ha]
    rw [e1, e2]
  rw [e]
  have h1 : Nat.lcm L q ∣ D := Nat.lcm_dvd hLD hqD
  exact ⟨Nat.pos_of_dvd_of_pos h1 hD, h1, Nat.dvd_lcm_left L q, Nat.dvd_lcm_right L q, Nat.le_of_dvd hD h1⟩
theorem mk_term {n q L X D : Nat} (hq : 0 < q) (h : q ∣ L) (e : n * D = X * q) : n * (L / q) * D = L * X := by
  obtain ⟨c, rfl⟩ := h
  rw [Nat.mul_div_cancel_left c hq]
  have : n * c * D = c * (n * D) := by rw [Nat.mul_comm n c, Nat.mul_assoc]
  rw [this, e, ← Nat.mul_assoc, Nat.mul_comm (c * X) q, ← Nat.mul_assoc]
theorem mk_termB {n q L : Nat} (h : n ≤ q) : n * (L / q) ≤ L := Nat.le_trans (Nat.mul_le_mul_right _ h) (Nat.mul_div_le L q)
theorem mk_final {S L T n q X D : Nat} (hD : 0 < D) (h1 : S * D = L * (T * X)) (h2 : n * D = X * q) : L * (T * n) = q * S := by
  apply Nat.eq_of_mul_eq_mul_right hD
  have e1 : L * (T * n) * D = L * T * (n * D) := by rw [← Nat.mul_assoc, Nat.mul_assoc (L * T)]
  have e2 : q * S * D = q * (S * D) := Nat.mul_assoc _ _ _
  rw [e1, e2, h1, h2]
  grind
