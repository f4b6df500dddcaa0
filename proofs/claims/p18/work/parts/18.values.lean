/-! Cramer; the values lie between 0 and 1; all over one denominator -/
theorem mk_AT (A : Nat → Nat → Int) (m r j : Nat) : mk_s (fun l => mk_s (fun c => A r c * mk_T A m c l) m * A l j) m = mk_s (fun c => A r c * mk_E A m c j) m := by
  have h1 : mk_s (fun l => mk_s (fun c => A r c * mk_T A m c l) m * A l j) m = mk_s (fun l => mk_s (fun c => A r c * (mk_T A m c l * A l j)) m) m := by
    apply mk_s_congr
    intro l _
    show mk_s (fun c => A r c * mk_T A m c l) m * A l j = mk_s (fun c => A r c * (mk_T A m c l * A l j)) m
    rw [Int.mul_comm, ← mk_s_mul]
    exact mk_s_congr m (fun c _ => by grind)
  rw [h1, mk_s_comm]
  apply mk_s_congr
  intro c hc
  show mk_s (fun l => A r c * (mk_T A m c l * A l j)) m = A r c * mk_E A m c j
  rw [mk_s_mul, mk_E_comb, if_pos hc, Int.add_zero]
theorem mk_cramer (A : Nat → Nat → Int) {m r : Nat} (hd : ∀ l, l ≤ m → mk_d l A ≠ 0) (hr : r < m) (b : Nat) : mk_s (fun c => A r c * mk_E A m c b) m = mk_d m A * A r b := by
  have h2 : ∀ j, mk_s (fun l => (if l = r then mk_d m A else 0) * A l j) m = mk_d m A * A r j := by
    intro j
    rw [mk_s_one (p := r) (N := m) (fun c _ e => by rw [if_neg e, Int.zero_mul]) m (Nat.le_refl m), if_pos hr, if_pos rfl]
  have key := mk_uni A m hd (fun l => mk_s (fun c => A r c * mk_T A m c l) m - (if l = r then mk_d m A else 0)) (by
    intro j hj
    have h1 : mk_s (fun l => (mk_s (fun c => A r c * mk_T A m c l) m - (if l = r then mk_d m A else 0)) * A l j) m = 1 * mk_s (fun l => mk_s (fun c => A r c * mk_T A m c l) m * A l j) m + (-1) * mk_s (fun l => (if l = r then mk_d m A else 0) * A l j) m := by
      rw [← mk_s_lin]
      exact mk_s_congr m (fun l _ => by grind)
    have h3 : mk_s (fun c => A r c * mk_E A m c j) m = A r j * mk_d m A := by
      rw [mk_s_one (p := j) (N := m) (fun c _ e => by rw [mk_E_lo A hj, if_neg e, Int.mul_zero]) m (Nat.le_refl m), if_pos hj, mk_E_lo A hj, if_pos rfl]
    rw [h1, h2, mk_AT, h3]
    grind)
  have h5 : mk_s (fun l => mk_s (fun c => A r c * mk_T A m c l) m * A l b) m = mk_s (fun l => (if l = r then mk_d m A else 0) * A l b) m := by
    apply mk_s_congr
    intro l hl
    rw [Int.sub_eq_zero.mp (key l hl)]
  rw [← mk_AT, h5, h2]
theorem mk_top {A : Nat → Nat → Int} {ρ : Nat → Nat} {m : Nat} (h0 : ∀ i, i < m → mk_Row A ρ m 0 i) (ht : ∀ i, i < m → A i m ≤ mk_s (A i) m) (k : Nat) : k ≤ m → ∀ i, i < m → mk_E A k i m ≤ mk_s (mk_E A k i) m := by
  induction k with
  | zero =>
    intro _ i hi
    have hE : mk_E A 0 i = A i := funext (fun j => mk_E_0 A i j)
    rw [hE]; exact ht i hi
  | succ k ih =>
    intro hk i hi
    have hkm : k < m := by omega
    have h1 := ih (by omega)
    obtain ⟨hd, hr⟩ := mk_sgn h0 k (by omega)
    obtain ⟨hd', _⟩ := mk_sgn h0 (k + 1) hk
    by_cases e : i = k
    · subst e
      have hE : mk_E A (i + 1) i = mk_E A i i := funext (fun j => mk_E_piv A i j)
      rw [hE]; exact h1 i hi
    · have hD : 0 < mk_d k A := hd k (Nat.le_refl k)
      have hp : 0 < mk_d (k + 1) A := hd' (k + 1) (Nat.le_refl _)
      have hstep := mk_step A (k := k) (i := i) (fun l hl => by have := hd' l hl; omega) e
      have hik : mk_E A k i k ≤ 0 := (hr i hi).1 k hkm (Ne.symm e)
      have hsum : mk_d k A * mk_s (mk_E A (k + 1) i) m = mk_d (k + 1) A * mk_s (mk_E A k i) m - mk_E A k i k * mk_s (mk_E A k k) m := by
        have g1 : mk_d k A * mk_s (mk_E A (k + 1) i) m = mk_s (fun j => mk_d k A * mk_E A (k + 1) i j) m := (mk_s_mul _ _ m).symm
        have g2 : mk_s (fun j => mk_d k A * mk_E A (k + 1) i j) m = mk_s (fun j => mk_d (k + 1) A * mk_E A k i j + (- mk_E A k i k) * mk_E A k k j) m :=
          mk_s_congr m (fun j _ => by rw [hstep j]; grind)
        rw [g1, g2, mk_s_lin]; grind
      have q1 := h1 i hi
      have q2 := h1 k hkm
      have g3 : mk_d k A * (mk_s (mk_E A (k + 1) i) m - mk_E A (k + 1) i m) = mk_d (k + 1) A * (mk_s (mk_E A k i) m - mk_E A k i m) - mk_E A k i k * (mk_s (mk_E A k k) m - mk_E A k k m) := by
        have := hstep m
        rw [Int.mul_sub, hsum, this]; grind
      have g4 : 0 ≤ mk_s (mk_E A (k + 1) i) m - mk_E A (k + 1) i m := by
        apply mk_nn hD
        rw [g3]
        have a1 := Int.mul_nonneg (Int.le_of_lt hp) (show 0 ≤ mk_s (mk_E A k i) m - mk_E A k i m by omega)
        have a2 := mk_qn hik (show 0 ≤ mk_s (mk_E A k k) m - mk_E A k k m by omega)
        omega
      omega
theorem mk_le1 {A : Nat → Nat → Int} {m : Nat} (H : mk_H A m) (ht : ∀ i, i < m → A i m ≤ mk_s (A i) m) {i : Nat} (hi : i < m) : mk_E A m i m ≤ mk_d m A := by
  obtain ⟨_, _, ρ, h0⟩ := H
  have h1 := mk_top h0 ht m (Nat.le_refl m) i hi
  have h2 : mk_s (mk_E A m i) m = mk_d m A := by
    rw [mk_s_one (p := i) (N := m) (fun c hc e => by rw [mk_E_lo A hc, if_neg (Ne.symm e)]) m (Nat.le_refl m), if_pos hi, mk_E_lo A hi, if_pos rfl]
  omega
/-! the numerators over the common denominator -/
def mk_D (wt : Nat → Int32) (N : Nat) (phi psi : Nat → Bool) : Nat := (mk_d (mk_cn (mk_U (mk_w wt) N phi psi) N) (mk_M wt N phi psi)).natAbs
def mk_X (wt : Nat → Int32) (N : Nat) (phi psi : Nat → Bool) (t : Nat) : Nat :=
  if mk_U (mk_w wt) N phi psi t = true then (mk_E (mk_M wt N phi psi) (mk_cn (mk_U (mk_w wt) N phi psi) N) (mk_cn (mk_U (mk_w wt) N phi psi) t) (mk_cn (mk_U (mk_w wt) N phi psi) N)).natAbs
  else if mk_O (mk_w wt) N phi psi t = true then mk_D wt N phi psi else 0
theorem mk_D_pos {wt : Nat → Int32} {N : Nat} {phi psi : Nat → Bool} (hW : mk_W wt N) (hN : N ≤ 12) (hpsi : ∀ s, psi s = true → s < N) : 0 < mk_D wt N phi psi ∧ mk_D wt N phi psi ≤ 1073741824 := by
  have H := mk_M_H (phi := phi) hW hN hpsi
  have h1 := mk_H_d H (k := mk_cn (mk_U (mk_w wt) N phi psi) N) (Nat.le_refl _)
  unfold mk_D
  refine ⟨by omega, ?_⟩
  by_cases e : mk_cn (mk_U (mk_w wt) N phi psi) N = 0
  · rw [e]; exact (by decide : (1 : Int).natAbs ≤ 1073741824)
  · exact mk_H_dB H (Nat.le_refl _) (by omega)
theorem mk_M_top {wt : Nat → Int32} {N : Nat} {phi psi : Nat → Bool} : ∀ i, i < mk_cn (mk_U (mk_w wt) N phi psi) N → mk_M wt N phi psi i (mk_cn (mk_U (mk_w wt) N phi psi) N) ≤ mk_s (mk_M wt N phi psi i) (mk_cn (mk_U (mk_w wt) N phi psi) N) := by
  intro i hi
  unfold mk_M
  rw [mk_A_m, mk_A_sum (mk_id_L _ N) hi]
  apply mk_s_mono
  intro t ht
  by_cases hO : mk_O (mk_w wt) N phi psi t = true
  · rw [if_pos hO, if_neg (fun hU => mk_U_O t ht hU hO)]; exact Int.le_refl _
  · rw [if_neg hO]
    by_cases hU : mk_U (mk_w wt) N phi psi t = true
    · rw [if_pos hU]; exact Int.le_refl _
    · rw [if_neg hU]; exact Int.natCast_nonneg _
theorem mk_X_le {wt : Nat → Int32} {N : Nat} {phi psi : Nat → Bool} (hW : mk_W wt N) (hN : N ≤ 12) (hpsi : ∀ s, psi s = true → s < N) {t : Nat} (ht : t < N) : mk_X wt N phi psi t ≤ mk_D wt N phi psi := by
  have H := mk_M_H (phi := phi) hW hN hpsi
  unfold mk_X
  by_cases hU : mk_U (mk_w wt) N phi psi t = true
  · rw [if_pos hU]
    have hr := mk_cn_lt hU ht
    have h1 := mk_le1 H mk_M_top hr
    have h2 := mk_H_rhs H (Nat.le_refl _) hr
    unfold mk_D
    omega
  · rw [if_neg hU]
    by_cases hO : mk_O (mk_w wt) N phi psi t = true
    · rw [if_pos hO]; exact Nat.le_refl _
    · rw [if_neg hO]; exact Nat.zero_le _
theorem mk_unX {wt : Nat → Int32} {N : Nat} {phi psi : Nat → Bool} (hW : mk_W wt N) (hN : N ≤ 12) (hpsi : ∀ s, psi s = true → s < N) {t : Nat} (ht : t < N) : mk_un wt N phi psi t = lN (mk_X wt N phi psi t / Nat.gcd (mk_X wt N phi psi t) (mk_D wt N phi psi)) ∧ mk_um wt N phi psi t = lN (mk_D wt N phi psi / Nat.gcd (mk_X wt N phi psi t) (mk_D wt N phi psi)) := by
  have hD := mk_D_pos (phi := phi) hW hN hpsi
  unfold mk_un mk_um mk_F mk_G
  by_cases hU : mk_U (mk_w wt) N phi psi t = true
  · have hr := mk_cn_lt hU ht
    have e : mk_X wt N phi psi t = (mk_E (mk_M wt N phi psi) (mk_cn (mk_U (mk_w wt) N phi psi) N) (mk_cn (mk_U (mk_w wt) N phi psi) t) (mk_cn (mk_U (mk_w wt) N phi psi) N)).natAbs := if_pos hU
    rw [if_pos ⟨hU, hr⟩, if_pos ⟨hU, hr⟩, e]
    unfold mk_vn mk_vm mk_D
    rw [mk_E_lo (i := mk_cn (mk_U (mk_w wt) N phi psi) t) (j := mk_cn (mk_U (mk_w wt) N phi psi) t) _ hr, if_pos rfl]
    exact ⟨rfl, rfl⟩
  · have hn : ¬ (mk_U (mk_w wt) N phi psi t = true ∧ mk_cn (mk_U (mk_w wt) N phi psi) t < mk_cn (mk_U (mk_w wt) N phi psi) N) := fun z => hU z.1
    rw [if_neg hn, if_neg hn]
    by_cases hO : mk_O (mk_w wt) N phi psi t = true
    · have e : mk_X wt N phi psi t = mk_D wt N phi psi := by
        unfold mk_X; rw [if_neg hU, if_pos hO]
      rw [if_pos hO, e, Nat.gcd_self, Nat.div_self hD.1]
      exact ⟨rfl, rfl⟩
    · have e : mk_X wt N phi psi t = 0 := by
        unfold mk_X; rw [if_neg hU, if_neg hO]
      rw [if_neg hO, e, Nat.gcd_zero_left, Nat.zero_div, Nat.div_self hD.1]
      exact ⟨rfl, rfl⟩
theorem mk_X_eq {wt : Nat → Int32} {N : Nat} {phi psi : Nat → Bool} (hW : mk_W wt N) (hN : N ≤ 12) (hpsi : ∀ s, psi s = true → s < N) {s : Nat} (hs : s < N) (hU : mk_U (mk_w wt) N phi psi s = true) : mk_t (mk_w wt s) N * mk_X wt N phi psi s = mk_t (fun t => mk_w wt s t * mk_X wt N phi psi t) N := by
  have H := mk_M_H (phi := phi) hW hN hpsi
  have hr := mk_cn_lt hU hs
  have hid := mk_id_L (mk_U (mk_w wt) N phi psi) N s hs hU
  have hd : ∀ l, l ≤ mk_cn (mk_U (mk_w wt) N phi psi) N → mk_d l (mk_M wt N phi psi) ≠ 0 := fun l hl => by
    have := mk_H_d H hl
    omega
  have hdp := mk_H_d H (k := mk_cn (mk_U (mk_w wt) N phi psi) N) (Nat.le_refl _)
  have c1 := mk_cramer (mk_M wt N phi psi) hd hr (mk_cn (mk_U (mk_w wt) N phi psi) N)
  generalize hm : mk_cn (mk_U (mk_w wt) N phi psi) N = m at *
  have eX : ∀ t, t < N → mk_U (mk_w wt) N phi psi t = true → (mk_X wt N phi psi t : Int) = mk_E (mk_M wt N phi psi) m (mk_cn (mk_U (mk_w wt) N phi psi) t) m := by
    intro t ht hu
    have hrt := mk_cn_lt hu ht
    rw [hm] at hrt
    have := mk_H_rhs H (Nat.le_refl m) hrt
    unfold mk_X
    rw [if_pos hu, hm]
    omega
  have eD : (mk_D wt N phi psi : Int) = mk_d m (mk_M wt N phi psi) := by
    unfold mk_D
    rw [hm]; omega
  -- the left side of Cramer, by states
  have l1 : mk_s (fun c => mk_M wt N phi psi (mk_cn (mk_U (mk_w wt) N phi psi) s) c * mk_E (mk_M wt N phi psi) m c m) m = mk_s (fun c => (if c = mk_cn (mk_U (mk_w wt) N phi psi) s then (mk_t (mk_w wt s) N : Int) * (mk_X wt N phi psi s : Int) else 0) + - ((fun t => (mk_w wt s t : Int) * (mk_X wt N phi psi t : Int)) (mk_id (mk_U (mk_w wt) N phi psi) N c))) m := by
    apply mk_s_congr
    intro c hc
    obtain ⟨a1, a2, a3⟩ := mk_L_idx (mk_id_L (mk_U (mk_w wt) N phi psi) N) (show c < mk_cn (mk_U (mk_w wt) N phi psi) N by omega)
    have e1 : mk_M wt N phi psi (mk_cn (mk_U (mk_w wt) N phi psi) s) c = (if c = mk_cn (mk_U (mk_w wt) N phi psi) s then (mk_t (mk_w wt s) N : Int) else 0) - (mk_w wt s (mk_id (mk_U (mk_w wt) N phi psi) N c) : Int) := by
      unfold mk_M
      rw [hm, mk_A_c hc, hid, mk_t_int]
    have e2 := eX _ a1 a2
    rw [a3] at e2
    show mk_M wt N phi psi (mk_cn (mk_U (mk_w wt) N phi psi) s) c * mk_E (mk_M wt N phi psi) m c m = _ + - ((mk_w wt s (mk_id (mk_U (mk_w wt) N phi psi) N c) : Int) * (mk_X wt N phi psi (mk_id (mk_U (mk_w wt) N phi psi) N c) : Int))
    rw [e1, e2]
    by_cases g : c = mk_cn (mk_U (mk_w wt) N phi psi) s
    · have e3 := eX s hs hU
      rw [if_pos g, if_pos g, e3, ← g]; grind
    · rw [if_neg g, if_neg g]; grind
  have l2 : mk_s (fun c => if c = mk_cn (mk_U (mk_w wt) N phi psi) s then (mk_t (mk_w wt s) N : Int) * (mk_X wt N phi psi s : Int) else 0) m = (mk_t (mk_w wt s) N : Int) * (mk_X wt N phi psi s : Int) := by
    rw [mk_s_one (p := mk_cn (mk_U (mk_w wt) N phi psi) s) (N := m) (fun c _ e => if_neg e) m (Nat.le_refl m), if_pos (by omega), if_pos rfl]
  have l3 : mk_s (fun c => (fun t => (mk_w wt s t : Int) * (mk_X wt N phi psi t : Int)) (mk_id (mk_U (mk_w wt) N phi psi) N c)) m = mk_s (fun t => if mk_U (mk_w wt) N phi psi t = true then (mk_w wt s t : Int) * (mk_X wt N phi psi t : Int) else 0) N := by
    have := mk_L_s (mk_id_L (mk_U (mk_w wt) N phi psi) N) (fun t => (mk_w wt s t : Int) * (mk_X wt N phi psi t : Int)) N (Nat.le_refl N)
    rw [hm] at this
    exact this
  have r1 : mk_d m (mk_M wt N phi psi) * mk_M wt N phi psi (mk_cn (mk_U (mk_w wt) N phi psi) s) m = mk_s (fun t => (mk_D wt N phi psi : Int) * (if mk_O (mk_w wt) N phi psi t = true then (mk_w wt s t : Int) else 0)) N := by
    have e1 : mk_M wt N phi psi (mk_cn (mk_U (mk_w wt) N phi psi) s) m = mk_s (fun t => if mk_O (mk_w wt) N phi psi t = true then (mk_w wt s t : Int) else 0) N := by
      unfold mk_M
      rw [hm, mk_A_m, hid]
    rw [e1, mk_s_mul, eD]
  have f1 : mk_s (fun t => (mk_w wt s t : Int) * (mk_X wt N phi psi t : Int)) N = mk_s (fun t => (if mk_U (mk_w wt) N phi psi t = true then (mk_w wt s t : Int) * (mk_X wt N phi psi t : Int) else 0) + (mk_D wt N phi psi : Int) * (if mk_O (mk_w wt) N phi psi t = true then (mk_w wt s t : Int) else 0)) N := by
    apply mk_s_congr
    intro t ht
    by_cases hu : mk_U (mk_w wt) N phi psi t = true
    · rw [if_pos hu, if_neg (fun ho => mk_U_O t ht hu ho)]; omega
    · rw [if_neg hu]
      by_cases ho : mk_O (mk_w wt) N phi psi t = true
      · have e : mk_X wt N phi psi t = mk_D wt N phi psi := by
          unfold mk_X; rw [if_neg hu, if_pos ho]
        rw [if_pos ho, e]; grind
      · have e : mk_X wt N phi psi t = 0 := by
          unfold mk_X; rw [if_neg hu, if_neg ho]
        rw [if_neg ho, e]; grind
  have f2 : mk_s (fun t => (mk_w wt s t : Int) * (mk_X wt N phi psi t : Int)) N = (mk_t (fun t => mk_w wt s t * mk_X wt N phi psi t) N : Int) := by
    rw [← mk_t_int]
    exact mk_s_congr N (fun t _ => by rw [Int.natCast_mul])
  rw [l1, mk_s_add, l2, mk_s_neg, l3, r1] at c1
  rw [mk_s_add] at f1
  have f3 : ((mk_t (mk_w wt s) N * mk_X wt N phi psi s : Nat) : Int) = (mk_t (fun t => mk_w wt s t * mk_X wt N phi psi t) N : Int) := by
    rw [Int.natCast_mul]; omega
  omega
