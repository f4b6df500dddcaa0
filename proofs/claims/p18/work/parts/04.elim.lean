/-! elimination without fractions: the entry after k pivots is a minor -/
def mk_u (l : Nat) : Nat → Int := fun r => if r = l then 1 else 0
theorem mk_s_unit (x : Nat → Int) {r n : Nat} (h : r < n) : mk_s (fun l => x l * mk_u l r) n = x r := by
  have hz : ∀ c, c < n → c ≠ r → x c * mk_u c r = 0 := by
    intro c _ hne
    show x c * (if r = c then 1 else 0) = 0
    rw [if_neg (Ne.symm hne), Int.mul_zero]
  rw [mk_s_one (p := r) (N := n) hz n (Nat.le_refl n), if_pos h]
  show x r * (if r = r then 1 else 0) = x r
  rw [if_pos rfl, Int.mul_one]
def mk_T (A : Nat → Nat → Int) (k i l : Nat) : Int := if i < k then mk_d k (mk_c A i (mk_u l)) else - mk_s (fun c => A i c * mk_d k (mk_c A c (mk_u l))) k
def mk_E (A : Nat → Nat → Int) (k i j : Nat) : Int := if i < k then mk_d k (mk_c A i (fun r => A r j)) else A i j * mk_d k A - mk_s (fun c => A i c * mk_d k (mk_c A c (fun r => A r j))) k
theorem mk_E_0 (A : Nat → Nat → Int) (i j : Nat) : mk_E A 0 i j = A i j := by
  show (if i < 0 then _ else A i j * 1 - 0) = A i j
  rw [if_neg (by omega), Int.mul_one, Int.sub_zero]
theorem mk_E_col (A : Nat → Nat → Int) {k c : Nat} (j : Nat) (hc : c < k) : mk_d k (mk_c A c (fun r => A r j)) = mk_s (fun l => mk_d k (mk_c A c (mk_u l)) * A l j) k := by
  have h := mk_d_sum A hc (fun l => A l j) mk_u k
  have e : mk_d k (mk_c A c (fun r => A r j)) = mk_d k (mk_c A c (fun r => mk_s (fun l => A l j * mk_u l r) k)) := by
    apply mk_d_congr
    intro r c' hr hc'
    by_cases g : c' = c
    · rw [g, mk_c_at, mk_c_at]; exact (mk_s_unit (fun l => A l j) hr).symm
    · rw [mk_c_ne g, mk_c_ne g]
  rw [e, h]
  exact mk_s_congr k (fun l _ => Int.mul_comm _ _)
theorem mk_E_comb (A : Nat → Nat → Int) (k i j : Nat) : mk_E A k i j = mk_s (fun l => mk_T A k i l * A l j) k + (if i < k then 0 else mk_d k A * A i j) := by
  by_cases h : i < k
  · have e : mk_s (fun l => mk_T A k i l * A l j) k = mk_s (fun l => mk_d k (mk_c A i (mk_u l)) * A l j) k :=
      mk_s_congr k (fun l _ => by show (if i < k then _ else _) * A l j = _; rw [if_pos h])
    rw [e, if_pos h, Int.add_zero, ← mk_E_col A j h]
    exact if_pos h
  · have e : mk_s (fun l => mk_T A k i l * A l j) k = mk_s (fun l => - mk_s (fun c => A i c * (mk_d k (mk_c A c (mk_u l)) * A l j)) k) k := by
      apply mk_s_congr
      intro l _
      have h1 : mk_T A k i l = - mk_s (fun c => A i c * mk_d k (mk_c A c (mk_u l))) k := if_neg h
      have h2 : mk_s (fun c => A i c * (mk_d k (mk_c A c (mk_u l)) * A l j)) k = A l j * mk_s (fun c => A i c * mk_d k (mk_c A c (mk_u l))) k := by
        rw [← mk_s_mul]
        exact mk_s_congr k (fun c _ => by grind)
      rw [h1, h2]; grind
    have e1 : mk_s (fun c => A i c * mk_d k (mk_c A c (fun r => A r j))) k = mk_s (fun c => mk_s (fun l => A i c * (mk_d k (mk_c A c (mk_u l)) * A l j)) k) k :=
      mk_s_congr k (fun c hc => by rw [mk_E_col A j hc, mk_s_mul])
    have e2 : mk_E A k i j = A i j * mk_d k A - mk_s (fun c => A i c * mk_d k (mk_c A c (fun r => A r j))) k := if_neg h
    rw [e2, e, if_neg h, e1, mk_s_neg, mk_s_comm]
    grind
theorem mk_E_lo (A : Nat → Nat → Int) {k i j : Nat} (hj : j < k) : mk_E A k i j = if i = j then mk_d k A else 0 := by
  have col : ∀ c, c < k → mk_d k (mk_c A c (fun r => A r j)) = if c = j then mk_d k A else 0 := by
    intro c hc
    by_cases h : c = j
    · rw [if_pos h]
      apply mk_d_congr
      intro r c' _ _
      by_cases g : c' = c
      · rw [g, mk_c_at, h]
      · exact mk_c_ne g
    · rw [if_neg h]
      apply mk_d_ne k _ c j h hc hj
      intro r _
      rw [mk_c_at, mk_c_ne (Ne.symm h)]
  by_cases h : i < k
  · have e : mk_E A k i j = mk_d k (mk_c A i (fun r => A r j)) := if_pos h
    rw [e]; exact col i h
  · have e : mk_E A k i j = A i j * mk_d k A - mk_s (fun c => A i c * mk_d k (mk_c A c (fun r => A r j))) k := if_neg h
    have hz : ∀ c, c < k → c ≠ j → A i c * mk_d k (mk_c A c (fun r => A r j)) = 0 := by
      intro c hc hne
      rw [col c hc, if_neg hne, Int.mul_zero]
    rw [e, if_neg (show ¬ i = j by omega), mk_s_one (p := j) (N := k) hz k (Nat.le_refl k), if_pos hj, col j hj, if_pos rfl, Int.sub_self]
theorem mk_E_kk (A : Nat → Nat → Int) (k : Nat) : mk_E A k k k = mk_d (k + 1) A := by
  have e : mk_E A k k k = A k k * mk_d k A - mk_s (fun c => A k c * mk_d k (mk_c A c (fun r => A r k))) k := if_neg (Nat.lt_irrefl k)
  rw [e, mk_d_succ]
theorem mk_E_piv (A : Nat → Nat → Int) (k j : Nat) : mk_E A (k + 1) k j = mk_E A k k j := by
  have e : mk_E A k k j = A k j * mk_d k A - mk_s (fun c => A k c * mk_d k (mk_c A c (fun r => A r j))) k := if_neg (Nat.lt_irrefl k)
  have e1 : mk_E A (k + 1) k j = mk_d (k + 1) (mk_c A k (fun r => A r j)) := if_pos (Nat.lt_succ_self k)
  rw [e, e1, mk_d_last]
theorem mk_uni (A : Nat → Nat → Int) (k : Nat) : (∀ l, l ≤ k → mk_d l A ≠ 0) → ∀ y : Nat → Int, (∀ j, j < k → mk_s (fun l => y l * A l j) k = 0) → ∀ l, l < k → y l = 0 := by
  induction k with
  | zero => intro _ y _ l hl; omega
  | succ k ih =>
    intro hd y hy
    have hdk := hd k (by omega)
    have hdk1 := hd (k + 1) (Nat.le_refl _)
    have hz : ∀ j, mk_s (fun l => (mk_d k A * y l - y k * mk_T A k k l) * A l j) k = mk_d k A * mk_s (fun l => y l * A l j) (k + 1) - y k * mk_E A k k j := by
      intro j
      have h1 : mk_s (fun l => (mk_d k A * y l - y k * mk_T A k k l) * A l j) k = mk_d k A * mk_s (fun l => y l * A l j) k + (- y k) * mk_s (fun l => mk_T A k k l * A l j) k := by
        rw [← mk_s_lin]
        exact mk_s_congr k (fun l _ => by grind)
      have h2 : mk_s (fun l => y l * A l j) (k + 1) = mk_s (fun l => y l * A l j) k + y k * A k j := rfl
      rw [mk_E_comb, if_neg (Nat.lt_irrefl k), h1, h2]
      grind
    have hz0 : ∀ l, l < k → mk_d k A * y l - y k * mk_T A k k l = 0 := by
      apply ih (fun l hl => hd l (by omega)) (fun l => mk_d k A * y l - y k * mk_T A k k l)
      intro j hj
      rw [hz j, hy j (by omega), mk_E_lo A hj, if_neg (show ¬ k = j by omega), Int.mul_zero, Int.mul_zero]; rfl
    have ht : y k = 0 := by
      have h1 := hz k
      have h2 : mk_s (fun l => (mk_d k A * y l - y k * mk_T A k k l) * A l k) k = 0 := by
        rw [mk_s_congr (g := fun _ => 0) k (fun l hl => by rw [hz0 l hl, Int.zero_mul]), mk_s_zero]
      rw [h2, hy k (by omega), mk_E_kk, Int.mul_zero] at h1
      have h3 : y k * mk_d (k + 1) A = 0 := by omega
      rcases Int.mul_eq_zero.mp h3 with h | h
      · exact h
      · exact absurd h hdk1
    intro l hl
    by_cases e : l = k
    · rw [e]; exact ht
    · have h := hz0 l (by omega)
      rw [ht, Int.zero_mul, Int.sub_zero] at h
      rcases Int.mul_eq_zero.mp h with h | h
      · exact absurd h hdk
      · exact h
/-- the step of the elimination -/
theorem mk_step (A : Nat → Nat → Int) {k i : Nat} (hd : ∀ l, l ≤ k + 1 → mk_d l A ≠ 0) (hi : i ≠ k) (j : Nat) : mk_d k A * mk_E A (k + 1) i j = mk_d (k + 1) A * mk_E A k i j - mk_E A k i k * mk_E A k k j := by
  have G : ∀ j, mk_s (fun l => (mk_d k A * mk_T A (k + 1) i l - (if l < k then mk_d (k + 1) A * mk_T A k i l - mk_E A k i k * mk_T A k k l else - (mk_E A k i k * mk_d k A))) * A l j) (k + 1) = mk_d k A * mk_E A (k + 1) i j - (mk_d (k + 1) A * mk_E A k i j - mk_E A k i k * mk_E A k k j) := by
    intro j
    have h1 : mk_s (fun l => (mk_d k A * mk_T A (k + 1) i l - (if l < k then mk_d (k + 1) A * mk_T A k i l - mk_E A k i k * mk_T A k k l else - (mk_E A k i k * mk_d k A))) * A l j) k = mk_d k A * mk_s (fun l => mk_T A (k + 1) i l * A l j) k + 1 * ((- mk_d (k + 1) A) * mk_s (fun l => mk_T A k i l * A l j) k + mk_E A k i k * mk_s (fun l => mk_T A k k l * A l j) k) := by
      rw [← mk_s_lin, ← mk_s_lin]
      apply mk_s_congr
      intro l hl
      rw [if_pos hl]; grind
    have h2 : mk_s (fun l => (mk_d k A * mk_T A (k + 1) i l - (if l < k then mk_d (k + 1) A * mk_T A k i l - mk_E A k i k * mk_T A k k l else - (mk_E A k i k * mk_d k A))) * A l j) (k + 1) = mk_s (fun l => (mk_d k A * mk_T A (k + 1) i l - (if l < k then mk_d (k + 1) A * mk_T A k i l - mk_E A k i k * mk_T A k k l else - (mk_E A k i k * mk_d k A))) * A l j) k + (mk_d k A * mk_T A (k + 1) i k + mk_E A k i k * mk_d k A) * A k j := by
      show _ + (mk_d k A * mk_T A (k + 1) i k - (if k < k then _ else - (mk_E A k i k * mk_d k A))) * A k j = _
      rw [if_neg (Nat.lt_irrefl k)]; grind
    have h3 : mk_s (fun l => mk_T A (k + 1) i l * A l j) (k + 1) = mk_s (fun l => mk_T A (k + 1) i l * A l j) k + mk_T A (k + 1) i k * A k j := rfl
    have h4 := mk_E_comb A (k + 1) i j
    have h5 := mk_E_comb A k i j
    have h6 := mk_E_comb A k k j
    rw [if_neg (Nat.lt_irrefl k)] at h6
    rw [h2, h1, h4, h5, h6, h3]
    by_cases hk : i < k
    · rw [if_pos hk, if_pos (show i < k + 1 by omega)]; grind
    · rw [if_neg hk, if_neg (show ¬ i < k + 1 by omega)]; grind
  have hy := mk_uni A (k + 1) hd (fun l => mk_d k A * mk_T A (k + 1) i l - (if l < k then mk_d (k + 1) A * mk_T A k i l - mk_E A k i k * mk_T A k k l else - (mk_E A k i k * mk_d k A))) (by
    intro j hj
    rw [G j]
    by_cases e : j = k
    · subst e
      rw [mk_E_lo A (Nat.lt_succ_self j), if_neg hi, mk_E_kk]; grind
    · have hj' : j < k := by omega
      rw [mk_E_lo A hj, mk_E_lo A hj', mk_E_lo (i := k) A hj', if_neg (show ¬ k = j by omega)]
      by_cases e2 : i = j
      · rw [if_pos e2, if_pos e2]; grind
      · rw [if_neg e2, if_neg e2]; grind)
  have h0 := G j
  rw [mk_s_congr (g := fun _ => 0) (k + 1) (fun l hl => by rw [hy l hl, Int.zero_mul]), mk_s_zero] at h0
  omega
/-- the bound of every entry -/
theorem mk_E_bd {A : Nat → Nat → Int} {m : Nat} (hA : ∀ r, r < m → mk_r A r (m + 1) ≤ 8) {k i j : Nat} (hk : k ≤ m) (hi : i < m) (hj : j ≤ m) : ((mk_E A k i j).natAbs : Int) ≤ mk_B m := by
  have nn : ∀ r, ∀ c, (0 : Int) ≤ ((A r c).natAbs : Int) := fun r c => Int.natCast_nonneg _
  have hlow : ∀ r, r < m → mk_r A r k ≤ 8 := fun r hr => Int.le_trans (mk_s_part (nn r) (m + 1) (by omega)) (hA r hr)
  have hD : ((mk_d k A).natAbs : Int) ≤ mk_B k := mk_d_bd k A (fun r hr => hlow r (by omega))
  have hkm := mk_B_mono m hk
  by_cases h : j < k
  · rw [mk_E_lo A h]
    by_cases e : i = j
    · rw [if_pos e]; omega
    · rw [if_neg e]
      have := mk_B_pos m
      show (0 : Int) ≤ mk_B m
      omega
  · have h2 : ∀ r, r < m → mk_r A r k + ((A r j).natAbs : Int) ≤ 8 := fun r hr => Int.le_trans (mk_s_part2 (nn r) (by omega) m hj) (hA r hr)
    have hC : ∀ c, c < k → ((mk_d k (mk_c A c (fun r => A r j))).natAbs : Int) ≤ mk_B k := by
      intro c _
      apply mk_d_bd
      intro r hr
      exact Int.le_trans mk_r_c (h2 r (by omega))
    by_cases hik : i < k
    · have e : mk_E A k i j = mk_d k (mk_c A i (fun r => A r j)) := if_pos hik
      rw [e]
      exact Int.le_trans (hC i hik) hkm
    · have e : mk_E A k i j = A i j * mk_d k A - mk_s (fun c => A i c * mk_d k (mk_c A c (fun r => A r j))) k := if_neg hik
      have h3 := mk_expB (x := A i j) (f := fun c => A i c) (n := k) hD hC
      have h4 := h2 i hi
      have h5 := mk_B_pos k
      have h6 : mk_B (k + 1) ≤ mk_B m := mk_B_mono m (by omega)
      rw [e]
      refine Int.le_trans h3 (Int.le_trans ?_ h6)
      show mk_B k * (mk_r A i k + ((A i j).natAbs : Int)) ≤ 8 * mk_B k
      rw [Int.mul_comm 8]
      exact Int.mul_le_mul_of_nonneg_left h4 (by omega)
/-! signs -/
theorem mk_np {D x : Int} (hD : 0 < D) (h : D * x ≤ 0) : x ≤ 0 :=
  Int.not_lt.mp (fun g => absurd (Int.mul_pos hD g) (Int.not_lt.mpr h))
theorem mk_nn {D x : Int} (hD : 0 < D) (h : 0 ≤ D * x) : 0 ≤ x :=
  Int.not_lt.mp (fun g => absurd (Int.mul_neg_of_pos_of_neg hD g) (Int.not_lt.mpr h))
theorem mk_ps {D x : Int} (hD : 0 < D) (h : 0 < D * x) : 0 < x :=
  Int.not_le.mp (fun g => absurd (Int.mul_nonneg (Int.le_of_lt hD) (show 0 ≤ -x by omega)) (by rw [Int.mul_neg]; omega))
theorem mk_ng {D x : Int} (hD : 0 < D) (h : D * x < 0) : x < 0 :=
  Int.not_le.mp (fun g => absurd (Int.mul_nonneg (Int.le_of_lt hD) g) (by omega))
theorem mk_pn {a b : Int} (ha : 0 < a) (hb : b ≤ 0) : a * b ≤ 0 := by
  have h := Int.mul_nonneg (Int.le_of_lt ha) (show 0 ≤ -b by omega)
  rw [Int.mul_neg] at h; omega
theorem mk_qn {a b : Int} (ha : a ≤ 0) (hb : 0 ≤ b) : a * b ≤ 0 := by
  have h := Int.mul_nonneg (show 0 ≤ -a by omega) hb
  rw [Int.neg_mul] at h; omega
def mk_Row (A : Nat → Nat → Int) (ρ : Nat → Nat) (m k i : Nat) : Prop :=
  (∀ j, j < m → j ≠ i → mk_E A k i j ≤ 0) ∧ 0 ≤ mk_E A k i m ∧ 0 ≤ mk_s (mk_E A k i) m ∧
  (k ≤ i → 0 < mk_s (mk_E A k i) m ∨ ∃ j, k ≤ j ∧ j < m ∧ j ≠ i ∧ mk_E A k i j < 0 ∧ ρ j < ρ i)
theorem mk_Row_own {A : Nat → Nat → Int} {ρ : Nat → Nat} {m k i : Nat} (h : mk_Row A ρ m k i) (hi : i < m) (hk : k ≤ i) : 0 < mk_E A k i i := by
  obtain ⟨h1, _, h3, h4⟩ := h
  refine mk_diag (f := mk_E A k i) hi h1 h3 ?_
  rcases h4 hk with g | ⟨j, _, b, c, d, _⟩
  · exact Or.inl g
  · exact Or.inr ⟨j, b, c, d⟩
theorem mk_sgn {A : Nat → Nat → Int} {ρ : Nat → Nat} {m : Nat} (h0 : ∀ i, i < m → mk_Row A ρ m 0 i) (k : Nat) : k ≤ m → (∀ l, l ≤ k → 0 < mk_d l A) ∧ ∀ i, i < m → mk_Row A ρ m k i := by
  induction k with
  | zero =>
    intro _
    refine ⟨?_, h0⟩
    intro l hl
    have : l = 0 := by omega
    subst this
    exact Int.zero_lt_one
  | succ k ih =>
    intro hk
    obtain ⟨hd, hr⟩ := ih (by omega)
    have hkm : k < m := by omega
    have hK := hr k hkm
    have hp : 0 < mk_d (k + 1) A := by
      rw [← mk_E_kk]; exact mk_Row_own hK hkm (Nat.le_refl k)
    have hd' : ∀ l, l ≤ k + 1 → 0 < mk_d l A := by
      intro l hl
      by_cases e : l = k + 1
      · rw [e]; exact hp
      · exact hd l (by omega)
    refine ⟨hd', ?_⟩
    intro i hi
    obtain ⟨k1, k2, k3, k4⟩ := hK
    by_cases e : i = k
    · subst e
      have hE : mk_E A (i + 1) i = mk_E A i i := funext (fun j => mk_E_piv A i j)
      unfold mk_Row
      rw [hE]
      exact ⟨k1, k2, k3, fun g => by omega⟩
    · obtain ⟨i1, i2, i3, i4⟩ := hr i hi
      have hD : 0 < mk_d k A := hd k (Nat.le_refl k)
      have hstep := mk_step A (k := k) (i := i) (fun l hl => by have := hd' l hl; omega) e
      have hik : mk_E A k i k ≤ 0 := i1 k hkm (Ne.symm e)
      have hsum : mk_d k A * mk_s (mk_E A (k + 1) i) m = mk_d (k + 1) A * mk_s (mk_E A k i) m - mk_E A k i k * mk_s (mk_E A k k) m := by
        have g1 : mk_d k A * mk_s (mk_E A (k + 1) i) m = mk_s (fun j => mk_d k A * mk_E A (k + 1) i j) m := (mk_s_mul _ _ m).symm
        have g2 : mk_s (fun j => mk_d k A * mk_E A (k + 1) i j) m = mk_s (fun j => mk_d (k + 1) A * mk_E A k i j + (- mk_E A k i k) * mk_E A k k j) m :=
          mk_s_congr m (fun j _ => by rw [hstep j]; grind)
        rw [g1, g2, mk_s_lin]; grind
      refine ⟨?_, ?_, ?_, ?_⟩
      · intro j hj hji
        by_cases ej : j = k
        · rw [ej, mk_E_lo A (Nat.lt_succ_self k), if_neg e]; exact Int.le_refl 0
        · apply mk_np hD
          rw [hstep j]
          have g1 := mk_pn hp (i1 j hj hji)
          have g2 := Int.mul_nonneg_of_nonpos_of_nonpos hik (k1 j hj ej)
          omega
      · apply mk_nn hD
        rw [hstep m]
        have g1 := Int.mul_nonneg (Int.le_of_lt hp) i2
        have g2 := mk_qn hik k2
        omega
      · apply mk_nn hD
        rw [hsum]
        have g1 := Int.mul_nonneg (Int.le_of_lt hp) i3
        have g2 := mk_qn hik k3
        omega
      · intro hki
        rcases i4 (by omega) with g | ⟨j, a, b, c, d, f⟩
        · left
          apply mk_ps hD
          rw [hsum]
          have g1 := Int.mul_pos hp g
          have g2 := mk_qn hik k3
          omega
        · by_cases ej : j = k
          · subst ej
            rcases k4 (Nat.le_refl j) with g | ⟨j', a', b', c', d', f'⟩
            · left
              apply mk_ps hD
              rw [hsum]
              have g1 := Int.mul_nonneg (Int.le_of_lt hp) i3
              have g2 := Int.mul_neg_of_neg_of_pos d g
              omega
            · right
              have hne : j' ≠ i := fun z => by rw [z] at f'; omega
              refine ⟨j', by omega, b', hne, ?_, by omega⟩
              apply mk_ng hD
              rw [hstep j']
              have g1 := mk_pn hp (i1 j' b' hne)
              have g2 := Int.mul_pos_of_neg_of_neg d d'
              omega
          · right
            refine ⟨j, by omega, b, c, ?_, f⟩
            apply mk_ng hD
            rw [hstep j]
            have g1 := Int.mul_neg_of_pos_of_neg hp d
            have g2 := Int.mul_nonneg_of_nonpos_of_nonpos hik (k1 j b ej)
            omega
