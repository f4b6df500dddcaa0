/-! the determinant, by its last row; the last column is put in the place of each other one: no signs, no shifted columns -/
def mk_c (M : Nat → Nat → Int) (q : Nat) (u : Nat → Int) : Nat → Nat → Int := fun r c => if c = q then u r else M r c
theorem mk_c_at {M : Nat → Nat → Int} {q : Nat} {u : Nat → Int} {r : Nat} : mk_c M q u r q = u r := if_pos rfl
theorem mk_c_ne {M : Nat → Nat → Int} {q : Nat} {u : Nat → Int} {r c : Nat} (h : c ≠ q) : mk_c M q u r c = M r c := if_neg h
theorem mk_c_comm {M : Nat → Nat → Int} {p q : Nat} {u v : Nat → Int} (h : p ≠ q) : mk_c (mk_c M p u) q v = mk_c (mk_c M q v) p u := by
  funext r c
  by_cases h1 : c = q
  · have h2 : c ≠ p := fun e => h (e.symm.trans h1)
    rw [mk_c_ne (q := p) h2, h1, mk_c_at, mk_c_at]
  · by_cases h2 : c = p
    · rw [mk_c_ne (q := q) h1, h2, mk_c_at, mk_c_at]
    · rw [mk_c_ne (q := q) h1, mk_c_ne (q := p) h2, mk_c_ne (q := p) h2, mk_c_ne (q := q) h1]
theorem mk_c_over {M : Nat → Nat → Int} {q : Nat} {u v : Nat → Int} : mk_c (mk_c M q u) q v = mk_c M q v := by
  funext r c
  by_cases h1 : c = q
  · rw [h1, mk_c_at, mk_c_at]
  · rw [mk_c_ne h1, mk_c_ne h1, mk_c_ne h1]
def mk_d : Nat → (Nat → Nat → Int) → Int
  | 0, _ => 1
  | n + 1, M => M n n * mk_d n M - mk_s (fun c => M n c * mk_d n (mk_c M c (fun r => M r n))) n
theorem mk_d_succ (n : Nat) (M : Nat → Nat → Int) : mk_d (n + 1) M = M n n * mk_d n M - mk_s (fun c => M n c * mk_d n (mk_c M c (fun r => M r n))) n := rfl
theorem mk_d_congr (n : Nat) : ∀ (M K : Nat → Nat → Int), (∀ r c, r < n → c < n → M r c = K r c) → mk_d n M = mk_d n K := by
  induction n with
  | zero => intro M K _; rfl
  | succ n ih =>
    intro M K h
    have h1 : mk_d n M = mk_d n K := ih _ _ (fun r c hr hc => h r c (by omega) (by omega))
    have h2 : mk_s (fun c => M n c * mk_d n (mk_c M c (fun r => M r n))) n = mk_s (fun c => K n c * mk_d n (mk_c K c (fun r => K r n))) n := by
      apply mk_s_congr
      intro c hc
      have h3 : mk_d n (mk_c M c (fun r => M r n)) = mk_d n (mk_c K c (fun r => K r n)) := by
        apply ih
        intro r c' hr hc'
        by_cases g : c' = c
        · rw [g, mk_c_at, mk_c_at]; exact h r n (by omega) (by omega)
        · rw [mk_c_ne g, mk_c_ne g]; exact h r c' (by omega) (by omega)
      rw [h3, h n c (by omega) (by omega)]
    rw [mk_d_succ, mk_d_succ, h1, h2, h n n (by omega) (by omega)]
theorem mk_d_last (n : Nat) (M : Nat → Nat → Int) (w : Nat → Int) : mk_d (n + 1) (mk_c M n w) = w n * mk_d n M - mk_s (fun c => M n c * mk_d n (mk_c M c w)) n := by
  have h1 : mk_d n (mk_c M n w) = mk_d n M := mk_d_congr n _ _ (fun r c _ hc => mk_c_ne (by omega))
  have h2 : mk_s (fun c => mk_c M n w n c * mk_d n (mk_c (mk_c M n w) c (fun r => mk_c M n w r n))) n = mk_s (fun c => M n c * mk_d n (mk_c M c w)) n := by
    apply mk_s_congr
    intro c hc
    have h3 : mk_d n (mk_c (mk_c M n w) c (fun r => mk_c M n w r n)) = mk_d n (mk_c M c w) := by
      apply mk_d_congr
      intro r c' hr hc'
      by_cases g : c' = c
      · rw [g, mk_c_at, mk_c_at, mk_c_at]
      · rw [mk_c_ne g, mk_c_ne g, mk_c_ne (show c' ≠ n by omega)]
    rw [h3, mk_c_ne (show c ≠ n by omega)]
  rw [mk_d_succ, h1, h2, mk_c_at]
theorem mk_d_lin (n : Nat) : ∀ (M : Nat → Nat → Int) (q : Nat) (x y : Int) (u v : Nat → Int), q < n → mk_d n (mk_c M q (fun r => x * u r + y * v r)) = x * mk_d n (mk_c M q u) + y * mk_d n (mk_c M q v) := by
  induction n with
  | zero => intro M q x y u v h; omega
  | succ n ih =>
    intro M q x y u v hq
    by_cases e : n = q
    · subst e
      have hS : mk_s (fun c => M n c * mk_d n (mk_c M c (fun r => x * u r + y * v r))) n = x * mk_s (fun c => M n c * mk_d n (mk_c M c u)) n + y * mk_s (fun c => M n c * mk_d n (mk_c M c v)) n := by
        rw [← mk_s_lin]
        apply mk_s_congr
        intro c hc
        have h1 := ih M c x y u v hc
        show M n c * mk_d n (mk_c M c (fun r => x * u r + y * v r)) = x * (M n c * mk_d n (mk_c M c u)) + y * (M n c * mk_d n (mk_c M c v))
        rw [h1]; grind
      rw [mk_d_last, mk_d_last, mk_d_last, hS]
      grind
    · have hq' : q < n := by omega
      have hm : ∀ w : Nat → Int, (fun r => mk_c M q w r n) = (fun r => M r n) := fun w => funext (fun r => mk_c_ne e)
      have hm2 : ∀ w : Nat → Int, mk_c M q w n n = M n n := fun w => mk_c_ne e
      have hS : mk_s (fun c => mk_c M q (fun r => x * u r + y * v r) n c * mk_d n (mk_c (mk_c M q (fun r => x * u r + y * v r)) c (fun r => M r n))) n = x * mk_s (fun c => mk_c M q u n c * mk_d n (mk_c (mk_c M q u) c (fun r => M r n))) n + y * mk_s (fun c => mk_c M q v n c * mk_d n (mk_c (mk_c M q v) c (fun r => M r n))) n := by
        rw [← mk_s_lin]
        apply mk_s_congr
        intro c hc
        show mk_c M q (fun r => x * u r + y * v r) n c * mk_d n (mk_c (mk_c M q (fun r => x * u r + y * v r)) c (fun r => M r n)) = x * (mk_c M q u n c * mk_d n (mk_c (mk_c M q u) c (fun r => M r n))) + y * (mk_c M q v n c * mk_d n (mk_c (mk_c M q v) c (fun r => M r n)))
        by_cases h : c = q
        · subst h
          rw [mk_c_over, mk_c_over, mk_c_over, mk_c_at, mk_c_at, mk_c_at]; grind
        · have hc2 : ∀ w : Nat → Int, mk_c (mk_c M q w) c (fun r => M r n) = mk_c (mk_c M c (fun r => M r n)) q w := fun w => mk_c_comm (Ne.symm h)
          rw [hc2, hc2, hc2, mk_c_ne h, mk_c_ne h, mk_c_ne h, ih _ q x y u v hq']; grind
      rw [mk_d_succ, mk_d_succ, mk_d_succ, hm, hm, hm, hm2, hm2, hm2, hS, ih M q x y u v hq']
      grind
theorem mk_d_anti {n : Nat} (H : ∀ (M : Nat → Nat → Int) (p q : Nat), p < q → q < n → (∀ r, r < n → M r p = M r q) → mk_d n M = 0) (M : Nat → Nat → Int) {p q : Nat} (hpq : p < q) (hq : q < n) (u v : Nat → Int) : mk_d n (mk_c (mk_c M p u) q v) = - mk_d n (mk_c (mk_c M p v) q u) := by
  have hne : p ≠ q := by omega
  have eq0 : ∀ w : Nat → Int, mk_d n (mk_c (mk_c M p w) q w) = 0 := by
    intro w
    apply H _ p q hpq hq
    intro r _
    rw [mk_c_ne hne, mk_c_at, mk_c_at]
  have lp : ∀ w : Nat → Int, mk_d n (mk_c (mk_c M p (fun r => 1 * u r + 1 * v r)) q w) = 1 * mk_d n (mk_c (mk_c M p u) q w) + 1 * mk_d n (mk_c (mk_c M p v) q w) := by
    intro w
    have hc : ∀ z : Nat → Int, mk_c (mk_c M p z) q w = mk_c (mk_c M q w) p z := fun z => mk_c_comm hne
    rw [hc, hc, hc, mk_d_lin n _ p 1 1 u v (by omega)]
  have h1 := eq0 (fun r => 1 * u r + 1 * v r)
  have h2 := mk_d_lin n (mk_c M p (fun r => 1 * u r + 1 * v r)) q 1 1 u v hq
  have h3 := lp u
  have h4 := lp v
  have h5 := eq0 u
  have h6 := eq0 v
  omega
theorem mk_d_alt (n : Nat) : ∀ (M : Nat → Nat → Int) (p q : Nat), p < q → q < n → (∀ r, r < n → M r p = M r q) → mk_d n M = 0 := by
  induction n with
  | zero => intro M p q _ h _; omega
  | succ n ih =>
    intro M p q hpq hq hM
    have alt : ∀ (K : Nat → Nat → Int) (a b : Nat), a ≠ b → a < n → b < n → (∀ r, r < n → K r a = K r b) → mk_d n K = 0 := by
      intro K a b hab ha hb hK
      rcases Nat.lt_or_ge a b with h | h
      · exact ih K a b h hb hK
      · exact ih K b a (by omega) ha (fun r hr => (hK r hr).symm)
    rw [mk_d_succ]
    by_cases e : q = n
    · have hz : ∀ c, c < n → c ≠ p → M n c * mk_d n (mk_c M c (fun r => M r n)) = 0 := by
        intro c hc hcp
        have h1 : mk_d n (mk_c M c (fun r => M r n)) = 0 := by
          apply alt _ c p hcp hc (by omega)
          intro r hr
          rw [mk_c_at, mk_c_ne (Ne.symm hcp), hM r (by omega), e]
        rw [h1, Int.mul_zero]
      have hd : mk_d n (mk_c M p (fun r => M r n)) = mk_d n M := by
        apply mk_d_congr
        intro r c hr hc
        by_cases h : c = p
        · rw [h, mk_c_at, hM r (by omega), e]
        · exact mk_c_ne h
      rw [mk_s_one (p := p) (N := n) hz n (Nat.le_refl n), if_pos (show p < n by omega), hd, hM n (by omega), e, Int.sub_self]
    · have hq' : q < n := by omega
      have hp' : p < n := by omega
      have hz : ∀ c, c < n → c ≠ p → c ≠ q → M n c * mk_d n (mk_c M c (fun r => M r n)) = 0 := by
        intro c hc h1 h2
        have h3 : mk_d n (mk_c M c (fun r => M r n)) = 0 := by
          apply alt _ p q (by omega) hp' hq'
          intro r hr
          rw [mk_c_ne (Ne.symm h1), mk_c_ne (Ne.symm h2)]; exact hM r (by omega)
        rw [h3, Int.mul_zero]
      have h1 : mk_d n (mk_c M p (fun r => M r n)) = mk_d n (mk_c (mk_c M p (fun r => M r n)) q (fun r => M r p)) := by
        apply mk_d_congr
        intro r c hr hc
        by_cases h : c = q
        · rw [h, mk_c_at, mk_c_ne (show q ≠ p by omega)]; exact (hM r (by omega)).symm
        · rw [mk_c_ne (q := q) h]
      have h2 : mk_d n (mk_c M q (fun r => M r n)) = mk_d n (mk_c (mk_c M p (fun r => M r p)) q (fun r => M r n)) := by
        apply mk_d_congr
        intro r c hr hc
        by_cases h : c = q
        · rw [h, mk_c_at, mk_c_at]
        · rw [mk_c_ne (q := q) h, mk_c_ne (q := q) h]
          by_cases h' : c = p
          · rw [h', mk_c_at]
          · rw [mk_c_ne h']
      have h3 := mk_d_anti ih M hpq hq' (fun r => M r p) (fun r => M r n)
      rw [mk_s_two (p := p) (q := q) (N := n) (by omega) hz n (Nat.le_refl n), if_pos hp', if_pos hq', ih M p q hpq hq' (fun r hr => hM r (by omega)), h2, h3, ← h1, hM n (by omega)]
      grind
theorem mk_d_ne (n : Nat) (K : Nat → Nat → Int) (a b : Nat) (hab : a ≠ b) (ha : a < n) (hb : b < n) (hK : ∀ r, r < n → K r a = K r b) : mk_d n K = 0 := by
  rcases Nat.lt_or_ge a b with h | h
  · exact mk_d_alt n K a b h hb hK
  · exact mk_d_alt n K b a (by omega) ha (fun r hr => (hK r hr).symm)
theorem mk_d_0 {n q : Nat} (M : Nat → Nat → Int) (hq : q < n) : mk_d n (mk_c M q (fun _ => 0)) = 0 := by
  have h := mk_d_lin n M q 0 0 (fun _ => 0) (fun _ => 0) hq
  have e : (fun _ : Nat => (0 : Int) * 0 + 0 * 0) = (fun _ => 0) := rfl
  rw [e, Int.zero_mul, Int.zero_add] at h
  exact h
theorem mk_d_sum {n q : Nat} (M : Nat → Nat → Int) (hq : q < n) (x : Nat → Int) (U : Nat → Nat → Int) (k : Nat) : mk_d n (mk_c M q (fun r => mk_s (fun l => x l * U l r) k)) = mk_s (fun l => x l * mk_d n (mk_c M q (U l))) k := by
  induction k with
  | zero => exact mk_d_0 M hq
  | succ k ih =>
    have e : (fun r => mk_s (fun l => x l * U l r) (k + 1)) = (fun r => 1 * mk_s (fun l => x l * U l r) k + x k * U k r) := by
      funext r
      show mk_s (fun l => x l * U l r) k + x k * U k r = 1 * mk_s (fun l => x l * U l r) k + x k * U k r
      rw [Int.one_mul]
    rw [e, mk_d_lin n M q 1 (x k) (fun r => mk_s (fun l => x l * U l r) k) (U k) hq, ih, Int.one_mul]
    rfl
/-! bounds: the rows' sums of absolute values -/
def mk_B : Nat → Int
  | 0 => 1
  | n + 1 => 8 * mk_B n
theorem mk_B_pos (n : Nat) : 0 < mk_B n := by
  induction n with
  | zero => exact Int.zero_lt_one
  | succ n ih =>
    show 0 < 8 * mk_B n
    omega
theorem mk_B_mono {a : Nat} : ∀ b, a ≤ b → mk_B a ≤ mk_B b := by
  intro b
  induction b with
  | zero =>
    intro h
    have : a = 0 := by omega
    subst this
    exact Int.le_refl _
  | succ b ih =>
    intro h
    by_cases e : a = b + 1
    · subst e; exact Int.le_refl _
    · have h1 := ih (by omega)
      have h2 := mk_B_pos b
      show mk_B a ≤ 8 * mk_B b
      omega
theorem mk_B_10 : mk_B 10 = 1073741824 := by decide
def mk_r (A : Nat → Nat → Int) (r n : Nat) : Int := mk_s (fun c => ((A r c).natAbs : Int)) n
theorem mk_r_c {A : Nat → Nat → Int} {c : Nat} {u : Nat → Int} {r n : Nat} : mk_r (mk_c A c u) r n ≤ mk_r A r n + ((u r).natAbs : Int) := by
  have e : mk_r (mk_c A c u) r n = mk_s (fun a => if a = c then ((u r).natAbs : Int) else ((A r a).natAbs : Int)) n := by
    apply mk_s_congr
    intro a _
    by_cases h : a = c
    · rw [if_pos h, h, mk_c_at]
    · rw [if_neg h, mk_c_ne h]
  rw [e]
  exact mk_s_repl (fun _ => Int.natCast_nonneg _) (Int.natCast_nonneg _) n
theorem mk_mulB {x d B : Int} (hd : (d.natAbs : Int) ≤ B) : ((x * d).natAbs : Int) ≤ B * (x.natAbs : Int) := by
  rw [Int.natAbs_mul, Int.natCast_mul, Int.mul_comm]
  exact Int.mul_le_mul_of_nonneg_right hd (Int.natCast_nonneg _)
/-- an entry times one minor less a row times others -/
theorem mk_expB {x D B : Int} {f d : Nat → Int} {n : Nat} (hD : (D.natAbs : Int) ≤ B) (hd : ∀ c, c < n → ((d c).natAbs : Int) ≤ B) : ((x * D - mk_s (fun c => f c * d c) n).natAbs : Int) ≤ B * (mk_s (fun c => ((f c).natAbs : Int)) n + (x.natAbs : Int)) := by
  have h1 := mk_mulB (x := x) hD
  have h2 : ((mk_s (fun c => f c * d c) n).natAbs : Int) ≤ B * mk_s (fun c => ((f c).natAbs : Int)) n := by
    rw [← mk_s_mul]
    refine Int.le_trans (mk_s_abs _ n) (mk_s_mono n ?_)
    intro c hc
    exact mk_mulB (hd c hc)
  rw [Int.mul_add]
  omega
theorem mk_d_bd (n : Nat) : ∀ M : Nat → Nat → Int, (∀ r, r < n → mk_r M r n ≤ 8) → ((mk_d n M).natAbs : Int) ≤ mk_B n := by
  induction n with
  | zero => intro M _; exact Int.le_refl 1
  | succ n ih =>
    intro M h
    have hs : ∀ r, mk_r M r (n + 1) = mk_r M r n + ((M r n).natAbs : Int) := fun r => rfl
    have h0 : ∀ r, r < n → mk_r M r n ≤ 8 := by
      intro r hr
      have h1 := h r (by omega)
      rw [hs] at h1
      omega
    have h1 : ((mk_d n M).natAbs : Int) ≤ mk_B n := ih M h0
    have h2 : ∀ c, c < n → ((mk_d n (mk_c M c (fun r => M r n))).natAbs : Int) ≤ mk_B n := by
      intro c _
      apply ih
      intro r hr
      have h3 := h r (by omega)
      rw [hs] at h3
      have h4 := mk_r_c (A := M) (c := c) (u := fun r => M r n) (r := r) (n := n)
      exact Int.le_trans h4 h3
    have h3 := mk_expB (x := M n n) (f := fun c => M n c) (n := n) h1 h2
    have h4 := h n (by omega)
    have h5 := mk_B_pos n
    rw [mk_d_succ]
    refine Int.le_trans h3 ?_
    show mk_B n * (mk_r M n n + ((M n n).natAbs : Int)) ≤ 8 * mk_B n
    rw [hs] at h4
    rw [Int.mul_comm 8]
    exact Int.mul_le_mul_of_nonneg_left h4 (by omega)
