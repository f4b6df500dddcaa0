/-! sums over the first n numbers, of integers -/
def mk_s (f : Nat → Int) : Nat → Int
  | 0 => 0
  | n + 1 => mk_s f n + f n
theorem mk_s_congr {f g : Nat → Int} (n : Nat) (h : ∀ c, c < n → f c = g c) : mk_s f n = mk_s g n := by
  induction n with
  | zero => rfl
  | succ n ih =>
    show mk_s f n + f n = mk_s g n + g n
    rw [ih (fun c hc => h c (Nat.lt_succ_of_lt hc)), h n (Nat.lt_succ_self n)]
theorem mk_s_zero (n : Nat) : mk_s (fun _ => 0) n = 0 := by
  induction n with
  | zero => rfl
  | succ n ih =>
    show mk_s (fun _ => 0) n + 0 = 0
    rw [ih]; rfl
theorem mk_s_lin (x y : Int) (f g : Nat → Int) (n : Nat) : mk_s (fun c => x * f c + y * g c) n = x * mk_s f n + y * mk_s g n := by
  induction n with
  | zero =>
    show (0 : Int) = x * 0 + y * 0
    rw [Int.mul_zero, Int.mul_zero]; rfl
  | succ n ih =>
    show mk_s (fun c => x * f c + y * g c) n + (x * f n + y * g n) = x * (mk_s f n + f n) + y * (mk_s g n + g n)
    rw [ih]; grind
theorem mk_s_mul (x : Int) (f : Nat → Int) (n : Nat) : mk_s (fun c => x * f c) n = x * mk_s f n := by
  induction n with
  | zero =>
    show (0 : Int) = x * 0
    rw [Int.mul_zero]
  | succ n ih =>
    show mk_s (fun c => x * f c) n + x * f n = x * (mk_s f n + f n)
    rw [ih, Int.mul_add]
theorem mk_s_add (f g : Nat → Int) (n : Nat) : mk_s (fun c => f c + g c) n = mk_s f n + mk_s g n := by
  induction n with
  | zero => rfl
  | succ n ih =>
    show mk_s (fun c => f c + g c) n + (f n + g n) = (mk_s f n + f n) + (mk_s g n + g n)
    rw [ih]; omega
theorem mk_s_neg (f : Nat → Int) (n : Nat) : mk_s (fun c => - f c) n = - mk_s f n := by
  induction n with
  | zero => rfl
  | succ n ih =>
    show mk_s (fun c => - f c) n + - f n = - (mk_s f n + f n)
    rw [ih]; omega
theorem mk_s_comm (f : Nat → Nat → Int) (n m : Nat) : mk_s (fun a => mk_s (fun b => f a b) m) n = mk_s (fun b => mk_s (fun a => f a b) n) m := by
  induction n with
  | zero => exact (mk_s_zero m).symm
  | succ n ih =>
    show mk_s (fun a => mk_s (fun b => f a b) m) n + mk_s (fun b => f n b) m = mk_s (fun b => mk_s (fun a => f a b) n + f n b) m
    rw [ih, mk_s_add]
theorem mk_s_one {f : Nat → Int} {p N : Nat} (h : ∀ c, c < N → c ≠ p → f c = 0) : ∀ n, n ≤ N → mk_s f n = (if p < n then f p else 0) := by
  intro n
  induction n with
  | zero => intro _; rw [if_neg (Nat.not_lt_zero p)]; rfl
  | succ n ih =>
    intro hn
    show mk_s f n + f n = _
    rw [ih (by omega)]
    by_cases h1 : n = p
    · subst h1
      rw [if_neg (Nat.lt_irrefl n), if_pos (Nat.lt_succ_self n)]; omega
    · have h0 := h n (by omega) h1
      by_cases h2 : p < n
      · rw [if_pos h2, if_pos (by omega)]; omega
      · rw [if_neg h2, if_neg (by omega)]; omega
theorem mk_s_two {f : Nat → Int} {p q N : Nat} (hpq : p ≠ q) (h : ∀ c, c < N → c ≠ p → c ≠ q → f c = 0) : ∀ n, n ≤ N → mk_s f n = (if p < n then f p else 0) + (if q < n then f q else 0) := by
  intro n
  induction n with
  | zero => intro _; rw [if_neg (Nat.not_lt_zero p), if_neg (Nat.not_lt_zero q)]; rfl
  | succ n ih =>
    intro hn
    show mk_s f n + f n = _
    rw [ih (by omega)]
    by_cases h1 : n = p
    · subst h1
      rw [if_neg (Nat.lt_irrefl n), if_pos (Nat.lt_succ_self n)]
      by_cases h2 : q < n
      · rw [if_pos h2, if_pos (show q < n + 1 by omega)]; omega
      · rw [if_neg h2, if_neg (show ¬ q < n + 1 by omega)]; omega
    · by_cases h2 : n = q
      · subst h2
        rw [if_neg (Nat.lt_irrefl n), if_pos (Nat.lt_succ_self n)]
        by_cases h3 : p < n
        · rw [if_pos h3, if_pos (show p < n + 1 by omega)]; omega
        · rw [if_neg h3, if_neg (show ¬ p < n + 1 by omega)]; omega
      · have h0 := h n (by omega) h1 h2
        rw [h0, Int.add_zero]
        by_cases h3 : p < n
        · rw [if_pos h3, if_pos (show p < n + 1 by omega)]
          by_cases h4 : q < n
          · rw [if_pos h4, if_pos (show q < n + 1 by omega)]
          · rw [if_neg h4, if_neg (show ¬ q < n + 1 by omega)]
        · rw [if_neg h3, if_neg (show ¬ p < n + 1 by omega)]
          by_cases h4 : q < n
          · rw [if_pos h4, if_pos (show q < n + 1 by omega)]
          · rw [if_neg h4, if_neg (show ¬ q < n + 1 by omega)]
theorem mk_s_mono {f g : Nat → Int} (n : Nat) (h : ∀ c, c < n → f c ≤ g c) : mk_s f n ≤ mk_s g n := by
  induction n with
  | zero => exact Int.le_refl 0
  | succ n ih =>
    show mk_s f n + f n ≤ mk_s g n + g n
    have h1 := ih (fun c hc => h c (by omega))
    have h2 := h n (by omega)
    omega
theorem mk_s_abs (f : Nat → Int) (n : Nat) : ((mk_s f n).natAbs : Int) ≤ mk_s (fun c => ((f c).natAbs : Int)) n := by
  induction n with
  | zero => exact Int.le_refl 0
  | succ n ih =>
    show ((mk_s f n + f n).natAbs : Int) ≤ mk_s (fun c => ((f c).natAbs : Int)) n + ((f n).natAbs : Int)
    omega
/-- the part below k and one more term beyond it are within the whole -/
theorem mk_s_part {g : Nat → Int} (h0 : ∀ c, 0 ≤ g c) {k : Nat} : ∀ m, k ≤ m → mk_s g k ≤ mk_s g m := by
  intro m
  induction m with
  | zero =>
    intro hk
    have : k = 0 := by omega
    subst this
    exact Int.le_refl _
  | succ m ih =>
    intro hk
    by_cases e : k = m + 1
    · subst e; exact Int.le_refl _
    · have h1 := ih (by omega)
      have h2 := h0 m
      show mk_s g k ≤ mk_s g m + g m
      omega
theorem mk_s_part2 {g : Nat → Int} (h0 : ∀ c, 0 ≤ g c) {k j : Nat} (hk : k ≤ j) : ∀ m, j ≤ m → mk_s g k + g j ≤ mk_s g (m + 1) := by
  intro m hm
  have h1 : mk_s g k ≤ mk_s g j := mk_s_part h0 j hk
  have h2 : mk_s g (j + 1) ≤ mk_s g (m + 1) := mk_s_part h0 (m + 1) (by omega)
  have h3 : mk_s g (j + 1) = mk_s g j + g j := rfl
  omega
/-- one term replaced -/
theorem mk_s_repl {g : Nat → Int} (h0 : ∀ c, 0 ≤ g c) {c : Nat} {X : Int} (hX : 0 ≤ X) (n : Nat) : mk_s (fun a => if a = c then X else g a) n ≤ mk_s g n + X := by
  have key : mk_s (fun a => if a = c then X else g a) n ≤ mk_s g n + (if c < n then X else 0) := by
    induction n with
    | zero =>
      show (0 : Int) ≤ 0 + (if c < 0 then X else 0)
      rw [if_neg (by omega)]; omega
    | succ n ih =>
      show mk_s (fun a => if a = c then X else g a) n + (if n = c then X else g n) ≤ mk_s g n + g n + (if c < n + 1 then X else 0)
      have hg := h0 n
      by_cases e : n = c
      · rw [if_neg (show ¬ c < n by omega)] at ih
        rw [if_pos e, if_pos (show c < n + 1 by omega)]
        omega
      · rw [if_neg e]
        by_cases e2 : c < n
        · rw [if_pos e2] at ih
          rw [if_pos (show c < n + 1 by omega)]
          omega
        · rw [if_neg e2] at ih
          rw [if_neg (show ¬ c < n + 1 by omega)]
          omega
  by_cases e : c < n
  · rw [if_pos e] at key; exact key
  · rw [if_neg e] at key; omega
/-- a row whose other entries are not positive: its own entry is -/
theorem mk_s_own {f : Nat → Int} {k m : Nat} (hk : k < m) (h : ∀ j, j < m → j ≠ k → f j ≤ 0) : mk_s f m ≤ f k := by
  have h1 : mk_s f m ≤ mk_s (fun c => if c = k then f k else 0) m := by
    apply mk_s_mono
    intro c hc
    by_cases e : c = k
    · rw [if_pos e, e]; exact Int.le_refl _
    · rw [if_neg e]; exact h c hc e
  have h2 : mk_s (fun c => if c = k then f k else 0) m = f k := by
    rw [mk_s_one (p := k) (N := m) (fun c _ e => if_neg e) m (Nat.le_refl m), if_pos hk, if_pos rfl]
  omega
theorem mk_s_own2 {f : Nat → Int} {k m i : Nat} (hk : k < m) (hi : i < m) (hne : i ≠ k) (h : ∀ j, j < m → j ≠ k → f j ≤ 0) : mk_s f m ≤ f k + f i := by
  have h1 : mk_s f m ≤ mk_s (fun c => if c = k then f k else if c = i then f i else 0) m := by
    apply mk_s_mono
    intro c hc
    by_cases e : c = k
    · rw [if_pos e, e]; exact Int.le_refl _
    · rw [if_neg e]
      by_cases e2 : c = i
      · rw [if_pos e2, e2]; exact Int.le_refl _
      · rw [if_neg e2]; exact h c hc e
  have h2 : mk_s (fun c => if c = k then f k else if c = i then f i else 0) m = f k + f i := by
    rw [mk_s_two (p := k) (q := i) (N := m) (Ne.symm hne) (fun c _ e e2 => by rw [if_neg e, if_neg e2]) m (Nat.le_refl m), if_pos hk, if_pos hi, if_pos rfl, if_neg hne, if_pos rfl]
  omega
theorem mk_diag {f : Nat → Int} {k m : Nat} (hk : k < m) (h : ∀ j, j < m → j ≠ k → f j ≤ 0) (h0 : 0 ≤ mk_s f m) (hx : 0 < mk_s f m ∨ ∃ j, j < m ∧ j ≠ k ∧ f j < 0) : 0 < f k := by
  rcases hx with hx | ⟨j, hj, hne, hx⟩
  · have := mk_s_own hk h; omega
  · have := mk_s_own2 hk hj hne h; omega
