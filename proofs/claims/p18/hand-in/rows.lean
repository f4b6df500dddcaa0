section
def bt (x : Int32) (i : Nat) : Bool := x.toBitVec.getLsbD i
theorem b_ext {x y : Int32} (h : ∀ i, i < 32 → bt x i = bt y i) : x = y := Int32.toBitVec_inj.mp (BitVec.eq_of_getLsbD_eq (fun i hi => h i hi))
theorem b_or (x y : Int32) (i : Nat) : bt (x ||| y) i = (bt x i || bt y i) := by unfold bt; rw [Int32.toBitVec_or, BitVec.getLsbD_or]
theorem b_and (x y : Int32) (i : Nat) : bt (x &&& y) i = (bt x i && bt y i) := by unfold bt; rw [Int32.toBitVec_and, BitVec.getLsbD_and]
theorem b_xor (x y : Int32) (i : Nat) : bt (x ^^^ y) i = (bt x i ^^ bt y i) := by unfold bt; rw [Int32.toBitVec_xor, BitVec.getLsbD_xor]
theorem b_big {x : Int32} {i : Nat} (h : 32 ≤ i) : bt x i = false := BitVec.getLsbD_of_ge _ _ h
theorem b_m1 : ∀ i, i < 32 → bt (-1) i = true := by decide +kernel
theorem b_0 (i : Nat) : bt 0 i = false := BitVec.getLsbD_zero
theorem s_l : ∀ n, n < 32 → ((nI n &&& 31).toBitVec.smod 32).toNat = n := by decide +kernel
theorem s_u : ∀ n, n < 32 → (((nI n).toUInt32 &&& Int32.toUInt32 31).toBitVec % 32).toNat = n := by decide +kernel
theorem b_shl (n : Nat) (hn : n < 32) (x : Int32) {i : Nat} (hi : i < 32) : bt (x <<< (nI n &&& 31)) i = (decide (n ≤ i) && bt x (i - n)) := by
  unfold bt
  rw [Int32.toBitVec_shiftLeft]
  show (x.toBitVec <<< ((nI n &&& 31).toBitVec.smod 32).toNat).getLsbD i = _
  rw [s_l n hn, BitVec.getLsbD_shiftLeft]
  rcases Nat.lt_or_ge i n with h | h
  · simp [h, Nat.not_le.mpr h]
  · simp [hi, h, Nat.not_lt.mpr h]
theorem b_ushr (n : Nat) (hn : n < 32) (x : Int32) (i : Nat) : bt ((x.toUInt32 >>> ((nI n).toUInt32 &&& Int32.toUInt32 31)).toInt32) i = bt x (n + i) := by
  show (x.toUInt32 >>> ((nI n).toUInt32 &&& Int32.toUInt32 31)).toBitVec.getLsbD i = x.toUInt32.toBitVec.getLsbD (n + i)
  rw [UInt32.toBitVec_shiftRight]
  show (x.toUInt32.toBitVec >>> (((nI n).toUInt32 &&& Int32.toUInt32 31).toBitVec % 32).toNat).getLsbD i = _
  rw [s_u n hn, BitVec.getLsbD_ushiftRight]
theorem b_sshr (n : Nat) (hn : n < 32) (x : Int32) {i : Nat} (hi : i < 32) : bt (x >>> (nI n &&& 31)) i = if n + i < 32 then bt x (n + i) else bt x 31 := by
  unfold bt
  rw [Int32.toBitVec_shiftRight]
  show (x.toBitVec.sshiftRight ((nI n &&& 31).toBitVec.smod 32).toNat).getLsbD i = _
  rw [s_l n hn, BitVec.getLsbD_sshiftRight, BitVec.msb_eq_getLsbD_last]
  simp [hi]
end
section
/-! sums over the first n numbers, of integers -/
def mk_s (f : Nat → Int) : Nat → Int
  | 0 => 0
  | n + 1 => mk_s f n + f n
theorem mk_s_congr {f g : Nat → Int} (n : Nat) (h : ∀ c, c < n → f c = g c) : mk_s f n = mk_s g n := by
  induction n with
  | zero => rfl
  | succ n ih =>
    show mk_s f n + f n = mk_s g n + g n
    rw [ih (fun c hc => h c (Nat.lt_succ_of_lt hc)), h n (Nat.lt_succ_self n)]
theorem mk_s_zero (n : Nat) : mk_s (fun _ => 0) n = 0 := by
  induction n with
  | zero => rfl
  | succ n ih =>
    show mk_s (fun _ => 0) n + 0 = 0
    rw [ih]; rfl
theorem mk_s_lin (x y : Int) (f g : Nat → Int) (n : Nat) : mk_s (fun c => x * f c + y * g c) n = x * mk_s f n + y * mk_s g n := by
  induction n with
  | zero =>
    show (0 : Int) = x * 0 + y * 0
    rw [Int.mul_zero, Int.mul_zero]; rfl
  | succ n ih =>
    show mk_s (fun c => x * f c + y * g c) n + (x * f n + y * g n) = x * (mk_s f n + f n) + y * (mk_s g n + g n)
    rw [ih]; grind
theorem mk_s_mul (x : Int) (f : Nat → Int) (n : Nat) : mk_s (fun c => x * f c) n = x * mk_s f n := by
  induction n with
  | zero =>
    show (0 : Int) = x * 0
    rw [Int.mul_zero]
  | succ n ih =>
    show mk_s (fun c => x * f c) n + x * f n = x * (mk_s f n + f n)
    rw [ih, Int.mul_add]
theorem mk_s_add (f g : Nat → Int) (n : Nat) : mk_s (fun c => f c + g c) n = mk_s f n + mk_s g n := by
  induction n with
  | zero => rfl
  | succ n ih =>
    show mk_s (fun c => f c + g c) n + (f n + g n) = (mk_s f n + f n) + (mk_s g n + g n)
    rw [ih]; omega
theorem mk_s_neg (f : Nat → Int) (n : Nat) : mk_s (fun c => - f c) n = - mk_s f n := by
  induction n with
  | zero => rfl
  | succ n ih =>
    show mk_s (fun c => - f c) n + - f n = - (mk_s f n + f n)
    rw [ih]; omega
theorem mk_s_comm (f : Nat → Nat → Int) (n m : Nat) : mk_s (fun a => mk_s (fun b => f a b) m) n = mk_s (fun b => mk_s (fun a => f a b) n) m := by
  induction n with
  | zero => exact (mk_s_zero m).symm
  | succ n ih =>
    show mk_s (fun a => mk_s (fun b => f a b) m) n + mk_s (fun b => f n b) m = mk_s (fun b => mk_s (fun a => f a b) n + f n b) m
    rw [ih, mk_s_add]
theorem mk_s_one {f : Nat → Int} {p N : Nat} (h : ∀ c, c < N → c ≠ p → f c = 0) : ∀ n, n ≤ N → mk_s f n = (if p < n then f p else 0) := by
  intro n
  induction n with
  | zero => intro _; rw [if_neg (Nat.not_lt_zero p)]; rfl
  | succ n ih =>
    intro hn
    show mk_s f n + f n = _
    rw [ih (by omega)]
    by_cases h1 : n = p
    · subst h1
      rw [if_neg (Nat.lt_irrefl n), if_pos (Nat.lt_succ_self n)]; omega
    · have h0 := h n (by omega) h1
      by_cases h2 : p < n
      · rw [if_pos h2, if_pos (by omega)]; omega
      · rw [if_neg h2, if_neg (by omega)]; omega
theorem mk_s_two {f : Nat → Int} {p q N : Nat} (hpq : p ≠ q) (h : ∀ c, c < N → c ≠ p → c ≠ q → f c = 0) : ∀ n, n ≤ N → mk_s f n = (if p < n then f p else 0) + (if q < n then f q else 0) := by
  intro n
  induction n with
  | zero => intro _; rw [if_neg (Nat.not_lt_zero p), if_neg (Nat.not_lt_zero q)]; rfl
  | succ n ih =>
    intro hn
    show mk_s f n + f n = _
    rw [ih (by omega)]
    by_cases h1 : n = p
    · subst h1
      rw [if_neg (Nat.lt_irrefl n), if_pos (Nat.lt_succ_self n)]
      by_cases h2 : q < n
      · rw [if_pos h2, if_pos (show q < n + 1 by omega)]; omega
      · rw [if_neg h2, if_neg (show ¬ q < n + 1 by omega)]; omega
    · by_cases h2 : n = q
      · subst h2
        rw [if_neg (Nat.lt_irrefl n), if_pos (Nat.lt_succ_self n)]
        by_cases h3 : p < n
        · rw [if_pos h3, if_pos (show p < n + 1 by omega)]; omega
        · rw [if_neg h3, if_neg (show ¬ p < n + 1 by omega)]; omega
      · have h0 := h n (by omega) h1 h2
        rw [h0, Int.add_zero]
        by_cases h3 : p < n
        · rw [if_pos h3, if_pos (show p < n + 1 by omega)]
          by_cases h4 : q < n
          · rw [if_pos h4, if_pos (show q < n + 1 by omega)]
          · rw [if_neg h4, if_neg (show ¬ q < n + 1 by omega)]
        · rw [if_neg h3, if_neg (show ¬ p < n + 1 by omega)]
          by_cases h4 : q < n
          · rw [if_pos h4, if_pos (show q < n + 1 by omega)]
          · rw [if_neg h4, if_neg (show ¬ q < n + 1 by omega)]
theorem mk_s_mono {f g : Nat → Int} (n : Nat) (h : ∀ c, c < n → f c ≤ g c) : mk_s f n ≤ mk_s g n := by
  induction n with
  | zero => exact Int.le_refl 0
  | succ n ih =>
    show mk_s f n + f n ≤ mk_s g n + g n
    have h1 := ih (fun c hc => h c (by omega))
    have h2 := h n (by omega)
    omega
theorem mk_s_abs (f : Nat → Int) (n : Nat) : ((mk_s f n).natAbs : Int) ≤ mk_s (fun c => ((f c).natAbs : Int)) n := by
  induction n with
  | zero => exact Int.le_refl 0
  | succ n ih =>
    show ((mk_s f n + f n).natAbs : Int) ≤ mk_s (fun c => ((f c).natAbs : Int)) n + ((f n).natAbs : Int)
    omega
/-- the part below k and one more term beyond it are within the whole -/
theorem mk_s_part {g : Nat → Int} (h0 : ∀ c, 0 ≤ g c) {k : Nat} : ∀ m, k ≤ m → mk_s g k ≤ mk_s g m := by
  intro m
  induction m with
  | zero =>
    intro hk
    have : k = 0 := by omega
    subst this
    exact Int.le_refl _
  | succ m ih =>
    intro hk
    by_cases e : k = m + 1
    · subst e; exact Int.le_refl _
    · have h1 := ih (by omega)
      have h2 := h0 m
      show mk_s g k ≤ mk_s g m + g m
      omega
theorem mk_s_part2 {g : Nat → Int} (h0 : ∀ c, 0 ≤ g c) {k j : Nat} (hk : k ≤ j) : ∀ m, j ≤ m → mk_s g k + g j ≤ mk_s g (m + 1) := by
  intro m hm
  have h1 : mk_s g k ≤ mk_s g j := mk_s_part h0 j hk
  have h2 : mk_s g (j + 1) ≤ mk_s g (m + 1) := mk_s_part h0 (m + 1) (by omega)
  have h3 : mk_s g (j + 1) = mk_s g j + g j := rfl
  omega
/-- one term replaced -/
theorem mk_s_repl {g : Nat → Int} (h0 : ∀ c, 0 ≤ g c) {c : Nat} {X : Int} (hX : 0 ≤ X) (n : Nat) : mk_s (fun a => if a = c then X else g a) n ≤ mk_s g n + X := by
  have key : mk_s (fun a => if a = c then X else g a) n ≤ mk_s g n + (if c < n then X else 0) := by
    induction n with
    | zero =>
      show (0 : Int) ≤ 0 + (if c < 0 then X else 0)
      rw [if_neg (by omega)]; omega
    | succ n ih =>
      show mk_s (fun a => if a = c then X else g a) n + (if n = c then X else g n) ≤ mk_s g n + g n + (if c < n + 1 then X else 0)
      have hg := h0 n
      by_cases e : n = c
      · rw [if_neg (show ¬ c < n by omega)] at ih
        rw [if_pos e, if_pos (show c < n + 1 by omega)]
        omega
      · rw [if_neg e]
        by_cases e2 : c < n
        · rw [if_pos e2] at ih
          rw [if_pos (show c < n + 1 by omega)]
          omega
        · rw [if_neg e2] at ih
          rw [if_neg (show ¬ c < n + 1 by omega)]
          omega
  by_cases e : c < n
  · rw [if_pos e] at key; exact key
  · rw [if_neg e] at key; omega
/-- a row whose other entries are not positive: its own entry is -/
theorem mk_s_own {f : Nat → Int} {k m : Nat} (hk : k < m) (h : ∀ j, j < m → j ≠ k → f j ≤ 0) : mk_s f m ≤ f k := by
  have h1 : mk_s f m ≤ mk_s (fun c => if c = k then f k else 0) m := by
    apply mk_s_mono
    intro c hc
    by_cases e : c = k
    · rw [if_pos e, e]; exact Int.le_refl _
    · rw [if_neg e]; exact h c hc e
  have h2 : mk_s (fun c => if c = k then f k else 0) m = f k := by
    rw [mk_s_one (p := k) (N := m) (fun c _ e => if_neg e) m (Nat.le_refl m), if_pos hk, if_pos rfl]
  omega
theorem mk_s_own2 {f : Nat → Int} {k m i : Nat} (hk : k < m) (hi : i < m) (hne : i ≠ k) (h : ∀ j, j < m → j ≠ k → f j ≤ 0) : mk_s f m ≤ f k + f i := by
  have h1 : mk_s f m ≤ mk_s (fun c => if c = k then f k else if c = i then f i else 0) m := by
    apply mk_s_mono
    intro c hc
    by_cases e : c = k
    · rw [if_pos e, e]; exact Int.le_refl _
    · rw [if_neg e]
      by_cases e2 : c = i
      · rw [if_pos e2, e2]; exact Int.le_refl _
      · rw [if_neg e2]; exact h c hc e
  have h2 : mk_s (fun c => if c = k then f k else if c = i then f i else 0) m = f k + f i := by
    rw [mk_s_two (p := k) (q := i) (N := m) (Ne.symm hne) (fun c _ e e2 => by rw [if_neg e, if_neg e2]) m (Nat.le_refl m), if_pos hk, if_pos hi, if_pos rfl, if_neg hne, if_pos rfl]
  omega
theorem mk_diag {f : Nat → Int} {k m : Nat} (hk : k < m) (h : ∀ j, j < m → j ≠ k → f j ≤ 0) (h0 : 0 ≤ mk_s f m) (hx : 0 < mk_s f m ∨ ∃ j, j < m ∧ j ≠ k ∧ f j < 0) : 0 < f k := by
  rcases hx with hx | ⟨j, hj, hne, hx⟩
  · have := mk_s_own hk h; omega
  · have := mk_s_own2 hk hj hne h; omega
end
section
/-! the determinant, by its last row; the last column is put in the place of each other one: no signs, no shifted columns -/
def mk_c (M : Nat → Nat → Int) (q : Nat) (u : Nat → Int) : Nat → Nat → Int := fun r c => if c = q then u r else M r c
theorem mk_c_at {M : Nat → Nat → Int} {q : Nat} {u : Nat → Int} {r : Nat} : mk_c M q u r q = u r := if_pos rfl
theorem mk_c_ne {M : Nat → Nat → Int} {q : Nat} {u : Nat → Int} {r c : Nat} (h : c ≠ q) : mk_c M q u r c = M r c := if_neg h
theorem mk_c_comm {M : Nat → Nat → Int} {p q : Nat} {u v : Nat → Int} (h : p ≠ q) : mk_c (mk_c M p u) q v = mk_c (mk_c M q v) p u := by
  funext r c
  by_cases h1 : c = q
  · have h2 : c ≠ p := fun e => h (e.symm.trans h1)
    rw [mk_c_ne (q := p) h2, h1, mk_c_at, mk_c_at]
  · by_cases h2 : c = p
    · rw [mk_c_ne (q := q) h1, h2, mk_c_at, mk_c_at]
    · rw [mk_c_ne (q := q) h1, mk_c_ne (q := p) h2, mk_c_ne (q := p) h2, mk_c_ne (q := q) h1]
theorem mk_c_over {M : Nat → Nat → Int} {q : Nat} {u v : Nat → Int} : mk_c (mk_c M q u) q v = mk_c M q v := by
  funext r c
  by_cases h1 : c = q
  · rw [h1, mk_c_at, mk_c_at]
  · rw [mk_c_ne h1, mk_c_ne h1, mk_c_ne h1]
def mk_d : Nat → (Nat → Nat → Int) → Int
  | 0, _ => 1
  | n + 1, M => M n n * mk_d n M - mk_s (fun c => M n c * mk_d n (mk_c M c (fun r => M r n))) n
theorem mk_d_succ (n : Nat) (M : Nat → Nat → Int) : mk_d (n + 1) M = M n n * mk_d n M - mk_s (fun c => M n c * mk_d n (mk_c M c (fun r => M r n))) n := rfl
theorem mk_d_congr (n : Nat) : ∀ (M K : Nat → Nat → Int), (∀ r c, r < n → c < n → M r c = K r c) → mk_d n M = mk_d n K := by
  induction n with
  | zero => intro M K _; rfl
  | succ n ih =>
    intro M K h
    have h1 : mk_d n M = mk_d n K := ih _ _ (fun r c hr hc => h r c (by omega) (by omega))
    have h2 : mk_s (fun c => M n c * mk_d n (mk_c M c (fun r => M r n))) n = mk_s (fun c => K n c * mk_d n (mk_c K c (fun r => K r n))) n := by
      apply mk_s_congr
      intro c hc
      have h3 : mk_d n (mk_c M c (fun r => M r n)) = mk_d n (mk_c K c (fun r => K r n)) := by
        apply ih
        intro r c' hr hc'
        by_cases g : c' = c
        · rw [g, mk_c_at, mk_c_at]; exact h r n (by omega) (by omega)
        · rw [mk_c_ne g, mk_c_ne g]; exact h r c' (by omega) (by omega)
      rw [h3, h n c (by omega) (by omega)]
    rw [mk_d_succ, mk_d_succ, h1, h2, h n n (by omega) (by omega)]
theorem mk_d_last (n : Nat) (M : Nat → Nat → Int) (w : Nat → Int) : mk_d (n + 1) (mk_c M n w) = w n * mk_d n M - mk_s (fun c => M n c * mk_d n (mk_c M c w)) n := by
  have h1 : mk_d n (mk_c M n w) = mk_d n M := mk_d_congr n _ _ (fun r c _ hc => mk_c_ne (by omega))
  have h2 : mk_s (fun c => mk_c M n w n c * mk_d n (mk_c (mk_c M n w) c (fun r => mk_c M n w r n))) n = mk_s (fun c => M n c * mk_d n (mk_c M c w)) n := by
    apply mk_s_congr
    intro c hc
    have h3 : mk_d n (mk_c (mk_c M n w) c (fun r => mk_c M n w r n)) = mk_d n (mk_c M c w) := by
      apply mk_d_congr
      intro r c' hr hc'
      by_cases g : c' = c
      · rw [g, mk_c_at, mk_c_at, mk_c_at]
      · rw [mk_c_ne g, mk_c_ne g, mk_c_ne (show c' ≠ n by omega)]
    rw [h3, mk_c_ne (show c ≠ n by omega)]
  rw [mk_d_succ, h1, h2, mk_c_at]
theorem mk_d_lin (n : Nat) : ∀ (M : Nat → Nat → Int) (q : Nat) (x y : Int) (u v : Nat → Int), q < n → mk_d n (mk_c M q (fun r => x * u r + y * v r)) = x * mk_d n (mk_c M q u) + y * mk_d n (mk_c M q v) := by
  induction n with
  | zero => intro M q x y u v h; omega
  | succ n ih =>
    intro M q x y u v hq
    by_cases e : n = q
    · subst e
      have hS : mk_s (fun c => M n c * mk_d n (mk_c M c (fun r => x * u r + y * v r))) n = x * mk_s (fun c => M n c * mk_d n (mk_c M c u)) n + y * mk_s (fun c => M n c * mk_d n (mk_c M c v)) n := by
        rw [← mk_s_lin]
        apply mk_s_congr
        intro c hc
        have h1 := ih M c x y u v hc
        show M n c * mk_d n (mk_c M c (fun r => x * u r + y * v r)) = x * (M n c * mk_d n (mk_c M c u)) + y * (M n c * mk_d n (mk_c M c v))
        rw [h1]; grind
      rw [mk_d_last, mk_d_last, mk_d_last, hS]
      grind
    · have hq' : q < n := by omega
      have hm : ∀ w : Nat → Int, (fun r => mk_c M q w r n) = (fun r => M r n) := fun w => funext (fun r => mk_c_ne e)
      have hm2 : ∀ w : Nat → Int, mk_c M q w n n = M n n := fun w => mk_c_ne e
      have hS : mk_s (fun c => mk_c M q (fun r => x * u r + y * v r) n c * mk_d n (mk_c (mk_c M q (fun r => x * u r + y * v r)) c (fun r => M r n))) n = x * mk_s (fun c => mk_c M q u n c * mk_d n (mk_c (mk_c M q u) c (fun r => M r n))) n + y * mk_s (fun c => mk_c M q v n c * mk_d n (mk_c (mk_c M q v) c (fun r => M r n))) n := by
        rw [← mk_s_lin]
        apply mk_s_congr
        intro c hc
        show mk_c M q (fun r => x * u r + y * v r) n c * mk_d n (mk_c (mk_c M q (fun r => x * u r + y * v r)) c (fun r => M r n)) = x * (mk_c M q u n c * mk_d n (mk_c (mk_c M q u) c (fun r => M r n))) + y * (mk_c M q v n c * mk_d n (mk_c (mk_c M q v) c (fun r => M r n)))
        by_cases h : c = q
        · subst h
          rw [mk_c_over, mk_c_over, mk_c_over, mk_c_at, mk_c_at, mk_c_at]; grind
        · have hc2 : ∀ w : Nat → Int, mk_c (mk_c M q w) c (fun r => M r n) = mk_c (mk_c M c (fun r => M r n)) q w := fun w => mk_c_comm (Ne.symm h)
          rw [hc2, hc2, hc2, mk_c_ne h, mk_c_ne h, mk_c_ne h, ih _ q x y u v hq']; grind
      rw [mk_d_succ, mk_d_succ, mk_d_succ, hm, hm, hm, hm2, hm2, hm2, hS, ih M q x y u v hq']
      grind
theorem mk_d_anti {n : Nat} (H : ∀ (M : Nat → Nat → Int) (p q : Nat), p < q → q < n → (∀ r, r < n → M r p = M r q) → mk_d n M = 0) (M : Nat → Nat → Int) {p q : Nat} (hpq : p < q) (hq : q < n) (u v : Nat → Int) : mk_d n (mk_c (mk_c M p u) q v) = - mk_d n (mk_c (mk_c M p v) q u) := by
  have hne : p ≠ q := by omega
  have eq0 : ∀ w : Nat → Int, mk_d n (mk_c (mk_c M p w) q w) = 0 := by
    intro w
    apply H _ p q hpq hq
    intro r _
    rw [mk_c_ne hne, mk_c_at, mk_c_at]
  have lp : ∀ w : Nat → Int, mk_d n (mk_c (mk_c M p (fun r => 1 * u r + 1 * v r)) q w) = 1 * mk_d n (mk_c (mk_c M p u) q w) + 1 * mk_d n (mk_c (mk_c M p v) q w) := by
    intro w
    have hc : ∀ z : Nat → Int, mk_c (mk_c M p z) q w = mk_c (mk_c M q w) p z := fun z => mk_c_comm hne
    rw [hc, hc, hc, mk_d_lin n _ p 1 1 u v (by omega)]
  have h1 := eq0 (fun r => 1 * u r + 1 * v r)
  have h2 := mk_d_lin n (mk_c M p (fun r => 1 * u r + 1 * v r)) q 1 1 u v hq
  have h3 := lp u
  have h4 := lp v
  have h5 := eq0 u
  have h6 := eq0 v
  omega
theorem mk_d_alt (n : Nat) : ∀ (M : Nat → Nat → Int) (p q : Nat), p < q → q < n → (∀ r, r < n → M r p = M r q) → mk_d n M = 0 := by
  induction n with
  | zero => intro M p q _ h _; omega
  | succ n ih =>
    intro M p q hpq hq hM
    have alt : ∀ (K : Nat → Nat → Int) (a b : Nat), a ≠ b → a < n → b < n → (∀ r, r < n → K r a = K r b) → mk_d n K = 0 := by
      intro K a b hab ha hb hK
      rcases Nat.lt_or_ge a b with h | h
      · exact ih K a b h hb hK
      · exact ih K b a (by omega) ha (fun r hr => (hK r hr).symm)
    rw [mk_d_succ]
    by_cases e : q = n
    · have hz : ∀ c, c < n → c ≠ p → M n c * mk_d n (mk_c M c (fun r => M r n)) = 0 := by
        intro c hc hcp
        have h1 : mk_d n (mk_c M c (fun r => M r n)) = 0 := by
          apply alt _ c p hcp hc (by omega)
          intro r hr
          rw [mk_c_at, mk_c_ne (Ne.symm hcp), hM r (by omega), e]
        rw [h1, Int.mul_zero]
      have hd : mk_d n (mk_c M p (fun r => M r n)) = mk_d n M := by
        apply mk_d_congr
        intro r c hr hc
        by_cases h : c = p
        · rw [h, mk_c_at, hM r (by omega), e]
        · exact mk_c_ne h
      rw [mk_s_one (p := p) (N := n) hz n (Nat.le_refl n), if_pos (show p < n by omega), hd, hM n (by omega), e, Int.sub_self]
    · have hq' : q < n := by omega
      have hp' : p < n := by omega
      have hz : ∀ c, c < n → c ≠ p → c ≠ q → M n c * mk_d n (mk_c M c (fun r => M r n)) = 0 := by
        intro c hc h1 h2
        have h3 : mk_d n (mk_c M c (fun r => M r n)) = 0 := by
          apply alt _ p q (by omega) hp' hq'
          intro r hr
          rw [mk_c_ne (Ne.symm h1), mk_c_ne (Ne.symm h2)]; exact hM r (by omega)
        rw [h3, Int.mul_zero]
      have h1 : mk_d n (mk_c M p (fun r => M r n)) = mk_d n (mk_c (mk_c M p (fun r => M r n)) q (fun r => M r p)) := by
        apply mk_d_congr
        intro r c hr hc
        by_cases h : c = q
        · rw [h, mk_c_at, mk_c_ne (show q ≠ p by omega)]; exact (hM r (by omega)).symm
        · rw [mk_c_ne (q := q) h]
      have h2 : mk_d n (mk_c M q (fun r => M r n)) = mk_d n (mk_c (mk_c M p (fun r => M r p)) q (fun r => M r n)) := by
        apply mk_d_congr
        intro r c hr hc
        by_cases h : c = q
        · rw [h, mk_c_at, mk_c_at]
        · rw [mk_c_ne (q := q) h, mk_c_ne (q := q) h]
          by_cases h' : c = p
          · rw [h', mk_c_at]
          · rw [mk_c_ne h']
      have h3 := mk_d_anti ih M hpq hq' (fun r => M r p) (fun r => M r n)
      rw [mk_s_two (p := p) (q := q) (N := n) (by omega) hz n (Nat.le_refl n), if_pos hp', if_pos hq', ih M p q hpq hq' (fun r hr => hM r (by omega)), h2, h3, ← h1, hM n (by omega)]
      grind
theorem mk_d_ne (n : Nat) (K : Nat → Nat → Int) (a b : Nat) (hab : a ≠ b) (ha : a < n) (hb : b < n) (hK : ∀ r, r < n → K r a = K r b) : mk_d n K = 0 := by
  rcases Nat.lt_or_ge a b with h | h
  · exact mk_d_alt n K a b h hb hK
  · exact mk_d_alt n K b a (by omega) ha (fun r hr => (hK r hr).symm)
theorem mk_d_0 {n q : Nat} (M : Nat → Nat → Int) (hq : q < n) : mk_d n (mk_c M q (fun _ => 0)) = 0 := by
  have h := mk_d_lin n M q 0 0 (fun _ => 0) (fun _ => 0) hq
  have e : (fun _ : Nat => (0 : Int) * 0 + 0 * 0) = (fun _ => 0) := rfl
  rw [e, Int.zero_mul, Int.zero_add] at h
  exact h
theorem mk_d_sum {n q : Nat} (M : Nat → Nat → Int) (hq : q < n) (x : Nat → Int) (U : Nat → Nat → Int) (k : Nat) : mk_d n (mk_c M q (fun r => mk_s (fun l => x l * U l r) k)) = mk_s (fun l => x l * mk_d n (mk_c M q (U l))) k := by
  induction k with
  | zero => exact mk_d_0 M hq
  | succ k ih =>
    have e : (fun r => mk_s (fun l => x l * U l r) (k + 1)) = (fun r => 1 * mk_s (fun l => x l * U l r) k + x k * U k r) := by
      funext r
      show mk_s (fun l => x l * U l r) k + x k * U k r = 1 * mk_s (fun l => x l * U l r) k + x k * U k r
      rw [Int.one_mul]
    rw [e, mk_d_lin n M q 1 (x k) (fun r => mk_s (fun l => x l * U l r) k) (U k) hq, ih, Int.one_mul]
    rfl
/-! bounds: the rows' sums of absolute values -/
def mk_B : Nat → Int
  | 0 => 1
  | n + 1 => 8 * mk_B n
theorem mk_B_pos (n : Nat) : 0 < mk_B n := by
  induction n with
  | zero => exact Int.zero_lt_one
  | succ n ih =>
    show 0 < 8 * mk_B n
    omega
theorem mk_B_mono {a : Nat} : ∀ b, a ≤ b → mk_B a ≤ mk_B b := by
  intro b
  induction b with
  | zero =>
    intro h
    have : a = 0 := by omega
    subst this
    exact Int.le_refl _
  | succ b ih =>
    intro h
    by_cases e : a = b + 1
    · subst e; exact Int.le_refl _
    · have h1 := ih (by omega)
      have h2 := mk_B_pos b
      show mk_B a ≤ 8 * mk_B b
      omega
theorem mk_B_10 : mk_B 10 = 1073741824 := by decide
def mk_r (A : Nat → Nat → Int) (r n : Nat) : Int := mk_s (fun c => ((A r c).natAbs : Int)) n
theorem mk_r_c {A : Nat → Nat → Int} {c : Nat} {u : Nat → Int} {r n : Nat} : mk_r (mk_c A c u) r n ≤ mk_r A r n + ((u r).natAbs : Int) := by
  have e : mk_r (mk_c A c u) r n = mk_s (fun a => if a = c then ((u r).natAbs : Int) else ((A r a).natAbs : Int)) n := by
    apply mk_s_congr
    intro a _
    by_cases h : a = c
    · rw [if_pos h, h, mk_c_at]
    · rw [if_neg h, mk_c_ne h]
  rw [e]
  exact mk_s_repl (fun _ => Int.natCast_nonneg _) (Int.natCast_nonneg _) n
theorem mk_mulB {x d B : Int} (hd : (d.natAbs : Int) ≤ B) : ((x * d).natAbs : Int) ≤ B * (x.natAbs : Int) := by
  rw [Int.natAbs_mul, Int.natCast_mul, Int.mul_comm]
  exact Int.mul_le_mul_of_nonneg_right hd (Int.natCast_nonneg _)
/-- an entry times one minor less a row times others -/
theorem mk_expB {x D B : Int} {f d : Nat → Int} {n : Nat} (hD : (D.natAbs : Int) ≤ B) (hd : ∀ c, c < n → ((d c).natAbs : Int) ≤ B) : ((x * D - mk_s (fun c => f c * d c) n).natAbs : Int) ≤ B * (mk_s (fun c => ((f c).natAbs : Int)) n + (x.natAbs : Int)) := by
  have h1 := mk_mulB (x := x) hD
  have h2 : ((mk_s (fun c => f c * d c) n).natAbs : Int) ≤ B * mk_s (fun c => ((f c).natAbs : Int)) n := by
    rw [← mk_s_mul]
    refine Int.le_trans (mk_s_abs _ n) (mk_s_mono n ?_)
    intro c hc
    exact mk_mulB (hd c hc)
  rw [Int.mul_add]
  omega
theorem mk_d_bd (n : Nat) : ∀ M : Nat → Nat → Int, (∀ r, r < n → mk_r M r n ≤ 8) → ((mk_d n M).natAbs : Int) ≤ mk_B n := by
  induction n with
  | zero => intro M _; exact Int.le_refl 1
  | succ n ih =>
    intro M h
    have hs : ∀ r, mk_r M r (n + 1) = mk_r M r n + ((M r n).natAbs : Int) := fun r => rfl
    have h0 : ∀ r, r < n → mk_r M r n ≤ 8 := by
      intro r hr
      have h1 := h r (by omega)
      rw [hs] at h1
      omega
    have h1 : ((mk_d n M).natAbs : Int) ≤ mk_B n := ih M h0
    have h2 : ∀ c, c < n → ((mk_d n (mk_c M c (fun r => M r n))).natAbs : Int) ≤ mk_B n := by
      intro c _
      apply ih
      intro r hr
      have h3 := h r (by omega)
      rw [hs] at h3
      have h4 := mk_r_c (A := M) (c := c) (u := fun r => M r n) (r := r) (n := n)
      exact Int.le_trans h4 h3
    have h3 := mk_expB (x := M n n) (f := fun c => M n c) (n := n) h1 h2
    have h4 := h n (by omega)
    have h5 := mk_B_pos n
    rw [mk_d_succ]
    refine Int.le_trans h3 ?_
    show mk_B n * (mk_r M n n + ((M n n).natAbs : Int)) ≤ 8 * mk_B n
    rw [hs] at h4
    rw [Int.mul_comm 8]
    exact Int.mul_le_mul_of_nonneg_left h4 (by omega)
end
section
/-! elimination without fractions: the entry after k pivots is a minor -/
def mk_u (l : Nat) : Nat → Int := fun r => if r = l then 1 else 0
theorem mk_s_unit (x : Nat → Int) {r n : Nat} (h : r < n) : mk_s (fun l => x l * mk_u l r) n = x r := by
  have hz : ∀ c, c < n → c ≠ r → x c * mk_u c r = 0 := by
    intro c _ hne
    show x c * (if r = c then 1 else 0) = 0
    rw [if_neg (Ne.symm hne), Int.mul_zero]
  rw [mk_s_one (p := r) (N := n) hz n (Nat.le_refl n), if_pos h]
  show x r * (if r = r then 1 else 0) = x r
  rw [if_pos rfl, Int.mul_one]
def mk_T (A : Nat → Nat → Int) (k i l : Nat) : Int := if i < k then mk_d k (mk_c A i (mk_u l)) else - mk_s (fun c => A i c * mk_d k (mk_c A c (mk_u l))) k
def mk_E (A : Nat → Nat → Int) (k i j : Nat) : Int := if i < k then mk_d k (mk_c A i (fun r => A r j)) else A i j * mk_d k A - mk_s (fun c => A i c * mk_d k (mk_c A c (fun r => A r j))) k
theorem mk_E_0 (A : Nat → Nat → Int) (i j : Nat) : mk_E A 0 i j = A i j := by
  show (if i < 0 then _ else A i j * 1 - 0) = A i j
  rw [if_neg (by omega), Int.mul_one, Int.sub_zero]
theorem mk_E_col (A : Nat → Nat → Int) {k c : Nat} (j : Nat) (hc : c < k) : mk_d k (mk_c A c (fun r => A r j)) = mk_s (fun l => mk_d k (mk_c A c (mk_u l)) * A l j) k := by
  have h := mk_d_sum A hc (fun l => A l j) mk_u k
  have e : mk_d k (mk_c A c (fun r => A r j)) = mk_d k (mk_c A c (fun r => mk_s (fun l => A l j * mk_u l r) k)) := by
    apply mk_d_congr
    intro r c' hr hc'
    by_cases g : c' = c
    · rw [g, mk_c_at, mk_c_at]; exact (mk_s_unit (fun l => A l j) hr).symm
    · rw [mk_c_ne g, mk_c_ne g]
  rw [e, h]
  exact mk_s_congr k (fun l _ => Int.mul_comm _ _)
theorem mk_E_comb (A : Nat → Nat → Int) (k i j : Nat) : mk_E A k i j = mk_s (fun l => mk_T A k i l * A l j) k + (if i < k then 0 else mk_d k A * A i j) := by
  by_cases h : i < k
  · have e : mk_s (fun l => mk_T A k i l * A l j) k = mk_s (fun l => mk_d k (mk_c A i (mk_u l)) * A l j) k :=
      mk_s_congr k (fun l _ => by show (if i < k then _ else _) * A l j = _; rw [if_pos h])
    rw [e, if_pos h, Int.add_zero, ← mk_E_col A j h]
    exact if_pos h
  · have e : mk_s (fun l => mk_T A k i l * A l j) k = mk_s (fun l => - mk_s (fun c => A i c * (mk_d k (mk_c A c (mk_u l)) * A l j)) k) k := by
      apply mk_s_congr
      intro l _
      have h1 : mk_T A k i l = - mk_s (fun c => A i c * mk_d k (mk_c A c (mk_u l))) k := if_neg h
      have h2 : mk_s (fun c => A i c * (mk_d k (mk_c A c (mk_u l)) * A l j)) k = A l j * mk_s (fun c => A i c * mk_d k (mk_c A c (mk_u l))) k := by
        rw [← mk_s_mul]
        exact mk_s_congr k (fun c _ => by grind)
      rw [h1, h2]; grind
    have e1 : mk_s (fun c => A i c * mk_d k (mk_c A c (fun r => A r j))) k = mk_s (fun c => mk_s (fun l => A i c * (mk_d k (mk_c A c (mk_u l)) * A l j)) k) k :=
      mk_s_congr k (fun c hc => by rw [mk_E_col A j hc, mk_s_mul])
    have e2 : mk_E A k i j = A i j * mk_d k A - mk_s (fun c => A i c * mk_d k (mk_c A c (fun r => A r j))) k := if_neg h
    rw [e2, e, if_neg h, e1, mk_s_neg, mk_s_comm]
    grind
theorem mk_E_lo (A : Nat → Nat → Int) {k i j : Nat} (hj : j < k) : mk_E A k i j = if i = j then mk_d k A else 0 := by
  have col : ∀ c, c < k → mk_d k (mk_c A c (fun r => A r j)) = if c = j then mk_d k A else 0 := by
    intro c hc
    by_cases h : c = j
    · rw [if_pos h]
      apply mk_d_congr
      intro r c' _ _
      by_cases g : c' = c
      · rw [g, mk_c_at, h]
      · exact mk_c_ne g
    · rw [if_neg h]
      apply mk_d_ne k _ c j h hc hj
      intro r _
      rw [mk_c_at, mk_c_ne (Ne.symm h)]
  by_cases h : i < k
  · have e : mk_E A k i j = mk_d k (mk_c A i (fun r => A r j)) := if_pos h
    rw [e]; exact col i h
  · have e : mk_E A k i j = A i j * mk_d k A - mk_s (fun c => A i c * mk_d k (mk_c A c (fun r => A r j))) k := if_neg h
    have hz : ∀ c, c < k → c ≠ j → A i c * mk_d k (mk_c A c (fun r => A r j)) = 0 := by
      intro c hc hne
      rw [col c hc, if_neg hne, Int.mul_zero]
    rw [e, if_neg (show ¬ i = j by omega), mk_s_one (p := j) (N := k) hz k (Nat.le_refl k), if_pos hj, col j hj, if_pos rfl, Int.sub_self]
theorem mk_E_kk (A : Nat → Nat → Int) (k : Nat) : mk_E A k k k = mk_d (k + 1) A := by
  have e : mk_E A k k k = A k k * mk_d k A - mk_s (fun c => A k c * mk_d k (mk_c A c (fun r => A r k))) k := if_neg (Nat.lt_irrefl k)
  rw [e, mk_d_succ]
theorem mk_E_piv (A : Nat → Nat → Int) (k j : Nat) : mk_E A (k + 1) k j = mk_E A k k j := by
  have e : mk_E A k k j = A k j * mk_d k A - mk_s (fun c => A k c * mk_d k (mk_c A c (fun r => A r j))) k := if_neg (Nat.lt_irrefl k)
  have e1 : mk_E A (k + 1) k j = mk_d (k + 1) (mk_c A k (fun r => A r j)) := if_pos (Nat.lt_succ_self k)
  rw [e, e1, mk_d_last]
theorem mk_uni (A : Nat → Nat → Int) (k : Nat) : (∀ l, l ≤ k → mk_d l A ≠ 0) → ∀ y : Nat → Int, (∀ j, j < k → mk_s (fun l => y l * A l j) k = 0) → ∀ l, l < k → y l = 0 := by
  induction k with
  | zero => intro _ y _ l hl; omega
  | succ k ih =>
    intro hd y hy
    have hdk := hd k (by omega)
    have hdk1 := hd (k + 1) (Nat.le_refl _)
    have hz : ∀ j, mk_s (fun l => (mk_d k A * y l - y k * mk_T A k k l) * A l j) k = mk_d k A * mk_s (fun l => y l * A l j) (k + 1) - y k * mk_E A k k j := by
      intro j
      have h1 : mk_s (fun l => (mk_d k A * y l - y k * mk_T A k k l) * A l j) k = mk_d k A * mk_s (fun l => y l * A l j) k + (- y k) * mk_s (fun l => mk_T A k k l * A l j) k := by
        rw [← mk_s_lin]
        exact mk_s_congr k (fun l _ => by grind)
      have h2 : mk_s (fun l => y l * A l j) (k + 1) = mk_s (fun l => y l * A l j) k + y k * A k j := rfl
      rw [mk_E_comb, if_neg (Nat.lt_irrefl k), h1, h2]
      grind
    have hz0 : ∀ l, l < k → mk_d k A * y l - y k * mk_T A k k l = 0 := by
      apply ih (fun l hl => hd l (by omega)) (fun l => mk_d k A * y l - y k * mk_T A k k l)
      intro j hj
      rw [hz j, hy j (by omega), mk_E_lo A hj, if_neg (show ¬ k = j by omega), Int.mul_zero, Int.mul_zero]; rfl
    have ht : y k = 0 := by
      have h1 := hz k
      have h2 : mk_s (fun l => (mk_d k A * y l - y k * mk_T A k k l) * A l k) k = 0 := by
        rw [mk_s_congr (g := fun _ => 0) k (fun l hl => by rw [hz0 l hl, Int.zero_mul]), mk_s_zero]
      rw [h2, hy k (by omega), mk_E_kk, Int.mul_zero] at h1
      have h3 : y k * mk_d (k + 1) A = 0 := by omega
      rcases Int.mul_eq_zero.mp h3 with h | h
      · exact h
      · exact absurd h hdk1
    intro l hl
    by_cases e : l = k
    · rw [e]; exact ht
    · have h := hz0 l (by omega)
      rw [ht, Int.zero_mul, Int.sub_zero] at h
      rcases Int.mul_eq_zero.mp h with h | h
      · exact absurd h hdk
      · exact h
/-- the step of the elimination -/
theorem mk_step (A : Nat → Nat → Int) {k i : Nat} (hd : ∀ l, l ≤ k + 1 → mk_d l A ≠ 0) (hi : i ≠ k) (j : Nat) : mk_d k A * mk_E A (k + 1) i j = mk_d (k + 1) A * mk_E A k i j - mk_E A k i k * mk_E A k k j := by
  have G : ∀ j, mk_s (fun l => (mk_d k A * mk_T A (k + 1) i l - (if l < k then mk_d (k + 1) A * mk_T A k i l - mk_E A k i k * mk_T A k k l else - (mk_E A k i k * mk_d k A))) * A l j) (k + 1) = mk_d k A * mk_E A (k + 1) i j - (mk_d (k + 1) A * mk_E A k i j - mk_E A k i k * mk_E A k k j) := by
    intro j
    have h1 : mk_s (fun l => (mk_d k A * mk_T A (k + 1) i l - (if l < k then mk_d (k + 1) A * mk_T A k i l - mk_E A k i k * mk_T A k k l else - (mk_E A k i k * mk_d k A))) * A l j) k = mk_d k A * mk_s (fun l => mk_T A (k + 1) i l * A l j) k + 1 * ((- mk_d (k + 1) A) * mk_s (fun l => mk_T A k i l * A l j) k + mk_E A k i k * mk_s (fun l => mk_T A k k l * A l j) k) := by
      rw [← mk_s_lin, ← mk_s_lin]
      apply mk_s_congr
      intro l hl
      rw [if_pos hl]; grind
    have h2 : mk_s (fun l => (mk_d k A * mk_T A (k + 1) i l - (if l < k then mk_d (k + 1) A * mk_T A k i l - mk_E A k i k * mk_T A k k l else - (mk_E A k i k * mk_d k A))) * A l j) (k + 1) = mk_s (fun l => (mk_d k A * mk_T A (k + 1) i l - (if l < k then mk_d (k + 1) A * mk_T A k i l - mk_E A k i k * mk_T A k k l else - (mk_E A k i k * mk_d k A))) * A l j) k + (mk_d k A * mk_T A (k + 1) i k + mk_E A k i k * mk_d k A) * A k j := by
      show _ + (mk_d k A * mk_T A (k + 1) i k - (if k < k then _ else - (mk_E A k i k * mk_d k A))) * A k j = _
      rw [if_neg (Nat.lt_irrefl k)]; grind
    have h3 : mk_s (fun l => mk_T A (k + 1) i l * A l j) (k + 1) = mk_s (fun l => mk_T A (k + 1) i l * A l j) k + mk_T A (k + 1) i k * A k j := rfl
    have h4 := mk_E_comb A (k + 1) i j
    have h5 := mk_E_comb A k i j
    have h6 := mk_E_comb A k k j
    rw [if_neg (Nat.lt_irrefl k)] at h6
    rw [h2, h1, h4, h5, h6, h3]
    by_cases hk : i < k
    · rw [if_pos hk, if_pos (show i < k + 1 by omega)]; grind
    · rw [if_neg hk, if_neg (show ¬ i < k + 1 by omega)]; grind
  have hy := mk_uni A (k + 1) hd (fun l => mk_d k A * mk_T A (k + 1) i l - (if l < k then mk_d (k + 1) A * mk_T A k i l - mk_E A k i k * mk_T A k k l else - (mk_E A k i k * mk_d k A))) (by
    intro j hj
    rw [G j]
    by_cases e : j = k
    · subst e
      rw [mk_E_lo A (Nat.lt_succ_self j), if_neg hi, mk_E_kk]; grind
    · have hj' : j < k := by omega
      rw [mk_E_lo A hj, mk_E_lo A hj', mk_E_lo (i := k) A hj', if_neg (show ¬ k = j by omega)]
      by_cases e2 : i = j
      · rw [if_pos e2, if_pos e2]; grind
      · rw [if_neg e2, if_neg e2]; grind)
  have h0 := G j
  rw [mk_s_congr (g := fun _ => 0) (k + 1) (fun l hl => by rw [hy l hl, Int.zero_mul]), mk_s_zero] at h0
  omega
/-- the bound of every entry -/
theorem mk_E_bd {A : Nat → Nat → Int} {m : Nat} (hA : ∀ r, r < m → mk_r A r (m + 1) ≤ 8) {k i j : Nat} (hk : k ≤ m) (hi : i < m) (hj : j ≤ m) : ((mk_E A k i j).natAbs : Int) ≤ mk_B m := by
  have nn : ∀ r, ∀ c, (0 : Int) ≤ ((A r c).natAbs : Int) := fun r c => Int.natCast_nonneg _
  have hlow : ∀ r, r < m → mk_r A r k ≤ 8 := fun r hr => Int.le_trans (mk_s_part (nn r) (m + 1) (by omega)) (hA r hr)
  have hD : ((mk_d k A).natAbs : Int) ≤ mk_B k := mk_d_bd k A (fun r hr => hlow r (by omega))
  have hkm := mk_B_mono m hk
  by_cases h : j < k
  · rw [mk_E_lo A h]
    by_cases e : i = j
    · rw [if_pos e]; omega
    · rw [if_neg e]
      have := mk_B_pos m
      show (0 : Int) ≤ mk_B m
      omega
  · have h2 : ∀ r, r < m → mk_r A r k + ((A r j).natAbs : Int) ≤ 8 := fun r hr => Int.le_trans (mk_s_part2 (nn r) (by omega) m hj) (hA r hr)
    have hC : ∀ c, c < k → ((mk_d k (mk_c A c (fun r => A r j))).natAbs : Int) ≤ mk_B k := by
      intro c _
      apply mk_d_bd
      intro r hr
      exact Int.le_trans mk_r_c (h2 r (by omega))
    by_cases hik : i < k
    · have e : mk_E A k i j = mk_d k (mk_c A i (fun r => A r j)) := if_pos hik
      rw [e]
      exact Int.le_trans (hC i hik) hkm
    · have e : mk_E A k i j = A i j * mk_d k A - mk_s (fun c => A i c * mk_d k (mk_c A c (fun r => A r j))) k := if_neg hik
      have h3 := mk_expB (x := A i j) (f := fun c => A i c) (n := k) hD hC
      have h4 := h2 i hi
      have h5 := mk_B_pos k
      have h6 : mk_B (k + 1) ≤ mk_B m := mk_B_mono m (by omega)
      rw [e]
      refine Int.le_trans h3 (Int.le_trans ?_ h6)
      show mk_B k * (mk_r A i k + ((A i j).natAbs : Int)) ≤ 8 * mk_B k
      rw [Int.mul_comm 8]
      exact Int.mul_le_mul_of_nonneg_left h4 (by omega)
/-! signs -/
theorem mk_np {D x : Int} (hD : 0 < D) (h : D * x ≤ 0) : x ≤ 0 :=
  Int.not_lt.mp (fun g => absurd (Int.mul_pos hD g) (Int.not_lt.mpr h))
theorem mk_nn {D x : Int} (hD : 0 < D) (h : 0 ≤ D * x) : 0 ≤ x :=
  Int.not_lt.mp (fun g => absurd (Int.mul_neg_of_pos_of_neg hD g) (Int.not_lt.mpr h))
theorem mk_ps {D x : Int} (hD : 0 < D) (h : 0 < D * x) : 0 < x :=
  Int.not_le.mp (fun g => absurd (Int.mul_nonneg (Int.le_of_lt hD) (show 0 ≤ -x by omega)) (by rw [Int.mul_neg]; omega))
theorem mk_ng {D x : Int} (hD : 0 < D) (h : D * x < 0) : x < 0 :=
  Int.not_le.mp (fun g => absurd (Int.mul_nonneg (Int.le_of_lt hD) g) (by omega))
theorem mk_pn {a b : Int} (ha : 0 < a) (hb : b ≤ 0) : a * b ≤ 0 := by
  have h := Int.mul_nonneg (Int.le_of_lt ha) (show 0 ≤ -b by omega)
  rw [Int.mul_neg] at h; omega
theorem mk_qn {a b : Int} (ha : a ≤ 0) (hb : 0 ≤ b) : a * b ≤ 0 := by
  have h := Int.mul_nonneg (show 0 ≤ -a by omega) hb
  rw [Int.neg_mul] at h; omega
def mk_Row (A : Nat → Nat → Int) (ρ : Nat → Nat) (m k i : Nat) : Prop :=
  (∀ j, j < m → j ≠ i → mk_E A k i j ≤ 0) ∧ 0 ≤ mk_E A k i m ∧ 0 ≤ mk_s (mk_E A k i) m ∧
  (k ≤ i → 0 < mk_s (mk_E A k i) m ∨ ∃ j, k ≤ j ∧ j < m ∧ j ≠ i ∧ mk_E A k i j < 0 ∧ ρ j < ρ i)
theorem mk_Row_own {A : Nat → Nat → Int} {ρ : Nat → Nat} {m k i : Nat} (h : mk_Row A ρ m k i) (hi : i < m) (hk : k ≤ i) : 0 < mk_E A k i i := by
  obtain ⟨h1, _, h3, h4⟩ := h
  refine mk_diag (f := mk_E A k i) hi h1 h3 ?_
  rcases h4 hk with g | ⟨j, _, b, c, d, _⟩
  · exact Or.inl g
  · exact Or.inr ⟨j, b, c, d⟩
theorem mk_sgn {A : Nat → Nat → Int} {ρ : Nat → Nat} {m : Nat} (h0 : ∀ i, i < m → mk_Row A ρ m 0 i) (k : Nat) : k ≤ m → (∀ l, l ≤ k → 0 < mk_d l A) ∧ ∀ i, i < m → mk_Row A ρ m k i := by
  induction k with
  | zero =>
    intro _
    refine ⟨?_, h0⟩
    intro l hl
    have : l = 0 := by omega
    subst this
    exact Int.zero_lt_one
  | succ k ih =>
    intro hk
    obtain ⟨hd, hr⟩ := ih (by omega)
    have hkm : k < m := by omega
    have hK := hr k hkm
    have hp : 0 < mk_d (k + 1) A := by
      rw [← mk_E_kk]; exact mk_Row_own hK hkm (Nat.le_refl k)
    have hd' : ∀ l, l ≤ k + 1 → 0 < mk_d l A := by
      intro l hl
      by_cases e : l = k + 1
      · rw [e]; exact hp
      · exact hd l (by omega)
    refine ⟨hd', ?_⟩
    intro i hi
    obtain ⟨k1, k2, k3, k4⟩ := hK
    by_cases e : i = k
    · subst e
      have hE : mk_E A (i + 1) i = mk_E A i i := funext (fun j => mk_E_piv A i j)
      unfold mk_Row
      rw [hE]
      exact ⟨k1, k2, k3, fun g => by omega⟩
    · obtain ⟨i1, i2, i3, i4⟩ := hr i hi
      have hD : 0 < mk_d k A := hd k (Nat.le_refl k)
      have hstep := mk_step A (k := k) (i := i) (fun l hl => by have := hd' l hl; omega) e
      have hik : mk_E A k i k ≤ 0 := i1 k hkm (Ne.symm e)
      have hsum : mk_d k A * mk_s (mk_E A (k + 1) i) m = mk_d (k + 1) A * mk_s (mk_E A k i) m - mk_E A k i k * mk_s (mk_E A k k) m := by
        have g1 : mk_d k A * mk_s (mk_E A (k + 1) i) m = mk_s (fun j => mk_d k A * mk_E A (k + 1) i j) m := (mk_s_mul _ _ m).symm
        have g2 : mk_s (fun j => mk_d k A * mk_E A (k + 1) i j) m = mk_s (fun j => mk_d (k + 1) A * mk_E A k i j + (- mk_E A k i k) * mk_E A k k j) m :=
          mk_s_congr m (fun j _ => by rw [hstep j]; grind)
        rw [g1, g2, mk_s_lin]; grind
      refine ⟨?_, ?_, ?_, ?_⟩
      · intro j hj hji
        by_cases ej : j = k
        · rw [ej, mk_E_lo A (Nat.lt_succ_self k), if_neg e]; exact Int.le_refl 0
        · apply mk_np hD
          rw [hstep j]
          have g1 := mk_pn hp (i1 j hj hji)
          have g2 := Int.mul_nonneg_of_nonpos_of_nonpos hik (k1 j hj ej)
          omega
      · apply mk_nn hD
        rw [hstep m]
        have g1 := Int.mul_nonneg (Int.le_of_lt hp) i2
        have g2 := mk_qn hik k2
        omega
      · apply mk_nn hD
        rw [hsum]
        have g1 := Int.mul_nonneg (Int.le_of_lt hp) i3
        have g2 := mk_qn hik k3
        omega
      · intro hki
        rcases i4 (by omega) with g | ⟨j, a, b, c, d, f⟩
        · left
          apply mk_ps hD
          rw [hsum]
          have g1 := Int.mul_pos hp g
          have g2 := mk_qn hik k3
          omega
        · by_cases ej : j = k
          · subst ej
            rcases k4 (Nat.le_refl j) with g | ⟨j', a', b', c', d', f'⟩
            · left
              apply mk_ps hD
              rw [hsum]
              have g1 := Int.mul_nonneg (Int.le_of_lt hp) i3
              have g2 := Int.mul_neg_of_neg_of_pos d g
              omega
            · right
              have hne : j' ≠ i := fun z => by rw [z] at f'; omega
              refine ⟨j', by omega, b', hne, ?_, by omega⟩
              apply mk_ng hD
              rw [hstep j']
              have g1 := mk_pn hp (i1 j' b' hne)
              have g2 := Int.mul_pos_of_neg_of_neg d d'
              omega
          · right
            refine ⟨j, by omega, b, c, ?_, f⟩
            apply mk_ng hD
            rw [hstep j]
            have g1 := Int.mul_neg_of_pos_of_neg hp d
            have g2 := Int.mul_nonneg_of_nonpos_of_nonpos hik (k1 j b ej)
            omega
end
section
/-! common divisors, reduced fractions, rows in proportion -/
def mk_g (y : Nat → Int) : Nat → Nat
  | 0 => 0
  | n + 1 => Nat.gcd (mk_g y n) (y n).natAbs
theorem mk_g_congr {f g : Nat → Int} (n : Nat) (h : ∀ c, c < n → f c = g c) : mk_g f n = mk_g g n := by
  induction n with
  | zero => rfl
  | succ n ih =>
    show Nat.gcd (mk_g f n) (f n).natAbs = Nat.gcd (mk_g g n) (g n).natAbs
    rw [ih (fun c hc => h c (by omega)), h n (by omega)]
theorem mk_g_dvd (y : Nat → Int) (n : Nat) : ∀ c, c < n → mk_g y n ∣ (y c).natAbs := by
  induction n with
  | zero => intro c h; omega
  | succ n ih =>
    intro c h
    show Nat.gcd (mk_g y n) (y n).natAbs ∣ _
    by_cases e : c = n
    · rw [e]; exact Nat.gcd_dvd_right _ _
    · exact Nat.dvd_trans (Nat.gcd_dvd_left _ _) (ih c (by omega))
theorem mk_g_mul (y : Nat → Int) (d a : Nat) (n : Nat) : (∀ c, c < n → d ∣ a * (y c).natAbs) → d ∣ a * mk_g y n := by
  induction n with
  | zero =>
    intro _
    show d ∣ a * 0
    rw [Nat.mul_zero]; exact Nat.dvd_zero d
  | succ n ih =>
    intro h
    show d ∣ a * Nat.gcd (mk_g y n) (y n).natAbs
    rw [← Nat.gcd_mul_left]
    exact Nat.dvd_gcd (ih (fun c hc => h c (by omega))) (h n (by omega))
theorem mk_g_scale (y : Nat → Int) (a : Int) (n : Nat) : mk_g (fun c => a * y c) n = a.natAbs * mk_g y n := by
  induction n with
  | zero =>
    show 0 = a.natAbs * 0
    rw [Nat.mul_zero]
  | succ n ih =>
    show Nat.gcd (mk_g (fun c => a * y c) n) (a * y n).natAbs = a.natAbs * Nat.gcd (mk_g y n) (y n).natAbs
    rw [ih, Int.natAbs_mul, Nat.gcd_mul_left]
theorem mk_g_bd (y : Nat → Int) (n : Nat) {c : Nat} (hc : c < n) (h0 : y c ≠ 0) : 0 < mk_g y n ∧ mk_g y n ≤ (y c).natAbs := by
  have h := mk_g_dvd y n c hc
  have hp : 0 < (y c).natAbs := by omega
  exact ⟨Nat.pos_of_dvd_of_pos h hp, Nat.le_of_dvd hp h⟩
theorem mk_g_zero (y : Nat → Int) (n : Nat) (h : mk_g y n = 0) : ∀ c, c < n → y c = 0 := by
  intro c hc
  have h1 := mk_g_dvd y n c hc
  rw [h] at h1
  have h2 := Nat.eq_zero_of_zero_dvd h1
  omega
/-- divided by its common divisor a row is primitive -/
theorem mk_g_one {y z : Nat → Int} {n : Nat} {G : Nat} (hG : 0 < G) (hg : mk_g y n = G) (h : ∀ c, c < n → y c = (G : Int) * z c) : mk_g z n = 1 := by
  have h1 : mk_g y n = (G : Int).natAbs * mk_g z n := by
    rw [← mk_g_scale]; exact mk_g_congr n h
  rw [hg, Int.natAbs_natCast] at h1
  have h2 : G * 1 = G * mk_g z n := by rw [Nat.mul_one]; exact h1
  exact (Nat.eq_of_mul_eq_mul_left hG h2).symm
theorem mk_prim {E y : Nat → Int} {n : Nat} {a b : Int} (ha : 0 < a) (hb : 0 < b) (h : ∀ c, c < n → b * E c = a * y c) (hg : mk_g y n = 1) : ∀ c, c < n → (y c).natAbs ≤ (E c).natAbs := by
  have hm : ∀ c, c < n → b.natAbs * (E c).natAbs = a.natAbs * (y c).natAbs := by
    intro c hc
    rw [← Int.natAbs_mul, ← Int.natAbs_mul, h c hc]
  have hd : b.natAbs ∣ a.natAbs * mk_g y n := by
    apply mk_g_mul
    intro c hc
    exact ⟨(E c).natAbs, (hm c hc).symm⟩
  rw [hg, Nat.mul_one] at hd
  have hp : 0 < a.natAbs := by omega
  have hle : b.natAbs ≤ a.natAbs := Nat.le_of_dvd hp hd
  intro c hc
  have h1 : a.natAbs * (y c).natAbs ≤ a.natAbs * (E c).natAbs := by
    rw [← hm c hc]; exact Nat.mul_le_mul_right _ hle
  exact Nat.le_of_mul_le_mul_left h1 hp
theorem mk_red {p q p' q' a b : Nat} (ha : 0 < a) (hb : 0 < b) (h1 : b * p = a * p') (h2 : b * q = a * q') : p / Nat.gcd p q = p' / Nat.gcd p' q' ∧ q / Nat.gcd p q = q' / Nat.gcd p' q' := by
  have hg : b * Nat.gcd p q = a * Nat.gcd p' q' := by
    rw [← Nat.gcd_mul_left, ← Nat.gcd_mul_left, h1, h2]
  constructor
  · rw [← Nat.mul_div_mul_left p (Nat.gcd p q) hb, ← Nat.mul_div_mul_left p' (Nat.gcd p' q') ha, hg, h1]
  · rw [← Nat.mul_div_mul_left q (Nat.gcd p q) hb, ← Nat.mul_div_mul_left q' (Nat.gcd p' q') ha, hg, h2]
/-! Euclid with a bound on its steps -/
def mk_e : Nat → Nat → Nat → Nat
  | 0, a, _ => a
  | f + 1, a, b => if b = 0 then a else mk_e f b (a % b)
theorem mk_e_0 (f a : Nat) : mk_e f a 0 = a := by
  cases f with
  | zero => rfl
  | succ f => exact if_pos rfl
theorem mk_e_s (f a : Nat) {b : Nat} (h : b ≠ 0) : mk_e (f + 1) a b = mk_e f b (a % b) := if_neg h
theorem mk_gcd_s (a b : Nat) : Nat.gcd b (a % b) = Nat.gcd a b := by
  rw [Nat.gcd_comm b (a % b), ← Nat.gcd_rec, Nat.gcd_comm]
theorem mk_e_gcd (h : Nat) : ∀ a b f : Nat, b < 2 ^ h → 2 * h ≤ f → mk_e f a b = Nat.gcd a b := by
  induction h with
  | zero =>
    intro a b f hb _
    have : b = 0 := by simpa using hb
    subst this
    rw [mk_e_0, Nat.gcd_zero_right]
  | succ h ih =>
    intro a b f hb hf
    by_cases e : b = 0
    · subst e; rw [mk_e_0, Nat.gcd_zero_right]
    · obtain ⟨f', rfl⟩ : ∃ f', f = f' + 1 + 1 := ⟨f - 2, by omega⟩
      rw [mk_e_s _ _ e, ← mk_gcd_s a b]
      have hr : a % b < b := Nat.mod_lt a (by omega)
      by_cases e2 : a % b = 0
      · rw [e2, mk_e_0, Nat.gcd_zero_right]
      · rw [mk_e_s _ _ e2, ← mk_gcd_s b (a % b)]
        apply ih _ _ f' _ (by omega)
        have h1 : b % (a % b) < a % b := Nat.mod_lt b (by omega)
        have h2 : b % (a % b) + (a % b) ≤ b := by
          have h3 := Nat.div_add_mod b (a % b)
          have h4 : 1 ≤ b / (a % b) := (Nat.le_div_iff_mul_le (by omega)).mpr (by omega)
          have h5 : (a % b) * 1 ≤ (a % b) * (b / (a % b)) := Nat.mul_le_mul_left _ h4
          omega
        have h6 : 2 ^ (h + 1) = 2 ^ h * 2 := Nat.pow_succ 2 h
        omega
/-! longs as integers -/
def mk_z (x : Int) : Int64 := Int64.ofInt x
theorem mk_z_n (n : Nat) : mk_z (n : Int) = lN n := Int64.ofInt_eq_ofNat
theorem mk_z_T {x : Int} (h1 : -9223372036854775808 ≤ x) (h2 : x < 9223372036854775808) : (mk_z x).toInt = x := Int64.toInt_ofInt_of_le (by omega) (by omega)
theorem mk_z_add (a b : Int) : mk_z a + mk_z b = mk_z (a + b) := (Int64.ofInt_add a b).symm
theorem mk_z_sub (a b : Int) : mk_z a - mk_z b = mk_z (a - b) := (Int64.ofInt_sub a b).symm
theorem mk_z_mul (a b : Int) : mk_z a * mk_z b = mk_z (a * b) := (Int64.ofInt_mul a b).symm
theorem mk_z_neg (a : Int) : - mk_z a = mk_z (- a) := (Int64.ofInt_neg a).symm
theorem mk_z_0 : mk_z 0 = 0 := rfl
theorem mk_z_1 : mk_z 1 = 1 := rfl
theorem mk_z_div {a b : Int} (h1 : -9223372036854775808 ≤ a) (h2 : a < 9223372036854775808) (h3 : -9223372036854775808 ≤ b) (h4 : b < 9223372036854775808) : mk_z a / mk_z b = mk_z (a.tdiv b) := by
  have e1 : Int64.minValue.toInt = -9223372036854775808 := by decide
  have e2 : Int64.maxValue.toInt = 9223372036854775807 := by decide
  exact (Int64.ofInt_tdiv (by rw [e1]; exact h1) (by rw [e2]; omega) (by rw [e1]; exact h3) (by rw [e2]; omega)).symm
theorem mk_z_dvd {a b c : Int} (h1 : -9223372036854775808 ≤ a) (h2 : a < 9223372036854775808) (h3 : -9223372036854775808 ≤ b) (h4 : b < 9223372036854775808) (hb : b ≠ 0) (h : a = b * c) : mk_z a / mk_z b = mk_z c := by
  rw [mk_z_div h1 h2 h3 h4, Int.tdiv_eq_of_eq_mul_right hb h]
theorem mk_z_eq0 {x : Int} (h1 : -9223372036854775808 ≤ x) (h2 : x < 9223372036854775808) : mk_z x = 0 ↔ x = 0 := by
  rw [← Int64.toInt_inj, mk_z_T h1 h2]; exact Iff.rfl
theorem mk_z_lt0 {x : Int} (h1 : -9223372036854775808 ≤ x) (h2 : x < 9223372036854775808) : mk_z x < 0 ↔ x < 0 := by
  rw [Int64.lt_iff_toInt_lt, mk_z_T h1 h2]; exact Iff.rfl
theorem mk_z_i {n : Nat} (h : n < 2 ^ 31) : (nI n).toInt64 = mk_z (n : Int) := by
  rw [mk_z_n]; exact nI_l h
end
section
/-! a row that stands in proportion to the row of minors -/
def mk_P (A : Nat → Nat → Int) (m k i : Nat) (y : Nat → Int) : Prop :=
  (∃ a b : Int, 0 < a ∧ 0 < b ∧ ∀ j, j < m + 1 → b * mk_E A k i j = a * y j) ∧ ∀ j, j < m + 1 → (y j).natAbs ≤ 1073741824
def mk_H (A : Nat → Nat → Int) (m : Nat) : Prop :=
  m ≤ 10 ∧ (∀ r, r < m → mk_r A r (m + 1) ≤ 8) ∧ ∃ ρ : Nat → Nat, ∀ i, i < m → mk_Row A ρ m 0 i
theorem mk_H_B {A : Nat → Nat → Int} {m : Nat} (H : mk_H A m) {k i j : Nat} (hk : k ≤ m) (hi : i < m) (hj : j < m + 1) : (mk_E A k i j).natAbs ≤ 1073741824 := by
  have h1 := mk_E_bd H.2.1 hk hi (show j ≤ m by omega)
  have h2 := mk_B_mono 10 H.1
  rw [mk_B_10] at h2
  omega
theorem mk_H_d {A : Nat → Nat → Int} {m : Nat} (H : mk_H A m) {k : Nat} (hk : k ≤ m) : 0 < mk_d k A := by
  obtain ⟨_, _, ρ, h⟩ := H
  exact (mk_sgn h k hk).1 k (Nat.le_refl k)
theorem mk_H_dB {A : Nat → Nat → Int} {m : Nat} (H : mk_H A m) {k : Nat} (hk : k ≤ m) (h0 : 0 < m) : (mk_d k A).natAbs ≤ 1073741824 := by
  cases k with
  | zero => exact (by decide : (1 : Int).natAbs ≤ 1073741824)
  | succ k =>
    rw [← mk_E_kk]
    exact mk_H_B H (by omega) (by omega) (by omega)
theorem mk_H_own {A : Nat → Nat → Int} {m : Nat} (H : mk_H A m) {k i : Nat} (hk : k ≤ m) (hi : i < m) : 0 < mk_E A k i i := by
  by_cases h : i < k
  · rw [mk_E_lo A h, if_pos rfl]; exact mk_H_d H hk
  · obtain ⟨_, _, ρ, h'⟩ := H
    exact mk_Row_own ((mk_sgn h' k hk).2 i hi) hi (by omega)
theorem mk_H_rhs {A : Nat → Nat → Int} {m : Nat} (H : mk_H A m) {k i : Nat} (hk : k ≤ m) (hi : i < m) : 0 ≤ mk_E A k i m := by
  obtain ⟨_, _, ρ, h'⟩ := H
  exact ((mk_sgn h' k hk).2 i hi).2.1
theorem mk_H_step {A : Nat → Nat → Int} {m : Nat} (H : mk_H A m) {k i : Nat} (hk : k < m) (hi : i ≠ k) (j : Nat) : mk_d k A * mk_E A (k + 1) i j = mk_d (k + 1) A * mk_E A k i j - mk_E A k i k * mk_E A k k j :=
  mk_step A (fun l hl => by have := mk_H_d H (k := l) (by omega); omega) hi j
theorem mk_P_0 {A : Nat → Nat → Int} {m : Nat} (H : mk_H A m) {i : Nat} (hi : i < m) : mk_P A m 0 i (A i) := by
  refine ⟨⟨1, 1, Int.zero_lt_one, Int.zero_lt_one, ?_⟩, ?_⟩
  · intro j _; rw [mk_E_0]
  · intro j hj
    have := mk_H_B H (k := 0) (by omega) hi hj
    rw [mk_E_0] at this
    exact this
theorem mk_P_congr {A : Nat → Nat → Int} {m k i : Nat} {y z : Nat → Int} (h : mk_P A m k i y) (e : ∀ j, j < m + 1 → y j = z j) : mk_P A m k i z := by
  obtain ⟨⟨a, b, ha, hb, h1⟩, h2⟩ := h
  exact ⟨⟨a, b, ha, hb, fun j hj => by rw [h1 j hj, e j hj]⟩, fun j hj => by rw [← e j hj]; exact h2 j hj⟩
theorem mk_P_pos {A : Nat → Nat → Int} {m : Nat} (H : mk_H A m) {k i : Nat} {y : Nat → Int} (h : mk_P A m k i y) (hk : k ≤ m) (hi : i < m) : 0 < y i := by
  obtain ⟨⟨a, b, ha, hb, h1⟩, _⟩ := h
  have h3 := Int.mul_pos hb (mk_H_own H hk hi)
  rw [h1 i (by omega)] at h3
  exact mk_ps ha h3
theorem mk_P_rhs {A : Nat → Nat → Int} {m : Nat} (H : mk_H A m) {k i : Nat} {y : Nat → Int} (h : mk_P A m k i y) (hk : k ≤ m) (hi : i < m) : 0 ≤ y m := by
  obtain ⟨⟨a, b, ha, hb, h1⟩, _⟩ := h
  have h3 := Int.mul_nonneg (Int.le_of_lt hb) (mk_H_rhs H hk hi)
  rw [h1 m (by omega)] at h3
  exact mk_nn ha h3
/-- the row divided by a common divisor -/
theorem mk_P_div {A : Nat → Nat → Int} {m k i : Nat} {y z : Nat → Int} (h : mk_P A m k i y) {G : Nat} (hG : 0 < G) (e : ∀ j, j < m + 1 → y j = (G : Int) * z j) : mk_P A m k i z := by
  obtain ⟨⟨a, b, ha, hb, h1⟩, h2⟩ := h
  refine ⟨⟨a * (G : Int), b, Int.mul_pos ha (by omega), hb, ?_⟩, ?_⟩
  · intro j hj
    rw [h1 j hj, e j hj, Int.mul_assoc]
  · intro j hj
    have h3 := h2 j hj
    rw [e j hj, Int.natAbs_mul, Int.natAbs_natCast] at h3
    have h4 : 1 * (z j).natAbs ≤ G * (z j).natAbs := Nat.mul_le_mul_right _ hG
    omega
/-- the pivot's row at the next stage -/
theorem mk_P_piv {A : Nat → Nat → Int} {m k : Nat} {y : Nat → Int} (h : mk_P A m k k y) : mk_P A m (k + 1) k y := by
  obtain ⟨⟨a, b, ha, hb, h1⟩, h2⟩ := h
  exact ⟨⟨a, b, ha, hb, fun j hj => by rw [mk_E_piv]; exact h1 j hj⟩, h2⟩
/-- a row whose entry in the pivot's column is 0 already -/
theorem mk_P_same {A : Nat → Nat → Int} {m : Nat} (H : mk_H A m) {k i : Nat} {y : Nat → Int} (h : mk_P A m k i y) (hk : k < m) (hi : i ≠ k) (h0 : y k = 0) : mk_P A m (k + 1) i y := by
  obtain ⟨⟨a, b, ha, hb, h1⟩, h2⟩ := h
  have hE : mk_E A k i k = 0 := by
    have h3 := h1 k (by omega)
    rw [h0, Int.mul_zero] at h3
    rcases Int.mul_eq_zero.mp h3 with g | g
    · omega
    · exact g
  refine ⟨⟨mk_d (k + 1) A * a, mk_d k A * b, Int.mul_pos (mk_H_d H hk) ha, Int.mul_pos (mk_H_d H (by omega)) hb, ?_⟩, h2⟩
  intro j hj
  have h3 := mk_H_step H hk hi j
  rw [hE, Int.zero_mul, Int.sub_zero] at h3
  have h4 := h1 j hj
  grind
/-- the row after the elimination, before it is divided -/
theorem mk_P_x {A : Nat → Nat → Int} {m : Nat} (H : mk_H A m) {k i : Nat} {y p : Nat → Int} (h : mk_P A m k i y) (hp : mk_P A m k k p) (hk : k < m) (hi : i ≠ k) : ∃ a b : Int, 0 < a ∧ 0 < b ∧ ∀ j, j < m + 1 → b * mk_E A (k + 1) i j = a * (y j * p k - p j * y k) := by
  obtain ⟨⟨a, b, ha, hb, h1⟩, _⟩ := h
  obtain ⟨⟨c, d, hc, hd, h2⟩, _⟩ := hp
  refine ⟨a * c, b * d * mk_d k A, Int.mul_pos ha hc, Int.mul_pos (Int.mul_pos hb hd) (mk_H_d H (by omega)), ?_⟩
  intro j hj
  have h3 := mk_H_step H hk hi j
  have e1 := h1 j hj
  have e2 := h1 k (by omega)
  have e3 := h2 j hj
  have e4 := h2 k (by omega)
  rw [mk_E_kk] at e4
  have g1 : b * d * mk_d k A * mk_E A (k + 1) i j = (d * mk_d (k + 1) A) * (b * mk_E A k i j) - (b * mk_E A k i k) * (d * mk_E A k k j) := by
    have g2 : b * d * mk_d k A * mk_E A (k + 1) i j = b * d * (mk_d k A * mk_E A (k + 1) i j) := by grind
    rw [g2, h3]; grind
  rw [g1, e1, e2, e3, e4]; grind
theorem mk_P_xpos {A : Nat → Nat → Int} {m : Nat} (H : mk_H A m) {k i : Nat} {y p : Nat → Int} (h : mk_P A m k i y) (hp : mk_P A m k k p) (hk : k < m) (hi : i ≠ k) (him : i < m) : 0 < y i * p k - p i * y k := by
  obtain ⟨a, b, ha, hb, h1⟩ := mk_P_x H h hp hk hi
  have h3 := Int.mul_pos hb (mk_H_own H (k := k + 1) hk him)
  rw [h1 i (by omega)] at h3
  exact mk_ps ha h3
theorem mk_P_elim {A : Nat → Nat → Int} {m : Nat} (H : mk_H A m) {k i : Nat} {y p z : Nat → Int} (h : mk_P A m k i y) (hp : mk_P A m k k p) (hk : k < m) (hi : i ≠ k) (him : i < m) {G : Nat} (hG : 0 < G) (hz : mk_g z (m + 1) = 1) (e : ∀ j, j < m + 1 → y j * p k - p j * y k = (G : Int) * z j) : mk_P A m (k + 1) i z := by
  obtain ⟨a, b, ha, hb, h1⟩ := mk_P_x H h hp hk hi
  have h2 : ∀ j, j < m + 1 → b * mk_E A (k + 1) i j = (a * (G : Int)) * z j := by
    intro j hj
    rw [h1 j hj, e j hj, Int.mul_assoc]
  have ha' : 0 < a * (G : Int) := Int.mul_pos ha (by omega)
  refine ⟨⟨a * (G : Int), b, ha', hb, h2⟩, ?_⟩
  intro j hj
  exact Nat.le_trans (mk_prim ha' hb h2 hz j hj) (mk_H_B H (k := k + 1) hk him hj)
/-- at the end: one reduced fraction -/
theorem mk_P_end {A : Nat → Nat → Int} {m : Nat} (H : mk_H A m) {i : Nat} {y : Nat → Int} (h : mk_P A m m i y) (hi : i < m) : (mk_E A m i m).natAbs / Nat.gcd (mk_E A m i m).natAbs (mk_E A m i i).natAbs = (y m).natAbs / Nat.gcd (y m).natAbs (y i).natAbs ∧ (mk_E A m i i).natAbs / Nat.gcd (mk_E A m i m).natAbs (mk_E A m i i).natAbs = (y i).natAbs / Nat.gcd (y m).natAbs (y i).natAbs := by
  obtain ⟨⟨a, b, ha, hb, h1⟩, _⟩ := h
  have g : ∀ j, j < m + 1 → b.natAbs * (mk_E A m i j).natAbs = a.natAbs * (y j).natAbs := by
    intro j hj
    rw [← Int.natAbs_mul, ← Int.natAbs_mul, h1 j hj]
  exact mk_red (by omega) (by omega) (g m (by omega)) (g i (by omega))
theorem mk_mulN {x y : Int} (hx : x.natAbs ≤ 1073741824) (hy : y.natAbs ≤ 1073741824) : (x * y).natAbs ≤ 1152921504606846976 := by
  rw [Int.natAbs_mul]
  exact Nat.mul_le_mul hx hy
/-! the unknown states listed, and the matrix of their equations -/
def mk_cn (U : Nat → Bool) : Nat → Nat
  | 0 => 0
  | s + 1 => mk_cn U s + (if U s = true then 1 else 0)
theorem mk_cn_t {U : Nat → Bool} {s : Nat} (h : U s = true) : mk_cn U (s + 1) = mk_cn U s + 1 := by
  show mk_cn U s + (if U s = true then 1 else 0) = _
  rw [if_pos h]
theorem mk_cn_f {U : Nat → Bool} {s : Nat} (h : ¬ U s = true) : mk_cn U (s + 1) = mk_cn U s := by
  show mk_cn U s + (if U s = true then 1 else 0) = _
  rw [if_neg h, Nat.add_zero]
theorem mk_cn_le (U : Nat → Bool) (n : Nat) : mk_cn U n ≤ n := by
  induction n with
  | zero => exact Nat.le_refl 0
  | succ n ih =>
    by_cases h : U n = true
    · rw [mk_cn_t h]; omega
    · rw [mk_cn_f h]; omega
theorem mk_cn_mono {U : Nat → Bool} {a : Nat} : ∀ b, a ≤ b → mk_cn U a ≤ mk_cn U b := by
  intro b
  induction b with
  | zero =>
    intro h
    have : a = 0 := by omega
    subst this
    exact Nat.le_refl _
  | succ b ih =>
    intro h
    by_cases e : a = b + 1
    · subst e; exact Nat.le_refl _
    · have h1 := ih (by omega)
      by_cases h : U b = true
      · rw [mk_cn_t h]; omega
      · rw [mk_cn_f h]; omega
theorem mk_cn_lt {U : Nat → Bool} {s n : Nat} (h : U s = true) (hs : s < n) : mk_cn U s < mk_cn U n := by
  have h1 := mk_cn_mono (U := U) n (show s + 1 ≤ n by omega)
  rw [mk_cn_t h] at h1
  omega
theorem mk_cn_ex {U : Nat → Bool} (n : Nat) : ∀ r, r < mk_cn U n → ∃ s, s < n ∧ U s = true ∧ mk_cn U s = r := by
  induction n with
  | zero => intro r h; exact absurd h (Nat.not_lt_zero r)
  | succ n ih =>
    intro r h
    by_cases hU : U n = true
    · rw [mk_cn_t hU] at h
      by_cases e : r = mk_cn U n
      · exact ⟨n, by omega, hU, e.symm⟩
      · obtain ⟨s, a, b, c⟩ := ih r (by omega)
        exact ⟨s, by omega, b, c⟩
    · rw [mk_cn_f hU] at h
      obtain ⟨s, a, b, c⟩ := ih r h
      exact ⟨s, by omega, b, c⟩
/-- two states that are not counted -/
theorem mk_cn_two {U : Nat → Bool} {p q : Nat} (hpq : p ≠ q) (hp : ¬ U p = true) (hq : ¬ U q = true) (n : Nat) : mk_cn U n + (if p < n then 1 else 0) + (if q < n then 1 else 0) ≤ n := by
  induction n with
  | zero => rw [if_neg (by omega), if_neg (by omega)]; exact Nat.le_refl 0
  | succ n ih =>
    by_cases hU : U n = true
    · have e1 : n ≠ p := fun z => hp (z ▸ hU)
      have e2 : n ≠ q := fun z => hq (z ▸ hU)
      rw [mk_cn_t hU]
      by_cases h1 : p < n <;> by_cases h2 : q < n <;> simp only [h1, h2, if_true, if_false] at ih ⊢ <;> (try split) <;> (try split) <;> omega
    · rw [mk_cn_f hU]
      by_cases h1 : p < n <;> by_cases h2 : q < n <;> simp only [h1, h2, if_true, if_false] at ih ⊢ <;> (try split) <;> (try split) <;> omega
def mk_L (U : Nat → Bool) (N : Nat) (idx : Nat → Nat) : Prop := ∀ s, s < N → U s = true → idx (mk_cn U s) = s
theorem mk_L_s {U : Nat → Bool} {N : Nat} {idx : Nat → Nat} (L : mk_L U N idx) (f : Nat → Int) : ∀ n, n ≤ N → mk_s (fun c => f (idx c)) (mk_cn U n) = mk_s (fun t => if U t = true then f t else 0) n := by
  intro n
  induction n with
  | zero => intro _; rfl
  | succ n ih =>
    intro hn
    show _ = mk_s (fun t => if U t = true then f t else 0) n + (if U n = true then f n else 0)
    by_cases hU : U n = true
    · rw [mk_cn_t hU, if_pos hU, ← ih (by omega)]
      show mk_s (fun c => f (idx c)) (mk_cn U n) + f (idx (mk_cn U n)) = _
      rw [L n (by omega) hU]
    · rw [mk_cn_f hU, if_neg hU, ← ih (by omega), Int.add_zero]
theorem mk_L_idx {U : Nat → Bool} {N : Nat} {idx : Nat → Nat} (L : mk_L U N idx) {r : Nat} (h : r < mk_cn U N) : idx r < N ∧ U (idx r) = true ∧ mk_cn U (idx r) = r := by
  obtain ⟨s, a, b, c⟩ := mk_cn_ex N r h
  have e := L s a b
  rw [c] at e
  rw [e]
  exact ⟨a, b, c⟩
end
section
/-! the matrix of the unknown states keeps what the elimination asks -/
def mk_A (w : Nat → Nat → Nat) (N : Nat) (O : Nat → Bool) (idx : Nat → Nat) (m r c : Nat) : Int :=
  if c = m then mk_s (fun t => if O t = true then (w (idx r) t : Int) else 0) N
  else (if c = r then mk_s (fun t => (w (idx r) t : Int)) N else 0) - (w (idx r) (idx c) : Int)
theorem mk_A_m {w : Nat → Nat → Nat} {N : Nat} {O : Nat → Bool} {idx : Nat → Nat} {m r : Nat} : mk_A w N O idx m r m = mk_s (fun t => if O t = true then (w (idx r) t : Int) else 0) N := if_pos rfl
theorem mk_A_c {w : Nat → Nat → Nat} {N : Nat} {O : Nat → Bool} {idx : Nat → Nat} {m r c : Nat} (h : c < m) : mk_A w N O idx m r c = (if c = r then mk_s (fun t => (w (idx r) t : Int)) N else 0) - (w (idx r) (idx c) : Int) := if_neg (by omega)
theorem mk_s_nn {f : Nat → Int} (n : Nat) (h : ∀ c, c < n → 0 ≤ f c) : 0 ≤ mk_s f n := by
  have := mk_s_mono (f := fun _ => 0) (g := f) n h
  rw [mk_s_zero] at this
  exact this
theorem mk_s_pos {f : Nat → Int} {n t : Nat} (h : ∀ c, c < n → 0 ≤ f c) (ht : t < n) (hp : 0 < f t) : 0 < mk_s f n := by
  have h1 : mk_s (fun c => if c = t then f t else 0) n ≤ mk_s f n := by
    apply mk_s_mono
    intro c hc
    by_cases e : c = t
    · rw [if_pos e, e]; exact Int.le_refl _
    · rw [if_neg e]; exact h c hc
  have h2 : mk_s (fun c => if c = t then f t else 0) n = f t := by
    rw [mk_s_one (p := t) (N := n) (fun c _ e => if_neg e) n (Nat.le_refl n), if_pos ht, if_pos rfl]
  omega
theorem mk_A_sum {w : Nat → Nat → Nat} {N : Nat} {U O : Nat → Bool} {idx : Nat → Nat} (L : mk_L U N idx) {r : Nat} (hr : r < mk_cn U N) : mk_s (mk_A w N O idx (mk_cn U N) r) (mk_cn U N) = mk_s (fun t => if U t = true then 0 else (w (idx r) t : Int)) N := by
  have h1 : mk_s (mk_A w N O idx (mk_cn U N) r) (mk_cn U N) = mk_s (fun c => (if c = r then mk_s (fun t => (w (idx r) t : Int)) N else 0) + - (w (idx r) (idx c) : Int)) (mk_cn U N) :=
    mk_s_congr _ (fun c hc => by rw [mk_A_c hc]; omega)
  have h2 : mk_s (fun c => if c = r then mk_s (fun t => (w (idx r) t : Int)) N else 0) (mk_cn U N) = mk_s (fun t => (w (idx r) t : Int)) N := by
    rw [mk_s_one (p := r) (N := mk_cn U N) (fun c _ e => if_neg e) _ (Nat.le_refl _), if_pos hr, if_pos rfl]
  have h3 : mk_s (fun c => (w (idx r) (idx c) : Int)) (mk_cn U N) = mk_s (fun t => if U t = true then (w (idx r) t : Int) else 0) N := mk_L_s L (fun t => (w (idx r) t : Int)) N (Nat.le_refl N)
  have h4 : mk_s (fun t => (w (idx r) t : Int)) N = mk_s (fun t => (if U t = true then (w (idx r) t : Int) else 0) + (if U t = true then 0 else (w (idx r) t : Int))) N := by
    apply mk_s_congr
    intro t _
    by_cases h : U t = true
    · rw [if_pos h, if_pos h]; omega
    · rw [if_neg h, if_neg h]; omega
  rw [mk_s_add] at h4
  rw [h1, mk_s_add, h2, mk_s_neg, h3]
  omega
theorem mk_A_r {w : Nat → Nat → Nat} {N : Nat} {U O : Nat → Bool} {idx : Nat → Nat} (L : mk_L U N idx) (hO : ∀ t, t < N → U t = true → O t = true → False) {r : Nat} (hr : r < mk_cn U N) (hd : mk_s (fun t => (w (idx r) t : Int)) N ≤ 4) : mk_r (mk_A w N O idx (mk_cn U N)) r (mk_cn U N + 1) ≤ 8 := by
  have hw : ∀ t, (0 : Int) ≤ (w (idx r) t : Int) := fun t => Int.natCast_nonneg _
  have hd0 : 0 ≤ mk_s (fun t => (w (idx r) t : Int)) N := mk_s_nn N (fun t _ => hw t)
  have e0 : mk_r (mk_A w N O idx (mk_cn U N)) r (mk_cn U N + 1) = mk_s (fun c => ((mk_A w N O idx (mk_cn U N) r c).natAbs : Int)) (mk_cn U N) + ((mk_A w N O idx (mk_cn U N) r (mk_cn U N)).natAbs : Int) := rfl
  have h1 : mk_s (fun c => ((mk_A w N O idx (mk_cn U N) r c).natAbs : Int)) (mk_cn U N) ≤ mk_s (fun c => (if c = r then mk_s (fun t => (w (idx r) t : Int)) N else 0) + (w (idx r) (idx c) : Int)) (mk_cn U N) := by
    apply mk_s_mono
    intro c hc
    rw [mk_A_c hc]
    by_cases e : c = r
    · rw [if_pos e]; have := hw (idx c); omega
    · rw [if_neg e]; have := hw (idx c); omega
  have h2 : mk_s (fun c => if c = r then mk_s (fun t => (w (idx r) t : Int)) N else 0) (mk_cn U N) = mk_s (fun t => (w (idx r) t : Int)) N := by
    rw [mk_s_one (p := r) (N := mk_cn U N) (fun c _ e => if_neg e) _ (Nat.le_refl _), if_pos hr, if_pos rfl]
  have h3 : mk_s (fun c => (w (idx r) (idx c) : Int)) (mk_cn U N) = mk_s (fun t => if U t = true then (w (idx r) t : Int) else 0) N := mk_L_s L (fun t => (w (idx r) t : Int)) N (Nat.le_refl N)
  have h4 : mk_s (fun t => if U t = true then (w (idx r) t : Int) else 0) N + mk_s (fun t => if O t = true then (w (idx r) t : Int) else 0) N ≤ mk_s (fun t => (w (idx r) t : Int)) N := by
    rw [← mk_s_add]
    apply mk_s_mono
    intro t ht
    have := hw t
    by_cases h : U t = true
    · by_cases g : O t = true
      · exact (hO t ht h g).elim
      · rw [if_pos h, if_neg g]; omega
    · by_cases g : O t = true
      · rw [if_neg h, if_pos g]; omega
      · rw [if_neg h, if_neg g]; omega
  have h5 : 0 ≤ mk_s (fun t => if O t = true then (w (idx r) t : Int) else 0) N := by
    apply mk_s_nn
    intro t _
    have := hw t
    by_cases g : O t = true
    · rw [if_pos g]; omega
    · rw [if_neg g]; exact Int.le_refl 0
  rw [mk_s_add, h2, h3] at h1
  rw [e0, mk_A_m]
  omega
theorem mk_A_H {w : Nat → Nat → Nat} {N : Nat} {U O : Nat → Bool} {idx ρ : Nat → Nat} (L : mk_L U N idx) (hm : mk_cn U N ≤ 10) (hO : ∀ t, t < N → U t = true → O t = true → False) (hd : ∀ s, s < N → mk_s (fun t => (w s t : Int)) N ≤ 4) (hρ : ∀ s, s < N → U s = true → ∃ t, t < N ∧ 0 < w s t ∧ (¬ U t = true ∨ ρ t < ρ s)) : mk_H (mk_A w N O idx (mk_cn U N)) (mk_cn U N) := by
  refine ⟨hm, ?_, fun j => ρ (idx j), ?_⟩
  · intro r hr
    exact mk_A_r L hO hr (hd _ (mk_L_idx L hr).1)
  · intro i hi
    obtain ⟨a, b, c⟩ := mk_L_idx L hi
    have hw : ∀ t, (0 : Int) ≤ (w (idx i) t : Int) := fun t => Int.natCast_nonneg _
    have hE : mk_E (mk_A w N O idx (mk_cn U N)) 0 i = mk_A w N O idx (mk_cn U N) i := funext (fun j => mk_E_0 _ i j)
    have hnn : ∀ t, t < N → (0 : Int) ≤ (if U t = true then 0 else (w (idx i) t : Int)) := by
      intro t _
      have := hw t
      by_cases g : U t = true
      · rw [if_pos g]; exact Int.le_refl 0
      · rw [if_neg g]; omega
    unfold mk_Row
    rw [hE]
    refine ⟨?_, ?_, ?_, ?_⟩
    · intro j hj hne
      rw [mk_A_c hj, if_neg hne]
      have := hw (idx j)
      omega
    · rw [mk_A_m]
      apply mk_s_nn
      intro t _
      have := hw t
      by_cases g : O t = true
      · rw [if_pos g]; omega
      · rw [if_neg g]; exact Int.le_refl 0
    · rw [mk_A_sum L hi]
      exact mk_s_nn N hnn
    · intro _
      obtain ⟨t, ht, hwt, hx⟩ := hρ (idx i) a b
      by_cases g : U t = true
      · right
        rcases hx with hx | hx
        · exact absurd g hx
        · have hj := mk_cn_lt g ht
          have e := L t ht g
          have hne : mk_cn U t ≠ i := by
            intro z
            rw [z] at e
            rw [e] at hx
            omega
          refine ⟨mk_cn U t, Nat.zero_le _, hj, hne, ?_, ?_⟩
          · rw [mk_A_c hj, if_neg hne, e]; omega
          · show ρ (idx (mk_cn U t)) < ρ (idx i)
            rw [e]; exact hx
      · left
        rw [mk_A_sum L hi]
        refine mk_s_pos hnn ht ?_
        show (0 : Int) < if U t = true then 0 else (w (idx i) t : Int)
        rw [if_neg g]; omega
/-! the states that reach -/
def mk_any (f : Nat → Bool) : Nat → Bool
  | 0 => false
  | n + 1 => mk_any f n || f n
theorem mk_any_ex (f : Nat → Bool) (n : Nat) : mk_any f n = true → ∃ t, t < n ∧ f t = true := by
  induction n with
  | zero => intro h; exact absurd (show false = true from h) Bool.false_ne_true
  | succ n ih =>
    intro h
    have h' : (mk_any f n || f n) = true := h
    rw [Bool.or_eq_true] at h'
    rcases h' with h | h
    · obtain ⟨t, a, b⟩ := ih h
      exact ⟨t, by omega, b⟩
    · exact ⟨n, by omega, h⟩
theorem mk_any_of (f : Nat → Bool) (n : Nat) {t : Nat} (ht : t < n) (h : f t = true) : mk_any f n = true := by
  induction n with
  | zero => omega
  | succ n ih =>
    show (mk_any f n || f n) = true
    rw [Bool.or_eq_true]
    by_cases e : t = n
    · right; rw [← e]; exact h
    · left; exact ih (by omega)
def mk_sc (w : Nat → Nat → Nat) (N : Nat) (q : Nat → Bool) (s : Nat) : Bool := mk_any (fun t => decide (0 < w s t) && q t) N
def mk_add (w : Nat → Nat → Nat) (N : Nat) (via q : Nat → Bool) (s : Nat) : Nat → Bool := fun t => if t = s then (q s || (via s && mk_sc w N q s)) else q t
def mk_pass (w : Nat → Nat → Nat) (N : Nat) (via q : Nat → Bool) : Nat → Nat → Bool
  | 0 => q
  | s + 1 => mk_add w N via (mk_pass w N via q s) s
def mk_reach (w : Nat → Nat → Nat) (N : Nat) (via q : Nat → Bool) : Nat → Nat → Bool
  | 0 => q
  | r + 1 => mk_pass w N via (mk_reach w N via q r) N
def mk_RI (w : Nat → Nat → Nat) (N : Nat) (via p q : Nat → Bool) : Prop :=
  (∀ s, p s = true → q s = true) ∧ (∀ s, q s = true → s < N) ∧
  ∃ (ρ : Nat → Nat) (T : Nat), (∀ s, q s = true → ρ s < T) ∧ ∀ s, q s = true → p s = true ∨ (via s = true ∧ ∃ t, t < N ∧ 0 < w s t ∧ q t = true ∧ ρ t < ρ s)
theorem mk_RI_0 {w : Nat → Nat → Nat} {N : Nat} {via p : Nat → Bool} (h : ∀ s, p s = true → s < N) : mk_RI w N via p p :=
  ⟨fun _ h => h, h, fun _ => 0, 1, fun _ _ => Nat.zero_lt_one, fun _ h => Or.inl h⟩
theorem mk_add_ne {w : Nat → Nat → Nat} {N : Nat} {via q : Nat → Bool} {s t : Nat} (h : t ≠ s) : mk_add w N via q s t = q t := if_neg h
theorem mk_add_at {w : Nat → Nat → Nat} {N : Nat} {via q : Nat → Bool} {s : Nat} : mk_add w N via q s s = (q s || (via s && mk_sc w N q s)) := if_pos rfl
theorem mk_add_old {w : Nat → Nat → Nat} {N : Nat} {via q : Nat → Bool} {s t : Nat} (h : q t = true) : mk_add w N via q s t = true := by
  by_cases e : t = s
  · rw [e, mk_add_at, ← e, h]; rfl
  · rw [mk_add_ne e]; exact h
theorem mk_RI_add {w : Nat → Nat → Nat} {N : Nat} {via p q : Nat → Bool} (h : mk_RI w N via p q) {s : Nat} (hs : s < N) : mk_RI w N via p (mk_add w N via q s) := by
  obtain ⟨h1, h2, ρ, T, h3, h4⟩ := h
  refine ⟨fun t ht => mk_add_old (h1 t ht), ?_, ?_⟩
  · intro t ht
    by_cases e : t = s
    · rw [e]; exact hs
    · rw [mk_add_ne e] at ht; exact h2 t ht
  · by_cases hq : q s = true
    · refine ⟨ρ, T, ?_, ?_⟩
      · intro t ht
        by_cases e : t = s
        · rw [e]; exact h3 s hq
        · rw [mk_add_ne e] at ht; exact h3 t ht
      · intro t ht
        have ht' : q t = true := by
          by_cases e : t = s
          · rw [e]; exact hq
          · rw [mk_add_ne e] at ht; exact ht
        rcases h4 t ht' with g | ⟨g, t', a, b, c, d⟩
        · exact Or.inl g
        · exact Or.inr ⟨g, t', a, b, mk_add_old c, d⟩
    · refine ⟨fun t => if t = s then T else ρ t, T + 1, ?_, ?_⟩
      · intro t ht
        by_cases e : t = s
        · show (if t = s then T else ρ t) < T + 1
          rw [if_pos e]; omega
        · rw [mk_add_ne e] at ht
          have := h3 t ht
          show (if t = s then T else ρ t) < T + 1
          rw [if_neg e]; omega
      · intro t ht
        by_cases e : t = s
        · rw [e, mk_add_at] at ht
          have hf : q s = false := Bool.eq_false_iff.mpr hq
          rw [hf, Bool.false_or, Bool.and_eq_true] at ht
          obtain ⟨hv, hsc⟩ := ht
          obtain ⟨t', a, b⟩ := mk_any_ex _ N hsc
          rw [Bool.and_eq_true, decide_eq_true_eq] at b
          have hne : t' ≠ s := fun z => hq (z ▸ b.2)
          have h5 := h3 t' b.2
          right
          refine ⟨by rw [e]; exact hv, t', a, by rw [e]; exact b.1, mk_add_old b.2, ?_⟩
          show (if t' = s then T else ρ t') < (if t = s then T else ρ t)
          rw [if_neg hne, if_pos e]; exact h5
        · rw [mk_add_ne e] at ht
          rcases h4 t ht with g | ⟨g, t', a, b, c, d⟩
          · exact Or.inl g
          · have hne : t' ≠ s := fun z => hq (z ▸ c)
            refine Or.inr ⟨g, t', a, b, mk_add_old c, ?_⟩
            show (if t' = s then T else ρ t') < (if t = s then T else ρ t)
            rw [if_neg hne, if_neg e]; exact d
theorem mk_RI_pass {w : Nat → Nat → Nat} {N : Nat} {via p q : Nat → Bool} (h : mk_RI w N via p q) : ∀ s, s ≤ N → mk_RI w N via p (mk_pass w N via q s) := by
  intro s
  induction s with
  | zero => intro _; exact h
  | succ s ih => intro hs; exact mk_RI_add (ih (by omega)) (by omega)
theorem mk_RI_reach {w : Nat → Nat → Nat} {N : Nat} {via p : Nat → Bool} (h : ∀ s, p s = true → s < N) : ∀ r, mk_RI w N via p (mk_reach w N via p r) := by
  intro r
  induction r with
  | zero => exact mk_RI_0 h
  | succ r ih => exact mk_RI_pass ih N (Nat.le_refl N)
/-- from a state that reaches, a state of the target is there -/
theorem mk_RI_ex {w : Nat → Nat → Nat} {N : Nat} {via p q : Nat → Bool} (h : mk_RI w N via p q) {s : Nat} (hs : q s = true) : ∃ t, t < N ∧ p t = true := by
  obtain ⟨_, h2, ρ, T, _, h4⟩ := h
  have key : ∀ n s, ρ s < n → q s = true → ∃ t, t < N ∧ p t = true := by
    intro n
    induction n with
    | zero => intro s hn; omega
    | succ n ih =>
      intro s hn hq
      rcases h4 s hq with g | ⟨_, t, _, _, c, d⟩
      · exact ⟨s, h2 s hq, g⟩
      · exact ih t (by omega) c
  exact key (ρ s + 1) s (by omega) hs
def mk_R1 (w : Nat → Nat → Nat) (N : Nat) (phi psi : Nat → Bool) : Nat → Bool := mk_reach w N phi psi N
def mk_Z (w : Nat → Nat → Nat) (N : Nat) (phi psi : Nat → Bool) : Nat → Bool := fun s => decide (s < N) && !mk_R1 w N phi psi s
def mk_R2 (w : Nat → Nat → Nat) (N : Nat) (phi psi : Nat → Bool) : Nat → Bool := mk_reach w N (fun s => phi s && !psi s) (mk_Z w N phi psi) N
def mk_U (w : Nat → Nat → Nat) (N : Nat) (phi psi : Nat → Bool) : Nat → Bool := fun s => mk_R1 w N phi psi s && mk_R2 w N phi psi s
def mk_O (w : Nat → Nat → Nat) (N : Nat) (phi psi : Nat → Bool) : Nat → Bool := fun s => mk_R1 w N phi psi s && !mk_R2 w N phi psi s
theorem mk_U_O {w : Nat → Nat → Nat} {N : Nat} {phi psi : Nat → Bool} (t : Nat) (_ : t < N) (h1 : mk_U w N phi psi t = true) (h2 : mk_O w N phi psi t = true) : False := by
  have a : (mk_R1 w N phi psi t && mk_R2 w N phi psi t) = true := h1
  have b : (mk_R1 w N phi psi t && !mk_R2 w N phi psi t) = true := h2
  rw [Bool.and_eq_true] at a b
  rw [a.2] at b
  exact absurd b.2 (by decide)
theorem mk_unk {w : Nat → Nat → Nat} {N : Nat} {phi psi : Nat → Bool} (hN : N ≤ 12) (hpsi : ∀ s, psi s = true → s < N) : (∃ ρ : Nat → Nat, ∀ s, s < N → mk_U w N phi psi s = true → ∃ t, t < N ∧ 0 < w s t ∧ (¬ mk_U w N phi psi t = true ∨ ρ t < ρ s)) ∧ mk_cn (mk_U w N phi psi) N ≤ 10 := by
  have I1 : mk_RI w N phi psi (mk_R1 w N phi psi) := mk_RI_reach hpsi N
  have hZ : ∀ s, mk_Z w N phi psi s = true → s < N ∧ ¬ mk_R1 w N phi psi s = true := by
    intro s h
    have h' : (decide (s < N) && !mk_R1 w N phi psi s) = true := h
    rw [Bool.and_eq_true, decide_eq_true_eq] at h'
    refine ⟨h'.1, fun g => ?_⟩
    rw [g] at h'
    exact absurd h'.2 (by decide)
  have I2 : mk_RI w N (fun s => phi s && !psi s) (mk_Z w N phi psi) (mk_R2 w N phi psi) := mk_RI_reach (fun s h => (hZ s h).1) N
  have hU : ∀ s, mk_U w N phi psi s = true → mk_R1 w N phi psi s = true ∧ mk_R2 w N phi psi s = true := by
    intro s h
    have h' : (mk_R1 w N phi psi s && mk_R2 w N phi psi s) = true := h
    rw [Bool.and_eq_true] at h'
    exact h'
  have hnp : ∀ s, mk_U w N phi psi s = true → ¬ psi s = true := by
    intro s h g
    obtain ⟨a, b⟩ := hU s h
    obtain ⟨_, _, ρ, T, _, h4⟩ := I2
    rcases h4 s b with z | ⟨z, _⟩
    · exact (hZ s z).2 a
    · have z' : (phi s && !psi s) = true := z
      rw [g, Bool.and_eq_true] at z'
      exact absurd z'.2 (by decide)
  constructor
  · obtain ⟨_, _, ρ, T, _, h4⟩ := id I1
    refine ⟨ρ, ?_⟩
    intro s hs hu
    rcases h4 s (hU s hu).1 with z | ⟨_, t, a, b, c, d⟩
    · exact absurd z (hnp s hu)
    · exact ⟨t, a, b, Or.inr d⟩
  · by_cases h0 : mk_cn (mk_U w N phi psi) N = 0
    · omega
    · obtain ⟨s, hs, hu, _⟩ := mk_cn_ex (U := mk_U w N phi psi) N 0 (by omega)
      obtain ⟨a, b⟩ := hU s hu
      obtain ⟨p, hp, hpp⟩ := mk_RI_ex I1 a
      obtain ⟨z, hz, hzz⟩ := mk_RI_ex I2 b
      have hne : p ≠ z := by
        intro e
        rw [e] at hpp
        exact (hZ z hzz).2 (I1.1 z hpp)
      have h1 : ¬ mk_U w N phi psi p = true := fun g => hnp p g hpp
      have h2 : ¬ mk_U w N phi psi z = true := fun g => (hZ z hzz).2 (hU z g).1
      have h3 := mk_cn_two hne h1 h2 N
      rw [if_pos hp, if_pos hz] at h3
      omega
end
section
/-! sets of states as bits of an int (bt, b_ext, b_or, b_and, b_xor, b_0, b_m1, b_shl, b_sshr: kit/rows) -/
theorem mk_b1 : ∀ i, i < 32 → bt 1 i = decide (i = 0) := by decide +kernel
theorem mk_ball : ∀ N, N < 13 → ∀ i, i < 32 → bt (((1 : Int32) <<< (nI N &&& 31)) - 1) i = decide (i < N) := by decide +kernel
theorem mk_bit0 (x : Int32) {s : Nat} (hs : s < 32) : ((x >>> (nI s &&& 31)) &&& 1) = 0 ↔ bt x s = false := by
  constructor
  · intro h
    have h1 : bt ((x >>> (nI s &&& 31)) &&& 1) 0 = false := by rw [h]; exact b_0 0
    rw [b_and, b_sshr s hs x (by omega), if_pos (by omega), mk_b1 0 (by omega)] at h1
    simpa using h1
  · intro h
    apply b_ext
    intro i hi
    rw [b_and, b_0, mk_b1 i hi]
    by_cases e : i = 0
    · subst e
      rw [b_sshr s hs x (by omega), if_pos (by omega), Nat.add_zero, h]; rfl
    · rw [decide_eq_false e, Bool.and_false]
theorem mk_bone {s : Nat} (hs : s < 32) {i : Nat} (hi : i < 32) : bt ((1 : Int32) <<< (nI s &&& 31)) i = decide (i = s) := by
  rw [b_shl s hs 1 hi, mk_b1 (i - s) (by omega)]
  by_cases e : i = s
  · subst e
    rw [decide_eq_true (Nat.le_refl i), decide_eq_true (Nat.sub_self i), decide_eq_true rfl]; rfl
  · rw [decide_eq_false e]
    by_cases g : s ≤ i
    · rw [decide_eq_false (show ¬ i - s = 0 by omega), Bool.and_false]
    · rw [decide_eq_false g, Bool.false_and]
def mk_bs (N : Nat) (x : Int32) (p : Nat → Bool) : Prop := ∀ i, i < 32 → bt x i = (decide (i < N) && p i)
theorem mk_bs_bit {N : Nat} {x : Int32} {p : Nat → Bool} (h : mk_bs N x p) {s : Nat} (hs : s < N) (hN : N < 13) : ((x >>> (nI s &&& 31)) &&& 1) = 0 ↔ p s = false := by
  rw [mk_bit0 x (show s < 32 by omega), h s (by omega), decide_eq_true hs, Bool.true_and]
theorem mk_bs_0 {N : Nat} : mk_bs N 0 (fun _ => false) := fun i _ => by rw [b_0, Bool.and_false]
theorem mk_bs_all {N : Nat} (hN : N < 13) : mk_bs N (((1 : Int32) <<< (nI N &&& 31)) - 1) (fun _ => true) := fun i hi => by rw [mk_ball N hN i hi, Bool.and_true]
theorem mk_bs_congr {N : Nat} {x : Int32} {p q : Nat → Bool} (h : mk_bs N x p) (e : ∀ s, s < N → p s = q s) : mk_bs N x q := by
  intro i hi
  rw [h i hi]
  by_cases g : i < N
  · rw [e i g]
  · rw [decide_eq_false g, Bool.false_and, Bool.false_and]
theorem mk_bs_and {N : Nat} {x y : Int32} {p q : Nat → Bool} (h : mk_bs N x p) (g : mk_bs N y q) : mk_bs N (x &&& y) (fun s => p s && q s) := by
  intro i hi
  rw [b_and, h i hi, g i hi]
  cases decide (i < N) <;> simp
theorem mk_bs_diff {N : Nat} {x y : Int32} {p q : Nat → Bool} (h : mk_bs N x p) (g : mk_bs N y q) : mk_bs N (x &&& (y ^^^ (-1))) (fun s => p s && !q s) := by
  intro i hi
  rw [b_and, b_xor, b_m1 i hi, h i hi, g i hi]
  cases decide (i < N) <;> simp
theorem mk_bs_put {N : Nat} {x : Int32} {p : Nat → Bool} (h : mk_bs N x p) {s : Nat} (hs : s < N) (hN : N < 13) : mk_bs N (x ||| ((1 : Int32) <<< (nI s &&& 31))) (fun t => if t = s then true else p t) := by
  intro i hi
  rw [b_or, mk_bone (show s < 32 by omega) hi, h i hi]
  show (decide (i < N) && p i || decide (i = s)) = (decide (i < N) && if i = s then true else p i)
  by_cases e : i = s
  · subst e
    rw [decide_eq_true rfl, if_pos rfl, decide_eq_true hs]; simp
  · rw [decide_eq_false e, if_neg e, Bool.or_false]
theorem mk_bs_eq0 {N : Nat} {x : Int32} {p : Nat → Bool} (h : mk_bs N x p) (hN : N < 13) : x = 0 ↔ mk_any p N = false := by
  constructor
  · intro e
    subst e
    cases hb : mk_any p N with
    | false => rfl
    | true =>
      obtain ⟨t, a, b⟩ := mk_any_ex p N hb
      have := h t (by omega)
      rw [b_0, decide_eq_true a, b] at this
      exact absurd this (by decide)
  · intro e
    apply b_ext
    intro i hi
    rw [h i hi, b_0]
    by_cases g : i < N
    · have : p i = false := by
        cases hb : p i with
        | false => rfl
        | true => rw [mk_any_of p N g hb] at e; exact absurd e (by decide)
      rw [this, Bool.and_false]
    · rw [decide_eq_false g, Bool.false_and]
end
section
/-! sums of naturals; weights; cells; bits against booleans -/
def mk_t (f : Nat → Nat) : Nat → Nat
  | 0 => 0
  | n + 1 => mk_t f n + f n
theorem mk_t_int (f : Nat → Nat) (n : Nat) : mk_s (fun t => (f t : Int)) n = (mk_t f n : Int) := by
  induction n with
  | zero => rfl
  | succ n ih =>
    show mk_s (fun t => (f t : Int)) n + (f n : Int) = ((mk_t f n + f n : Nat) : Int)
    rw [ih]; omega
theorem mk_t_le (f : Nat → Nat) {t : Nat} : ∀ n, t < n → f t ≤ mk_t f n := by
  intro n
  induction n with
  | zero => intro h; omega
  | succ n ih =>
    intro h
    show f t ≤ mk_t f n + f n
    by_cases e : t = n
    · subst e; omega
    · have := ih (by omega); omega
theorem mk_t_mono (f : Nat → Nat) {a : Nat} : ∀ n, a ≤ n → mk_t f a ≤ mk_t f n := by
  intro n
  induction n with
  | zero =>
    intro h
    have : a = 0 := by omega
    subst this
    exact Nat.le_refl _
  | succ n ih =>
    intro h
    by_cases e : a = n + 1
    · subst e; exact Nat.le_refl _
    · have h1 := ih (by omega)
      show mk_t f a ≤ mk_t f n + f n
      omega
theorem mk_t_congr {f g : Nat → Nat} (n : Nat) (h : ∀ c, c < n → f c = g c) : mk_t f n = mk_t g n := by
  induction n with
  | zero => rfl
  | succ n ih =>
    show mk_t f n + f n = mk_t g n + g n
    rw [ih (fun c hc => h c (by omega)), h n (by omega)]
theorem mk_t_upd (f : Nat → Nat) (v : Nat) {t : Nat} : ∀ n, t < n → mk_t (fun c => if c = t then v else f c) n + f t = mk_t f n + v := by
  intro n
  induction n with
  | zero => intro h; omega
  | succ n ih =>
    intro h
    show mk_t (fun c => if c = t then v else f c) n + (if n = t then v else f n) + f t = mk_t f n + f n + v
    by_cases e : n = t
    · rw [if_pos e, mk_t_congr (f := fun c => if c = t then v else f c) (g := f) n (fun c hc => if_neg (by omega))]
      subst e; omega
    · rw [if_neg e]
      have := ih (by omega)
      omega
theorem mk_t_bd {f b : Nat → Nat} {B : Nat} (n : Nat) (h : ∀ t, t < n → b t ≤ B) : mk_t (fun t => f t * b t) n ≤ mk_t f n * B := by
  induction n with
  | zero => exact Nat.zero_le _
  | succ n ih =>
    show mk_t (fun t => f t * b t) n + f n * b n ≤ (mk_t f n + f n) * B
    have h1 := ih (fun t ht => h t (by omega))
    have h2 : f n * b n ≤ f n * B := Nat.mul_le_mul_left _ (h n (by omega))
    rw [Nat.add_mul]
    omega
theorem mk_t_mul (f : Nat → Nat) (c n : Nat) : mk_t (fun t => f t * c) n = mk_t f n * c := by
  induction n with
  | zero =>
    show 0 = 0 * c
    rw [Nat.zero_mul]
  | succ n ih =>
    show mk_t (fun t => f t * c) n + f n * c = (mk_t f n + f n) * c
    rw [ih, Nat.add_mul]
def mk_w (a : Nat → Int32) (s t : Nat) : Nat := (a (s * 12 + t)).toNatClampNeg
def mk_W (a : Nat → Int32) (N : Nat) : Prop := ∀ s, s < N → (∀ t, t < N → a (s * 12 + t) = nI (mk_w a s t)) ∧ mk_t (mk_w a s) N ≤ 4
theorem mk_W_le {a : Nat → Int32} {N : Nat} (h : mk_W a N) {s t : Nat} (hs : s < N) (ht : t < N) : mk_w a s t ≤ 4 :=
  Nat.le_trans (mk_t_le (mk_w a s) N ht) (h s hs).2
theorem mk_W_upd {a : Nat → Int32} {N : Nat} (hN : N ≤ 12) (h : mk_W a N) {s t v : Nat} (hs : s < N) (ht : t < N) (hv : v ≤ 4) (hb : mk_t (mk_w a s) N + v ≤ 4 + mk_w a s t) : mk_W (upd a (s * 12 + t) (nI v)) N := by
  have e1 : ∀ s' t', t' < 12 → mk_w (upd a (s * 12 + t) (nI v)) s' t' = if s' = s ∧ t' = t then v else mk_w a s' t' := by
    intro s' t' ht'
    show (if s' * 12 + t' = s * 12 + t then nI v else a (s' * 12 + t')).toNatClampNeg = _
    by_cases g : s' = s ∧ t' = t
    · rw [if_pos (by omega), if_pos g, nI_clamp (by omega)]
    · rw [if_neg (by omega), if_neg g]; rfl
  intro s' hs'
  constructor
  · intro t' ht'
    rw [e1 s' t' (by omega)]
    show (if s' * 12 + t' = s * 12 + t then nI v else a (s' * 12 + t')) = _
    by_cases g : s' = s ∧ t' = t
    · rw [if_pos (by omega), if_pos g]
    · rw [if_neg (by omega), if_neg g]; exact (h s' hs').1 t' ht'
  · by_cases g : s' = s
    · subst g
      have e2 : mk_t (mk_w (upd a (s' * 12 + t) (nI v)) s') N = mk_t (fun c => if c = t then v else mk_w a s' c) N := by
        apply mk_t_congr
        intro c hc
        rw [e1 s' c (by omega)]
        by_cases g2 : c = t
        · rw [if_pos ⟨rfl, g2⟩, if_pos g2]
        · rw [if_neg (fun z => g2 z.2), if_neg g2]
      have e3 := mk_t_upd (mk_w a s') v N ht
      rw [e2]; omega
    · have e2 : mk_t (mk_w (upd a (s * 12 + t) (nI v)) s') N = mk_t (mk_w a s') N := by
        apply mk_t_congr
        intro c hc
        rw [e1 s' c (by omega), if_neg (fun z => g z.1)]
      rw [e2]; exact (h s' hs').2
/-! the bounded until, in parts of 12^k -/
def mk_bv (w : Nat → Nat → Nat) (N : Nat) (phi psi : Nat → Bool) : Nat → Nat → Nat
  | 0 => fun s => if psi s = true then 1 else 0
  | k + 1 => fun s => if psi s = true then 12 ^ (k + 1) else if phi s = true then mk_t (fun t => w s t * mk_bv w N phi psi k t) N * (12 / mk_t (w s) N) else 0
theorem mk_bv_le (w : Nat → Nat → Nat) (N : Nat) (phi psi : Nat → Bool) (k : Nat) : ∀ s, mk_bv w N phi psi k s ≤ 12 ^ k := by
  induction k with
  | zero =>
    intro s
    show (if psi s = true then 1 else 0) ≤ 1
    by_cases h : psi s = true
    · rw [if_pos h]; exact Nat.le_refl 1
    · rw [if_neg h]; exact Nat.zero_le 1
  | succ k ih =>
    intro s
    show (if psi s = true then 12 ^ (k + 1) else if phi s = true then mk_t (fun t => w s t * mk_bv w N phi psi k t) N * (12 / mk_t (w s) N) else 0) ≤ 12 ^ (k + 1)
    by_cases h : psi s = true
    · rw [if_pos h]; exact Nat.le_refl _
    · rw [if_neg h]
      by_cases g : phi s = true
      · rw [if_pos g]
        have h1 : mk_t (fun t => w s t * mk_bv w N phi psi k t) N ≤ mk_t (w s) N * 12 ^ k := mk_t_bd N (fun t _ => ih t)
        have h2 : mk_t (w s) N * (12 / mk_t (w s) N) ≤ 12 := Nat.mul_div_le 12 _
        have h3 : mk_t (fun t => w s t * mk_bv w N phi psi k t) N * (12 / mk_t (w s) N) ≤ mk_t (w s) N * 12 ^ k * (12 / mk_t (w s) N) := Nat.mul_le_mul_right _ h1
        have h4 : mk_t (w s) N * 12 ^ k * (12 / mk_t (w s) N) = 12 ^ k * (mk_t (w s) N * (12 / mk_t (w s) N)) := by
          rw [Nat.mul_comm (mk_t (w s) N) (12 ^ k), Nat.mul_assoc]
        have h5 : 12 ^ k * (mk_t (w s) N * (12 / mk_t (w s) N)) ≤ 12 ^ k * 12 := Nat.mul_le_mul_left _ h2
        rw [Nat.pow_succ]
        omega
      · rw [if_neg g]; exact Nat.zero_le _
theorem mk_12 (k : Nat) (h : k ≤ 8) : 12 ^ k ≤ 429981696 ∧ 0 < 12 ^ k :=
  ⟨Nat.le_trans (Nat.pow_le_pow_right (by omega) h) (by decide), Nat.pow_pos (by omega)⟩
/-! booleans of the reference -/
def mk_bi (b : Bool) : Int32 := if b = true then 1 else 0
theorem mk_bi_t {b : Bool} (h : b = true) : mk_bi b = 1 := if_pos h
theorem mk_bi_f {b : Bool} (h : b = false) : mk_bi b = 0 := by rw [h]; rfl
theorem mk_bi_0 {b : Bool} : mk_bi b = 0 ↔ b = false := by
  cases b
  · exact ⟨fun _ => rfl, fun _ => rfl⟩
  · exact ⟨fun h => absurd h (by decide), fun h => absurd h (by decide)⟩
theorem mk_bi_n (b : Bool) : vp_nar .boolean (mk_bi b) = mk_bi b := by cases b <;> decide
theorem mk_bi_w (b : Bool) : narrow .boolean (.int (mk_bi b)) = .int (mk_bi b) := by cases b <;> rfl
def mk_ba (N : Nat) (a : Nat → Int32) (p : Nat → Bool) : Prop := ∀ s, s < N → a s = mk_bi (p s)
theorem mk_ba_put {N : Nat} {a : Nat → Int32} {p : Nat → Bool} (h : mk_ba N a p) {s : Nat} (b : Bool) : mk_ba N (upd a s (mk_bi b)) (fun t => if t = s then b else p t) := by
  intro t ht
  show (if t = s then mk_bi b else a t) = mk_bi (if t = s then b else p t)
  by_cases e : t = s
  · rw [if_pos e, if_pos e]
  · rw [if_neg e, if_neg e]; exact h t ht
theorem mk_ba_congr {N : Nat} {a : Nat → Int32} {p q : Nat → Bool} (h : mk_ba N a p) (e : ∀ s, s < N → p s = q s) : mk_ba N a q :=
  fun s hs => by rw [h s hs, e s hs]
def mk_tr (N : Nat) (x y : Nat → Int32) : Prop := ∀ i, i < 16 → mk_bs N (x i) (bt (x i)) ∧ ∀ s, s < N → y (i * 12 + s) = mk_bi (bt (x i) s)
theorem mk_bs_self {N : Nat} {x : Int32} {p : Nat → Bool} (h : mk_bs N x p) : mk_bs N x (bt x) := by
  intro i hi
  have := h i hi
  rw [this]
  cases decide (i < N) <;> rfl
theorem mk_bs_lt {N : Nat} {x : Int32} {p : Nat → Bool} (h : mk_bs N x p) {s : Nat} (hs : bt x s = true) : s < N := by
  by_cases g : s < 32
  · have := h s g
    rw [hs] at this
    have h2 : (decide (s < N) && p s) = true := this.symm
    rw [Bool.and_eq_true, decide_eq_true_eq] at h2
    exact h2.1
  · rw [b_big (by omega)] at hs
    exact absurd hs (by decide)
theorem mk_bs_at {N : Nat} {x : Int32} {p : Nat → Bool} (h : mk_bs N x p) {s : Nat} (hs : s < N) (hN : N ≤ 12) : bt x s = p s := by
  rw [h s (by omega), decide_eq_true hs, Bool.true_and]
theorem mk_tr_put {N : Nat} {x y y' : Nat → Int32} {i : Nat} {v : Int32} {p : Nat → Bool} (h : mk_tr N x y) (hN : N ≤ 12) (hv : mk_bs N v p) (h1 : ∀ s, s < N → y' (i * 12 + s) = mk_bi (p s)) (h2 : ∀ j, (∀ s, s < N → j ≠ i * 12 + s) → y' j = y j) : mk_tr N (upd x i v) y' := by
  intro i' hi'
  by_cases e : i' = i
  · have e1 : upd x i v i' = v := if_pos e
    rw [e1]
    refine ⟨mk_bs_self hv, ?_⟩
    intro s hs
    rw [e, h1 s hs, mk_bs_at hv hs hN]
  · have e1 : upd x i v i' = x i' := if_neg e
    rw [e1]
    refine ⟨(h i' hi').1, ?_⟩
    intro s hs
    rw [h2 _ (fun s' hs' => by omega)]
    exact (h i' hi').2 s hs
def mk_cell (N i : Nat) (f g F : Nat → Int64) : Prop := (∀ s, s < N → g (i * 12 + s) = F s) ∧ ∀ j, (∀ s, s < N → j ≠ i * 12 + s) → g j = f j
theorem mk_cell_u {N i : Nat} {f g g' F : Nat → Int64} (h : mk_cell N i f g F) (h' : mk_cell N i f g' F) : g = g' := by
  funext j
  by_cases e : ∃ s, s < N ∧ j = i * 12 + s
  · obtain ⟨s, hs, ej⟩ := e
    rw [ej, h.1 s hs, h'.1 s hs]
  · have hj : ∀ s, s < N → j ≠ i * 12 + s := fun s hs z => e ⟨s, hs, z⟩
    rw [h.2 j hj, h'.2 j hj]
theorem mk_cell_congr {N i : Nat} {f g F F' : Nat → Int64} (h : mk_cell N i f g F) (e : ∀ s, s < N → F s = F' s) : mk_cell N i f g F' :=
  ⟨fun s hs => by rw [h.1 s hs, e s hs], h.2⟩
/-- one cell more written, in the order of the states -/
theorem mk_cell_0 {i : Nat} {f F : Nat → Int64} : mk_cell 0 i f f F := ⟨fun s h => by omega, fun _ _ => rfl⟩
theorem mk_cell_s {s i : Nat} {f g F : Nat → Int64} (h : mk_cell s i f g F) : mk_cell (s + 1) i f (vp_updL g (i * 12 + s) (F s)) F := by
  constructor
  · intro s' hs'
    show (if i * 12 + s' = i * 12 + s then F s else g (i * 12 + s')) = F s'
    by_cases e : s' = s
    · rw [if_pos (by omega), e]
    · rw [if_neg (by omega)]; exact h.1 s' (by omega)
  · intro j hj
    show (if j = i * 12 + s then F s else g j) = f j
    rw [if_neg (hj s (by omega))]
    exact h.2 j (fun s' hs' => hj s' (by omega))
theorem mk_cell_put {N s i : Nat} {f g F : Nat → Int64} {x : Int64} (hs : s < N) (h : mk_cell N i f g F) : mk_cell N i f (vp_updL g (i * 12 + s) x) (fun t => if t = s then x else F t) := by
  constructor
  · intro s' hs'
    show (if i * 12 + s' = i * 12 + s then x else g (i * 12 + s')) = if s' = s then x else F s'
    by_cases e : s' = s
    · rw [if_pos (by omega), if_pos e]
    · rw [if_neg (by omega), if_neg e]; exact h.1 s' hs'
  · intro j hj
    show (if j = i * 12 + s then x else g j) = f j
    rw [if_neg (hj s hs)]
    exact h.2 j hj
/-! the unknown states in their order -/
def mk_id (U : Nat → Bool) : Nat → Nat → Nat
  | 0 => fun _ => 0
  | n + 1 => fun r => if U n = true ∧ mk_cn U n = r then n else mk_id U n r
theorem mk_id_L (U : Nat → Bool) (N : Nat) : mk_L U N (mk_id U N) := by
  induction N with
  | zero => intro s h; omega
  | succ n ih =>
    intro s hs hU
    show (if U n = true ∧ mk_cn U n = mk_cn U s then n else mk_id U n (mk_cn U s)) = s
    by_cases e : s = n
    · subst e; rw [if_pos ⟨hU, rfl⟩]
    · have h1 := mk_cn_lt hU (show s < n by omega)
      rw [if_neg (fun z => by omega)]
      exact ih s (by omega) hU
theorem mk_idx {U : Nat → Bool} {N : Nat} {a : Nat → Int32} (h : ∀ s, s < N → U s = true → a (mk_cn U s) = nI s) {r : Nat} (hr : r < mk_cn U N) : a r = nI (mk_id U N r) ∧ mk_id U N r < N ∧ U (mk_id U N r) = true ∧ mk_cn U (mk_id U N r) = r := by
  obtain ⟨a1, a2, a3⟩ := mk_L_idx (mk_id_L U N) hr
  have := h _ a1 a2
  rw [a3] at this
  exact ⟨this, a1, a2, a3⟩
/-! all that the elimination asks, of the chain -/
def mk_M (wt : Nat → Int32) (N : Nat) (phi psi : Nat → Bool) : Nat → Nat → Int :=
  mk_A (mk_w wt) N (mk_O (mk_w wt) N phi psi) (mk_id (mk_U (mk_w wt) N phi psi) N) (mk_cn (mk_U (mk_w wt) N phi psi) N)
theorem mk_M_H {wt : Nat → Int32} {N : Nat} {phi psi : Nat → Bool} (hW : mk_W wt N) (hN : N ≤ 12) (hpsi : ∀ s, psi s = true → s < N) : mk_H (mk_M wt N phi psi) (mk_cn (mk_U (mk_w wt) N phi psi) N) := by
  obtain ⟨⟨ρ, hρ⟩, h10⟩ := mk_unk (w := mk_w wt) (phi := phi) hN hpsi
  refine mk_A_H (ρ := ρ) (mk_id_L _ N) h10 mk_U_O ?_ hρ
  intro s hs
  rw [mk_t_int]
  have := (hW s hs).2
  omega
end
section
/-! terms for the walks -/
theorem mk_i12 (s t : Nat) : nI s * 12 + nI t = nI (s * 12 + t) := by
  rw [show (12 : Int32) = nI 12 from rfl, pk_mul, nI_add]
theorem mk_i13 (s t : Nat) : nI s * 13 + nI t = nI (s * 13 + t) := by
  rw [show (13 : Int32) = nI 13 from rfl, pk_mul, nI_add]
theorem mk_m13 (s : Nat) : nI s * 13 = nI (s * 13) := by
  rw [show (13 : Int32) = nI 13 from rfl, pk_mul]
theorem mk_bc {b : Bool} {A B : Prop} (f : b = false → A) (g : b = true → B) : (mk_bi b = 0 → A) ∧ (¬ mk_bi b = 0 → B) := by
  cases b
  · exact ⟨fun _ => f rfl, fun h => absurd rfl h⟩
  · exact ⟨fun h => absurd h (by decide), fun _ => g rfl⟩
theorem mk_bc' {b : Bool} {v : Int32} {A B : Prop} (e : v = mk_bi b) (f : b = false → A) (g : b = true → B) : (v = 0 → A) ∧ (¬ v = 0 → B) := by
  subst e; exact mk_bc f g
theorem mk_pos {v : Int32} {A B : Prop} (a : Nat) (hv : v = nI a) (ha : a < 2 ^ 31) (f : a = 0 → A) (g : 0 < a → B) : (v ≤ 0 → A) ∧ (¬ v ≤ 0 → B) := by
  subst hv
  exact pk_le a 0 (fun h => f (by omega)) g rfl rfl ha (by omega)
def mk_lb (x q : Int32) : Bool := !decide (((x >>> (q &&& 31)) &&& 1) = 0)
theorem mk_lb_f {x q : Int32} (h : ((x >>> (q &&& 31)) &&& 1) = 0) : mk_lb x q = false := by
  unfold mk_lb; rw [decide_eq_true h]; rfl
theorem mk_lb_t {x q : Int32} (h : ¬ ((x >>> (q &&& 31)) &&& 1) = 0) : mk_lb x q = true := by
  unfold mk_lb; rw [decide_eq_false h]; rfl
theorem mk_lb_bs {N : Nat} {x : Int32} {p : Nat → Bool} (h : mk_bs N x p) {s : Nat} (hs : s < N) (hN : N ≤ 12) : mk_lb x (nI s) = p s := by
  cases hp : p s with
  | false => exact mk_lb_f ((mk_bs_bit h hs (by omega)).mpr hp)
  | true =>
    refine mk_lb_t (fun z => ?_)
    rw [(mk_bs_bit h hs (by omega)).mp z] at hp
    exact absurd hp (by decide)
theorem mk_bs_end {N : Nat} {x : Int32} {q : Nat → Bool} (h : mk_bs N x (fun i => decide (i < N) && q i)) : mk_bs N x q :=
  mk_bs_congr h (fun s hs => by rw [decide_eq_true hs, Bool.true_and])
theorem mk_bs_beg {N : Nat} {q : Nat → Bool} : mk_bs N 0 (fun i => decide (i < 0) && q i) :=
  mk_bs_congr mk_bs_0 (fun s _ => by rw [decide_eq_false (by omega), Bool.false_and])
theorem mk_bs_no {N t : Nat} {x : Int32} {q : Nat → Bool} (h : mk_bs N x (fun i => decide (i < t) && q i)) (hq : q t = false) : mk_bs N x (fun i => decide (i < t + 1) && q i) := by
  refine mk_bs_congr h (fun s _ => ?_)
  by_cases e : s = t
  · rw [e, hq, Bool.and_false, Bool.and_false]
  · by_cases g : s < t
    · rw [decide_eq_true g, decide_eq_true (show s < t + 1 by omega)]
    · rw [decide_eq_false g, decide_eq_false (show ¬ s < t + 1 by omega)]
theorem mk_bs_yes {N t : Nat} {x : Int32} {q : Nat → Bool} (h : mk_bs N x (fun i => decide (i < t) && q i)) (ht : t < N) (hN : N ≤ 12) (hq : q t = true) : mk_bs N (x ||| ((1 : Int32) <<< (nI t &&& 31))) (fun i => decide (i < t + 1) && q i) := by
  refine mk_bs_congr (mk_bs_put h ht (by omega)) (fun s _ => ?_)
  by_cases e : s = t
  · rw [if_pos e, e, hq, decide_eq_true (Nat.lt_succ_self t)]; rfl
  · rw [if_neg e]
    by_cases g : s < t
    · rw [decide_eq_true g, decide_eq_true (show s < t + 1 by omega)]
    · rw [decide_eq_false g, decide_eq_false (show ¬ s < t + 1 by omega)]
def mk_at (lb : Nat → Int32) (a s : Nat) : Bool := if a = 4 then true else mk_lb (lb s) (nI a)
def mk_cmp (l : Int64) (op : Int32) (r : Int64) : Bool := if op = 0 then decide (r ≤ l) else if op = 1 then decide (r < l) else if op = 2 then decide (l ≤ r) else decide (l < r)
theorem mk_cmp0 {l r : Int64} {op : Int32} (h : op = 0) : mk_cmp l op r = decide (r ≤ l) := if_pos h
theorem mk_cmp1 {l r : Int64} {op : Int32} (h0 : ¬ op = 0) (h : op = 1) : mk_cmp l op r = decide (r < l) := by
  unfold mk_cmp; rw [if_neg h0, if_pos h]
theorem mk_cmp2 {l r : Int64} {op : Int32} (h0 : ¬ op = 0) (h1 : ¬ op = 1) (h : op = 2) : mk_cmp l op r = decide (l ≤ r) := by
  unfold mk_cmp; rw [if_neg h0, if_neg h1, if_pos h]
theorem mk_cmp3 {l r : Int64} {op : Int32} (h0 : ¬ op = 0) (h1 : ¬ op = 1) (h2 : ¬ op = 2) : mk_cmp l op r = decide (l < r) := by
  unfold mk_cmp; rw [if_neg h0, if_neg h1, if_neg h2]
theorem mk_bi_dt {p : Prop} [Decidable p] (h : p) : mk_bi (decide p) = 1 := by rw [decide_eq_true h]; rfl
theorem mk_bi_df {p : Prop} [Decidable p] (h : ¬ p) : mk_bi (decide p) = 0 := by rw [decide_eq_false h]; rfl
theorem mk_nm1 (B : Nat) (h : B < 2 ^ 31) : ¬ nI B = -1 := by
  intro z
  have h1 := nI_toInt h
  rw [z] at h1
  have h2 : (-1 : Int32).toInt = -1 := by decide
  omega
end
section
/-! the component's small methods -/
section
variable {N : Nat} {nd vl : Int32} {wt lb kd fi se bo tn td tr un : Nat → Int32} {vn vd pa np mx : Nat → Int64}
theorem mx_contains {post : Int32 → Prop} {x q : Int32} (k : post (mk_bi (mk_lb x q))) : (wpX_contains post () x q) := by
  unfold wpX_contains
  by_cases h : ((x >>> (q &&& 31)) &&& 1) = 0
  · rw [mk_lb_f h] at k
    exact br_t h k
  · rw [mk_lb_t h] at k
    exact br_f h k
theorem mx_has {post : Int32 → Prop} {x : Int32} {p : Nat → Bool} {s : Nat} (h : mk_bs N x p) (hs : s < N) (hN : N ≤ 12) (k : post (mk_bi (p s))) : (wpX_contains post () x (nI s)) := by
  apply mx_contains
  rw [mk_lb_bs h hs hN]; exact k
theorem mx_all {post : Int32 → Prop} (k : post (((1 : Int32) <<< (nI N &&& 31)) - 1)) : (wpX_allStates post ((nI N), nd, vl, wt, lb, kd, fi, se, bo, tn, td, tr, vn, vd, pa, np, un, mx)) := k
theorem mx_rowTotal_l {post : Int32 → Prop} {s : Nat} (hN : N ≤ 12) (hW : mk_W wt N) (hs : s < N) (k : post (nI (mk_t (mk_w wt s) N))) : ∀ n t : Nat, t ≤ N → N < n + t → (wX_rowTotal_4 post (nI s) (nI N) nd vl wt lb kd fi se bo tn td tr vn vd pa np un mx n (nI (mk_t (mk_w wt s) t)) (nI t)) := by
  intro n
  induction n with
  | zero => intro t h1 h2; omega
  | succ n ih =>
    intro t h1 h2
    refine pk_le N t (fun h => ?_) (fun h => ⟨pk_in (s * 12 + t) 144 (by omega) (mk_i12 s t), ?_⟩)
    · obtain rfl : t = N := by omega
      exact k
    · refine nm_r (e' := nI (mk_t (mk_w wt s) (t + 1))) ?_ (nm_r (nI_1 t) (ih (t + 1) (by omega) (by omega)))
      rw [mk_i12, nI_clamp (by omega), (hW s hs).1 t (by omega), nI_add]; rfl
theorem mx_rowTotal {post : Int32 → Prop} {s : Nat} (hN : N ≤ 12) (hW : mk_W wt N) (hs : s < N) (k : post (nI (mk_t (mk_w wt s) N))) : (wpX_rowTotal post ((nI N), nd, vl, wt, lb, kd, fi, se, bo, tn, td, tr, vn, vd, pa, np, un, mx) (nI s)) :=
  ⟨N + 1, mx_rowTotal_l hN hW hs k (N + 1) 0 (by omega) (by omega)⟩
theorem mx_succ_l {post : Int32 → Prop} {s : Nat} (hN : N ≤ 12) (hW : mk_W wt N) (hs : s < N) (k : ∀ x, mk_bs N x (fun t => decide (0 < mk_w wt s t)) → post x) : ∀ (n t : Nat) (x : Int32), t ≤ N → N < n + t → mk_bs N x (fun i => decide (i < t) && decide (0 < mk_w wt s i)) → (wX_successors_4 post (nI s) (nI N) nd vl wt lb kd fi se bo tn td tr vn vd pa np un mx n x (nI t)) := by
  intro n
  induction n with
  | zero => intro t x h1 h2; omega
  | succ n ih =>
    intro t x h1 h2 hx
    refine pk_le N t (fun h => ?_) (fun h => ⟨pk_in (s * 12 + t) 144 (by omega) (mk_i12 s t), ?_⟩)
    · obtain rfl : t = N := by omega
      exact k x (mk_bs_end hx)
    · refine mk_pos (mk_w wt s t) (by rw [mk_i12, nI_clamp (by omega), (hW s hs).1 t (by omega)]) (by have := mk_W_le hW hs h; omega) (fun g => ?_) (fun g => ?_)
      · exact nm_r (nI_1 t) (ih (t + 1) x (by omega) (by omega) (mk_bs_no hx (decide_eq_false (by omega))))
      · exact nm_e (nm_r (nI_1 t) (ih (t + 1) _ (by omega) (by omega) (mk_bs_yes hx h hN (decide_eq_true g))))
theorem mx_succ {post : Int32 → Prop} {s : Nat} (hN : N ≤ 12) (hW : mk_W wt N) (hs : s < N) (k : ∀ x, mk_bs N x (fun t => decide (0 < mk_w wt s t)) → post x) : (wpX_successors post ((nI N), nd, vl, wt, lb, kd, fi, se, bo, tn, td, tr, vn, vd, pa, np, un, mx) (nI s)) :=
  ⟨N + 1, mx_succ_l hN hW hs k (N + 1) 0 0 (by omega) (by omega) mk_bs_beg⟩
theorem mx_lab_l {post : Int32 → Prop} {a : Nat} (hN : N ≤ 12) (ha : ¬ a = 4) (k : ∀ x, mk_bs N x (mk_at lb a) → post x) : ∀ (n t : Nat) (x : Int32), t ≤ N → N < n + t → mk_bs N x (fun i => decide (i < t) && mk_at lb a i) → (wX_labelledStates_14 post (nI a) (nI N) nd vl wt lb kd fi se bo tn td tr vn vd pa np un mx n x (nI t)) := by
  intro n
  induction n with
  | zero => intro t x h1 h2; omega
  | succ n ih =>
    intro t x h1 h2 hx
    have ea : ∀ i, mk_at lb a i = mk_lb (lb i) (nI a) := fun i => if_neg ha
    refine pk_le N t (fun h => ?_) (fun h => ⟨pk_in t 12 (by omega), ?_⟩)
    · obtain rfl : t = N := by omega
      exact k x (mk_bs_end hx)
    · rw [nI_clamp (by omega)]
      refine mx_contains (mk_bc (fun g => ?_) (fun g => ?_))
      · exact nm_r (nI_1 t) (ih (t + 1) x (by omega) (by omega) (mk_bs_no hx (by rw [ea]; exact g)))
      · exact nm_e (nm_r (nI_1 t) (ih (t + 1) _ (by omega) (by omega) (mk_bs_yes hx h hN (by rw [ea]; exact g))))
theorem mx_lab {post : Int32 → Prop} {a : Nat} (hN : N ≤ 12) (ha : a ≤ 4) (k : ∀ x, mk_bs N x (mk_at lb a) → post x) : (wpX_labelledStates post ((nI N), nd, vl, wt, lb, kd, fi, se, bo, tn, td, tr, vn, vd, pa, np, un, mx) (nI a)) := by
  unfold wpX_labelledStates
  refine pk_eq a 4 (fun h => ?_) (fun h => ⟨N + 1, mx_lab_l hN h k (N + 1) 0 0 (by omega) (by omega) mk_bs_beg⟩)
  exact mx_all (k _ (mk_bs_congr (mk_bs_all (by omega)) (fun s _ => (if_pos h).symm)))
theorem mx_compare {post : Int32 → Prop} {l r : Int64} {op : Int32} (k : post (mk_bi (mk_cmp l op r))) : (wpX_compare post () l op r) := by
  unfold wpX_compare
  by_cases h0 : op = 0
  · rw [mk_cmp0 h0] at k
    refine br_t h0 ?_
    by_cases h : r ≤ l
    · rw [mk_bi_dt h] at k
      exact br_f (Int64.not_lt.mpr h) k
    · rw [mk_bi_df h] at k
      exact br_t (Int64.not_le.mp h) k
  · refine br_f h0 ?_
    by_cases h1 : op = 1
    · rw [mk_cmp1 h0 h1] at k
      refine br_t h1 ?_
      by_cases h : r < l
      · rw [mk_bi_dt h] at k
        exact br_f (Int64.not_le.mpr h) k
      · rw [mk_bi_df h] at k
        exact br_t (Int64.not_lt.mp h) k
    · refine br_f h1 ?_
      by_cases h2 : op = 2
      · rw [mk_cmp2 h0 h1 h2] at k
        refine br_t h2 ?_
        by_cases h : l ≤ r
        · rw [mk_bi_dt h] at k
          exact br_f (Int64.not_lt.mpr h) k
        · rw [mk_bi_df h] at k
          exact br_t (Int64.not_le.mp h) k
      · rw [mk_cmp3 h0 h1 h2] at k
        refine br_f h2 ?_
        by_cases h : l < r
        · rw [mk_bi_dt h] at k
          exact br_f (Int64.not_le.mpr h) k
        · rw [mk_bi_df h] at k
          exact br_t (Int64.not_lt.mp h) k
def mk_cq (vn vd : Nat → Int64) (j : Nat) (op tn td : Int32) (s : Nat) : Bool := mk_cmp (vn (j * 12 + s) * td.toInt64) op (tn.toInt64 * vd (j * 12 + s))
theorem mx_cmps_l {post : Int32 → Prop} {i j : Nat} (hN : N ≤ 12) (hi : i < 16) (hj : j < 16) (hf : fi i = nI j) (k : ∀ x, mk_bs N x (mk_cq vn vd j (se i) (tn i) (td i)) → post x) : ∀ (n t : Nat) (x : Int32), t ≤ N → N < n + t → mk_bs N x (fun s => decide (s < t) && mk_cq vn vd j (se i) (tn i) (td i) s) → (wX_comparedStates_4 post (nI i) (nI N) nd vl wt lb kd fi se bo tn td tr vn vd pa np un mx n x (nI t)) := by
  intro n
  induction n with
  | zero => intro t x h1 h2; omega
  | succ n ih =>
    intro t x h1 h2 hx
    refine pk_le N t (fun h => ?_) (fun h => ⟨pk_in i 16 hi, ?_⟩)
    · obtain rfl : t = N := by omega
      exact k x (mk_bs_end hx)
    · refine nm_r (e' := nI (j * 12 + t)) (by rw [nI_clamp (by omega), hf, mk_i12]) ?_
      have hc : (nI i).toNatClampNeg = i := nI_clamp (by omega)
      have hd : (nI (j * 12 + t)).toNatClampNeg = j * 12 + t := nI_clamp (by omega)
      refine ⟨pk_in (j * 12 + t) 192 (by omega), pk_in i 16 hi, ?_⟩
      rw [hc, hd]
      refine nm_e ⟨pk_in i 16 hi, pk_in (j * 12 + t) 192 (by omega), nm_e ⟨pk_in i 16 hi, ?_⟩⟩
      refine mx_compare (mk_bc (fun g => ?_) (fun g => ?_))
      · exact nm_r (nI_1 t) (ih (t + 1) x (by omega) (by omega) (mk_bs_no hx g))
      · exact nm_e (nm_r (nI_1 t) (ih (t + 1) _ (by omega) (by omega) (mk_bs_yes hx h hN g)))
theorem mx_cmps {post : Int32 → Prop} {i j : Nat} (hN : N ≤ 12) (hi : i < 16) (hj : j < 16) (hf : fi i = nI j) (k : ∀ x, mk_bs N x (mk_cq vn vd j (se i) (tn i) (td i)) → post x) : (wpX_comparedStates post ((nI N), nd, vl, wt, lb, kd, fi, se, bo, tn, td, tr, vn, vd, pa, np, un, mx) (nI i)) :=
  ⟨N + 1, mx_cmps_l hN hi hj hf k (N + 1) 0 0 (by omega) (by omega) mk_bs_beg⟩
end
end
section
/-! the component: common divisors, stored values, the bounded until -/
theorem mk_gne {a b : Nat} (hb : b < 2 ^ 62) (h0 : 0 < b) : ¬ lN (Nat.gcd a b) = 0 := by
  intro z
  have hg : 0 < Nat.gcd a b := Nat.gcd_pos_of_pos_right a h0
  have hgb : Nat.gcd a b ≤ b := Nat.gcd_le_right a h0
  have := (pk_lEQ (a := Nat.gcd a b) (b := 0) (by omega) (by omega)).mp z
  omega
section
variable {N : Nat} {nd vl : Int32} {wt lb kd fi se bo tn td tr un : Nat → Int32} {vn vd pa np mx : Nat → Int64}
theorem mx_gcd_l {post : Int64 → Prop} : ∀ (f n a b : Nat), f ≤ 128 → f < n → a < 2 ^ 62 → b < 2 ^ 62 → post (lN (mk_e f a b)) → (wX_commonDivisor_9 post n (lN a) (lN b) (nI (128 - f))) := by
  intro f
  induction f with
  | zero =>
    intro n a b _ hn _ _ k
    obtain ⟨n, rfl⟩ : ∃ m, n = m + 1 := ⟨n - 1, by omega⟩
    exact pk_le 128 128 (fun _ => k) (fun h => absurd h (by omega))
  | succ f ih =>
    intro n a b hf hn ha hb k
    obtain ⟨n, rfl⟩ : ∃ m, n = m + 1 := ⟨n - 1, by omega⟩
    refine pk_le 128 (128 - (f + 1)) (fun h => absurd h (by omega)) (fun _ => ?_)
    by_cases e : b = 0
    · subst e
      rw [mk_e_0] at k
      exact br_t rfl k
    · have hne : ¬ lN b = 0 := fun z => e ((pk_lEQ (b := 0) (by omega) (by omega)).mp z)
      rw [mk_e_s _ _ e] at k
      have hm := Nat.mod_lt a (show 0 < b by omega)
      refine br_f hne ⟨hne, nm_r (pk_lRem (by omega) (by omega) (by omega)) ?_⟩
      refine nm_r (e' := nI (128 - f)) ?_ (ih n b (a % b) (by omega) (by omega) hb (by omega) k)
      rw [nI_1]; congr 1; omega
theorem mx_gcd {post : Int64 → Prop} {a b : Nat} (ha : a < 2 ^ 62) (hb : b < 2 ^ 62) (k : post (lN (Nat.gcd a b))) : (wpX_commonDivisor post () (lN a) (lN b)) := by
  have h := mx_gcd_l (post := post) 128 129 a b (by omega) (by omega) ha hb (by rw [mk_e_gcd 62 a b 128 hb (by omega)]; exact k)
  rw [Nat.sub_self] at h
  exact ⟨129, h⟩
theorem mx_store {post : St2 → Prop} {i s a b : Nat} (hi : i < 16) (hs : s < 12) (ha : a < 2 ^ 62) (hb : b < 2 ^ 62) (h0 : 0 < b) (k : post ((nI N), nd, vl, wt, lb, kd, fi, se, bo, tn, td, tr, (vp_updL vn (i * 12 + s) (lN (a / Nat.gcd a b))), (vp_updL vd (i * 12 + s) (lN (b / Nat.gcd a b))), pa, np, un, mx)) : (wpX_storeValue post ((nI N), nd, vl, wt, lb, kd, fi, se, bo, tn, td, tr, vn, vd, pa, np, un, mx) (nI i) (nI s) (lN a) (lN b)) := by
  unfold wpX_storeValue
  have hg : 0 < Nat.gcd a b := Nat.gcd_pos_of_pos_right a h0
  have hgb : Nat.gcd a b ≤ b := Nat.gcd_le_right a h0
  have hne := mk_gne (a := a) hb h0
  have hc : (nI i * 12 + nI s).toNatClampNeg = i * 12 + s := by rw [mk_i12, nI_clamp (by omega)]
  have hin : vp_in (nI i * 12 + nI s) 192 := pk_in (i * 12 + s) 192 (by omega) (mk_i12 i s)
  refine mx_gcd ha hb ?_
  refine br_f hne ⟨hne, hin, ?_⟩
  rw [hc, pk_lDiv (by omega) hg (by omega), pk_lDiv (by omega) hg (by omega)]
  exact nm_e ⟨hne, hin, nm_e k⟩
theorem mx_sp_l {post : Int64 → Prop} {s : Nat} {b : Nat → Nat} (hN : N ≤ 12) (hW : mk_W wt N) (hs : s < N) (hb : ∀ t, t < N → pa t = lN (b t)) (k : post (lN (mk_t (fun t => mk_w wt s t * b t) N * (12 / mk_t (mk_w wt s) N)))) : ∀ n t : Nat, t ≤ N → N < n + t → (wX_successorParts_7 post (nI s) (nI N) nd vl wt lb kd fi se bo tn td tr vn vd pa np un mx n (nI (mk_t (mk_w wt s) t)) (lN (mk_t (fun t => mk_w wt s t * b t) t)) (nI t)) := by
  intro n
  induction n with
  | zero => intro t h1 h2; omega
  | succ n ih =>
    intro t h1 h2
    refine pk_le N t (fun h => ?_) (fun h => ⟨pk_in (s * 12 + t) 144 (by omega) (mk_i12 s t), ?_⟩)
    · obtain rfl : t = N := by omega
      have h4 := (hW s hs).2
      refine mk_pos (mk_t (mk_w wt s) t) rfl (by omega) (fun g => ?_) (fun g => ?_)
      · rw [g, Nat.div_zero, Nat.mul_zero] at k
        exact k
      · have hne : ¬ nI (mk_t (mk_w wt s) t) = 0 := nI_ne0 g (by omega)
        refine ⟨hne, ?_⟩
        rw [show (12 : Int32) = nI 12 from rfl, pk_div (by omega) g (by omega), nI_l (Nat.lt_of_le_of_lt (Nat.div_le_self _ _) (by omega)), lN_mul]
        exact k
    · have hw := mk_W_le hW hs h
      refine nm_r (e' := nI (mk_w wt s t)) (by rw [mk_i12, nI_clamp (by omega), (hW s hs).1 t h]) ?_
      refine nm_r (e' := nI (mk_t (mk_w wt s) (t + 1))) (nI_add _ _) ⟨pk_in t 12 (by omega), ?_⟩
      refine nm_r (e' := lN (mk_t (fun t => mk_w wt s t * b t) (t + 1))) ?_ (nm_r (nI_1 t) (ih (t + 1) (by omega) (by omega)))
      rw [nI_clamp (by omega), hb t h, nI_l (by omega), lN_mul, lN_add]; rfl
theorem mx_sp {post : Int64 → Prop} {s : Nat} {b : Nat → Nat} (hN : N ≤ 12) (hW : mk_W wt N) (hs : s < N) (hb : ∀ t, t < N → pa t = lN (b t)) (k : post (lN (mk_t (fun t => mk_w wt s t * b t) N * (12 / mk_t (mk_w wt s) N)))) : (wpX_successorParts post ((nI N), nd, vl, wt, lb, kd, fi, se, bo, tn, td, tr, vn, vd, pa, np, un, mx) (nI s)) :=
  ⟨N + 1, mx_sp_l hN hW hs hb k (N + 1) 0 (by omega) (by omega)⟩
theorem mx_ts2 {post : St2 → Prop} {F : Nat → Int64} (hN : N ≤ 12) (hF : ∀ s, s < N → np s = F s) (k : ∀ q : Nat → Int64, (∀ s, s < N → q s = F s) → post ((nI N), nd, vl, wt, lb, kd, fi, se, bo, tn, td, tr, vn, vd, q, np, un, mx)) : ∀ (n s : Nat) (q : Nat → Int64), s ≤ N → N < n + s → (∀ t, t < s → q t = F t) → (wX_takeStep_74 post (nI N) nd vl n (nI s) wt lb kd fi se bo tn td tr vn vd q np un mx) := by
  intro n
  induction n with
  | zero => intro s q h1 h2; omega
  | succ n ih =>
    intro s q h1 h2 hq
    refine pk_le N s (fun h => ?_) (fun h => ⟨pk_in s 12 (by omega), pk_in s 12 (by omega), ?_⟩)
    · obtain rfl : s = N := by omega
      exact k q hq
    · rw [nI_clamp (by omega)]
      refine nm_e (nm_r (nI_1 s) (ih (s + 1) _ (by omega) (by omega) (fun t ht => ?_)))
      by_cases e : t = s
      · subst e; rw [pk_uLs]; exact hF t h
      · rw [pk_uLn e]; exact hq t (by omega)
theorem mx_ts1 {post : St2 → Prop} {x1 x2 : Int32} {phi psi : Nat → Bool} {K : Nat} (hN : N ≤ 12) (hW : mk_W wt N) (h1 : mk_bs N x1 phi) (h2 : mk_bs N x2 psi) (hb : ∀ t, t < N → pa t = lN (mk_bv (mk_w wt) N phi psi K t)) (k : ∀ q q' : Nat → Int64, (∀ s, s < N → q s = lN (mk_bv (mk_w wt) N phi psi (K + 1) s)) → post ((nI N), nd, vl, wt, lb, kd, fi, se, bo, tn, td, tr, vn, vd, q, q', un, mx)) : ∀ (n s : Nat) (q : Nat → Int64), s ≤ N → N < n + s → (∀ t, t < s → q t = lN (mk_bv (mk_w wt) N phi psi (K + 1) t)) → (wX_takeStep_3 post x1 x2 (lN (12 ^ (K + 1))) (nI N) nd vl n (nI s) wt lb kd fi se bo tn td tr vn vd pa q un mx) := by
  intro n
  induction n with
  | zero => intro s q h1 h2; omega
  | succ n ih =>
    intro s q g1 g2 hq
    refine pk_le N s (fun h => ?_) (fun h => ?_)
    · obtain rfl : s = N := by omega
      exact ⟨s + 1, mx_ts2 (np := q) hN hq (fun q' hq' => k q' q hq') (s + 1) 0 pa (by omega) (by omega) (fun t ht => by omega)⟩
    · have hin : vp_in (nI s) 12 := pk_in s 12 (by omega)
      have hc : (nI s).toNatClampNeg = s := nI_clamp (by omega)
      have step : ∀ v : Int64, v = lN (mk_bv (mk_w wt) N phi psi (K + 1) s) → ∀ t, t < s + 1 → vp_updL q s v t = lN (mk_bv (mk_w wt) N phi psi (K + 1) t) := by
        intro v hv t ht
        by_cases e : t = s
        · subst e; rw [pk_uLs]; exact hv
        · rw [pk_uLn e]; exact hq t (by omega)
      refine mx_has h2 h hN (mk_bc (fun e2 => ?_) (fun e2 => ?_))
      · refine mx_has h1 h hN (mk_bc (fun e1 => ?_) (fun e1 => ?_))
        · refine ⟨hin, ?_⟩
          rw [hc]
          refine nm_e (nm_r (nI_1 s) (ih (s + 1) _ (by omega) (by omega) (step 0 ?_)))
          show 0 = lN (if psi s = true then _ else if phi s = true then _ else 0)
          rw [e2, e1]; rfl
        · refine mx_sp hN hW h hb ⟨hin, ?_⟩
          rw [hc]
          refine nm_e (nm_r (nI_1 s) (ih (s + 1) _ (by omega) (by omega) (step _ ?_)))
          show _ = lN (if psi s = true then _ else if phi s = true then _ else 0)
          rw [e2, e1]; rfl
      · refine ⟨hin, ?_⟩
        rw [hc]
        refine nm_e (nm_r (nI_1 s) (ih (s + 1) _ (by omega) (by omega) (step _ ?_)))
        show _ = lN (if psi s = true then _ else _)
        rw [e2]; rfl
theorem mx_ts {post : St2 → Prop} {x1 x2 : Int32} {phi psi : Nat → Bool} {K : Nat} (hN : N ≤ 12) (hW : mk_W wt N) (h1 : mk_bs N x1 phi) (h2 : mk_bs N x2 psi) (hb : ∀ t, t < N → pa t = lN (mk_bv (mk_w wt) N phi psi K t)) (k : ∀ q q' : Nat → Int64, (∀ s, s < N → q s = lN (mk_bv (mk_w wt) N phi psi (K + 1) s)) → post ((nI N), nd, vl, wt, lb, kd, fi, se, bo, tn, td, tr, vn, vd, q, q', un, mx)) : (wpX_takeStep post ((nI N), nd, vl, wt, lb, kd, fi, se, bo, tn, td, tr, vn, vd, pa, np, un, mx) x1 x2 (lN (12 ^ (K + 1)))) :=
  ⟨N + 1, mx_ts1 hN hW h1 h2 hb k (N + 1) 0 np (by omega) (by omega) (fun t ht => by omega)⟩
def mk_bn (w : Nat → Nat → Nat) (N : Nat) (phi psi : Nat → Bool) (K s : Nat) : Int64 := lN (mk_bv w N phi psi K s / Nat.gcd (mk_bv w N phi psi K s) (12 ^ K))
def mk_bm (w : Nat → Nat → Nat) (N : Nat) (phi psi : Nat → Bool) (K s : Nat) : Int64 := lN (12 ^ K / Nat.gcd (mk_bv w N phi psi K s) (12 ^ K))
theorem mx_eb3 {post : St2 → Prop} {i K : Nat} {phi psi : Nat → Bool} {vn0 vd0 : Nat → Int64} (hN : N ≤ 12) (hi : i < 16) (hK : K ≤ 8) (hb : ∀ t, t < N → pa t = lN (mk_bv (mk_w wt) N phi psi K t)) (k : ∀ q q' : Nat → Int64, mk_cell N i vn0 q (mk_bn (mk_w wt) N phi psi K) → mk_cell N i vd0 q' (mk_bm (mk_w wt) N phi psi K) → post ((nI N), nd, vl, wt, lb, kd, fi, se, bo, tn, td, tr, q, q', pa, np, un, mx)) : ∀ (n s : Nat) (q q' : Nat → Int64), s ≤ N → N < n + s → mk_cell s i vn0 q (mk_bn (mk_w wt) N phi psi K) → mk_cell s i vd0 q' (mk_bm (mk_w wt) N phi psi K) → (wX_evaluateBounded_105 post (nI i) (lN (12 ^ K)) n (nI s) (nI N) nd vl wt lb kd fi se bo tn td tr q q' pa np un mx) := by
  intro n
  induction n with
  | zero => intro s q q' h1 h2; omega
  | succ n ih =>
    intro s q q' h1 h2 hq hq'
    have hp := mk_12 K hK
    refine pk_le N s (fun h => ?_) (fun h => ⟨pk_in s 12 (by omega), ?_⟩)
    · obtain rfl : s = N := by omega
      exact k q q' hq hq'
    · have hle := mk_bv_le (mk_w wt) N phi psi K s
      rw [nI_clamp (by omega), hb s h]
      refine mx_store hi (by omega) (by omega) (by omega) hp.2 ?_
      exact nm_r (nI_1 s) (ih (s + 1) _ _ (by omega) (by omega) (mk_cell_s hq) (mk_cell_s hq'))
theorem mx_eb2 {post : St2 → Prop} {x2 x3 : Int32} {i B : Nat} {phi psi : Nat → Bool} (hN : N ≤ 12) (hW : mk_W wt N) (hi : i < 16) (hB : B ≤ 8) (hbo : bo i = nI B) (h1 : mk_bs N x2 phi) (h2 : mk_bs N x3 psi) (k : ∀ q q' p p' : Nat → Int64, mk_cell N i vn q (mk_bn (mk_w wt) N phi psi B) → mk_cell N i vd q' (mk_bm (mk_w wt) N phi psi B) → post ((nI N), nd, vl, wt, lb, kd, fi, se, bo, tn, td, tr, q, q', p, p', un, mx)) : ∀ (n K : Nat) (p p' : Nat → Int64), K ≤ B → B < n + K → (∀ t, t < N → p t = lN (mk_bv (mk_w wt) N phi psi K t)) → (wX_evaluateBounded_69 post (nI i) x2 x3 n (lN (12 ^ K)) (nI K) (nI N) nd vl wt lb kd fi se bo tn td tr vn vd p p' un mx) := by
  intro n
  induction n with
  | zero => intro K p p' g1 g2; omega
  | succ n ih =>
    intro K p p' g1 g2 hp
    refine ⟨pk_in i 16 hi, ?_⟩
    rw [nI_clamp (show i < 2 ^ 31 by omega), hbo]
    refine pk_le B K (fun h => ?_) (fun h => ?_)
    · obtain rfl : K = B := by omega
      exact ⟨N + 1, mx_eb3 (pa := p) (np := p') hN hi hB hp (fun q q' a b => k q q' p p' a b) (N + 1) 0 vn vd (by omega) (by omega) mk_cell_0 mk_cell_0⟩
    · refine nm_r (e' := lN (12 ^ (K + 1))) (by rw [show (12 : Int64) = lN 12 from rfl, lN_mul, Nat.pow_succ]) ?_
      refine mx_ts hN hW h1 h2 hp (fun q q' hq => ?_)
      exact nm_r (nI_1 K) (ih (K + 1) q q' (by omega) (by omega) hq)
theorem mx_eb1 {post : St2 → Prop} {x2 x3 : Int32} {i B : Nat} {phi psi : Nat → Bool} (hN : N ≤ 12) (hW : mk_W wt N) (hi : i < 16) (hB : B ≤ 8) (hbo : bo i = nI B) (h1 : mk_bs N x2 phi) (h2 : mk_bs N x3 psi) (k : ∀ q q' p p' : Nat → Int64, mk_cell N i vn q (mk_bn (mk_w wt) N phi psi B) → mk_cell N i vd q' (mk_bm (mk_w wt) N phi psi B) → post ((nI N), nd, vl, wt, lb, kd, fi, se, bo, tn, td, tr, q, q', p, p', un, mx)) : ∀ (n s : Nat) (p : Nat → Int64), s ≤ N → N < n + s → (∀ t, t < s → p t = lN (mk_bv (mk_w wt) N phi psi 0 t)) → (wX_evaluateBounded_30 post (nI i) x2 x3 1 (nI N) nd vl n (nI s) wt lb kd fi se bo tn td tr vn vd p np un mx) := by
  intro n
  induction n with
  | zero => intro s p g1 g2; omega
  | succ n ih =>
    intro s p g1 g2 hp
    refine pk_le N s (fun h => ?_) (fun h => ?_)
    · obtain rfl : s = N := by omega
      exact ⟨B + 1, mx_eb2 hN hW hi hB hbo h1 h2 k (B + 1) 0 p np (by omega) (by omega) hp⟩
    · have hin : vp_in (nI s) 12 := pk_in s 12 (by omega)
      have hc : (nI s).toNatClampNeg = s := nI_clamp (by omega)
      have step : ∀ v : Int64, v = lN (mk_bv (mk_w wt) N phi psi 0 s) → ∀ t, t < s + 1 → vp_updL p s v t = lN (mk_bv (mk_w wt) N phi psi 0 t) := by
        intro v hv t ht
        by_cases e : t = s
        · subst e; rw [pk_uLs]; exact hv
        · rw [pk_uLn e]; exact hp t (by omega)
      refine mx_has h2 h hN (mk_bc (fun e2 => ?_) (fun e2 => ?_))
      · refine ⟨hin, ?_⟩
        rw [hc]
        refine nm_e (nm_r (nI_1 s) (ih (s + 1) _ (by omega) (by omega) (step _ ?_)))
        show _ = lN (if psi s = true then 1 else 0)
        rw [e2]; rfl
      · refine ⟨hin, ?_⟩
        rw [hc]
        refine nm_e (nm_r (nI_1 s) (ih (s + 1) _ (by omega) (by omega) (step _ ?_)))
        show _ = lN (if psi s = true then 1 else 0)
        rw [e2]; rfl
theorem mx_eb {post : St2 → Prop} {i j l B : Nat} (hN : N ≤ 12) (hW : mk_W wt N) (hi : i < 16) (hj : j < 16) (hl : l < 16) (hB : B ≤ 8) (hbo : bo i = nI B) (hfi : fi i = nI j) (hse : se i = nI l) (h1 : mk_bs N (tr j) (bt (tr j))) (h2 : mk_bs N (tr l) (bt (tr l))) (k : ∀ q q' p p' : Nat → Int64, mk_cell N i vn q (mk_bn (mk_w wt) N (bt (tr j)) (bt (tr l)) B) → mk_cell N i vd q' (mk_bm (mk_w wt) N (bt (tr j)) (bt (tr l)) B) → post ((nI N), nd, vl, wt, lb, kd, fi, se, bo, tn, td, tr, q, q', p, p', un, mx)) : (wpX_evaluateBounded post ((nI N), nd, vl, wt, lb, kd, fi, se, bo, tn, td, tr, vn, vd, pa, np, un, mx) (nI i)) := by
  unfold wpX_evaluateBounded
  have hc : (nI i).toNatClampNeg = i := nI_clamp (by omega)
  refine ⟨pk_in i 16 hi, ?_⟩
  rw [hc, hfi]
  refine ⟨pk_in j 16 hj, nm_r (e' := tr j) (by rw [nI_clamp (by omega)]) ⟨pk_in i 16 hi, ?_⟩⟩
  rw [hse]
  refine ⟨pk_in l 16 hl, nm_r (e' := tr l) (by rw [nI_clamp (by omega)]) ?_⟩
  exact ⟨N + 1, mx_eb1 hN hW hi hB hbo h1 h2 k (N + 1) 0 pa (by omega) (by omega) (fun t ht => by omega)⟩
end
end
section
/-! the component: states that reach, the list of the unknown ones -/
theorem mk_pass_no {w : Nat → Nat → Nat} {N : Nat} {via q : Nat → Bool} {s : Nat} (h : (via s && mk_sc w N (mk_pass w N via q s) s) = false) (t : Nat) : mk_pass w N via q s t = mk_pass w N via q (s + 1) t := by
  show _ = mk_add w N via (mk_pass w N via q s) s t
  by_cases e : t = s
  · rw [e, mk_add_at, h, Bool.or_false]
  · rw [mk_add_ne e]
theorem mk_pass_yes {w : Nat → Nat → Nat} {N : Nat} {via q : Nat → Bool} {s : Nat} (h : (via s && mk_sc w N (mk_pass w N via q s) s) = true) (t : Nat) : (if t = s then true else mk_pass w N via q s t) = mk_pass w N via q (s + 1) t := by
  show _ = mk_add w N via (mk_pass w N via q s) s t
  by_cases e : t = s
  · rw [if_pos e, e, mk_add_at, h, Bool.or_true]
  · rw [if_neg e, mk_add_ne e]
section
variable {N : Nat} {nd vl : Int32} {wt lb kd fi se bo tn td tr un : Nat → Int32} {vn vd pa np mx : Nat → Int64}
theorem mx_sr2 {post : Int32 → Prop} {J : Int32 → Int32 → Prop} {x2 x4 : Int32} {v q : Nat → Bool} (hN : N ≤ 12) (hW : mk_W wt N) (hv : mk_bs N x2 v) (k : ∀ x, mk_bs N x (mk_pass (mk_w wt) N v q N) → J x (x4 + 1)) : ∀ (n s : Nat) (x : Int32), s ≤ N → N < n + s → mk_bs N x (mk_pass (mk_w wt) N v q s) → (wX_statesReaching_17 post J x2 x4 (nI N) nd vl wt lb kd fi se bo tn td tr vn vd pa np un mx n x (nI s)) := by
  intro n
  induction n with
  | zero => intro s x h1 h2; omega
  | succ n ih =>
    intro s x h1 h2 hx
    refine pk_le N s (fun h => ?_) (fun h => ?_)
    · obtain rfl : s = N := by omega
      exact nm_e (k x hx)
    · refine mx_has hv h hN (mk_bc (fun e => ?_) (fun e => ?_))
      · exact nm_r (nI_1 s) (ih (s + 1) x (by omega) (by omega) (mk_bs_congr hx (fun t _ => mk_pass_no (by rw [e, Bool.false_and]) t)))
      · refine mx_succ hN hW h (fun y hy => ?_)
        have hz := mk_bs_eq0 (mk_bs_and hy hx) (by omega)
        by_cases z : y &&& x = 0
        · refine br_t z (nm_r (nI_1 s) (ih (s + 1) x (by omega) (by omega) (mk_bs_congr hx (fun t _ => mk_pass_no ?_ t))))
          rw [e, Bool.true_and]; exact hz.mp z
        · refine br_f z (nm_e (nm_r (nI_1 s) (ih (s + 1) _ (by omega) (by omega) (mk_bs_congr (mk_bs_put hx h (by omega)) (fun t _ => mk_pass_yes ?_ t)))))
          rw [e, Bool.true_and]
          cases hb : mk_sc (mk_w wt) N (mk_pass (mk_w wt) N v q s) s with
          | true => rfl
          | false => exact absurd (hz.mpr hb) z
theorem mx_sr1 {post : Int32 → Prop} {x2 : Int32} {v p : Nat → Bool} (hN : N ≤ 12) (hW : mk_W wt N) (hv : mk_bs N x2 v) (k : ∀ x, mk_bs N x (mk_reach (mk_w wt) N v p N) → post x) : ∀ (n r : Nat) (x : Int32), r ≤ N → N < n + r → mk_bs N x (mk_reach (mk_w wt) N v p r) → (wX_statesReaching_5 post x2 (nI N) nd vl wt lb kd fi se bo tn td tr vn vd pa np un mx n x (nI r)) := by
  intro n
  induction n with
  | zero => intro r x h1 h2; omega
  | succ n ih =>
    intro r x h1 h2 hx
    refine pk_le N r (fun h => ?_) (fun h => ?_)
    · obtain rfl : r = N := by omega
      exact k x hx
    · refine ⟨N + 1, mx_sr2 (q := mk_reach (mk_w wt) N v p r) hN hW hv (fun y hy => ?_) (N + 1) 0 x (by omega) (by omega) hx⟩
      rw [nI_1]
      exact ih (r + 1) y (by omega) (by omega) hy
theorem mx_sr {post : Int32 → Prop} {x1 x2 : Int32} {v p : Nat → Bool} (hN : N ≤ 12) (hW : mk_W wt N) (hv : mk_bs N x2 v) (hp : mk_bs N x1 p) (k : ∀ x, mk_bs N x (mk_reach (mk_w wt) N v p N) → post x) : (wpX_statesReaching post ((nI N), nd, vl, wt, lb, kd, fi, se, bo, tn, td, tr, vn, vd, pa, np, un, mx) x1 x2) :=
  ⟨N + 1, mx_sr1 hN hW hv k (N + 1) 0 x1 (by omega) (by omega) hp⟩
theorem mx_lu_l {post : Int32 → St2 → Prop} {x1 : Int32} {U : Nat → Bool} (hN : N ≤ 12) (hU : mk_bs N x1 U) (k : ∀ q : Nat → Int32, (∀ s, s < N → U s = true → q (mk_cn U s) = nI s) → post (nI (mk_cn U N)) ((nI N), nd, vl, wt, lb, kd, fi, se, bo, tn, td, tr, vn, vd, pa, np, q, mx)) : ∀ (n s : Nat) (q : Nat → Int32), s ≤ N → N < n + s → (∀ t, t < s → U t = true → q (mk_cn U t) = nI t) → (wX_listUnknowns_4 post x1 (nI N) nd vl n (nI (mk_cn U s)) (nI s) wt lb kd fi se bo tn td tr vn vd pa np q mx) := by
  intro n
  induction n with
  | zero => intro s q h1 h2; omega
  | succ n ih =>
    intro s q h1 h2 hq
    have hc := mk_cn_le U s
    refine pk_le N s (fun h => ?_) (fun h => ?_)
    · obtain rfl : s = N := by omega
      exact k q hq
    · refine mx_has hU h hN (mk_bc (fun e => ?_) (fun e => ?_))
      · have e1 : mk_cn U (s + 1) = mk_cn U s := mk_cn_f (by rw [e]; decide)
        have g := ih (s + 1) q (by omega) (by omega) (fun t ht hu => by
          by_cases z : t = s
          · rw [z, e] at hu; exact absurd hu (by decide)
          · exact hq t (by omega) hu)
        rw [e1] at g
        exact nm_r (nI_1 s) g
      · have e1 : mk_cn U (s + 1) = mk_cn U s + 1 := mk_cn_t e
        have g := ih (s + 1) (upd q (mk_cn U s) (nI s)) (by omega) (by omega) (fun t ht hu => by
          by_cases z : t = s
          · rw [z, pk_us]
          · have h3 := mk_cn_lt hu (show t < s by omega)
            rw [pk_un (by omega)]
            exact hq t (by omega) hu)
        rw [e1] at g
        refine ⟨pk_in (mk_cn U s) 12 (by omega), ?_⟩
        rw [nI_clamp (by omega)]
        exact nm_e (nm_r (nI_1 _) (nm_r (nI_1 s) g))
theorem mx_lu {post : Int32 → St2 → Prop} {x1 : Int32} {U : Nat → Bool} (hN : N ≤ 12) (hU : mk_bs N x1 U) (k : ∀ q : Nat → Int32, (∀ s, s < N → U s = true → q (mk_cn U s) = nI s) → post (nI (mk_cn U N)) ((nI N), nd, vl, wt, lb, kd, fi, se, bo, tn, td, tr, vn, vd, pa, np, q, mx)) : (wpX_listUnknowns post ((nI N), nd, vl, wt, lb, kd, fi, se, bo, tn, td, tr, vn, vd, pa, np, un, mx) x1) :=
  ⟨N + 1, mx_lu_l hN hU k (N + 1) 0 un (by omega) (by omega) (fun t ht => by omega)⟩
end
end
section
/-! the component: the rows of the equations, the elimination -/
theorem mk_negw : ∀ a, a < 5 → (-(nI a)).toInt64 = mk_z (-(a : Int)) := by decide
theorem mk_z_nat {x : Int} (h : 0 ≤ x) : mk_z x = lN x.natAbs := by
  rw [← mk_z_n, Int.natAbs_of_nonneg h]
section
variable {N : Nat} {nd vl : Int32} {wt lb kd fi se bo tn td tr un : Nat → Int32} {vn vd pa np mx : Nat → Int64}
theorem mx_fr2 {post : St2 → Prop} {x3 : Int32} {O : Nat → Bool} {m r u : Nat} (hN : N ≤ 12) (hW : mk_W wt N) (hm : m < 12) (hr : r < m) (hu : u < N) (hO : mk_bs N x3 O) (k : post ((nI N), nd, vl, wt, lb, kd, fi, se, bo, tn, td, tr, vn, vd, pa, np, un, (vp_updL mx (r * 13 + m) (mk_z (mk_s (fun t => if O t = true then (mk_w wt u t : Int) else 0) N))))) : ∀ (n t : Nat), t ≤ N → N < n + t → (wX_fillRow_84 post (nI m) x3 (nI (r * 13)) (nI u) (nI N) nd vl wt lb kd fi se bo tn td tr vn vd pa np un mx n (mk_z (mk_s (fun t => if O t = true then (mk_w wt u t : Int) else 0) t)) (nI t)) := by
  intro n
  induction n with
  | zero => intro t h1 h2; omega
  | succ n ih =>
    intro t h1 h2
    refine pk_le N t (fun h => ?_) (fun h => ?_)
    · obtain rfl : t = N := by omega
      refine ⟨pk_in (r * 13 + m) 156 (by omega) (nI_add _ _), ?_⟩
      rw [nI_add, nI_clamp (by omega)]
      exact nm_e k
    · refine mx_has hO h hN (mk_bc (fun e => ?_) (fun e => ?_))
      · have g := ih (t + 1) (by omega) (by omega)
        have e1 : mk_s (fun t => if O t = true then (mk_w wt u t : Int) else 0) (t + 1) = mk_s (fun t => if O t = true then (mk_w wt u t : Int) else 0) t := by
          show _ + (if O t = true then _ else 0) = _
          rw [if_neg (by rw [e]; decide), Int.add_zero]
        rw [e1] at g
        exact nm_r (nI_1 t) g
      · have hw := mk_W_le hW hu h
        have g := ih (t + 1) (by omega) (by omega)
        have e1 : mk_s (fun t => if O t = true then (mk_w wt u t : Int) else 0) (t + 1) = mk_s (fun t => if O t = true then (mk_w wt u t : Int) else 0) t + (mk_w wt u t : Int) := by
          show _ + (if O t = true then _ else 0) = _
          rw [if_pos e]
        rw [e1] at g
        refine ⟨pk_in (u * 12 + t) 144 (by omega) (mk_i12 u t), ?_⟩
        rw [mk_i12, nI_clamp (by omega), (hW u hu).1 t h, mk_z_i (by omega), mk_z_add]
        exact nm_e (nm_r (nI_1 t) g)
theorem mx_fr1 {post : St2 → Prop} {x3 : Int32} {U O : Nat → Bool} {m r : Nat} (hN : N ≤ 12) (hW : mk_W wt N) (em : mk_cn U N = m) (hm : m ≤ 10) (hr : r < m) (hO : mk_bs N x3 O) (hun : ∀ s, s < N → U s = true → un (mk_cn U s) = nI s) (k : ∀ q : Nat → Int64, (∀ c, c ≤ m → q (r * 13 + c) = mk_z (mk_A (mk_w wt) N O (mk_id U N) m r c)) → (∀ j, (∀ c, c ≤ m → j ≠ r * 13 + c) → q j = mx j) → post ((nI N), nd, vl, wt, lb, kd, fi, se, bo, tn, td, tr, vn, vd, pa, np, un, q)) : ∀ (n c : Nat) (q : Nat → Int64), c ≤ m → m < n + c → (∀ c', c' < c → q (r * 13 + c') = mk_z (-(mk_w wt (mk_id U N r) (mk_id U N c') : Int))) → (∀ j, (∀ c, c ≤ m → j ≠ r * 13 + c) → q j = mx j) → (wX_fillRow_17 post (nI r) (nI m) x3 (nI (r * 13)) (nI (mk_id U N r)) (nI N) nd vl n (nI c) wt lb kd fi se bo tn td tr vn vd pa np un q) := by
  obtain ⟨_, hu, _, _⟩ := mk_idx hun (show r < mk_cn U N by omega)
  intro n
  induction n with
  | zero => intro c q h1 h2; omega
  | succ n ih =>
    intro c q h1 h2 hq hj
    refine pk_le m c (fun h => ?_) (fun h => ?_)
    · obtain rfl : c = m := by omega
      have hrr : vp_in (nI (r * 13) + nI r) 156 := pk_in (r * 13 + r) 156 (by omega) (nI_add _ _)
      have h4 := (hW _ hu).2
      refine ⟨hrr, mx_rowTotal hN hW hu ⟨hrr, ?_⟩⟩
      rw [nI_add, nI_clamp (by omega), hq r hr, mk_z_i (by omega), mk_z_add]
      refine nm_e ⟨N + 1, mx_fr2 hN hW (by omega) hr hu hO ?_ (N + 1) 0 (by omega) (by omega)⟩
      apply k
      · intro c' hc'
        by_cases e : c' = c
        · rw [e, pk_uLs, mk_A_m]
        · rw [pk_uLn (by omega), mk_A_c (by omega)]
          by_cases e2 : c' = r
          · rw [e2, pk_uLs, if_pos rfl, mk_t_int]; congr 1; omega
          · rw [pk_uLn (by omega), hq c' (by omega), if_neg e2]; congr 1; omega
      · intro j hjj
        rw [pk_uLn (hjj c (Nat.le_refl c)), pk_uLn (hjj r (by omega))]
        exact hj j hjj
    · obtain ⟨e1, hv, _, _⟩ := mk_idx hun (show c < mk_cn U N by omega)
      have hw := mk_W_le hW hu hv
      refine ⟨pk_in c 12 (by omega), ?_⟩
      rw [nI_clamp (show c < 2 ^ 31 by omega), e1]
      refine ⟨pk_in (mk_id U N r * 12 + mk_id U N c) 144 (by omega) (mk_i12 _ _), pk_in (r * 13 + c) 156 (by omega) (nI_add _ _), ?_⟩
      rw [mk_i12, nI_clamp (by omega), (hW _ hu).1 _ hv, mk_negw _ (by omega), nI_add, nI_clamp (by omega)]
      refine nm_e (nm_r (nI_1 c) (ih (c + 1) _ (by omega) (by omega) ?_ ?_))
      · intro c' hc'
        by_cases e : c' = c
        · rw [e, pk_uLs]
        · rw [pk_uLn (by omega)]; exact hq c' (by omega)
      · intro j hjj
        rw [pk_uLn (hjj c (by omega))]
        exact hj j hjj
theorem mx_fr {post : St2 → Prop} {x3 : Int32} {U O : Nat → Bool} {m r : Nat} (hN : N ≤ 12) (hW : mk_W wt N) (em : mk_cn U N = m) (hm : m ≤ 10) (hr : r < m) (hO : mk_bs N x3 O) (hun : ∀ s, s < N → U s = true → un (mk_cn U s) = nI s) (k : ∀ q : Nat → Int64, (∀ c, c ≤ m → q (r * 13 + c) = mk_z (mk_A (mk_w wt) N O (mk_id U N) m r c)) → (∀ j, (∀ c, c ≤ m → j ≠ r * 13 + c) → q j = mx j) → post ((nI N), nd, vl, wt, lb, kd, fi, se, bo, tn, td, tr, vn, vd, pa, np, un, q)) : (wpX_fillRow post ((nI N), nd, vl, wt, lb, kd, fi, se, bo, tn, td, tr, vn, vd, pa, np, un, mx) (nI r) (nI m) x3) := by
  unfold wpX_fillRow
  obtain ⟨e1, hu, _, _⟩ := mk_idx hun (show r < mk_cn U N by omega)
  refine nm_r (mk_m13 r) ⟨pk_in r 12 (by omega), nm_r (e' := nI (mk_id U N r)) (by rw [nI_clamp (by omega), e1]) ?_⟩
  exact ⟨m + 1, mx_fr1 hN hW em hm hr hO hun k (m + 1) 0 mx (by omega) (by omega) (fun t ht => by omega) (fun _ _ => rfl)⟩
theorem mx_ce_l {post : St2 → Prop} {A : Nat → Nat → Int} {m r p : Nat} (H : mk_H A m) (hp : p < m) (hr : r < m) (hne : r ≠ p) (hP : ∀ c, c ≤ m → mx (p * 13 + c) = mk_z (mk_E A p p c)) (k : ∀ q : Nat → Int64, (∀ c, c ≤ m → q (r * 13 + c) = mk_z (mk_E A (p + 1) r c)) → (∀ j, (∀ c, c ≤ m → j ≠ r * 13 + c) → q j = mx j) → post ((nI N), nd, vl, wt, lb, kd, fi, se, bo, tn, td, tr, vn, vd, pa, np, un, q)) : ∀ (n c : Nat) (q : Nat → Int64), c ≤ m + 1 → m + 1 < n + c → (∀ c', c' < c → q (r * 13 + c') = mk_z (mk_E A (p + 1) r c')) → (∀ c', c ≤ c' → c' ≤ m → q (r * 13 + c') = mk_z (mk_E A p r c')) → (∀ j, (∀ c, c ≤ m → j ≠ r * 13 + c) → q j = mx j) → (wX_clearEntry_34 post (nI m) (mk_z (mk_d (p + 1) A)) (mk_z (mk_d p A)) (nI (r * 13)) (nI (p * 13)) (mk_z (mk_E A p r p)) (nI N) nd vl n (nI c) wt lb kd fi se bo tn td tr vn vd pa np un q) := by
  have h10 := H.1
  intro n
  induction n with
  | zero => intro c q h1 h2; omega
  | succ n ih =>
    intro c q h1 h2 hq hq2 hj
    refine pk_lt m c (fun h => ?_) (fun h => ?_)
    · obtain rfl : c = m + 1 := by omega
      exact k q (fun c' hc' => hq c' (by omega)) hj
    · have b1 := mk_H_dB H (k := p + 1) (by omega) (by omega)
      have b2 := mk_H_B H (k := p) (i := r) (j := c) (by omega) hr (by omega)
      have b3 := mk_H_B H (k := p) (i := r) (j := p) (by omega) hr (by omega)
      have b4 := mk_H_B H (k := p) (i := p) (j := c) (by omega) hp (by omega)
      have b5 := mk_H_dB H (k := p) (by omega) (by omega)
      have d0 := mk_H_d H (k := p) (by omega)
      have m1 := mk_mulN b1 b2
      have m2 := mk_mulN b3 b4
      have st := mk_H_step H hp hne c
      refine ⟨pk_in (r * 13 + c) 156 (by omega) (nI_add _ _), pk_in (p * 13 + c) 156 (by omega) (nI_add _ _), ?_⟩
      rw [nI_add, nI_add, nI_clamp (show r * 13 + c < 2 ^ 31 by omega), nI_clamp (show p * 13 + c < 2 ^ 31 by omega), hq2 c (Nat.le_refl c) h, hj (p * 13 + c) (fun c' hc' => by omega), hP c h, mk_z_mul, mk_z_mul, mk_z_sub]
      refine nm_e ⟨fun z => ?_, pk_in (r * 13 + c) 156 (by omega), ?_⟩
      · have := (mk_z_eq0 (by omega) (by omega)).mp z
        omega
      · rw [mk_z_dvd (c := mk_E A (p + 1) r c) (by omega) (by omega) (by omega) (by omega) (by omega) st.symm]
        refine nm_e (nm_r (nI_1 c) (ih (c + 1) _ (by omega) (by omega) ?_ ?_ ?_))
        · intro c' hc'
          by_cases e : c' = c
          · rw [e, pk_uLs]
          · rw [pk_uLn (by omega)]; exact hq c' (by omega)
        · intro c' hc1 hc2
          rw [pk_uLn (by omega)]; exact hq2 c' (by omega) hc2
        · intro j hjj
          rw [pk_uLn (hjj c h)]; exact hj j hjj
theorem mx_ce {post : St2 → Prop} {A : Nat → Nat → Int} {m r p : Nat} (H : mk_H A m) (hp : p < m) (hr : r < m) (hne : r ≠ p) (hP : ∀ c, c ≤ m → mx (p * 13 + c) = mk_z (mk_E A p p c)) (hR : ∀ c, c ≤ m → mx (r * 13 + c) = mk_z (mk_E A p r c)) (k : ∀ q : Nat → Int64, (∀ c, c ≤ m → q (r * 13 + c) = mk_z (mk_E A (p + 1) r c)) → (∀ j, (∀ c, c ≤ m → j ≠ r * 13 + c) → q j = mx j) → post ((nI N), nd, vl, wt, lb, kd, fi, se, bo, tn, td, tr, vn, vd, pa, np, un, q)) : (wpX_clearEntry post ((nI N), nd, vl, wt, lb, kd, fi, se, bo, tn, td, tr, vn, vd, pa, np, un, mx) (nI r) (nI p) (nI m) (mk_z (mk_d (p + 1) A)) (mk_z (mk_d p A))) := by
  unfold wpX_clearEntry
  have h10 := H.1
  have b5 := mk_H_dB H (k := p) (by omega) (by omega)
  have d0 := mk_H_d H (k := p) (by omega)
  refine br_f (fun z => ?_) ?_
  · have := (mk_z_eq0 (by omega) (by omega)).mp z
    omega
  · refine nm_r (mk_m13 r) (nm_r (mk_m13 p) ⟨pk_in (r * 13 + p) 156 (by omega) (nI_add _ _), ?_⟩)
    rw [nI_add, nI_clamp (by omega), hR p (by omega)]
    exact nm_e ⟨m + 2, mx_ce_l H hp hr hne hP k (m + 2) 0 mx (by omega) (by omega) (fun t ht => by omega) (fun c' _ hc => hR c' hc) (fun _ _ => rfl)⟩
def mk_St (A : Nat → Nat → Int) (m k r : Nat) (q : Nat → Int64) : Prop := ∀ i c, i < m → c ≤ m → q (i * 13 + c) = mk_z (mk_E A (if i < r then k + 1 else k) i c)
theorem mk_St_put {A : Nat → Nat → Int} {m k r : Nat} {q q' : Nat → Int64} (hm : m ≤ 10) (h : mk_St A m k r q) (h1 : ∀ c, c ≤ m → q' (r * 13 + c) = mk_z (mk_E A (k + 1) r c)) (h2 : ∀ j, (∀ c, c ≤ m → j ≠ r * 13 + c) → q' j = q j) : mk_St A m k (r + 1) q' := by
  intro i c hi hc
  by_cases e : i = r
  · rw [e, if_pos (Nat.lt_succ_self r)]; exact h1 c hc
  · rw [h2 _ (fun c' hc' => by omega), h i c hi hc]
    by_cases g : i < r
    · rw [if_pos g, if_pos (show i < r + 1 by omega)]
    · rw [if_neg g, if_neg (show ¬ i < r + 1 by omega)]
theorem mx_el2 {post : St2 → Prop} {J : (Int64 → Int32 → Int32 → Int32 → Int32 → (Nat → Int32) → (Nat → Int32) → (Nat → Int32) → (Nat → Int32) → (Nat → Int32) → (Nat → Int32) → (Nat → Int32) → (Nat → Int32) → (Nat → Int32) → (Nat → Int64) → (Nat → Int64) → (Nat → Int64) → (Nat → Int64) → (Nat → Int32) → (Nat → Int64) → Prop)} {A : Nat → Nat → Int} {m p : Nat} (H : mk_H A m) (hp : p < m) (k : ∀ q : Nat → Int64, mk_St A m p m q → (J (mk_z (mk_d (p + 1) A)) (nI p + 1) (nI N) nd vl wt lb kd fi se bo tn td tr vn vd pa np un q)) : ∀ (n r : Nat) (q : Nat → Int64), r ≤ m → m < n + r → mk_St A m p r q → (wX_eliminate_29 post J (nI m) (mk_z (mk_d p A)) (nI p) (mk_z (mk_d (p + 1) A)) n (nI r) (nI N) nd vl wt lb kd fi se bo tn td tr vn vd pa np un q) := by
  have h10 := H.1
  intro n
  induction n with
  | zero => intro r q h1 h2; omega
  | succ n ih =>
    intro r q h1 h2 hq
    refine pk_le m r (fun h => ?_) (fun h => ?_)
    · obtain rfl : r = m := by omega
      exact nm_e (k q hq)
    · refine pk_eq r p (fun e => ?_) (fun e => ?_)
      · refine nm_r (nI_1 r) (ih (r + 1) q (by omega) (by omega) (mk_St_put h10 hq ?_ (fun _ _ => rfl)))
        intro c hc
        rw [hq r c h hc, if_neg (Nat.lt_irrefl r), e, mk_E_piv]
      · refine mx_ce (mx := q) H hp h e (fun c hc => ?_) (fun c hc => ?_) (fun q' a b => ?_)
        · rw [hq p c hp hc]
          by_cases g : p < r
          · rw [if_pos g, mk_E_piv]
          · rw [if_neg g]
        · rw [hq r c h hc, if_neg (Nat.lt_irrefl r)]
        · exact nm_r (nI_1 r) (ih (r + 1) q' (by omega) (by omega) (mk_St_put h10 hq a b))
theorem mx_el1 {post : St2 → Prop} {A : Nat → Nat → Int} {m : Nat} (H : mk_H A m) (k : ∀ q : Nat → Int64, mk_St A m m 0 q → post ((nI N), nd, vl, wt, lb, kd, fi, se, bo, tn, td, tr, vn, vd, pa, np, un, q)) : ∀ (n p : Nat) (q : Nat → Int64), p ≤ m → m < n + p → mk_St A m p 0 q → (wX_eliminate_5 post (nI m) n (mk_z (mk_d p A)) (nI p) (nI N) nd vl wt lb kd fi se bo tn td tr vn vd pa np un q) := by
  have h10 := H.1
  intro n
  induction n with
  | zero => intro p q h1 h2; omega
  | succ n ih =>
    intro p q h1 h2 hq
    refine pk_le m p (fun h => ?_) (fun h => ?_)
    · obtain rfl : p = m := by omega
      exact k q hq
    · refine ⟨pk_in (p * 13 + p) 156 (by omega) (mk_i13 p p), nm_r (e' := mk_z (mk_d (p + 1) A)) ?_ ?_⟩
      · rw [mk_i13, nI_clamp (by omega), hq p p h (by omega), if_neg (Nat.not_lt_zero p), mk_E_kk]
      · refine ⟨m + 1, mx_el2 H h (fun q' hq' => ?_) (m + 1) 0 q (by omega) (by omega) hq⟩
        rw [nI_1]
        refine ih (p + 1) q' (by omega) (by omega) (fun i c hi hc => ?_)
        rw [hq' i c hi hc, if_pos hi, if_neg (Nat.not_lt_zero i)]
theorem mx_el {post : St2 → Prop} {A : Nat → Nat → Int} {m : Nat} (H : mk_H A m) (h : ∀ i c, i < m → c ≤ m → mx (i * 13 + c) = mk_z (A i c)) (k : ∀ q : Nat → Int64, (∀ i c, i < m → c ≤ m → q (i * 13 + c) = mk_z (mk_E A m i c)) → post ((nI N), nd, vl, wt, lb, kd, fi, se, bo, tn, td, tr, vn, vd, pa, np, un, q)) : (wpX_eliminate post ((nI N), nd, vl, wt, lb, kd, fi, se, bo, tn, td, tr, vn, vd, pa, np, un, mx) (nI m)) := by
  refine ⟨m + 1, mx_el1 H (fun q hq => k q (fun i c hi hc => ?_)) (m + 1) 0 mx (by omega) (by omega) (fun i c hi hc => ?_)⟩
  · have := hq i c hi hc
    rw [if_neg (Nat.not_lt_zero i)] at this
    exact this
  · rw [if_neg (Nat.not_lt_zero i), mk_E_0]; exact h i c hi hc
end
end
section
/-! the component: the unbounded until -/
def mk_vn (A : Nat → Nat → Int) (m r : Nat) : Int64 := lN ((mk_E A m r m).natAbs / Nat.gcd (mk_E A m r m).natAbs (mk_E A m r r).natAbs)
def mk_vm (A : Nat → Nat → Int) (m r : Nat) : Int64 := lN ((mk_E A m r r).natAbs / Nat.gcd (mk_E A m r m).natAbs (mk_E A m r r).natAbs)
/-- the values after r rows -/
def mk_F (U O : Nat → Bool) (A : Nat → Nat → Int) (m r s : Nat) : Int64 := if U s = true ∧ mk_cn U s < r then mk_vn A m (mk_cn U s) else if O s = true then 1 else 0
def mk_G (U : Nat → Bool) (A : Nat → Nat → Int) (m r s : Nat) : Int64 := if U s = true ∧ mk_cn U s < r then mk_vm A m (mk_cn U s) else 1
def mk_un (wt : Nat → Int32) (N : Nat) (phi psi : Nat → Bool) : Nat → Int64 := mk_F (mk_U (mk_w wt) N phi psi) (mk_O (mk_w wt) N phi psi) (mk_M wt N phi psi) (mk_cn (mk_U (mk_w wt) N phi psi) N) (mk_cn (mk_U (mk_w wt) N phi psi) N)
def mk_um (wt : Nat → Int32) (N : Nat) (phi psi : Nat → Bool) : Nat → Int64 := mk_G (mk_U (mk_w wt) N phi psi) (mk_M wt N phi psi) (mk_cn (mk_U (mk_w wt) N phi psi) N) (mk_cn (mk_U (mk_w wt) N phi psi) N)
theorem mk_FG {U : Nat → Bool} {N r : Nat} (hr : r < mk_cn U N) {α : Type} (f : Nat → α) (g : Nat → α) (s : Nat) (hs : s < N) : (if s = mk_id U N r then f r else if U s = true ∧ mk_cn U s < r then f (mk_cn U s) else g s) = if U s = true ∧ mk_cn U s < r + 1 then f (mk_cn U s) else g s := by
  obtain ⟨a, b, c⟩ := mk_L_idx (mk_id_L U N) hr
  by_cases e : s = mk_id U N r
  · rw [if_pos e, e, c, if_pos ⟨b, Nat.lt_succ_self r⟩]
  · rw [if_neg e]
    by_cases h : U s = true ∧ mk_cn U s < r
    · rw [if_pos h, if_pos ⟨h.1, by omega⟩]
    · rw [if_neg h, if_neg]
      intro z
      have h2 : mk_cn U s = r := by
        by_cases g : mk_cn U s < r
        · exact absurd ⟨z.1, g⟩ h
        · omega
      have h3 := mk_id_L U N s hs z.1
      rw [h2] at h3
      exact e h3.symm
section
variable {N : Nat} {nd vl : Int32} {wt lb kd fi se bo tn td tr un : Nat → Int32} {vn vd pa np mx : Nat → Int64}
theorem mx_eu3 {post : St2 → Prop} {i m : Nat} {U O : Nat → Bool} {A : Nat → Nat → Int} {vn0 vd0 : Nat → Int64} (hN : N ≤ 12) (hi : i < 16) (H : mk_H A m) (em : mk_cn U N = m) (hun : ∀ s, s < N → U s = true → un (mk_cn U s) = nI s) (hmx : ∀ r c, r < m → c ≤ m → mx (r * 13 + c) = mk_z (mk_E A m r c)) (k : ∀ q q' : Nat → Int64, mk_cell N i vn0 q (mk_F U O A m m) → mk_cell N i vd0 q' (mk_G U A m m) → post ((nI N), nd, vl, wt, lb, kd, fi, se, bo, tn, td, tr, q, q', pa, np, un, mx)) : ∀ (n r : Nat) (q q' : Nat → Int64), r ≤ m → m < n + r → mk_cell N i vn0 q (mk_F U O A m r) → mk_cell N i vd0 q' (mk_G U A m r) → (wX_evaluateUnbounded_156 post (nI i) (nI m) n (nI r) (nI N) nd vl wt lb kd fi se bo tn td tr q q' pa np un mx) := by
  have h10 := H.1
  intro n
  induction n with
  | zero => intro r q q' h1 h2; omega
  | succ n ih =>
    intro r q q' h1 h2 hq hq'
    refine pk_le m r (fun h => ?_) (fun h => ?_)
    · obtain rfl : r = m := by omega
      exact k q q' hq hq'
    · have hrU : r < mk_cn U N := by omega
      obtain ⟨e1, hs, _, _⟩ := mk_idx hun hrU
      have p1 := mk_H_rhs H (k := m) (Nat.le_refl m) h
      have p2 := mk_H_own H (k := m) (Nat.le_refl m) h
      have b1 := mk_H_B H (k := m) (i := r) (j := m) (Nat.le_refl m) h (by omega)
      have b2 := mk_H_B H (k := m) (i := r) (j := r) (Nat.le_refl m) h (by omega)
      refine nm_r (mk_m13 r) ⟨pk_in r 12 (by omega), pk_in (r * 13 + m) 156 (by omega) (nI_add _ _), pk_in (r * 13 + r) 156 (by omega) (nI_add _ _), ?_⟩
      rw [nI_add, nI_add, nI_clamp (show r * 13 + m < 2 ^ 31 by omega), nI_clamp (show r * 13 + r < 2 ^ 31 by omega), nI_clamp (show r < 2 ^ 31 by omega), e1, hmx r m h (Nat.le_refl m), hmx r r h (by omega), mk_z_nat p1, mk_z_nat (Int.le_of_lt p2)]
      refine mx_store (vn := q) (vd := q') hi (by omega) (by omega) (by omega) (by omega) ?_
      refine nm_r (nI_1 r) (ih (r + 1) _ _ (by omega) (by omega) ?_ ?_)
      · exact mk_cell_congr (mk_cell_put hs hq) (fun s hs' => mk_FG hrU (mk_vn A m) (fun s => if O s = true then 1 else 0) s hs')
      · exact mk_cell_congr (mk_cell_put hs hq') (fun s hs' => mk_FG hrU (mk_vm A m) (fun _ => 1) s hs')
theorem mx_eu2 {post : St2 → Prop} {i m : Nat} {U O : Nat → Bool} {A : Nat → Nat → Int} {x7 : Int32} (hN : N ≤ 12) (hW : mk_W wt N) (hi : i < 16) (eA : A = mk_A (mk_w wt) N O (mk_id U N) m) (H : mk_H A m) (em : mk_cn U N = m) (hO : mk_bs N x7 O) (hun : ∀ s, s < N → U s = true → un (mk_cn U s) = nI s) {vn0 vd0 : Nat → Int64} (hq : mk_cell N i vn0 vn (mk_F U O A m 0)) (hq' : mk_cell N i vd0 vd (mk_G U A m 0)) (k : ∀ (q q' z : Nat → Int64), mk_cell N i vn0 q (mk_F U O A m m) → mk_cell N i vd0 q' (mk_G U A m m) → post ((nI N), nd, vl, wt, lb, kd, fi, se, bo, tn, td, tr, q, q', pa, np, un, z)) : ∀ (n r : Nat) (z : Nat → Int64), r ≤ m → m < n + r → (∀ i c, i < r → c ≤ m → z (i * 13 + c) = mk_z (A i c)) → (wX_evaluateUnbounded_124 post (nI i) x7 (nI m) n (nI r) (nI N) nd vl wt lb kd fi se bo tn td tr vn vd pa np un z) := by
  have h10 := H.1
  intro n
  induction n with
  | zero => intro r z h1 h2; omega
  | succ n ih =>
    intro r z h1 h2 hz
    refine pk_le m r (fun h => ?_) (fun h => ?_)
    · obtain rfl : r = m := by omega
      refine mx_el (mx := z) H hz (fun z' hz' => ?_)
      exact ⟨r + 1, mx_eu3 (mx := z') hN hi H em hun hz' (fun q q' a b => k q q' z' a b) (r + 1) 0 vn vd (by omega) (by omega) hq hq'⟩
    · refine mx_fr (mx := z) hN hW em h10 h hO hun (fun z' a b => ?_)
      refine nm_r (nI_1 r) (ih (r + 1) z' (by omega) (by omega) (fun i' c hi' hc => ?_))
      by_cases e : i' = r
      · rw [e, eA]; exact a c hc
      · rw [b _ (fun c' hc' => by omega)]; exact hz i' c (by omega) hc
theorem mx_eu1 {post : St2 → Prop} {i m : Nat} {U O : Nat → Bool} {A : Nat → Nat → Int} {x4 x6 x7 : Int32} (hN : N ≤ 12) (hW : mk_W wt N) (hi : i < 16) (eA : A = mk_A (mk_w wt) N O (mk_id U N) m) (H : mk_H A m) (em : mk_cn U N = m) (hO : mk_bs N x7 O) (hU : mk_bs N (x4 &&& x6) U) {vn0 vd0 : Nat → Int64} (k : ∀ (q q' z : Nat → Int64) (y : Nat → Int32), mk_cell N i vn0 q (mk_F U O A m m) → mk_cell N i vd0 q' (mk_G U A m m) → post ((nI N), nd, vl, wt, lb, kd, fi, se, bo, tn, td, tr, q, q', pa, np, y, z)) : ∀ (n s : Nat) (q q' : Nat → Int64), s ≤ N → N < n + s → mk_cell s i vn0 q (mk_F U O A m 0) → mk_cell s i vd0 q' (mk_G U A m 0) → (wX_evaluateUnbounded_68 post (nI i) x4 x6 x7 n (nI s) (nI N) nd vl wt lb kd fi se bo tn td tr q q' pa np un mx) := by
  intro n
  induction n with
  | zero => intro s q q' h1 h2; omega
  | succ n ih =>
    intro s q q' h1 h2 hq hq'
    have hF : ∀ s, mk_F U O A m 0 s = if O s = true then 1 else 0 := fun s => if_neg (fun z => by omega)
    have hG : ∀ s, mk_G U A m 0 s = 1 := fun s => if_neg (fun z => by omega)
    refine pk_le N s (fun h => ?_) (fun h => ?_)
    · obtain rfl : s = N := by omega
      refine mx_lu hN hU (fun y hy => ?_)
      rw [em]
      exact ⟨m + 1, mx_eu2 (vn := q) (vd := q') (un := y) hN hW hi eA H em hO hy hq hq' (fun a b c d e => k a b c y d e) (m + 1) 0 mx (by omega) (by omega) (fun _ _ z => by omega)⟩
    · refine mx_has hO h hN (mk_bc (fun e => ?_) (fun e => ?_))
      · refine mx_store (vn := q) (vd := q') (a := 0) (b := 1) hi (by omega) (by omega) (by omega) (by omega) ?_
        refine nm_r (nI_1 s) (ih (s + 1) _ _ (by omega) (by omega) ?_ ?_)
        · have g := mk_cell_s hq
          rw [hF s, e] at g; exact g
        · have g := mk_cell_s hq'
          rw [hG s] at g; exact g
      · refine mx_store (vn := q) (vd := q') (a := 1) (b := 1) hi (by omega) (by omega) (by omega) (by omega) ?_
        refine nm_r (nI_1 s) (ih (s + 1) _ _ (by omega) (by omega) ?_ ?_)
        · have g := mk_cell_s hq
          rw [hF s, e] at g; exact g
        · have g := mk_cell_s hq'
          rw [hG s] at g; exact g
theorem mx_eu {post : St2 → Prop} {i j l : Nat} (hN : N ≤ 12) (hW : mk_W wt N) (hi : i < 16) (hj : j < 16) (hl : l < 16) (hfi : fi i = nI j) (hse : se i = nI l) (h1 : mk_bs N (tr j) (bt (tr j))) (h2 : mk_bs N (tr l) (bt (tr l))) (k : ∀ (q q' z : Nat → Int64) (y : Nat → Int32), mk_cell N i vn q (mk_un wt N (bt (tr j)) (bt (tr l))) → mk_cell N i vd q' (mk_um wt N (bt (tr j)) (bt (tr l))) → post ((nI N), nd, vl, wt, lb, kd, fi, se, bo, tn, td, tr, q, q', pa, np, y, z)) : (wpX_evaluateUnbounded post ((nI N), nd, vl, wt, lb, kd, fi, se, bo, tn, td, tr, vn, vd, pa, np, un, mx) (nI i)) := by
  unfold wpX_evaluateUnbounded
  have hc : (nI i).toNatClampNeg = i := nI_clamp (by omega)
  have hpsi : ∀ s, bt (tr l) s = true → s < N := fun s hs => mk_bs_lt h2 hs
  refine ⟨pk_in i 16 hi, ?_⟩
  rw [hc, hfi]
  refine ⟨pk_in j 16 hj, nm_r (e' := tr j) (by rw [nI_clamp (by omega)]) ⟨pk_in i 16 hi, ?_⟩⟩
  rw [hse]
  refine ⟨pk_in l 16 hl, nm_r (e' := tr l) (by rw [nI_clamp (by omega)]) ?_⟩
  refine mx_sr hN hW h1 h2 (fun x4 h4 => ?_)
  refine mx_all ?_
  refine nm_e ?_
  have h5 := mk_bs_congr (mk_bs_diff (mk_bs_all (N := N) (by omega)) h4) (q := mk_Z (mk_w wt) N (bt (tr j)) (bt (tr l))) (fun s hs => by
    show (true && !mk_reach (mk_w wt) N (bt (tr j)) (bt (tr l)) N s) = (decide (s < N) && !mk_R1 (mk_w wt) N (bt (tr j)) (bt (tr l)) s)
    rw [decide_eq_true hs]; rfl)
  refine mx_sr hN hW (mk_bs_diff h1 h2) h5 (fun x6 h6 => ?_)
  refine nm_e ?_
  have h7 : mk_bs N (x4 &&& (x6 ^^^ (-1))) (mk_O (mk_w wt) N (bt (tr j)) (bt (tr l))) := mk_bs_diff h4 h6
  have h8 : mk_bs N (x4 &&& x6) (mk_U (mk_w wt) N (bt (tr j)) (bt (tr l))) := mk_bs_and h4 h6
  exact ⟨N + 1, mx_eu1 hN hW hi rfl (mk_M_H hW hN hpsi) rfl h7 h8 k (N + 1) 0 vn vd (by omega) (by omega) mk_cell_0 mk_cell_0⟩
end
end
section
/-! one node, and the chain of all nodes -/
def mk_Nd (kd fi se bo : Nat → Int32) (i : Nat) : Prop :=
  (kd i = 1 ∧ ∃ a, a ≤ 4 ∧ fi i = nI a) ∨ (kd i = 2 ∧ ∃ j, j < 16 ∧ fi i = nI j) ∨
  (kd i = 3 ∧ ∃ j l, j < 16 ∧ l < 16 ∧ fi i = nI j ∧ se i = nI l) ∨
  (kd i = 4 ∧ ∃ j l, j < 16 ∧ l < 16 ∧ fi i = nI j ∧ se i = nI l ∧ (bo i = -1 ∨ ∃ B, B ≤ 8 ∧ bo i = nI B)) ∨
  (kd i = 5 ∧ ∃ j, j < 16 ∧ fi i = nI j)
def mk_Ev (N : Nat) (wt lb kd fi se bo tn td : Nat → Int32) (i : Nat) (tr : Nat → Int32) (vn vd : Nat → Int64) (tr' : Nat → Int32) (vn' vd' : Nat → Int64) : Prop :=
  (kd i = 1 ∧ ∃ (a : Nat) (x : Int32), a ≤ 4 ∧ fi i = nI a ∧ mk_bs N x (mk_at lb a) ∧ tr' = upd tr i x ∧ vn' = vn ∧ vd' = vd) ∨
  (kd i = 2 ∧ ∃ (j : Nat) (x : Int32), j < 16 ∧ fi i = nI j ∧ mk_bs N x (fun s => !bt (tr j) s) ∧ tr' = upd tr i x ∧ vn' = vn ∧ vd' = vd) ∨
  (kd i = 3 ∧ ∃ (j l : Nat) (x : Int32), j < 16 ∧ l < 16 ∧ fi i = nI j ∧ se i = nI l ∧ mk_bs N x (fun s => bt (tr j) s && bt (tr l) s) ∧ tr' = upd tr i x ∧ vn' = vn ∧ vd' = vd) ∨
  (kd i = 4 ∧ ∃ (j l : Nat), j < 16 ∧ l < 16 ∧ fi i = nI j ∧ se i = nI l ∧ tr' = tr ∧
    ((bo i = -1 ∧ mk_cell N i vn vn' (mk_un wt N (bt (tr j)) (bt (tr l))) ∧ mk_cell N i vd vd' (mk_um wt N (bt (tr j)) (bt (tr l)))) ∨
     ∃ B, B ≤ 8 ∧ bo i = nI B ∧ mk_cell N i vn vn' (mk_bn (mk_w wt) N (bt (tr j)) (bt (tr l)) B) ∧ mk_cell N i vd vd' (mk_bm (mk_w wt) N (bt (tr j)) (bt (tr l)) B))) ∨
  (kd i = 5 ∧ ∃ (j : Nat) (x : Int32), j < 16 ∧ fi i = nI j ∧ mk_bs N x (mk_cq vn vd j (se i) (tn i) (td i)) ∧ tr' = upd tr i x ∧ vn' = vn ∧ vd' = vd)
def mk_Tb (N : Nat) (tr : Nat → Int32) : Prop := ∀ j, j < 16 → mk_bs N (tr j) (bt (tr j))
theorem mk_Tb_put {N : Nat} {tr : Nat → Int32} {i : Nat} {x : Int32} {p : Nat → Bool} (h : mk_Tb N tr) (hx : mk_bs N x p) : mk_Tb N (upd tr i x) := by
  intro j hj
  by_cases e : j = i
  · rw [e, pk_us]; exact mk_bs_self hx
  · rw [pk_un e]; exact h j hj
theorem mk_Ev_T {N : Nat} {wt lb kd fi se bo tn td : Nat → Int32} {i : Nat} {tr : Nat → Int32} {vn vd : Nat → Int64} {tr' : Nat → Int32} {vn' vd' : Nat → Int64} (h : mk_Ev N wt lb kd fi se bo tn td i tr vn vd tr' vn' vd') (ht : mk_Tb N tr) : mk_Tb N tr' := by
  rcases h with ⟨_, a, x, _, _, hx, e, _⟩ | ⟨_, a, x, _, _, hx, e, _⟩ | ⟨_, a, b, x, _, _, _, _, hx, e, _⟩ | ⟨_, a, b, _, _, _, _, e, _⟩ | ⟨_, a, x, _, _, hx, e, _⟩
  · rw [e]; exact mk_Tb_put ht hx
  · rw [e]; exact mk_Tb_put ht hx
  · rw [e]; exact mk_Tb_put ht hx
  · rw [e]; exact ht
  · rw [e]; exact mk_Tb_put ht hx
def mk_Ch (N : Nat) (wt lb kd fi se bo tn td : Nat → Int32) : Nat → Nat → (Nat → Int32) → (Nat → Int64) → (Nat → Int64) → (Nat → Int32) → (Nat → Int64) → (Nat → Int64) → Prop
  | 0 => fun _ tr vn vd tr' vn' vd' => tr' = tr ∧ vn' = vn ∧ vd' = vd
  | d + 1 => fun i tr vn vd tr' vn' vd' => ∃ (a : Nat → Int32) (b c : Nat → Int64), mk_Ev N wt lb kd fi se bo tn td i tr vn vd a b c ∧ mk_Ch N wt lb kd fi se bo tn td d (i + 1) a b c tr' vn' vd'
section
variable {N : Nat} {nd vl : Int32} {wt lb kd fi se bo tn td tr un : Nat → Int32} {vn vd pa np mx : Nat → Int64}
theorem mx_ev {post : St2 → Prop} {i : Nat} (hN : N ≤ 12) (hW : mk_W wt N) (hi : i < 16) (hn : mk_Nd kd fi se bo i) (ht : mk_Tb N tr) (k : ∀ (tr' un' : Nat → Int32) (vn' vd' pa' np' mx' : Nat → Int64), mk_Ev N wt lb kd fi se bo tn td i tr vn vd tr' vn' vd' → post ((nI N), nd, vl, wt, lb, kd, fi, se, bo, tn, td, tr', vn', vd', pa', np', un', mx')) : (wpX_evaluate post ((nI N), nd, vl, wt, lb, kd, fi, se, bo, tn, td, tr, vn, vd, pa, np, un, mx) (nI i)) := by
  unfold wpX_evaluate
  have hc : (nI i).toNatClampNeg = i := nI_clamp (by omega)
  have hin : vp_in (nI i) 16 := pk_in i 16 hi
  refine ⟨hin, ?_⟩
  rw [hc]
  refine nm_e ?_
  rcases hn with ⟨hk, a, ha, ef⟩ | ⟨hk, j, hj, ef⟩ | ⟨hk, j, l, hj, hl, ef, es⟩ | ⟨hk, j, l, hj, hl, ef, es, hb⟩ | ⟨hk, j, hj, ef⟩
  · refine br_t hk ⟨hin, ?_⟩
    rw [ef]
    refine mx_lab hN ha (fun x hx => ⟨hin, nm_e (k _ _ _ _ _ _ _ (Or.inl ⟨hk, a, x, ha, ef, hx, rfl, rfl, rfl⟩))⟩)
  · refine br_f (by rw [hk]; decide) (br_t hk ?_)
    refine mx_all ⟨hin, ?_⟩
    rw [ef]
    refine ⟨pk_in j 16 hj, hin, ?_⟩
    rw [nI_clamp (by omega)]
    refine nm_e (k _ _ _ _ _ _ _ (Or.inr (Or.inl ⟨hk, j, _, hj, ef, ?_, rfl, rfl, rfl⟩)))
    exact mk_bs_congr (mk_bs_diff (mk_bs_all (by omega)) (ht j hj)) (fun s _ => Bool.true_and _)
  · refine br_f (by rw [hk]; decide) (br_f (by rw [hk]; decide) (br_t hk ⟨hin, ?_⟩))
    rw [ef]
    refine ⟨pk_in j 16 hj, hin, ?_⟩
    rw [es]
    refine ⟨pk_in l 16 hl, hin, ?_⟩
    rw [nI_clamp (show j < 2 ^ 31 by omega), nI_clamp (show l < 2 ^ 31 by omega)]
    exact nm_e (k _ _ _ _ _ _ _ (Or.inr (Or.inr (Or.inl ⟨hk, j, l, _, hj, hl, ef, es, mk_bs_and (ht j hj) (ht l hl), rfl, rfl, rfl⟩))))
  · refine br_f (by rw [hk]; decide) (br_f (by rw [hk]; decide) (br_f (by rw [hk]; decide) (br_f (by rw [hk]; decide) ⟨hin, ?_⟩)))
    rcases hb with hb | ⟨B, hB, hb⟩
    · refine br_t hb (mx_eu hN hW hi hj hl ef es (ht j hj) (ht l hl) (fun q q' z y a b => ?_))
      exact k _ _ _ _ _ _ _ (Or.inr (Or.inr (Or.inr (Or.inl ⟨hk, j, l, hj, hl, ef, es, rfl, Or.inl ⟨hb, a, b⟩⟩))))
    · refine br_f (by rw [hb]; exact mk_nm1 B (by omega)) (mx_eb hN hW hi hj hl hB hb ef es (ht j hj) (ht l hl) (fun q q' p p' a b => ?_))
      exact k _ _ _ _ _ _ _ (Or.inr (Or.inr (Or.inr (Or.inl ⟨hk, j, l, hj, hl, ef, es, rfl, Or.inr ⟨B, hB, hb, a, b⟩⟩))))
  · refine br_f (by rw [hk]; decide) (br_f (by rw [hk]; decide) (br_f (by rw [hk]; decide) (br_t hk ?_)))
    refine mx_cmps hN hi hj ef (fun x hx => ⟨hin, ?_⟩)
    exact nm_e (k _ _ _ _ _ _ _ (Or.inr (Or.inr (Or.inr (Or.inr ⟨hk, j, x, hj, ef, hx, rfl, rfl, rfl⟩)))))
theorem mx_ck2 {post : Int32 → St2 → Prop} {C : Nat} (hN : N ≤ 12) (hW : mk_W wt N) (hC : C ≤ 16) (hn : ∀ i, i < C → mk_Nd kd fi se bo i) : ∀ (d n i : Nat) (tr un : Nat → Int32) (vn vd pa np mx : Nat → Int64), i + d = C → d < n → mk_Tb N tr → (∀ (tr' un' : Nat → Int32) (vn' vd' pa' np' mx' : Nat → Int64), mk_Ch N wt lb kd fi se bo tn td d i tr vn vd tr' vn' vd' → post 0 ((nI N), (nI C), 1, wt, lb, kd, fi, se, bo, tn, td, tr', vn', vd', pa', np', un', mx')) → (wX_check_29 post n (nI i) (nI N) (nI C) vl wt lb kd fi se bo tn td tr vn vd pa np un mx) := by
  intro d
  induction d with
  | zero =>
    intro n i tr un vn vd pa np mx h1 h2 ht k
    obtain ⟨n, rfl⟩ : ∃ m, n = m + 1 := ⟨n - 1, by omega⟩
    obtain rfl : i = C := by omega
    exact pk_le i i (fun _ => k tr un vn vd pa np mx ⟨rfl, rfl, rfl⟩) (fun h => absurd h (by omega))
  | succ d ih =>
    intro n i tr un vn vd pa np mx h1 h2 ht k
    obtain ⟨n, rfl⟩ : ∃ m, n = m + 1 := ⟨n - 1, by omega⟩
    refine pk_le C i (fun h => absurd h (by omega)) (fun h => ?_)
    refine mx_ev hN hW (by omega) (hn i h) ht (fun tr' un' vn' vd' pa' np' mx' he => ?_)
    refine nm_r (nI_1 i) (ih n (i + 1) tr' un' vn' vd' pa' np' mx' (by omega) (by omega) (mk_Ev_T he ht) ?_)
    intro tr2 un2 vn2 vd2 pa2 np2 mx2 hch
    exact k tr2 un2 vn2 vd2 pa2 np2 mx2 ⟨tr', vn', vd', he, hch⟩
theorem mx_ck1 {post : Int32 → St2 → Prop} {C : Nat} (hN : N ≤ 12) (hW : mk_W wt N) (hC : C ≤ 16) (hn : ∀ i, i < C → mk_Nd kd fi se bo i) (ht : mk_Tb N tr) (k0 : (∃ s, s < N ∧ mk_t (mk_w wt s) N = 0) → post (-3) ((nI N), (nI C), vl, wt, lb, kd, fi, se, bo, tn, td, tr, vn, vd, pa, np, un, mx)) (k : (∀ s, s < N → mk_t (mk_w wt s) N ≠ 0) → ∀ (tr' un' : Nat → Int32) (vn' vd' pa' np' mx' : Nat → Int64), mk_Ch N wt lb kd fi se bo tn td C 0 tr vn vd tr' vn' vd' → post 0 ((nI N), (nI C), 1, wt, lb, kd, fi, se, bo, tn, td, tr', vn', vd', pa', np', un', mx')) : ∀ n s : Nat, s ≤ N → N < n + s → (∀ t, t < s → mk_t (mk_w wt t) N ≠ 0) → (wX_check_2 post (nI N) (nI C) vl wt lb kd fi se bo tn td tr vn vd pa np un mx n (nI s)) := by
  intro n
  induction n with
  | zero => intro s h1 h2; omega
  | succ n ih =>
    intro s h1 h2 hs
    refine pk_le N s (fun h => ?_) (fun h => ?_)
    · obtain rfl : s = N := by omega
      exact ⟨C + 1, mx_ck2 hN hW hC hn C (C + 1) 0 tr un vn vd pa np mx (by omega) (by omega) ht (k hs)⟩
    · have h4 := (hW s h).2
      refine mx_rowTotal hN hW h ?_
      refine pk_eq (mk_t (mk_w wt s) N) 0 (fun e => k0 ⟨s, h, e⟩) (fun e => ?_)
      refine nm_r (nI_1 s) (ih (s + 1) (by omega) (by omega) (fun t ht => ?_))
      by_cases g : t = s
      · rw [g]; exact e
      · exact hs t (by omega)
theorem mx_ck {post : Int32 → St2 → Prop} {C : Nat} (hN : N ≤ 12) (hW : mk_W wt N) (hC : C ≤ 16) (hn : ∀ i, i < C → mk_Nd kd fi se bo i) (ht : mk_Tb N tr) (k0 : (∃ s, s < N ∧ mk_t (mk_w wt s) N = 0) → post (-3) ((nI N), (nI C), vl, wt, lb, kd, fi, se, bo, tn, td, tr, vn, vd, pa, np, un, mx)) (k : (∀ s, s < N → mk_t (mk_w wt s) N ≠ 0) → ∀ (tr' un' : Nat → Int32) (vn' vd' pa' np' mx' : Nat → Int64), mk_Ch N wt lb kd fi se bo tn td C 0 tr vn vd tr' vn' vd' → post 0 ((nI N), (nI C), 1, wt, lb, kd, fi, se, bo, tn, td, tr', vn', vd', pa', np', un', mx')) : (wpX_check post ((nI N), (nI C), vl, wt, lb, kd, fi, se, bo, tn, td, tr, vn, vd, pa, np, un, mx)) :=
  ⟨N + 1, mx_ck1 hN hW hC hn ht k0 k (N + 1) 0 (by omega) (by omega) (fun t h => by omega)⟩
end
end
section
/-! the component: ranges and kinds -/
section
variable {N C : Nat} {nd vl : Int32} {wt lb kd fi se bo tn td tr un : Nat → Int32} {vn vd pa np mx : Nat → Int64}
theorem mx_is_t {post : Int32 → Prop} {j : Nat} (hN : N ≤ 12) (hj : j < N) (k : post 1) : (wpX_isState post ((nI N), nd, vl, wt, lb, kd, fi, se, bo, tn, td, tr, vn, vd, pa, np, un, mx) (nI j)) := by
  unfold wpX_isState
  exact br_f (nI_pos (by omega)) (pk_le N j (fun h => absurd h (by omega)) (fun _ => k))
theorem mx_is_f {post : Int32 → Prop} {x : Int32} (h : x < 0 ∨ nI N ≤ x) (k : post 0) : (wpX_isState post ((nI N), nd, vl, wt, lb, kd, fi, se, bo, tn, td, tr, vn, vd, pa, np, un, mx) x) := by
  unfold wpX_isState
  by_cases h0 : x < 0
  · exact br_t h0 k
  · rcases h with h | h
    · exact absurd h h0
    · exact br_f h0 (br_t h k)
theorem mx_in_t {post : Int32 → Prop} {j : Nat} (hC : C ≤ 16) (hj : j < C) (k : post 1) : (wpX_isNode post ((nI N), (nI C), vl, wt, lb, kd, fi, se, bo, tn, td, tr, vn, vd, pa, np, un, mx) (nI j)) := by
  unfold wpX_isNode
  exact br_f (nI_pos (by omega)) (pk_le C j (fun h => absurd h (by omega)) (fun _ => k))
theorem mx_in_f {post : Int32 → Prop} {x : Int32} (h : x < 0 ∨ nI C ≤ x) (k : post 0) : (wpX_isNode post ((nI N), (nI C), vl, wt, lb, kd, fi, se, bo, tn, td, tr, vn, vd, pa, np, un, mx) x) := by
  unfold wpX_isNode
  by_cases h0 : x < 0
  · exact br_t h0 k
  · rcases h with h | h
    · exact absurd h h0
    · exact br_f h0 (br_t h k)
theorem mx_sn_t {post : Int32 → Prop} {j : Nat} (hC : C ≤ 16) (hj : j < C) (hk : ¬ kd j = 4) (k : post 1) : (wpX_isStateNode post ((nI N), (nI C), vl, wt, lb, kd, fi, se, bo, tn, td, tr, vn, vd, pa, np, un, mx) (nI j)) := by
  unfold wpX_isStateNode
  refine mx_in_t hC hj (br_f (by decide) ⟨pk_in j 16 (by omega), ?_⟩)
  rw [nI_clamp (by omega)]
  exact br_f hk k
theorem mx_sn_f {post : Int32 → Prop} {x : Int32} (hC : C ≤ 16) (h : x < 0 ∨ nI C ≤ x ∨ ∃ j, j < C ∧ x = nI j ∧ kd j = 4) (k : post 0) : (wpX_isStateNode post ((nI N), (nI C), vl, wt, lb, kd, fi, se, bo, tn, td, tr, vn, vd, pa, np, un, mx) x) := by
  unfold wpX_isStateNode
  rcases h with h | h | ⟨j, hj, rfl, h⟩
  · exact mx_in_f (Or.inl h) (br_t rfl k)
  · exact mx_in_f (Or.inr h) (br_t rfl k)
  · refine mx_in_t hC hj (br_f (by decide) ⟨pk_in j 16 (by omega), ?_⟩)
    rw [nI_clamp (by omega)]
    exact br_t h k
theorem mx_un_t {post : Int32 → Prop} {j : Nat} (hC : C ≤ 16) (hj : j < C) (hk : kd j = 4) (k : post 1) : (wpX_isUntilNode post ((nI N), (nI C), vl, wt, lb, kd, fi, se, bo, tn, td, tr, vn, vd, pa, np, un, mx) (nI j)) := by
  unfold wpX_isUntilNode
  refine mx_in_t hC hj (br_f (by decide) ⟨pk_in j 16 (by omega), ?_⟩)
  rw [nI_clamp (by omega)]
  exact br_t hk k
theorem mx_un_f {post : Int32 → Prop} {x : Int32} (hC : C ≤ 16) (h : x < 0 ∨ nI C ≤ x ∨ ∃ j, j < C ∧ x = nI j ∧ ¬ kd j = 4) (k : post 0) : (wpX_isUntilNode post ((nI N), (nI C), vl, wt, lb, kd, fi, se, bo, tn, td, tr, vn, vd, pa, np, un, mx) x) := by
  unfold wpX_isUntilNode
  rcases h with h | h | ⟨j, hj, rfl, h⟩
  · exact mx_in_f (Or.inl h) (br_t rfl k)
  · exact mx_in_f (Or.inr h) (br_t rfl k)
  · refine mx_in_t hC hj (br_f (by decide) ⟨pk_in j 16 (by omega), ?_⟩)
    rw [nI_clamp (by omega)]
    exact br_f h k
end
section
variable {N C : Nat} {nd vl : Int32} {wt lb kd fi se bo tn td tr un : Nat → Int32} {vn vd pa np mx : Nat → Int64}
theorem mx_app {post : Int32 → St2 → Prop} {x y z : Int32} (hC : C < 16) (k : post (nI C) ((nI N), (nI (C + 1)), 0, wt, lb, (upd kd C x), (upd fi C y), (upd se C z), bo, tn, td, tr, vn, vd, pa, np, un, mx)) : (wpX_append post ((nI N), (nI C), vl, wt, lb, kd, fi, se, bo, tn, td, tr, vn, vd, pa, np, un, mx) x y z) := by
  unfold wpX_append
  have hin : vp_in (nI C) 16 := pk_in C 16 hC
  refine ⟨hin, ?_⟩
  rw [nI_clamp (by omega)]
  exact nm_e ⟨hin, nm_e ⟨hin, nm_e (nm_r (nI_1 C) k)⟩⟩
end
end
section
/-! Cramer; the values lie between 0 and 1; all over one denominator -/
theorem mk_AT (A : Nat → Nat → Int) (m r j : Nat) : mk_s (fun l => mk_s (fun c => A r c * mk_T A m c l) m * A l j) m = mk_s (fun c => A r c * mk_E A m c j) m := by
  have h1 : mk_s (fun l => mk_s (fun c => A r c * mk_T A m c l) m * A l j) m = mk_s (fun l => mk_s (fun c => A r c * (mk_T A m c l * A l j)) m) m := by
    apply mk_s_congr
    intro l _
    show mk_s (fun c => A r c * mk_T A m c l) m * A l j = mk_s (fun c => A r c * (mk_T A m c l * A l j)) m
    rw [Int.mul_comm, ← mk_s_mul]
    exact mk_s_congr m (fun c _ => by grind)
  rw [h1, mk_s_comm]
  apply mk_s_congr
  intro c hc
  show mk_s (fun l => A r c * (mk_T A m c l * A l j)) m = A r c * mk_E A m c j
  rw [mk_s_mul, mk_E_comb, if_pos hc, Int.add_zero]
theorem mk_cramer (A : Nat → Nat → Int) {m r : Nat} (hd : ∀ l, l ≤ m → mk_d l A ≠ 0) (hr : r < m) (b : Nat) : mk_s (fun c => A r c * mk_E A m c b) m = mk_d m A * A r b := by
  have h2 : ∀ j, mk_s (fun l => (if l = r then mk_d m A else 0) * A l j) m = mk_d m A * A r j := by
    intro j
    rw [mk_s_one (p := r) (N := m) (fun c _ e => by rw [if_neg e, Int.zero_mul]) m (Nat.le_refl m), if_pos hr, if_pos rfl]
  have key := mk_uni A m hd (fun l => mk_s (fun c => A r c * mk_T A m c l) m - (if l = r then mk_d m A else 0)) (by
    intro j hj
    have h1 : mk_s (fun l => (mk_s (fun c => A r c * mk_T A m c l) m - (if l = r then mk_d m A else 0)) * A l j) m = 1 * mk_s (fun l => mk_s (fun c => A r c * mk_T A m c l) m * A l j) m + (-1) * mk_s (fun l => (if l = r then mk_d m A else 0) * A l j) m := by
      rw [← mk_s_lin]
      exact mk_s_congr m (fun l _ => by grind)
    have h3 : mk_s (fun c => A r c * mk_E A m c j) m = A r j * mk_d m A := by
      rw [mk_s_one (p := j) (N := m) (fun c _ e => by rw [mk_E_lo A hj, if_neg e, Int.mul_zero]) m (Nat.le_refl m), if_pos hj, mk_E_lo A hj, if_pos rfl]
    rw [h1, h2, mk_AT, h3]
    grind)
  have h5 : mk_s (fun l => mk_s (fun c => A r c * mk_T A m c l) m * A l b) m = mk_s (fun l => (if l = r then mk_d m A else 0) * A l b) m := by
    apply mk_s_congr
    intro l hl
    rw [Int.sub_eq_zero.mp (key l hl)]
  rw [← mk_AT, h5, h2]
theorem mk_top {A : Nat → Nat → Int} {ρ : Nat → Nat} {m : Nat} (h0 : ∀ i, i < m → mk_Row A ρ m 0 i) (ht : ∀ i, i < m → A i m ≤ mk_s (A i) m) (k : Nat) : k ≤ m → ∀ i, i < m → mk_E A k i m ≤ mk_s (mk_E A k i) m := by
  induction k with
  | zero =>
    intro _ i hi
    have hE : mk_E A 0 i = A i := funext (fun j => mk_E_0 A i j)
    rw [hE]; exact ht i hi
  | succ k ih =>
    intro hk i hi
    have hkm : k < m := by omega
    have h1 := ih (by omega)
    obtain ⟨hd, hr⟩ := mk_sgn h0 k (by omega)
    obtain ⟨hd', _⟩ := mk_sgn h0 (k + 1) hk
    by_cases e : i = k
    · subst e
      have hE : mk_E A (i + 1) i = mk_E A i i := funext (fun j => mk_E_piv A i j)
      rw [hE]; exact h1 i hi
    · have hD : 0 < mk_d k A := hd k (Nat.le_refl k)
      have hp : 0 < mk_d (k + 1) A := hd' (k + 1) (Nat.le_refl _)
      have hstep := mk_step A (k := k) (i := i) (fun l hl => by have := hd' l hl; omega) e
      have hik : mk_E A k i k ≤ 0 := (hr i hi).1 k hkm (Ne.symm e)
      have hsum : mk_d k A * mk_s (mk_E A (k + 1) i) m = mk_d (k + 1) A * mk_s (mk_E A k i) m - mk_E A k i k * mk_s (mk_E A k k) m := by
        have g1 : mk_d k A * mk_s (mk_E A (k + 1) i) m = mk_s (fun j => mk_d k A * mk_E A (k + 1) i j) m := (mk_s_mul _ _ m).symm
        have g2 : mk_s (fun j => mk_d k A * mk_E A (k + 1) i j) m = mk_s (fun j => mk_d (k + 1) A * mk_E A k i j + (- mk_E A k i k) * mk_E A k k j) m :=
          mk_s_congr m (fun j _ => by rw [hstep j]; grind)
        rw [g1, g2, mk_s_lin]; grind
      have q1 := h1 i hi
      have q2 := h1 k hkm
      have g3 : mk_d k A * (mk_s (mk_E A (k + 1) i) m - mk_E A (k + 1) i m) = mk_d (k + 1) A * (mk_s (mk_E A k i) m - mk_E A k i m) - mk_E A k i k * (mk_s (mk_E A k k) m - mk_E A k k m) := by
        have := hstep m
        rw [Int.mul_sub, hsum, this]; grind
      have g4 : 0 ≤ mk_s (mk_E A (k + 1) i) m - mk_E A (k + 1) i m := by
        apply mk_nn hD
        rw [g3]
        have a1 := Int.mul_nonneg (Int.le_of_lt hp) (show 0 ≤ mk_s (mk_E A k i) m - mk_E A k i m by omega)
        have a2 := mk_qn hik (show 0 ≤ mk_s (mk_E A k k) m - mk_E A k k m by omega)
        omega
      omega
theorem mk_le1 {A : Nat → Nat → Int} {m : Nat} (H : mk_H A m) (ht : ∀ i, i < m → A i m ≤ mk_s (A i) m) {i : Nat} (hi : i < m) : mk_E A m i m ≤ mk_d m A := by
  obtain ⟨_, _, ρ, h0⟩ := H
  have h1 := mk_top h0 ht m (Nat.le_refl m) i hi
  have h2 : mk_s (mk_E A m i) m = mk_d m A := by
    rw [mk_s_one (p := i) (N := m) (fun c hc e => by rw [mk_E_lo A hc, if_neg (Ne.symm e)]) m (Nat.le_refl m), if_pos hi, mk_E_lo A hi, if_pos rfl]
  omega
/-! the numerators over the common denominator -/
def mk_D (wt : Nat → Int32) (N : Nat) (phi psi : Nat → Bool) : Nat := (mk_d (mk_cn (mk_U (mk_w wt) N phi psi) N) (mk_M wt N phi psi)).natAbs
def mk_X (wt : Nat → Int32) (N : Nat) (phi psi : Nat → Bool) (t : Nat) : Nat :=
  if mk_U (mk_w wt) N phi psi t = true then (mk_E (mk_M wt N phi psi) (mk_cn (mk_U (mk_w wt) N phi psi) N) (mk_cn (mk_U (mk_w wt) N phi psi) t) (mk_cn (mk_U (mk_w wt) N phi psi) N)).natAbs
  else if mk_O (mk_w wt) N phi psi t = true then mk_D wt N phi psi else 0
theorem mk_D_pos {wt : Nat → Int32} {N : Nat} {phi psi : Nat → Bool} (hW : mk_W wt N) (hN : N ≤ 12) (hpsi : ∀ s, psi s = true → s < N) : 0 < mk_D wt N phi psi ∧ mk_D wt N phi psi ≤ 1073741824 := by
  have H := mk_M_H (phi := phi) hW hN hpsi
  have h1 := mk_H_d H (k := mk_cn (mk_U (mk_w wt) N phi psi) N) (Nat.le_refl _)
  unfold mk_D
  refine ⟨by omega, ?_⟩
  by_cases e : mk_cn (mk_U (mk_w wt) N phi psi) N = 0
  · rw [e]; exact (by decide : (1 : Int).natAbs ≤ 1073741824)
  · exact mk_H_dB H (Nat.le_refl _) (by omega)
theorem mk_M_top {wt : Nat → Int32} {N : Nat} {phi psi : Nat → Bool} : ∀ i, i < mk_cn (mk_U (mk_w wt) N phi psi) N → mk_M wt N phi psi i (mk_cn (mk_U (mk_w wt) N phi psi) N) ≤ mk_s (mk_M wt N phi psi i) (mk_cn (mk_U (mk_w wt) N phi psi) N) := by
  intro i hi
  unfold mk_M
  rw [mk_A_m, mk_A_sum (mk_id_L _ N) hi]
  apply mk_s_mono
  intro t ht
  by_cases hO : mk_O (mk_w wt) N phi psi t = true
  · rw [if_pos hO, if_neg (fun hU => mk_U_O t ht hU hO)]; exact Int.le_refl _
  · rw [if_neg hO]
    by_cases hU : mk_U (mk_w wt) N phi psi t = true
    · rw [if_pos hU]; exact Int.le_refl _
    · rw [if_neg hU]; exact Int.natCast_nonneg _
theorem mk_X_le {wt : Nat → Int32} {N : Nat} {phi psi : Nat → Bool} (hW : mk_W wt N) (hN : N ≤ 12) (hpsi : ∀ s, psi s = true → s < N) {t : Nat} (ht : t < N) : mk_X wt N phi psi t ≤ mk_D wt N phi psi := by
  have H := mk_M_H (phi := phi) hW hN hpsi
  unfold mk_X
  by_cases hU : mk_U (mk_w wt) N phi psi t = true
  · rw [if_pos hU]
    have hr := mk_cn_lt hU ht
    have h1 := mk_le1 H mk_M_top hr
    have h2 := mk_H_rhs H (Nat.le_refl _) hr
    unfold mk_D
    omega
  · rw [if_neg hU]
    by_cases hO : mk_O (mk_w wt) N phi psi t = true
    · rw [if_pos hO]; exact Nat.le_refl _
    · rw [if_neg hO]; exact Nat.zero_le _
theorem mk_unX {wt : Nat → Int32} {N : Nat} {phi psi : Nat → Bool} (hW : mk_W wt N) (hN : N ≤ 12) (hpsi : ∀ s, psi s = true → s < N) {t : Nat} (ht : t < N) : mk_un wt N phi psi t = lN (mk_X wt N phi psi t / Nat.gcd (mk_X wt N phi psi t) (mk_D wt N phi psi)) ∧ mk_um wt N phi psi t = lN (mk_D wt N phi psi / Nat.gcd (mk_X wt N phi psi t) (mk_D wt N phi psi)) := by
  have hD := mk_D_pos (phi := phi) hW hN hpsi
  unfold mk_un mk_um mk_F mk_G
  by_cases hU : mk_U (mk_w wt) N phi psi t = true
  · have hr := mk_cn_lt hU ht
    have e : mk_X wt N phi psi t = (mk_E (mk_M wt N phi psi) (mk_cn (mk_U (mk_w wt) N phi psi) N) (mk_cn (mk_U (mk_w wt) N phi psi) t) (mk_cn (mk_U (mk_w wt) N phi psi) N)).natAbs := if_pos hU
    rw [if_pos ⟨hU, hr⟩, if_pos ⟨hU, hr⟩, e]
    unfold mk_vn mk_vm mk_D
    rw [mk_E_lo (i := mk_cn (mk_U (mk_w wt) N phi psi) t) (j := mk_cn (mk_U (mk_w wt) N phi psi) t) _ hr, if_pos rfl]
    exact ⟨rfl, rfl⟩
  · have hn : ¬ (mk_U (mk_w wt) N phi psi t = true ∧ mk_cn (mk_U (mk_w wt) N phi psi) t < mk_cn (mk_U (mk_w wt) N phi psi) N) := fun z => hU z.1
    rw [if_neg hn, if_neg hn]
    by_cases hO : mk_O (mk_w wt) N phi psi t = true
    · have e : mk_X wt N phi psi t = mk_D wt N phi psi := by
        unfold mk_X; rw [if_neg hU, if_pos hO]
      rw [if_pos hO, e, Nat.gcd_self, Nat.div_self hD.1]
      exact ⟨rfl, rfl⟩
    · have e : mk_X wt N phi psi t = 0 := by
        unfold mk_X; rw [if_neg hU, if_neg hO]
      rw [if_neg hO, e, Nat.gcd_zero_left, Nat.zero_div, Nat.div_self hD.1]
      exact ⟨rfl, rfl⟩
theorem mk_X_eq {wt : Nat → Int32} {N : Nat} {phi psi : Nat → Bool} (hW : mk_W wt N) (hN : N ≤ 12) (hpsi : ∀ s, psi s = true → s < N) {s : Nat} (hs : s < N) (hU : mk_U (mk_w wt) N phi psi s = true) : mk_t (mk_w wt s) N * mk_X wt N phi psi s = mk_t (fun t => mk_w wt s t * mk_X wt N phi psi t) N := by
  have H := mk_M_H (phi := phi) hW hN hpsi
  have hr := mk_cn_lt hU hs
  have hid := mk_id_L (mk_U (mk_w wt) N phi psi) N s hs hU
  have hd : ∀ l, l ≤ mk_cn (mk_U (mk_w wt) N phi psi) N → mk_d l (mk_M wt N phi psi) ≠ 0 := fun l hl => by
    have := mk_H_d H hl
    omega
  have hdp := mk_H_d H (k := mk_cn (mk_U (mk_w wt) N phi psi) N) (Nat.le_refl _)
  have c1 := mk_cramer (mk_M wt N phi psi) hd hr (mk_cn (mk_U (mk_w wt) N phi psi) N)
  generalize hm : mk_cn (mk_U (mk_w wt) N phi psi) N = m at *
  have eX : ∀ t, t < N → mk_U (mk_w wt) N phi psi t = true → (mk_X wt N phi psi t : Int) = mk_E (mk_M wt N phi psi) m (mk_cn (mk_U (mk_w wt) N phi psi) t) m := by
    intro t ht hu
    have hrt := mk_cn_lt hu ht
    rw [hm] at hrt
    have := mk_H_rhs H (Nat.le_refl m) hrt
    unfold mk_X
    rw [if_pos hu, hm]
    omega
  have eD : (mk_D wt N phi psi : Int) = mk_d m (mk_M wt N phi psi) := by
    unfold mk_D
    rw [hm]; omega
  -- the left side of Cramer, by states
  have l1 : mk_s (fun c => mk_M wt N phi psi (mk_cn (mk_U (mk_w wt) N phi psi) s) c * mk_E (mk_M wt N phi psi) m c m) m = mk_s (fun c => (if c = mk_cn (mk_U (mk_w wt) N phi psi) s then (mk_t (mk_w wt s) N : Int) * (mk_X wt N phi psi s : Int) else 0) + - ((fun t => (mk_w wt s t : Int) * (mk_X wt N phi psi t : Int)) (mk_id (mk_U (mk_w wt) N phi psi) N c))) m := by
    apply mk_s_congr
    intro c hc
    obtain ⟨a1, a2, a3⟩ := mk_L_idx (mk_id_L (mk_U (mk_w wt) N phi psi) N) (show c < mk_cn (mk_U (mk_w wt) N phi psi) N by omega)
    have e1 : mk_M wt N phi psi (mk_cn (mk_U (mk_w wt) N phi psi) s) c = (if c = mk_cn (mk_U (mk_w wt) N phi psi) s then (mk_t (mk_w wt s) N : Int) else 0) - (mk_w wt s (mk_id (mk_U (mk_w wt) N phi psi) N c) : Int) := by
      unfold mk_M
      rw [hm, mk_A_c hc, hid, mk_t_int]
    have e2 := eX _ a1 a2
    rw [a3] at e2
    show mk_M wt N phi psi (mk_cn (mk_U (mk_w wt) N phi psi) s) c * mk_E (mk_M wt N phi psi) m c m = _ + - ((mk_w wt s (mk_id (mk_U (mk_w wt) N phi psi) N c) : Int) * (mk_X wt N phi psi (mk_id (mk_U (mk_w wt) N phi psi) N c) : Int))
    rw [e1, e2]
    by_cases g : c = mk_cn (mk_U (mk_w wt) N phi psi) s
    · have e3 := eX s hs hU
      rw [if_pos g, if_pos g, e3, ← g]; grind
    · rw [if_neg g, if_neg g]; grind
  have l2 : mk_s (fun c => if c = mk_cn (mk_U (mk_w wt) N phi psi) s then (mk_t (mk_w wt s) N : Int) * (mk_X wt N phi psi s : Int) else 0) m = (mk_t (mk_w wt s) N : Int) * (mk_X wt N phi psi s : Int) := by
    rw [mk_s_one (p := mk_cn (mk_U (mk_w wt) N phi psi) s) (N := m) (fun c _ e => if_neg e) m (Nat.le_refl m), if_pos (by omega), if_pos rfl]
  have l3 : mk_s (fun c => (fun t => (mk_w wt s t : Int) * (mk_X wt N phi psi t : Int)) (mk_id (mk_U (mk_w wt) N phi psi) N c)) m = mk_s (fun t => if mk_U (mk_w wt) N phi psi t = true then (mk_w wt s t : Int) * (mk_X wt N phi psi t : Int) else 0) N := by
    have := mk_L_s (mk_id_L (mk_U (mk_w wt) N phi psi) N) (fun t => (mk_w wt s t : Int) * (mk_X wt N phi psi t : Int)) N (Nat.le_refl N)
    rw [hm] at this
    exact this
  have r1 : mk_d m (mk_M wt N phi psi) * mk_M wt N phi psi (mk_cn (mk_U (mk_w wt) N phi psi) s) m = mk_s (fun t => (mk_D wt N phi psi : Int) * (if mk_O (mk_w wt) N phi psi t = true then (mk_w wt s t : Int) else 0)) N := by
    have e1 : mk_M wt N phi psi (mk_cn (mk_U (mk_w wt) N phi psi) s) m = mk_s (fun t => if mk_O (mk_w wt) N phi psi t = true then (mk_w wt s t : Int) else 0) N := by
      unfold mk_M
      rw [hm, mk_A_m, hid]
    rw [e1, mk_s_mul, eD]
  have f1 : mk_s (fun t => (mk_w wt s t : Int) * (mk_X wt N phi psi t : Int)) N = mk_s (fun t => (if mk_U (mk_w wt) N phi psi t = true then (mk_w wt s t : Int) * (mk_X wt N phi psi t : Int) else 0) + (mk_D wt N phi psi : Int) * (if mk_O (mk_w wt) N phi psi t = true then (mk_w wt s t : Int) else 0)) N := by
    apply mk_s_congr
    intro t ht
    by_cases hu : mk_U (mk_w wt) N phi psi t = true
    · rw [if_pos hu, if_neg (fun ho => mk_U_O t ht hu ho)]; omega
    · rw [if_neg hu]
      by_cases ho : mk_O (mk_w wt) N phi psi t = true
      · have e : mk_X wt N phi psi t = mk_D wt N phi psi := by
          unfold mk_X; rw [if_neg hu, if_pos ho]
        rw [if_pos ho, e]; grind
      · have e : mk_X wt N phi psi t = 0 := by
          unfold mk_X; rw [if_neg hu, if_neg ho]
        rw [if_neg ho, e]; grind
  have f2 : mk_s (fun t => (mk_w wt s t : Int) * (mk_X wt N phi psi t : Int)) N = (mk_t (fun t => mk_w wt s t * mk_X wt N phi psi t) N : Int) := by
    rw [← mk_t_int]
    exact mk_s_congr N (fun t _ => by rw [Int.natCast_mul])
  rw [l1, mk_s_add, l2, mk_s_neg, l3, r1] at c1
  rw [mk_s_add] at f1
  have f3 : ((mk_t (mk_w wt s) N * mk_X wt N phi psi s : Nat) : Int) = (mk_t (fun t => mk_w wt s t * mk_X wt N phi psi t) N : Int) := by
    rw [Int.natCast_mul]; omega
  omega
end
section
/-! fractions over one denominator, the least common denominator, the sum -/
def mk_fn (X D : Nat) : Nat := X / Nat.gcd X D
def mk_fq (X D : Nat) : Nat := D / Nat.gcd X D
theorem mk_f_all {X D : Nat} (hD : 0 < D) (hX : X ≤ D) : 0 < mk_fq X D ∧ mk_fq X D ≤ D ∧ mk_fn X D ≤ mk_fq X D ∧ Nat.gcd (mk_fn X D) (mk_fq X D) = 1 ∧ mk_fq X D ∣ D ∧ mk_fn X D * D = X * mk_fq X D := by
  have hg : 0 < Nat.gcd X D := Nat.gcd_pos_of_pos_right X hD
  obtain ⟨a, ha⟩ := Nat.gcd_dvd_left X D
  obtain ⟨b, hb⟩ := Nat.gcd_dvd_right X D
  have e1 : mk_fn X D = a := by
    unfold mk_fn
    exact Nat.div_eq_of_eq_mul_right hg ha
  have e2 : mk_fq X D = b := by
    unfold mk_fq
    exact Nat.div_eq_of_eq_mul_right hg hb
  rw [e1, e2]
  generalize hG : Nat.gcd X D = G at *
  have hb0 : 0 < b := by
    rcases Nat.eq_zero_or_pos b with z | z
    · rw [z, Nat.mul_zero] at hb; omega
    · exact z
  refine ⟨hb0, ?_, ?_, ?_, ⟨G, by rw [Nat.mul_comm]; exact hb⟩, ?_⟩
  · have : 1 * b ≤ G * b := Nat.mul_le_mul_right b hg
    omega
  · have : G * a ≤ G * b := by rw [← ha, ← hb]; exact hX
    exact Nat.le_of_mul_le_mul_left this hg
  · have h1 : G * Nat.gcd a b = G * 1 := by
      rw [← Nat.gcd_mul_left, ← ha, ← hb, hG, Nat.mul_one]
    exact Nat.eq_of_mul_eq_mul_left hg h1
  · rw [hb, ha, Nat.mul_comm G b, ← Nat.mul_assoc, Nat.mul_comm (a * b) G, ← Nat.mul_assoc]
theorem mk_lc {L q D : Nat} (hL : 0 < L) (hq : 0 < q) (hLD : L ∣ D) (hqD : q ∣ D) (hD : 0 < D) : 0 < L / Nat.gcd L q * q ∧ L / Nat.gcd L q * q ∣ D ∧ L ∣ L / Nat.gcd L q * q ∧ q ∣ L / Nat.gcd L q * q ∧ L / Nat.gcd L q * q ≤ D := by
  have e : L / Nat.gcd L q * q = Nat.lcm L q := by
    obtain ⟨a, ha⟩ := Nat.gcd_dvd_left L q
    have hg : 0 < Nat.gcd L q := Nat.gcd_pos_of_pos_right L hq
    have e1 : L / Nat.gcd L q = a := Nat.div_eq_of_eq_mul_right hg ha
    have e2 : Nat.lcm L q = a * q := by
      show L * q / Nat.gcd L q = a * q
      apply Nat.div_eq_of_eq_mul_right hg
      rw [← Nat.mul_assoc, ← ha]
    rw [e1, e2]
  rw [e]
  have h1 : Nat.lcm L q ∣ D := Nat.lcm_dvd hLD hqD
  exact ⟨Nat.pos_of_dvd_of_pos h1 hD, h1, Nat.dvd_lcm_left L q, Nat.dvd_lcm_right L q, Nat.le_of_dvd hD h1⟩
theorem mk_term {n q L X D : Nat} (hq : 0 < q) (h : q ∣ L) (e : n * D = X * q) : n * (L / q) * D = L * X := by
  obtain ⟨c, rfl⟩ := h
  rw [Nat.mul_div_cancel_left c hq]
  have : n * c * D = c * (n * D) := by rw [Nat.mul_comm n c, Nat.mul_assoc]
  rw [this, e, ← Nat.mul_assoc, Nat.mul_comm (c * X) q, ← Nat.mul_assoc]
theorem mk_termB {n q L : Nat} (h : n ≤ q) : n * (L / q) ≤ L := Nat.le_trans (Nat.mul_le_mul_right _ h) (Nat.mul_div_le L q)
theorem mk_final {S L T n q X D : Nat} (hD : 0 < D) (h1 : S * D = L * (T * X)) (h2 : n * D = X * q) : L * (T * n) = q * S := by
  apply Nat.eq_of_mul_eq_mul_right hD
  have e1 : L * (T * n) * D = L * T * (n * D) := by rw [← Nat.mul_assoc, Nat.mul_assoc (L * T)]
  have e2 : q * S * D = q * (S * D) := Nat.mul_assoc _ _ _
  rw [e1, e2, h1, h2]
  grind
end
section
/-! what the component keeps, and its methods against it -/
def mk_Val (N C : Nat) (wt kd fi se bo tr : Nat → Int32) (vn vd : Nat → Int64) : Prop :=
  ∀ i, i < C → kd i = 4 → bo i = -1 → ∀ j l, j < 16 → l < 16 → fi i = nI j → se i = nI l → ∀ s, s < N → vn (i * 12 + s) = mk_un wt N (bt (tr j)) (bt (tr l)) s ∧ vd (i * 12 + s) = mk_um wt N (bt (tr j)) (bt (tr l)) s
def mk_Od (kd fi se : Nat → Int32) (i : Nat) : Prop := kd i = 4 → ∃ j l, j < i ∧ l < i ∧ fi i = nI j ∧ se i = nI l ∧ ¬ kd j = 4 ∧ ¬ kd l = 4
def mk_K (N C : Nat) (vl : Int32) (wt kd fi se bo tr : Nat → Int32) (vn vd : Nat → Int64) : Prop :=
  2 ≤ N ∧ N ≤ 12 ∧ C ≤ 16 ∧ mk_W wt N ∧ (∀ i, i < C → mk_Nd kd fi se bo i ∧ mk_Od kd fi se i) ∧ mk_Tb N tr ∧ (vl = 0 ∨ (vl = 1 ∧ mk_Val N C wt kd fi se bo tr vn vd))
theorem mk_Ch_keep {N : Nat} {wt lb kd fi se bo tn td : Nat → Int32} (hN : N ≤ 12) : ∀ (d i : Nat) {tr : Nat → Int32} {vn vd : Nat → Int64} {tr' : Nat → Int32} {vn' vd' : Nat → Int64}, mk_Ch N wt lb kd fi se bo tn td d i tr vn vd tr' vn' vd' → (∀ b, b < i → tr' b = tr b) ∧ ∀ a s, a < i → s < 12 → vn' (a * 12 + s) = vn (a * 12 + s) ∧ vd' (a * 12 + s) = vd (a * 12 + s) := by
  intro d
  induction d with
  | zero =>
    intro i tr vn vd tr' vn' vd' h
    obtain ⟨e1, e2, e3⟩ := h
    subst e1 e2 e3
    exact ⟨fun _ _ => rfl, fun _ _ _ _ => ⟨rfl, rfl⟩⟩
  | succ d ih =>
    intro i tr vn vd tr' vn' vd' h
    obtain ⟨a, b, c, hev, hch⟩ := h
    obtain ⟨k1, k2⟩ := ih (i + 1) hch
    have h1 : (∀ b, b < i → a b = tr b) ∧ ∀ p s, p < i → s < 12 → b (p * 12 + s) = vn (p * 12 + s) ∧ c (p * 12 + s) = vd (p * 12 + s) := by
      rcases hev with ⟨_, _, x, _, _, _, e1, e2, e3⟩ | ⟨_, _, x, _, _, _, e1, e2, e3⟩ | ⟨_, _, _, x, _, _, _, _, _, e1, e2, e3⟩ | ⟨_, j, l, _, _, _, _, e1, hv⟩ | ⟨_, _, x, _, _, _, e1, e2, e3⟩
      · subst e1 e2 e3
        exact ⟨fun b hb => pk_un (by omega), fun _ _ _ _ => ⟨rfl, rfl⟩⟩
      · subst e1 e2 e3
        exact ⟨fun b hb => pk_un (by omega), fun _ _ _ _ => ⟨rfl, rfl⟩⟩
      · subst e1 e2 e3
        exact ⟨fun b hb => pk_un (by omega), fun _ _ _ _ => ⟨rfl, rfl⟩⟩
      · subst e1
        refine ⟨fun _ _ => rfl, fun p s hp hs => ?_⟩
        rcases hv with ⟨_, c1, c2⟩ | ⟨_, _, _, c1, c2⟩
        · exact ⟨c1.2 _ (fun s' hs' => by omega), c2.2 _ (fun s' hs' => by omega)⟩
        · exact ⟨c1.2 _ (fun s' hs' => by omega), c2.2 _ (fun s' hs' => by omega)⟩
      · subst e1 e2 e3
        exact ⟨fun b hb => pk_un (by omega), fun _ _ _ _ => ⟨rfl, rfl⟩⟩
    refine ⟨fun b hb => ?_, fun p s hp hs => ?_⟩
    · rw [k1 b (by omega), h1.1 b hb]
    · obtain ⟨g1, g2⟩ := k2 p s (by omega) hs
      obtain ⟨g3, g4⟩ := h1.2 p s hp hs
      exact ⟨by rw [g1, g3], by rw [g2, g4]⟩
theorem mk_Ch_val {N C : Nat} {wt lb kd fi se bo tn td : Nat → Int32} (hN : N ≤ 12) (hC : C ≤ 16) (ho : ∀ i, i < C → mk_Od kd fi se i) : ∀ (d i : Nat) {tr : Nat → Int32} {vn vd : Nat → Int64} {tr' : Nat → Int32} {vn' vd' : Nat → Int64}, i + d = C → mk_Ch N wt lb kd fi se bo tn td d i tr vn vd tr' vn' vd' → ∀ p, i ≤ p → p < C → kd p = 4 → bo p = -1 → ∀ j l, j < 16 → l < 16 → fi p = nI j → se p = nI l → ∀ s, s < N → vn' (p * 12 + s) = mk_un wt N (bt (tr' j)) (bt (tr' l)) s ∧ vd' (p * 12 + s) = mk_um wt N (bt (tr' j)) (bt (tr' l)) s := by
  intro d
  induction d with
  | zero => intro i tr vn vd tr' vn' vd' h0 _ p h1 h2; omega
  | succ d ih =>
    intro i tr vn vd tr' vn' vd' h0 h p h1 h2 hk hb j l hj hl ef es s hs
    obtain ⟨a, b, c, hev, hch⟩ := h
    by_cases e : p = i
    · subst e
      obtain ⟨k1, k2⟩ := mk_Ch_keep hN d (p + 1) hch
      obtain ⟨j', l', hj', hl', ef', es', _, _⟩ := ho p h2 hk
      have e1 : j' = j := (nI_eq (by omega) (by omega)).mp (ef'.symm.trans ef)
      have e2 : l' = l := (nI_eq (by omega) (by omega)).mp (es'.symm.trans es)
      rw [e1] at hj'
      rw [e2] at hl'
      obtain ⟨g1, g2⟩ := k2 p s (by omega) (by omega)
      rw [g1, g2, k1 j (by omega), k1 l (by omega)]
      rcases hev with ⟨z, _⟩ | ⟨z, _⟩ | ⟨z, _⟩ | ⟨_, j2, l2, hj2, hl2, ef2, es2, et, hv⟩ | ⟨z, _⟩
      · rw [hk] at z; exact absurd z (by decide)
      · rw [hk] at z; exact absurd z (by decide)
      · rw [hk] at z; exact absurd z (by decide)
      · have e3 : j2 = j := (nI_eq (by omega) (by omega)).mp (ef2.symm.trans ef)
        have e4 : l2 = l := (nI_eq (by omega) (by omega)).mp (es2.symm.trans es)
        subst e3 e4 et
        rcases hv with ⟨_, c1, c2⟩ | ⟨B, hB, z, _, _⟩
        · exact ⟨c1.1 s hs, c2.1 s hs⟩
        · rw [hb] at z
          exact absurd z.symm (mk_nm1 B (by omega))
      · rw [hk] at z; exact absurd z (by decide)
    · exact ih (i + 1) (by omega) hch p (by omega) h2 hk hb j l hj hl ef es s hs
theorem mk_Ch_T {N : Nat} {wt lb kd fi se bo tn td : Nat → Int32} : ∀ (d i : Nat) {tr : Nat → Int32} {vn vd : Nat → Int64} {tr' : Nat → Int32} {vn' vd' : Nat → Int64}, mk_Ch N wt lb kd fi se bo tn td d i tr vn vd tr' vn' vd' → mk_Tb N tr → mk_Tb N tr' := by
  intro d
  induction d with
  | zero =>
    intro i tr vn vd tr' vn' vd' h ht
    obtain ⟨e1, _, _⟩ := h
    subst e1
    exact ht
  | succ d ih =>
    intro i tr vn vd tr' vn' vd' h ht
    obtain ⟨a, b, c, hev, hch⟩ := h
    exact ih (i + 1) hch (mk_Ev_T hev ht)
/-- a weight set, a node appended -/
theorem mk_K_w {N C : Nat} {vl : Int32} {wt kd fi se bo tr : Nat → Int32} {vn vd : Nat → Int64} (h : mk_K N C vl wt kd fi se bo tr vn vd) {s t v : Nat} (hs : s < N) (ht : t < N) (hv : v ≤ 4) (hb : mk_t (mk_w wt s) N + v ≤ 4 + mk_w wt s t) : mk_K N C 0 (upd wt (s * 12 + t) (nI v)) kd fi se bo tr vn vd := by
  obtain ⟨h1, h2, h3, h4, h5, h6, _⟩ := h
  exact ⟨h1, h2, h3, mk_W_upd h2 h4 hs ht hv hb, h5, h6, Or.inl rfl⟩
theorem mk_K_0 {N C : Nat} {vl : Int32} {wt kd fi se bo tr : Nat → Int32} {vn vd : Nat → Int64} (h : mk_K N C vl wt kd fi se bo tr vn vd) : mk_K N C 0 wt kd fi se bo tr vn vd := by
  obtain ⟨h1, h2, h3, h4, h5, h6, _⟩ := h
  exact ⟨h1, h2, h3, h4, h5, h6, Or.inl rfl⟩
theorem mk_K_a {N C : Nat} {vl : Int32} {wt kd fi se bo tr : Nat → Int32} {vn vd : Nat → Int64} (h : mk_K N C vl wt kd fi se bo tr vn vd) (hC : C < 16) {a b c : Int32} {bo' : Nat → Int32} (hbo : ∀ i, i < C → bo' i = bo i) (hn : mk_Nd (upd kd C a) (upd fi C b) (upd se C c) bo' C) (ho : a = 4 → ∃ j l, j < C ∧ l < C ∧ b = nI j ∧ c = nI l ∧ ¬ kd j = 4 ∧ ¬ kd l = 4) : mk_K N (C + 1) 0 wt (upd kd C a) (upd fi C b) (upd se C c) bo' tr vn vd := by
  obtain ⟨g1, g2, g3, g4, g5, g6, _⟩ := h
  refine ⟨g1, g2, by omega, g4, ?_, g6, Or.inl rfl⟩
  intro i hi
  by_cases z : i = C
  · subst z
    refine ⟨hn, ?_⟩
    unfold mk_Od
    rw [pk_us, pk_us, pk_us]
    intro ha
    obtain ⟨j, l, hj, hl, e1, e2, k1, k2⟩ := ho ha
    refine ⟨j, l, hj, hl, e1, e2, ?_, ?_⟩
    · rw [pk_un (by omega)]; exact k1
    · rw [pk_un (by omega)]; exact k2
  · have hi' : i < C := by omega
    obtain ⟨k1, k2⟩ := g5 i hi'
    constructor
    · unfold mk_Nd at k1 ⊢
      rw [pk_un z, pk_un z, pk_un z, hbo i hi']
      exact k1
    · unfold mk_Od at k2 ⊢
      rw [pk_un z, pk_un z, pk_un z]
      intro ha
      obtain ⟨j, l, hj, hl, e1, e2, q1, q2⟩ := k2 ha
      refine ⟨j, l, hj, hl, e1, e2, ?_, ?_⟩
      · rw [pk_un (by omega)]; exact q1
      · rw [pk_un (by omega)]; exact q2
theorem mk_ns {C : Nat} (kd : Nat → Int32) (hC : C ≤ 16) (x : Int32) : (x < 0 ∨ nI C ≤ x ∨ ∃ j, j < C ∧ x = nI j ∧ kd j = 4) ∨ ∃ j, j < C ∧ x = nI j ∧ ¬ kd j = 4 := by
  rcases pk_ix x (n := C) (by omega) with z | z | ⟨j, hj, e⟩
  · exact Or.inl (Or.inl z)
  · exact Or.inl (Or.inr (Or.inl z))
  · by_cases h : kd j = 4
    · exact Or.inl (Or.inr (Or.inr ⟨j, hj, e, h⟩))
    · exact Or.inr ⟨j, hj, e, h⟩
theorem mk_nu {C : Nat} (kd : Nat → Int32) (hC : C ≤ 16) (x : Int32) : (x < 0 ∨ nI C ≤ x ∨ ∃ j, j < C ∧ x = nI j ∧ ¬ kd j = 4) ∨ ∃ j, j < C ∧ x = nI j ∧ kd j = 4 := by
  rcases pk_ix x (n := C) (by omega) with z | z | ⟨j, hj, e⟩
  · exact Or.inl (Or.inl z)
  · exact Or.inl (Or.inr (Or.inl z))
  · by_cases h : kd j = 4
    · exact Or.inr ⟨j, hj, e, h⟩
    · exact Or.inl (Or.inr (Or.inr ⟨j, hj, e, h⟩))
theorem mk_sx {N : Nat} (hN : N ≤ 12) (x : Int32) : (x < 0 ∨ nI N ≤ x) ∨ ∃ s, s < N ∧ x = nI s := by
  rcases pk_ix x (n := N) (by omega) with z | z | z
  · exact Or.inl (Or.inl z)
  · exact Or.inl (Or.inr z)
  · exact Or.inr z
section
variable {N C : Nat} {nd vl : Int32} {wt lb kd fi se bo tn td tr un : Nat → Int32} {vn vd pa np mx : Nat → Int64}
theorem mx_sw {post : Int32 → St2 → Prop} {x y z : Int32} (K : mk_K N C vl wt kd fi se bo tr vn vd) (k : ∀ (r vl' : Int32) (wt' : Nat → Int32), mk_K N C vl' wt' kd fi se bo tr vn vd → post r ((nI N), (nI C), vl', wt', lb, kd, fi, se, bo, tn, td, tr, vn, vd, pa, np, un, mx)) : (wpX_setWeight post ((nI N), (nI C), vl, wt, lb, kd, fi, se, bo, tn, td, tr, vn, vd, pa, np, un, mx) x y z) := by
  obtain ⟨h2, hN, hC, hW, _⟩ := id K
  unfold wpX_setWeight
  rcases mk_sx hN x with hs | ⟨s, hs, rfl⟩
  · exact mx_is_f hs (br_t rfl (k _ _ _ K))
  · refine mx_is_t hN hs (br_f (by decide) ?_)
    rcases mk_sx hN y with ht | ⟨t, ht, rfl⟩
    · exact mx_is_f ht (br_t rfl (k _ _ _ K))
    · refine mx_is_t hN ht (br_f (by decide) ?_)
      by_cases h0 : z < 0
      · exact br_t h0 (k _ _ _ K)
      · by_cases h4 : z ≤ 4
        · obtain ⟨w, hw, rfl⟩ := nI_of2 (n := 4) (by decide) h0 h4
          have hb := (hW s hs).2
          have hle := mk_t_le (mk_w wt s) N ht
          have hin : vp_in (nI (s * 12 + t)) 144 := pk_in (s * 12 + t) 144 (by omega)
          have hcl : (nI (s * 12 + t)).toNatClampNeg = s * 12 + t := nI_clamp (by omega)
          have he : nI (mk_t (mk_w wt s) N) - wt (s * 12 + t) + nI w = nI (mk_t (mk_w wt s) N - mk_w wt s t + w) := by
            rw [(hW s hs).1 t ht, pk_sub hle, nI_add]
          refine br_f h0 (br_t h4 (nm_r (mk_i12 s t) (mx_rowTotal hN hW hs ⟨hin, ?_⟩)))
          rw [hcl, he]
          by_cases hr : mk_t (mk_w wt s) N - mk_w wt s t + w ≤ 4
          · exact br_t (nI_le (b := 4) hr (by decide)) ⟨hin, nm_e (k _ _ _ (mk_K_w K hs ht hw (by omega)))⟩
          · exact br_f (nI_ge (a := 4) (by omega) (by omega)) (k _ _ _ K)
        · exact br_f h0 (br_f h4 (k _ _ _ K))
theorem mx_sl {post : Int32 → St2 → Prop} {x y z : Int32} (K : mk_K N C vl wt kd fi se bo tr vn vd) (k : ∀ (r vl' : Int32) (lb' : Nat → Int32), mk_K N C vl' wt kd fi se bo tr vn vd → post r ((nI N), (nI C), vl', wt, lb', kd, fi, se, bo, tn, td, tr, vn, vd, pa, np, un, mx)) : (wpX_setLabel post ((nI N), (nI C), vl, wt, lb, kd, fi, se, bo, tn, td, tr, vn, vd, pa, np, un, mx) x y z) := by
  obtain ⟨h2, hN, hC, hW, _⟩ := id K
  unfold wpX_setLabel
  rcases mk_sx hN x with hs | ⟨s, hs, rfl⟩
  · exact mx_is_f hs (br_t rfl (k _ _ _ K))
  · have hin : vp_in (nI s) 12 := pk_in s 12 (by omega)
    refine mx_is_t hN hs (br_f (by decide) ?_)
    by_cases h0 : y < 0
    · exact br_t h0 (k _ _ _ K)
    · by_cases h4 : y < 4
      · refine br_f h0 (br_t h4 ?_)
        by_cases on : z = 0
        · exact br_t on ⟨hin, hin, nm_e (k _ _ _ (mk_K_0 K))⟩
        · exact br_f on ⟨hin, hin, nm_e (k _ _ _ (mk_K_0 K))⟩
      · exact br_f h0 (br_f h4 (k _ _ _ K))
theorem mx_gw {post : Int32 → Prop} {s t : Nat} (hN : N ≤ 12) (hW : mk_W wt N) (hs : s < N) (ht : t < N) (k : post (nI (mk_w wt s t))) : (wpX_getWeight post ((nI N), nd, vl, wt, lb, kd, fi, se, bo, tn, td, tr, vn, vd, pa, np, un, mx) (nI s) (nI t)) := by
  unfold wpX_getWeight
  refine mx_is_t hN hs (br_f (by decide) (mx_is_t hN ht (br_f (by decide) ⟨pk_in (s * 12 + t) 144 (by omega) (mk_i12 s t), ?_⟩)))
  rw [mk_i12, nI_clamp (by omega), (hW s hs).1 t ht]
  exact k
theorem mx_nk {post : Int32 → Prop} {x : Int32} (hC : C ≤ 16) (k : ∀ r, (∀ j, j < C → x = nI j → r = kd j) → post r) : (wpX_nodeKind post ((nI N), (nI C), vl, wt, lb, kd, fi, se, bo, tn, td, tr, vn, vd, pa, np, un, mx) x) := by
  unfold wpX_nodeKind
  rcases pk_ix x (n := C) (by omega) with z | z | ⟨j, hj, rfl⟩
  · refine mx_in_f (Or.inl z) (br_t rfl (k 0 (fun j hj e => ?_)))
    rw [e] at z
    exact absurd z (nI_pos (by omega))
  · refine mx_in_f (Or.inr z) (br_t rfl (k 0 (fun j hj e => ?_)))
    rw [e] at z
    exact absurd z (nI_ge hj (by omega))
  · refine mx_in_t hC hj (br_f (by decide) ⟨pk_in j 16 (by omega), ?_⟩)
    rw [nI_clamp (by omega)]
    refine k _ (fun j' hj' e => ?_)
    rw [(nI_eq (by omega) (by omega)).mp e]
theorem mx_pn {post : Int64 → Prop} {i s : Nat} (hN : N ≤ 12) (hC : C ≤ 16) (hv : ¬ vl = 0) (hi : i < C) (hk : kd i = 4) (hs : s < N) (k : post (vn (i * 12 + s))) : (wpX_probNum post ((nI N), (nI C), vl, wt, lb, kd, fi, se, bo, tn, td, tr, vn, vd, pa, np, un, mx) (nI i) (nI s)) := by
  unfold wpX_probNum
  refine br_f hv (mx_un_t hC hi hk (br_f (by decide) (mx_is_t hN hs (br_f (by decide) ⟨pk_in (i * 12 + s) 192 (by omega) (mk_i12 i s), ?_⟩))))
  rw [mk_i12, nI_clamp (by omega)]
  exact k
theorem mx_pd {post : Int64 → Prop} {i s : Nat} (hN : N ≤ 12) (hC : C ≤ 16) (hv : ¬ vl = 0) (hi : i < C) (hk : kd i = 4) (hs : s < N) (k : post (vd (i * 12 + s))) : (wpX_probDen post ((nI N), (nI C), vl, wt, lb, kd, fi, se, bo, tn, td, tr, vn, vd, pa, np, un, mx) (nI i) (nI s)) := by
  unfold wpX_probDen
  refine br_f hv (mx_un_t hC hi hk (br_f (by decide) (mx_is_t hN hs (br_f (by decide) ⟨pk_in (i * 12 + s) 192 (by omega) (mk_i12 i s), ?_⟩))))
  rw [mk_i12, nI_clamp (by omega)]
  exact k
theorem mx_ho {post : Int32 → Prop} {j s : Nat} (hN : N ≤ 12) (hC : C ≤ 16) (hv : ¬ vl = 0) (hj : j < C) (hk : ¬ kd j = 4) (hs : s < N) (ht : mk_Tb N tr) (k : post (mk_bi (bt (tr j) s))) : (wpX_holds post ((nI N), (nI C), vl, wt, lb, kd, fi, se, bo, tn, td, tr, vn, vd, pa, np, un, mx) (nI j) (nI s)) := by
  unfold wpX_holds
  refine br_f hv (mx_sn_t hC hj hk (br_f (by decide) (mx_is_t hN hs (br_f (by decide) ⟨pk_in j 16 (by omega), ?_⟩))))
  rw [nI_clamp (by omega)]
  refine mx_contains ⟨mk_bi_w _, ?_⟩
  rw [mk_lb_bs (ht j (by omega)) hs hN]
  exact k
theorem mx_kc {post : Int32 → St2 → Prop} (K : mk_K N C vl wt kd fi se bo tr vn vd) (k : ∀ (r vl' : Int32) (tr' un' : Nat → Int32) (vn' vd' pa' np' mx' : Nat → Int64), mk_K N C vl' wt kd fi se bo tr' vn' vd' → post r ((nI N), (nI C), vl', wt, lb, kd, fi, se, bo, tn, td, tr', vn', vd', pa', np', un', mx')) : (wpX_check post ((nI N), (nI C), vl, wt, lb, kd, fi, se, bo, tn, td, tr, vn, vd, pa, np, un, mx)) := by
  obtain ⟨h2, hN, hC, hW, hn, ht, _⟩ := id K
  refine mx_ck hN hW hC (fun i hi => (hn i hi).1) ht (fun _ => k _ _ _ _ _ _ _ _ _ K) (fun _ tr' un' vn' vd' pa' np' mx' hch => k _ _ _ _ _ _ _ _ _ ?_)
  refine ⟨h2, hN, hC, hW, hn, mk_Ch_T C 0 hch ht, Or.inr ⟨rfl, ?_⟩⟩
  intro i hi hk hb j l hj hl ef es s hs
  exact mk_Ch_val hN hC (fun i hi => (hn i hi).2) C 0 (by omega) hch i (by omega) hi hk hb j l hj hl ef es s hs
theorem mx_a1 {post : Int32 → St2 → Prop} {x : Int32} (K : mk_K N C vl wt kd fi se bo tr vn vd) (k0 : ∀ r : Int32, r < 0 → post r ((nI N), (nI C), vl, wt, lb, kd, fi, se, bo, tn, td, tr, vn, vd, pa, np, un, mx)) (k : C < 16 → ∀ b c : Int32, mk_K N (C + 1) 0 wt (upd kd C 1) (upd fi C b) (upd se C c) bo tr vn vd → post (nI C) ((nI N), (nI (C + 1)), 0, wt, lb, (upd kd C 1), (upd fi C b), (upd se C c), bo, tn, td, tr, vn, vd, pa, np, un, mx)) : (wpX_addAtom post ((nI N), (nI C), vl, wt, lb, kd, fi, se, bo, tn, td, tr, vn, vd, pa, np, un, mx) x) := by
  obtain ⟨h2, hN, hC, hW, _⟩ := id K
  unfold wpX_addAtom
  refine pk_lt C 16 (fun h => ?_) (fun h => k0 _ (by decide))
  by_cases h0 : x < 0
  · exact br_t h0 (k0 _ (by decide))
  · by_cases h4 : x ≤ 4
    · obtain ⟨a, ha, rfl⟩ := nI_of2 (n := 4) (by decide) h0 h4
      refine br_f h0 (br_t h4 (mx_app h (k h _ _ (mk_K_a K h (fun _ _ => rfl) ?_ (fun z => absurd z (by decide))))))
      exact Or.inl ⟨pk_us, a, ha, pk_us⟩
    · exact br_f h0 (br_f h4 (k0 _ (by decide)))
theorem mx_a2 {post : Int32 → St2 → Prop} {x : Int32} (K : mk_K N C vl wt kd fi se bo tr vn vd) (k0 : ∀ r : Int32, r < 0 → post r ((nI N), (nI C), vl, wt, lb, kd, fi, se, bo, tn, td, tr, vn, vd, pa, np, un, mx)) (k : C < 16 → ∀ b c : Int32, mk_K N (C + 1) 0 wt (upd kd C 2) (upd fi C b) (upd se C c) bo tr vn vd → post (nI C) ((nI N), (nI (C + 1)), 0, wt, lb, (upd kd C 2), (upd fi C b), (upd se C c), bo, tn, td, tr, vn, vd, pa, np, un, mx)) : (wpX_addNot post ((nI N), (nI C), vl, wt, lb, kd, fi, se, bo, tn, td, tr, vn, vd, pa, np, un, mx) x) := by
  obtain ⟨h2, hN, hC, hW, _⟩ := id K
  unfold wpX_addNot
  refine pk_lt C 16 (fun h => ?_) (fun h => k0 _ (by decide))
  rcases mk_ns kd hC x with hx | ⟨j, hj, rfl, hx⟩
  · exact mx_sn_f hC hx (br_t rfl (k0 _ (by decide)))
  · refine mx_sn_t hC hj hx (br_f (by decide) (mx_app h (k h _ _ (mk_K_a K h (fun _ _ => rfl) ?_ (fun z => absurd z (by decide))))))
    exact Or.inr (Or.inl ⟨pk_us, j, by omega, pk_us⟩)
theorem mx_a3 {post : Int32 → St2 → Prop} {x y : Int32} (K : mk_K N C vl wt kd fi se bo tr vn vd) (k0 : ∀ r : Int32, r < 0 → post r ((nI N), (nI C), vl, wt, lb, kd, fi, se, bo, tn, td, tr, vn, vd, pa, np, un, mx)) (k : C < 16 → ∀ b c : Int32, mk_K N (C + 1) 0 wt (upd kd C 3) (upd fi C b) (upd se C c) bo tr vn vd → post (nI C) ((nI N), (nI (C + 1)), 0, wt, lb, (upd kd C 3), (upd fi C b), (upd se C c), bo, tn, td, tr, vn, vd, pa, np, un, mx)) : (wpX_addAnd post ((nI N), (nI C), vl, wt, lb, kd, fi, se, bo, tn, td, tr, vn, vd, pa, np, un, mx) x y) := by
  obtain ⟨h2, hN, hC, hW, _⟩ := id K
  unfold wpX_addAnd
  refine pk_lt C 16 (fun h => ?_) (fun h => k0 _ (by decide))
  rcases mk_ns kd hC x with hx | ⟨j, hj, rfl, hx⟩
  · exact mx_sn_f hC hx (br_t rfl (k0 _ (by decide)))
  · refine mx_sn_t hC hj hx (br_f (by decide) ?_)
    rcases mk_ns kd hC y with hy | ⟨l, hl, rfl, hy⟩
    · exact mx_sn_f hC hy (br_t rfl (k0 _ (by decide)))
    · refine mx_sn_t hC hl hy (br_f (by decide) (mx_app h (k h _ _ (mk_K_a K h (fun _ _ => rfl) ?_ (fun z => absurd z (by decide))))))
      exact Or.inr (Or.inr (Or.inl ⟨pk_us, j, l, by omega, by omega, pk_us, pk_us⟩))
theorem mx_a4 {post : Int32 → St2 → Prop} {x y z : Int32} (K : mk_K N C vl wt kd fi se bo tr vn vd) (k0 : ∀ r : Int32, r < 0 → post r ((nI N), (nI C), vl, wt, lb, kd, fi, se, bo, tn, td, tr, vn, vd, pa, np, un, mx)) (k : C < 16 → ∀ j l, j < C → l < C → x = nI j → y = nI l → mk_K N (C + 1) 0 wt (upd kd C 4) (upd fi C (nI j)) (upd se C (nI l)) (upd bo C z) tr vn vd → post (nI C) ((nI N), (nI (C + 1)), 0, wt, lb, (upd kd C 4), (upd fi C (nI j)), (upd se C (nI l)), (upd bo C z), tn, td, tr, vn, vd, pa, np, un, mx)) : (wpX_addUntil post ((nI N), (nI C), vl, wt, lb, kd, fi, se, bo, tn, td, tr, vn, vd, pa, np, un, mx) x y z) := by
  obtain ⟨h2, hN, hC, hW, _⟩ := id K
  unfold wpX_addUntil
  refine pk_lt C 16 (fun h => ?_) (fun h => k0 _ (by decide))
  have hin : vp_in (nI C) 16 := pk_in C 16 h
  have hcl : (nI C).toNatClampNeg = C := nI_clamp (by omega)
  rcases mk_ns kd hC x with hx | ⟨j, hj, rfl, hx⟩
  · exact mx_sn_f hC hx (br_t rfl (k0 _ (by decide)))
  · refine mx_sn_t hC hj hx (br_f (by decide) ?_)
    rcases mk_ns kd hC y with hy | ⟨l, hl, rfl, hy⟩
    · exact mx_sn_f hC hy (br_t rfl (k0 _ (by decide)))
    · refine mx_sn_t hC hl hy (br_f (by decide) ?_)
      have fin : (z = -1 ∨ ∃ B, B ≤ 8 ∧ z = nI B) → mk_K N (C + 1) 0 wt (upd kd C 4) (upd fi C (nI j)) (upd se C (nI l)) (upd bo C z) tr vn vd := by
        intro hb
        refine mk_K_a K h (fun i hi => pk_un (by omega)) ?_ (fun _ => ⟨j, l, hj, hl, rfl, rfl, hx, hy⟩)
        refine Or.inr (Or.inr (Or.inr (Or.inl ⟨pk_us, j, l, by omega, by omega, pk_us, pk_us, ?_⟩)))
        rw [pk_us]; exact hb
      by_cases hm : z = -1
      · refine br_t hm ⟨hin, ?_⟩
        rw [hcl]
        exact nm_e (mx_app h (k h j l hj hl rfl rfl (fin (Or.inl hm))))
      · by_cases h0 : z < 0
        · exact br_f hm (br_t h0 (k0 _ (by decide)))
        · by_cases h8 : z ≤ 8
          · refine br_f hm (br_f h0 (br_t h8 ⟨hin, ?_⟩))
            rw [hcl]
            exact nm_e (mx_app h (k h j l hj hl rfl rfl (fin (Or.inr (nI_of2 (n := 8) (by decide) h0 h8)))))
          · exact br_f hm (br_f h0 (br_f h8 (k0 _ (by decide))))
theorem mx_a5 {post : Int32 → St2 → Prop} {x y z w : Int32} (K : mk_K N C vl wt kd fi se bo tr vn vd) (k0 : ∀ r : Int32, r < 0 → post r ((nI N), (nI C), vl, wt, lb, kd, fi, se, bo, tn, td, tr, vn, vd, pa, np, un, mx)) (k : C < 16 → ∀ (b c : Int32) (p q : Nat → Int32), mk_K N (C + 1) 0 wt (upd kd C 5) (upd fi C b) (upd se C c) bo tr vn vd → post (nI C) ((nI N), (nI (C + 1)), 0, wt, lb, (upd kd C 5), (upd fi C b), (upd se C c), bo, p, q, tr, vn, vd, pa, np, un, mx)) : (wpX_addCompare post ((nI N), (nI C), vl, wt, lb, kd, fi, se, bo, tn, td, tr, vn, vd, pa, np, un, mx) x y z w) := by
  obtain ⟨h2, hN, hC, hW, _⟩ := id K
  unfold wpX_addCompare
  refine pk_lt C 16 (fun h => ?_) (fun h => k0 _ (by decide))
  have hin : vp_in (nI C) 16 := pk_in C 16 h
  rcases mk_nu kd hC x with hx | ⟨j, hj, rfl, hx⟩
  · exact mx_un_f hC hx (br_t rfl (k0 _ (by decide)))
  · refine mx_un_t hC hj hx (br_f (by decide) ?_)
    refine br_c (fun _ => k0 _ (by decide)) (fun _ => br_c (fun _ => ?_) (fun _ => k0 _ (by decide)))
    refine br_c (fun _ => k0 _ (by decide)) (fun _ => br_c (fun _ => k0 _ (by decide)) (fun _ => ?_))
    refine br_c (fun _ => k0 _ (by decide)) (fun _ => br_c (fun _ => ⟨hin, nm_e ⟨hin, nm_e (mx_app h ?_)⟩⟩) (fun _ => k0 _ (by decide)))
    refine k h _ _ _ _ (mk_K_a K h (fun _ _ => rfl) ?_ (fun z => absurd z (by decide)))
    exact Or.inr (Or.inr (Or.inr (Or.inr ⟨pk_us, j, by omega, pk_us⟩)))
end
end
section
/-! the law's numbers: its picks, its common divisors, its packed children -/
section
variable {L : Nat} {xs : Nat → Int32}
theorem mL_cell {post : Int32 → Prop} {p : Nat} (hL : L ≤ 260) (hp : p < 2 ^ 31) (k : ∀ r, post r) : wpL_cell post L xs () (nI p) := by
  unfold wpL_cell
  exact pk_le L p (fun _ => k 0) (fun h => ⟨pk_in p L h, k _⟩)
theorem mL_pick {post : Int32 → Prop} {p : Nat} (m : Nat) (hL : L ≤ 260) (hp : p < 2 ^ 31) (h0 : 0 < m) (hm : m < 2 ^ 31) (k : ∀ j, j < m → post (nI j)) : wpL_pick post L xs () (nI p) (nI m) := by
  unfold wpL_pick
  refine mL_cell hL hp (fun r => ⟨nI_ne0 h0 hm, ?_⟩)
  have e : r &&& 2147483647 = nI (r.toBitVec.toNat % 2 ^ 31) := pk_and r 31 (by decide)
  rw [e, pk_rem (Nat.mod_lt _ (by decide)) h0 hm]
  exact k _ (Nat.mod_lt _ h0)
end
theorem mL_gcd_l {post : Int64 → Prop} : ∀ (f n a b : Nat), f ≤ 200 → f < n → a < 2 ^ 62 → b < 2 ^ 62 → post (lN (mk_e f a b)) → wL_gcd_21 post n (lN a) (lN b) (nI (200 - f)) := by
  intro f
  induction f with
  | zero =>
    intro n a b _ hn _ _ k
    obtain ⟨n, rfl⟩ : ∃ m, n = m + 1 := ⟨n - 1, by omega⟩
    exact pk_le 200 200 (fun _ => k) (fun h => absurd h (by omega))
  | succ f ih =>
    intro n a b hf hn ha hb k
    obtain ⟨n, rfl⟩ : ∃ m, n = m + 1 := ⟨n - 1, by omega⟩
    refine pk_le 200 (200 - (f + 1)) (fun h => absurd h (by omega)) (fun _ => ?_)
    by_cases e : b = 0
    · subst e
      rw [mk_e_0] at k
      exact br_t rfl k
    · have hne : ¬ lN b = 0 := fun z => e ((pk_lEQ (b := 0) (by omega) (by omega)).mp z)
      rw [mk_e_s _ _ e] at k
      have hm := Nat.mod_lt a (show 0 < b by omega)
      refine br_f hne ⟨hne, nm_r (pk_lRem (by omega) (by omega) (by omega)) ?_⟩
      refine nm_r (e' := nI (200 - f)) ?_ (ih n b (a % b) (by omega) (by omega) hb (by omega) k)
      rw [nI_1]; congr 1; omega
theorem mL_gcd {post : Int64 → Prop} {a b : Nat} (ha : a < 2 ^ 62) (hb : b < 2 ^ 62) (k : post (lN (Nat.gcd a b))) : wpL_gcd post () (lN a) (lN b) := by
  have h := mL_gcd_l (post := post) 200 201 a b (by omega) (by omega) ha hb (by rw [mk_e_gcd 62 a b 200 hb (by omega)]; exact k)
  rw [Nat.sub_self] at h
  have z1 : (0 : Int64) ≤ lN a := (pk_lLE (a := 0) (by omega) (by omega)).mpr (Nat.zero_le _)
  have z2 : (0 : Int64) ≤ lN b := (pk_lLE (a := 0) (by omega) (by omega)).mpr (Nat.zero_le _)
  exact br_t z1 (br_t z2 ⟨201, h⟩)
/-! longs by their bits -/
def mk_bL (x : Int64) (i : Nat) : Bool := x.toBitVec.getLsbD i
theorem mk_L_ext {x y : Int64} (h : ∀ i, i < 64 → mk_bL x i = mk_bL y i) : x = y := Int64.toBitVec_inj.mp (BitVec.eq_of_getLsbD_eq (fun i hi => h i hi))
theorem mk_L_or (x y : Int64) (i : Nat) : mk_bL (x ||| y) i = (mk_bL x i || mk_bL y i) := by unfold mk_bL; rw [Int64.toBitVec_or, BitVec.getLsbD_or]
theorem mk_L_and (x y : Int64) (i : Nat) : mk_bL (x &&& y) i = (mk_bL x i && mk_bL y i) := by unfold mk_bL; rw [Int64.toBitVec_and, BitVec.getLsbD_and]
theorem mk_L_0 (i : Nat) : mk_bL 0 i = false := BitVec.getLsbD_zero
theorem mk_L_c : ∀ k, k < 64 → (((nI k).toInt64 &&& 63).toBitVec.smod 64).toNat = k := by decide +kernel
theorem mk_L_15 : ∀ i, i < 64 → mk_bL 15 i = decide (i < 4) := by decide +kernel
theorem mk_L_N (k p : Nat) (hp : p < 64) : mk_bL (lN k) p = k.testBit p := by
  show (BitVec.ofNat 64 k).getLsbD p = _
  rw [BitVec.getLsbD_ofNat, decide_eq_true hp, Bool.true_and]
theorem mk_L_shl (n : Nat) (hn : n < 64) (x : Int64) {i : Nat} (hi : i < 64) : mk_bL (x <<< ((nI n).toInt64 &&& 63)) i = (decide (n ≤ i) && mk_bL x (i - n)) := by
  unfold mk_bL
  rw [Int64.toBitVec_shiftLeft]
  show (x.toBitVec <<< (((nI n).toInt64 &&& 63).toBitVec.smod 64).toNat).getLsbD i = _
  rw [mk_L_c n hn, BitVec.getLsbD_shiftLeft]
  rcases Nat.lt_or_ge i n with h | h
  · simp [h, Nat.not_le.mpr h]
  · simp [hi, h, Nat.not_lt.mpr h]
theorem mk_L_shr (n : Nat) (hn : n < 64) (x : Int64) {i : Nat} (hi : i < 64) : mk_bL (x >>> ((nI n).toInt64 &&& 63)) i = if n + i < 64 then mk_bL x (n + i) else mk_bL x 63 := by
  unfold mk_bL
  rw [Int64.toBitVec_shiftRight]
  show (x.toBitVec.sshiftRight (((nI n).toInt64 &&& 63).toBitVec.smod 64).toNat).getLsbD i = _
  rw [mk_L_c n hn, BitVec.getLsbD_sshiftRight, BitVec.msb_eq_getLsbD_last]
  simp [hi]
theorem mk_4 (i : Nat) : (4 : Int32) * nI i = nI (4 * i) := by
  rw [show (4 : Int32) = nI 4 from rfl, pk_mul]
theorem mk_tb {k p : Nat} (hk : k < 16) (hp : 4 ≤ p) : k.testBit p = false := by
  apply Nat.testBit_lt_two_pow
  have : 2 ^ 4 ≤ 2 ^ p := Nat.pow_le_pow_right (by omega) hp
  omega
theorem mk_nib {x : Int64} {i k : Nat} (hi : i < 16) (hk : k < 16) (h : ∀ p, p < 4 → mk_bL x (4 * i + p) = k.testBit p) : ((x >>> ((4 * nI i).toInt64 &&& 63)) &&& 15).toInt32 = nI k := by
  have e : (x >>> ((nI (4 * i)).toInt64 &&& 63)) &&& 15 = lN k := by
    apply mk_L_ext
    intro p hp
    rw [mk_L_and, mk_L_shr (4 * i) (by omega) x hp, mk_L_15 p hp, mk_L_N k p hp]
    by_cases g : p < 4
    · rw [if_pos (by omega), h p g, decide_eq_true g, Bool.and_true]
    · rw [decide_eq_false g, Bool.and_false, mk_tb hk (by omega)]
  rw [mk_4, e, lN_i]
def mk_UB (C : Nat) (kd fi se bo : Nat → Int32) (b : Int32) (x y : Int64) : Prop := ∀ i, i < 16 →
  (bt b i = true → i < C ∧ kd i = 4 ∧ bo i = -1 ∧ ∃ j l, j < 16 ∧ l < 16 ∧ fi i = nI j ∧ se i = nI l ∧ ∀ p, p < 4 → mk_bL x (4 * i + p) = j.testBit p ∧ mk_bL y (4 * i + p) = l.testBit p) ∧
  (bt b i = false → ∀ p, p < 4 → mk_bL x (4 * i + p) = false ∧ mk_bL y (4 * i + p) = false)
theorem mk_UB_0 {C : Nat} {kd fi se bo : Nat → Int32} : mk_UB C kd fi se bo 0 0 0 := by
  intro i hi
  refine ⟨fun z => ?_, fun _ p _ => ⟨mk_L_0 _, mk_L_0 _⟩⟩
  rw [b_0] at z
  exact absurd z (by decide)
theorem mk_UB_keep {C : Nat} {kd fi se bo bo' : Nat → Int32} {b : Int32} {x y : Int64} {a c d : Int32} (h : mk_UB C kd fi se bo b x y) (hbo : ∀ i, i < C → bo' i = bo i) : mk_UB (C + 1) (upd kd C a) (upd fi C c) (upd se C d) bo' b x y := by
  intro i hi
  refine ⟨fun z => ?_, (h i hi).2⟩
  obtain ⟨g1, g2, g3, g4⟩ := (h i hi).1 z
  have hne : i ≠ C := by omega
  rw [pk_un hne, pk_un hne, pk_un hne, hbo i g1]
  exact ⟨by omega, g2, g3, g4⟩
theorem mk_UB_new {C j l : Nat} {kd fi se bo : Nat → Int32} {b : Int32} {x y : Int64} (h : mk_UB C kd fi se bo b x y) (hC : C < 16) (hj : j < 16) (hl : l < 16) : mk_UB (C + 1) (upd kd C 4) (upd fi C (nI j)) (upd se C (nI l)) (upd bo C (-1)) (b ||| ((1 : Int32) <<< (nI C &&& 31))) (x ||| ((nI j).toInt64 <<< ((4 * nI C).toInt64 &&& 63))) (y ||| ((nI l).toInt64 <<< ((4 * nI C).toInt64 &&& 63))) := by
  have hb : ∀ i, i < 16 → bt (b ||| ((1 : Int32) <<< (nI C &&& 31))) i = (bt b i || decide (i = C)) := by
    intro i hi
    rw [b_or, mk_bone (show C < 32 by omega) (show i < 32 by omega)]
  have hx : ∀ (x : Int64) (k : Nat), k < 16 → ∀ i p, i < 16 → p < 4 → mk_bL (x ||| ((nI k).toInt64 <<< ((4 * nI C).toInt64 &&& 63))) (4 * i + p) = (mk_bL x (4 * i + p) || (decide (i = C) && k.testBit p)) := by
    intro x k hk i p hi hp
    rw [mk_L_or, mk_4, mk_L_shl (4 * C) (by omega) _ (by omega), nI_l (by omega), mk_L_N k _ (by omega)]
    by_cases e : i = C
    · rw [e, decide_eq_true (show 4 * C ≤ 4 * C + p by omega), decide_eq_true rfl, Nat.add_sub_cancel_left]
    · rw [decide_eq_false e, Bool.false_and]
      by_cases g : 4 * C ≤ 4 * i + p
      · rw [mk_tb hk (show 4 ≤ 4 * i + p - 4 * C by omega), Bool.and_false]
      · rw [decide_eq_false g, Bool.false_and]
  intro i hi
  rw [hb i hi]
  by_cases e : i = C
  · subst e
    have hf : bt b i = false := by
      cases z : bt b i with
      | false => rfl
      | true =>
        have := ((h i hi).1 z).1
        omega
    refine ⟨fun _ => ?_, fun z => ?_⟩
    · rw [pk_us, pk_us, pk_us, pk_us]
      refine ⟨by omega, rfl, rfl, j, l, hj, hl, rfl, rfl, fun p hp => ?_⟩
      obtain ⟨g1, g2⟩ := (h i hi).2 hf p hp
      rw [hx x j hj i p hi hp, hx y l hl i p hi hp, g1, g2, decide_eq_true rfl, Bool.true_and, Bool.true_and, Bool.false_or, Bool.false_or]
      exact ⟨rfl, rfl⟩
    · rw [decide_eq_true rfl, Bool.or_true] at z
      exact absurd z (by decide)
  · rw [decide_eq_false e, Bool.or_false, pk_un e, pk_un e, pk_un e, pk_un e]
    refine ⟨fun z => ?_, fun z p hp => ?_⟩
    · obtain ⟨g1, g2, g3, j', l', a1, a2, a3, a4, a5⟩ := (h i hi).1 z
      refine ⟨by omega, g2, g3, j', l', a1, a2, a3, a4, fun p hp => ?_⟩
      rw [hx x j hj i p hi hp, hx y l hl i p hi hp, decide_eq_false e, Bool.false_and, Bool.false_and, Bool.or_false, Bool.or_false]
      exact a5 p hp
    · rw [hx x j hj i p hi hp, hx y l hl i p hi hp, decide_eq_false e, Bool.false_and, Bool.false_and, Bool.or_false, Bool.or_false]
      exact (h i hi).2 z p hp
end
section
/-! the law's look at one until: the averages -/
section
variable {L : Nat} {xs : Nat → Int32} {kc ks : Nat} {post : Int32 → Prop} {J679 : (Int32 → Int32 → Int32 → Int32 → Int32 → (Nat → Int32) → (Nat → Int32) → (Nat → Int32) → (Nat → Int32) → (Nat → Int32) → (Nat → Int32) → (Nat → Int32) → (Nat → Int32) → (Nat → Int32) → (Nat → Int64) → (Nat → Int64) → (Nat → Int64) → (Nat → Int64) → (Nat → Int32) → (Nat → Int64) → Prop)} {J821 : Int32 → Prop} {x1 x5 x11 x12 : Int32} {x6 x8 : Int64}
variable {N C : Nat} {vl : Int32} {wt lb kd fi se bo tn td tr un : Nat → Int32} {vn vd pa np mx : Nat → Int64}
theorem mL_1461 {J1188 : Int32 → Prop} {x20 x23 : Int32} {i s Lc D : Nat} {X : Nat → Nat} (hN : N ≤ 12) (hC : C ≤ 16) (hW : mk_W wt N) (hv : ¬ vl = 0) (hi : i < C) (hk : kd i = 4) (hs : s < N) (hD : 0 < D) (hD2 : D ≤ 1073741824) (hX : ∀ t, t < N → X t ≤ D) (hvn : ∀ t, t < N → vn (i * 12 + t) = lN (mk_fn (X t) D)) (hvd : ∀ t, t < N → vd (i * 12 + t) = lN (mk_fq (X t) D)) (heq : mk_t (mk_w wt s) N * X s = mk_t (fun t => mk_w wt s t * X t) N) (hL0 : 0 < Lc) (hLD : Lc ∣ D) (hq : ∀ t, t < N → 0 < mk_w wt s t → mk_fq (X t) D ∣ Lc) (k : J1188 (nI s + 1)) : ∀ (n t S : Nat), t ≤ N → N < n + t → S * D = Lc * mk_t (fun t => mk_w wt s t * X t) t → S ≤ mk_t (mk_w wt s) t * Lc → (wL_law_1461 post L xs J679 J821 J1188 x1 (nI N) x5 x6 x8 x11 x12 (nI i) x20 x23 (nI s) (lN (mk_fn (X s) D)) (lN (mk_fq (X s) D)) (lN Lc) (lN (mk_t (mk_w wt s) N)) kc ks (nI N) (nI C) vl wt lb kd fi se bo tn td tr vn vd pa np un mx n (lN S) (nI t)) := by
  have hLB : Lc ≤ D := Nat.le_of_dvd hD hLD
  have h4 := (hW s hs).2
  intro n
  induction n with
  | zero => intro t S h1 h2; omega
  | succ n ih =>
    intro t S h1 h2 hS hSB
    refine pk_le N t (fun h => ?_) (fun h => ?_)
    · obtain rfl : t = N := by omega
      obtain ⟨q0, qD, nq, g1, qd, e⟩ := mk_f_all hD (hX s hs)
      have b1 : mk_t (mk_w wt s) t * Lc ≤ 4 * 1073741824 := Nat.mul_le_mul h4 (by omega)
      have b2 : mk_t (mk_w wt s) t * mk_fn (X s) D ≤ 4 * 1073741824 := Nat.mul_le_mul h4 (by omega)
      have c1 := Nat.gcd_pos_of_pos_right (mk_t (mk_w wt s) t * mk_fn (X s) D) q0
      have c2 := Nat.gcd_le_right (mk_t (mk_w wt s) t * mk_fn (X s) D) q0
      have c3 := Nat.gcd_pos_of_pos_right S hL0
      have c4 := Nat.gcd_le_right S hL0
      have z1 : ¬ lN (Nat.gcd (mk_t (mk_w wt s) t * mk_fn (X s) D) (mk_fq (X s) D)) = 0 := mk_gne (by omega) q0
      have z2 : ¬ lN (Nat.gcd S Lc) = 0 := mk_gne (by omega) hL0
      have red := mk_red (p := mk_t (mk_w wt s) t * mk_fn (X s) D) (q := mk_fq (X s) D) (p' := S) (q' := Lc) (a := mk_fq (X s) D) (b := Lc) q0 hL0 (mk_final hD (by rw [heq]; exact hS) e) (Nat.mul_comm _ _)
      have e1 : lN (mk_t (mk_w wt s) t * mk_fn (X s) D) / lN (Nat.gcd (mk_t (mk_w wt s) t * mk_fn (X s) D) (mk_fq (X s) D)) = lN S / lN (Nat.gcd S Lc) := by
        rw [pk_lDiv (by omega) c1 (by omega), pk_lDiv (by omega) c3 (by omega), red.1]
      have e2 : lN (mk_fq (X s) D) / lN (Nat.gcd (mk_t (mk_w wt s) t * mk_fn (X s) D) (mk_fq (X s) D)) = lN Lc / lN (Nat.gcd S Lc) := by
        rw [pk_lDiv (by omega) c1 (by omega), pk_lDiv (by omega) c3 (by omega), red.2]
      rw [lN_mul]
      refine mL_gcd (by omega) (by omega) (mL_gcd (by omega) (by omega) ⟨z1, z2, br_t e1 ⟨z1, z2, br_t e2 (nm_e k)⟩⟩)
    · have hw := mk_W_le hW hs h
      obtain ⟨q0, qD, nq, g1, qd, e⟩ := mk_f_all hD (hX t h)
      refine mx_gw hN hW hs h ?_
      refine pk_lt 0 (mk_w wt s t) (fun g => ?_) (fun g => ?_)
      · refine mx_pn hN hC hv hi hk h (mx_pd hN hC hv hi hk h ?_)
        rw [hvn t h, hvd t h]
        have hne : ¬ lN (mk_fq (X t) D) = 0 := fun z => by
          have := (pk_lEQ (b := 0) (by omega) (by omega)).mp z
          omega
        refine ⟨hne, ?_⟩
        rw [nI_l (by omega), lN_mul, pk_lDiv (by omega) q0 (by omega), lN_mul, lN_add]
        have tm := mk_term q0 (hq t h g) e
        have tB := mk_termB (L := Lc) nq
        refine nm_e (nm_r (nI_1 t) (ih (t + 1) _ (by omega) (by omega) ?_ ?_))
        · show _ = Lc * (mk_t (fun t => mk_w wt s t * X t) t + mk_w wt s t * X t)
          have e3 : mk_w wt s t * mk_fn (X t) D * (Lc / mk_fq (X t) D) * D = mk_w wt s t * (mk_fn (X t) D * (Lc / mk_fq (X t) D) * D) := by
            rw [Nat.mul_assoc (mk_w wt s t), Nat.mul_assoc (mk_w wt s t)]
          have e4 : mk_w wt s t * (Lc * X t) = Lc * (mk_w wt s t * X t) := by
            rw [← Nat.mul_assoc, Nat.mul_comm (mk_w wt s t) Lc, Nat.mul_assoc]
          rw [Nat.add_mul, hS, Nat.mul_add, e3, tm, e4]
        · show _ ≤ (mk_t (mk_w wt s) t + mk_w wt s t) * Lc
          have e3 : mk_w wt s t * mk_fn (X t) D * (Lc / mk_fq (X t) D) ≤ mk_w wt s t * Lc := by
            rw [Nat.mul_assoc]
            exact Nat.mul_le_mul_left _ tB
          rw [Nat.add_mul]
          omega
      · have w0 : mk_w wt s t = 0 := by omega
        refine nm_r (nI_1 t) (ih (t + 1) S (by omega) (by omega) ?_ ?_)
        · show _ = Lc * (mk_t (fun t => mk_w wt s t * X t) t + mk_w wt s t * X t)
          rw [w0, Nat.zero_mul, Nat.add_zero]; exact hS
        · show _ ≤ (mk_t (mk_w wt s) t + mk_w wt s t) * Lc
          rw [w0, Nat.add_zero]; exact hSB
theorem mL_1322 {J1188 : Int32 → Prop} {x20 x23 : Int32} {i s D : Nat} {X : Nat → Nat} (hN : N ≤ 12) (hC : C ≤ 16) (hW : mk_W wt N) (hv : ¬ vl = 0) (hi : i < C) (hk : kd i = 4) (hs : s < N) (hD : 0 < D) (hD2 : D ≤ 1073741824) (hX : ∀ t, t < N → X t ≤ D) (hvn : ∀ t, t < N → vn (i * 12 + t) = lN (mk_fn (X t) D)) (hvd : ∀ t, t < N → vd (i * 12 + t) = lN (mk_fq (X t) D)) (heq : mk_t (mk_w wt s) N * X s = mk_t (fun t => mk_w wt s t * X t) N) (ht0 : 0 < mk_t (mk_w wt s) N) (k : J1188 (nI s + 1)) : ∀ (n t Lc : Nat), t ≤ N → N < n + t → 0 < Lc → Lc ∣ D → (∀ t', t' < t → 0 < mk_w wt s t' → mk_fq (X t') D ∣ Lc) → (wL_law_1322 post L xs J679 J821 J1188 x1 (nI N) x5 x6 x8 x11 x12 (nI i) x20 x23 (nI s) (lN (mk_fn (X s) D)) (lN (mk_fq (X s) D)) kc ks (nI N) (nI C) vl wt lb kd fi se bo tn td tr vn vd pa np un mx n (lN Lc) (lN (mk_t (mk_w wt s) t)) (nI t)) := by
  have h4 := (hW s hs).2
  intro n
  induction n with
  | zero => intro t Lc h1 h2; omega
  | succ n ih =>
    intro t Lc h1 h2 hL0 hLD hq
    have hLB : Lc ≤ D := Nat.le_of_dvd hD hLD
    refine pk_le N t (fun h => ?_) (fun h => ?_)
    · obtain rfl : t = N := by omega
      have hne : ¬ lN (mk_t (mk_w wt s) t) = 0 := fun z => by
        have := (pk_lEQ (b := 0) (by omega) (by omega)).mp z
        omega
      refine br_f hne ⟨t + 1, mL_1461 hN hC hW hv hi hk hs hD hD2 hX hvn hvd heq hL0 hLD hq k (t + 1) 0 0 (by omega) (by omega) ?_ (Nat.zero_le _)⟩
      show 0 * D = Lc * 0
      rw [Nat.zero_mul, Nat.mul_zero]
    · have hw := mk_W_le hW hs h
      obtain ⟨q0, qD, nq, g1, qd, e⟩ := mk_f_all hD (hX t h)
      refine mx_gw hN hW hs h ?_
      refine pk_lt 0 (mk_w wt s t) (fun g => ?_) (fun g => ?_)
      · refine nm_r (e' := lN (mk_t (mk_w wt s) (t + 1))) (by rw [nI_l (by omega), lN_add]; rfl) ?_
        refine mx_pd hN hC hv hi hk h (mx_pn hN hC hv hi hk h ?_)
        rw [hvn t h, hvd t h]
        have c3 := Nat.gcd_pos_of_pos_right Lc q0
        have c4 := Nat.gcd_le_right Lc q0
        have hne : ¬ lN (mk_fq (X t) D) = 0 := fun z => by
          have := (pk_lEQ (b := 0) (by omega) (by omega)).mp z
          omega
        have n1 : ¬ lN (mk_fq (X t) D) < 1 := fun z => by
          have := (pk_lLT (b := 1) (by omega) (by omega)).mp z
          omega
        have n2 : ¬ (1099511627776 : Int64) < lN (mk_fq (X t) D) := fun z => by
          have := (pk_lLT (a := 1099511627776) (by omega) (by omega)).mp z
          omega
        have n3 : ¬ lN (mk_fn (X t) D) < 0 := fun z => by
          have := (pk_lLT (b := 0) (by omega) (by omega)).mp z
          omega
        have n4 : lN (mk_fn (X t) D) ≤ lN (mk_fq (X t) D) := (pk_lLE (by omega) (by omega)).mpr nq
        obtain ⟨l0, l1, l2, l3, l4⟩ := mk_lc hL0 q0 hLD qd hD
        have ed : (1099511627776 : Int64) / lN (mk_fq (X t) D) = lN (1099511627776 / mk_fq (X t) D) := pk_lDiv (a := 1099511627776) (by omega) q0 (by omega)
        have dl : Lc / Nat.gcd Lc (mk_fq (X t) D) ≤ Lc := Nat.div_le_self _ _
        have dm : 1099511627776 / mk_fq (X t) D ≤ 1099511627776 := Nat.div_le_self _ _
        have n5 : lN (Lc / Nat.gcd Lc (mk_fq (X t) D)) ≤ lN (1099511627776 / mk_fq (X t) D) := (pk_lLE (by omega) (by omega)).mpr ((Nat.le_div_iff_mul_le q0).mpr (by omega))
        refine br_f n1 (br_f n2 (br_f n3 (br_t n4 (mL_gcd (by omega) (by omega) ⟨mk_gne (by omega) q0, ?_⟩))))
        refine nm_r (pk_lDiv (by omega) c3 (by omega)) ⟨hne, ?_⟩
        rw [ed, lN_mul]
        refine br_t n5 (nm_e (nm_r (nI_1 t) (ih (t + 1) _ (by omega) (by omega) l0 l1 (fun t' ht' hw' => ?_))))
        by_cases z : t' = t
        · rw [z]; exact l3
        · exact Nat.dvd_trans (hq t' (by omega) hw') l2
      · have w0 : mk_w wt s t = 0 := by omega
        have e1 : mk_t (mk_w wt s) t = mk_t (mk_w wt s) (t + 1) := by
          show _ = mk_t (mk_w wt s) t + mk_w wt s t
          omega
        rw [e1]
        refine nm_r (nI_1 t) (ih (t + 1) Lc (by omega) (by omega) hL0 hLD (fun t' ht' hw' => ?_))
        by_cases z : t' = t
        · rw [z] at hw'; omega
        · exact hq t' (by omega) hw'
theorem mL_1188 {x20 x23 : Int32} {i D : Nat} {X : Nat → Nat} {Z O : Nat → Bool} (hN : N ≤ 12) (hC : C ≤ 16) (hW : mk_W wt N) (hv : ¬ vl = 0) (hi : i < C) (hk : kd i = 4) (hD : 0 < D) (hD2 : D ≤ 1073741824) (hX : ∀ t, t < N → X t ≤ D) (hvn : ∀ t, t < N → vn (i * 12 + t) = lN (mk_fn (X t) D)) (hvd : ∀ t, t < N → vd (i * 12 + t) = lN (mk_fq (X t) D)) (hZ : mk_bs N x20 Z) (hO : mk_bs N x23 O) (cZ : ∀ s, s < N → Z s = true → X s = 0) (cO : ∀ s, s < N → Z s = false → O s = true → X s = D) (cU : ∀ s, s < N → Z s = false → O s = false → 0 < mk_t (mk_w wt s) N ∧ mk_t (mk_w wt s) N * X s = mk_t (fun t => mk_w wt s t * X t) N) (k : J821 (nI i + 1)) : ∀ (n s : Nat), s ≤ N → N < n + s → (wL_law_1188 post L xs J679 J821 x1 (nI N) x5 x6 x8 x11 x12 (nI i) x20 x23 kc ks (nI N) (nI C) vl wt lb kd fi se bo tn td tr vn vd pa np un mx n (nI s)) := by
  intro n
  induction n with
  | zero => intro s h1 h2; omega
  | succ n ih =>
    intro s h1 h2
    refine pk_le N s (fun h => ?_) (fun h => ?_)
    · exact nm_e k
    · obtain ⟨q0, qD, nq, g1, qd, e⟩ := mk_f_all hD (hX s h)
      refine mx_pn hN hC hv hi hk h (mx_pd hN hC hv hi hk h ?_)
      rw [hvn s h, hvd s h]
      have n1 : ¬ lN (mk_fq (X s) D) < 1 := fun z => by
        have := (pk_lLT (b := 1) (by omega) (by omega)).mp z
        omega
      have n3 : ¬ lN (mk_fn (X s) D) < 0 := fun z => by
        have := (pk_lLT (b := 0) (by omega) (by omega)).mp z
        omega
      refine br_f n1 (br_f n3 (mL_gcd (by omega) (by omega) ?_))
      rw [g1]
      refine br_t rfl ?_
      have bz := mk_bs_bit hZ h (by omega)
      have bo := mk_bs_bit hO h (by omega)
      cases zZ : Z s with
      | true =>
        have x0 := cZ s h zZ
        have f0 : mk_fn (X s) D = 0 := by unfold mk_fn; rw [x0, Nat.zero_div]
        have f1 : mk_fq (X s) D = 1 := by unfold mk_fq; rw [x0, Nat.gcd_zero_left, Nat.div_self hD]
        rw [f0, f1]
        refine br_f (fun z => ?_) (br_t rfl (br_t rfl (nm_r (nI_1 s) (ih (s + 1) (by omega) (by omega)))))
        rw [bz.mp z] at zZ
        exact absurd zZ (by decide)
      | false =>
        refine br_t (bz.mpr zZ) ?_
        cases zO : O s with
        | true =>
          have x0 := cO s h zZ zO
          have f0 : mk_fn (X s) D = 1 := by unfold mk_fn; rw [x0, Nat.gcd_self, Nat.div_self hD]
          have f1 : mk_fq (X s) D = 1 := by unfold mk_fq; rw [x0, Nat.gcd_self, Nat.div_self hD]
          rw [f0, f1]
          refine br_f (fun z => ?_) (br_t rfl (br_t rfl (nm_r (nI_1 s) (ih (s + 1) (by omega) (by omega)))))
          rw [bo.mp z] at zO
          exact absurd zO (by decide)
        | false =>
          obtain ⟨t0, heq⟩ := cU s h zZ zO
          have n4 : ¬ lN (mk_fq (X s) D) < lN (mk_fn (X s) D) := fun z => by
            have := (pk_lLT (by omega) (by omega)).mp z
            omega
          have n5 : lN (mk_fq (X s) D) ≤ 1152921504606846976 := (pk_lLE (b := 1152921504606846976) (by omega) (by omega)).mpr (by omega)
          refine br_t (bo.mpr zO) (br_f n4 (br_t n5 ⟨N + 1, mL_1322 hN hC hW hv hi hk h hD hD2 hX hvn hvd heq t0 ?_ (N + 1) 0 1 (by omega) (by omega) (by omega) (Nat.one_dvd D) (fun t' ht' => by omega)⟩))
          rw [nI_1]
          exact ih (s + 1) (by omega) (by omega)
end
end
section
/-! the law's sets of reaching states, its look at all nodes -/
theorem mk_any_no {f : Nat → Bool} (n : Nat) (h : ∀ t, t < n → f t = false) : mk_any f n = false := by
  cases e : mk_any f n with
  | false => rfl
  | true =>
    obtain ⟨t, a, b⟩ := mk_any_ex f n e
    rw [h t a] at b
    exact absurd b (by decide)
theorem mk_add_no {w : Nat → Nat → Nat} {N : Nat} {via q : Nat → Bool} {s : Nat} (h : q s = true ∨ via s = false) (t : Nat) : q t = mk_add w N via q s t := by
  by_cases e : t = s
  · rw [e, mk_add_at]
    rcases h with h | h
    · rw [h]; rfl
    · rw [h, Bool.false_and, Bool.or_false]
  · rw [mk_add_ne e]
section
variable {L : Nat} {xs : Nat → Int32} {kc ks : Nat} {post : Int32 → Prop} {J679 : (Int32 → Int32 → Int32 → Int32 → Int32 → (Nat → Int32) → (Nat → Int32) → (Nat → Int32) → (Nat → Int32) → (Nat → Int32) → (Nat → Int32) → (Nat → Int32) → (Nat → Int32) → (Nat → Int32) → (Nat → Int64) → (Nat → Int64) → (Nat → Int64) → (Nat → Int64) → (Nat → Int32) → (Nat → Int64) → Prop)} {J821 : Int32 → Prop} {x1 x5 x11 x12 : Int32} {x6 x8 : Int64}
variable {N C : Nat} {nd vl : Int32} {wt lb kd fi se bo tn td tr un : Nat → Int32} {vn vd pa np mx : Nat → Int64}
theorem mL_1114 {J1081 J1090 : Int32 → Int32 → Prop} {x13 x18 x20 x22 x23 y : Int32} {s : Nat} {v q : Nat → Bool} (hN : N ≤ 12) (hW : mk_W wt N) (hs : s < N) (hy : mk_bs N y q) (hq : q s = false) (hv : v s = true) (k : ∀ y', mk_bs N y' (mk_add (mk_w wt) N v q s) → J1090 y' (nI s + 1)) : ∀ (n t : Nat), t ≤ N → N < n + t → (∀ t', t' < t → (decide (0 < mk_w wt s t') && q t') = false) → (wL_law_1114 post L xs J679 J821 J1081 J1090 x1 (nI N) x5 x6 x8 x11 x12 x13 x18 x20 y x22 x23 (nI s) kc ks (nI N) nd vl wt lb kd fi se bo tn td tr vn vd pa np un mx n (nI t)) := by
  intro n
  induction n with
  | zero => intro t h1 h2; omega
  | succ n ih =>
    intro t h1 h2 hf
    refine pk_le N t (fun h => ?_) (fun h => ?_)
    · obtain rfl : t = N := by omega
      refine nm_e (k y (mk_bs_congr hy (fun u _ => ?_)))
      by_cases e : u = s
      · rw [e, mk_add_at, hv, Bool.true_and]
        have : mk_sc (mk_w wt) t q s = false := mk_any_no t hf
        rw [this, Bool.or_false]
      · rw [mk_add_ne e]
    · have bq := mk_bs_bit hy h (by omega)
      have nx : (decide (0 < mk_w wt s t) && q t) = false → (wL_law_1114 post L xs J679 J821 J1081 J1090 x1 (nI N) x5 x6 x8 x11 x12 x13 x18 x20 y x22 x23 (nI s) kc ks (nI N) nd vl wt lb kd fi se bo tn td tr vn vd pa np un mx n (nI (t + 1))) := by
        intro z
        refine ih (t + 1) (by omega) (by omega) (fun t' ht' => ?_)
        by_cases e : t' = t
        · rw [e]; exact z
        · exact hf t' (by omega)
      cases z : q t with
      | false => exact br_t (bq.mpr z) (nm_r (nI_1 t) (nx (by rw [z, Bool.and_false])))
      | true =>
        have hw := mk_W_le hW hs h
        refine br_f (fun z' => ?_) (mx_gw hN hW hs h ?_)
        · rw [bq.mp z'] at z
          exact absurd z (by decide)
        · refine mk_pos (mk_w wt s t) rfl (by omega) (fun g => ?_) (fun g => ?_)
          · exact nm_r (nI_1 t) (nx (by rw [decide_eq_false (by omega), Bool.false_and]))
          · refine nm_e (nm_e (k _ (mk_bs_congr (mk_bs_put hy hs (by omega)) (fun u _ => ?_))))
            by_cases e : u = s
            · have hsc : mk_sc (mk_w wt) N q s = true := mk_any_of (fun t => decide (0 < mk_w wt s t) && q t) N h (by
                show (decide (0 < mk_w wt s t) && q t) = true
                rw [decide_eq_true g, z]; rfl)
              rw [if_pos e, e, mk_add_at, hv, hsc, Bool.true_and, Bool.or_true]
            · rw [if_neg e, mk_add_ne e]
theorem mL_1090 {J1081 : Int32 → Int32 → Prop} {x13 x18 x20 x22 x23 : Int32} {v q : Nat → Bool} (hN : N ≤ 12) (hW : mk_W wt N) (hp : mk_bs N x22 v) (k : ∀ y, mk_bs N y (mk_pass (mk_w wt) N v q N) → J1081 y (x23 + 1)) : ∀ (n s : Nat) (y : Int32), s ≤ N → N < n + s → mk_bs N y (mk_pass (mk_w wt) N v q s) → (wL_law_1090 post L xs J679 J821 J1081 x1 (nI N) x5 x6 x8 x11 x12 x13 x18 x20 x22 x23 kc ks (nI N) nd vl wt lb kd fi se bo tn td tr vn vd pa np un mx n y (nI s)) := by
  intro n
  induction n with
  | zero => intro s y h1 h2; omega
  | succ n ih =>
    intro s y h1 h2 hy
    refine pk_le N s (fun h => ?_) (fun h => ?_)
    · obtain rfl : s = N := by omega
      exact nm_e (k y hy)
    · have bq := mk_bs_bit (mk_bs_diff hp hy) h (by omega)
      cases z : (v s && !mk_pass (mk_w wt) N v q s s) with
      | false =>
        refine br_t (bq.mpr z) (nm_r (nI_1 s) (ih (s + 1) y (by omega) (by omega) (mk_bs_congr hy (fun t _ => mk_add_no ?_ t))))
        cases z1 : mk_pass (mk_w wt) N v q s s with
        | true => exact Or.inl rfl
        | false =>
          rw [z1] at z
          right
          cases z2 : v s with
          | false => rfl
          | true => rw [z2] at z; exact absurd z (by decide)
      | true =>
        rw [Bool.and_eq_true] at z
        have zq : mk_pass (mk_w wt) N v q s s = false := by
          cases z1 : mk_pass (mk_w wt) N v q s s with
          | false => rfl
          | true => rw [z1] at z; exact absurd z.2 (by decide)
        refine br_f (fun z' => ?_) ⟨N + 1, mL_1114 hN hW h hy zq z.1 (fun y' hy' => ?_) (N + 1) 0 (by omega) (by omega) (fun t' ht' => by omega)⟩
        · have := bq.mp z'
          rw [z.1, zq] at this
          exact absurd this (by decide)
        · rw [nI_1]
          exact ih (s + 1) y' (by omega) (by omega) hy'
theorem mL_1081 {x13 x18 x20 x22 : Int32} {v p : Nat → Bool} (hN : N ≤ 12) (hW : mk_W wt N) (hp : mk_bs N x22 v) (k : ∀ y, mk_bs N y (mk_reach (mk_w wt) N v p N) → ∃ f, (wL_law_1188 post L xs J679 J821 x1 (nI N) x5 x6 x8 x11 x12 x13 x20 ((x18 &&& (x20 ^^^ (-1))) &&& (y ^^^ (-1))) kc ks (nI N) nd vl wt lb kd fi se bo tn td tr vn vd pa np un mx f 0)) : ∀ (n r : Nat) (y : Int32), r ≤ N → N < n + r → mk_bs N y (mk_reach (mk_w wt) N v p r) → (wL_law_1081 post L xs J679 J821 x1 (nI N) x5 x6 x8 x11 x12 x13 x18 x20 x22 kc ks (nI N) nd vl wt lb kd fi se bo tn td tr vn vd pa np un mx n y (nI r)) := by
  intro n
  induction n with
  | zero => intro r y h1 h2; omega
  | succ n ih =>
    intro r y h1 h2 hy
    refine pk_le N r (fun h => ?_) (fun h => ?_)
    · obtain rfl : r = N := by omega
      exact nm_e (k y hy)
    · refine ⟨N + 1, mL_1090 (q := mk_reach (mk_w wt) N v p r) hN hW hp (fun y' hy' => ?_) (N + 1) 0 y (by omega) (by omega) hy⟩
      rw [nI_1]
      exact ih (r + 1) y' (by omega) (by omega) hy'
theorem mL_999 {J966 J975 : Int32 → Int32 → Prop} {x13 x16 x17 x18 x20 y : Int32} {s : Nat} {v q : Nat → Bool} (hN : N ≤ 12) (hW : mk_W wt N) (hs : s < N) (hy : mk_bs N y q) (hq : q s = false) (hv : v s = true) (k : ∀ y', mk_bs N y' (mk_add (mk_w wt) N v q s) → J975 y' (nI s + 1)) : ∀ (n t : Nat), t ≤ N → N < n + t → (∀ t', t' < t → (decide (0 < mk_w wt s t') && q t') = false) → (wL_law_999 post L xs J679 J821 J966 J975 x1 (nI N) x5 x6 x8 x11 x12 x13 x16 x17 x18 y x20 (nI s) kc ks (nI N) nd vl wt lb kd fi se bo tn td tr vn vd pa np un mx n (nI t)) := by
  intro n
  induction n with
  | zero => intro t h1 h2; omega
  | succ n ih =>
    intro t h1 h2 hf
    refine pk_le N t (fun h => ?_) (fun h => ?_)
    · obtain rfl : t = N := by omega
      refine nm_e (k y (mk_bs_congr hy (fun u _ => ?_)))
      by_cases e : u = s
      · rw [e, mk_add_at, hv, Bool.true_and]
        have : mk_sc (mk_w wt) t q s = false := mk_any_no t hf
        rw [this, Bool.or_false]
      · rw [mk_add_ne e]
    · have bq := mk_bs_bit hy h (by omega)
      have nx : (decide (0 < mk_w wt s t) && q t) = false → (wL_law_999 post L xs J679 J821 J966 J975 x1 (nI N) x5 x6 x8 x11 x12 x13 x16 x17 x18 y x20 (nI s) kc ks (nI N) nd vl wt lb kd fi se bo tn td tr vn vd pa np un mx n (nI (t + 1))) := by
        intro z
        refine ih (t + 1) (by omega) (by omega) (fun t' ht' => ?_)
        by_cases e : t' = t
        · rw [e]; exact z
        · exact hf t' (by omega)
      cases z : q t with
      | false => exact br_t (bq.mpr z) (nm_r (nI_1 t) (nx (by rw [z, Bool.and_false])))
      | true =>
        have hw := mk_W_le hW hs h
        refine br_f (fun z' => ?_) (mx_gw hN hW hs h ?_)
        · rw [bq.mp z'] at z
          exact absurd z (by decide)
        · refine mk_pos (mk_w wt s t) rfl (by omega) (fun g => ?_) (fun g => ?_)
          · exact nm_r (nI_1 t) (nx (by rw [decide_eq_false (by omega), Bool.false_and]))
          · refine nm_e (nm_e (k _ (mk_bs_congr (mk_bs_put hy hs (by omega)) (fun u _ => ?_))))
            by_cases e : u = s
            · have hsc : mk_sc (mk_w wt) N q s = true := mk_any_of (fun t => decide (0 < mk_w wt s t) && q t) N h (by
                show (decide (0 < mk_w wt s t) && q t) = true
                rw [decide_eq_true g, z]; rfl)
              rw [if_pos e, e, mk_add_at, hv, hsc, Bool.true_and, Bool.or_true]
            · rw [if_neg e, mk_add_ne e]
theorem mL_975 {J966 : Int32 → Int32 → Prop} {x13 x16 x17 x18 x20 : Int32} {v q : Nat → Bool} (hN : N ≤ 12) (hW : mk_W wt N) (hp : mk_bs N x16 v) (k : ∀ y, mk_bs N y (mk_pass (mk_w wt) N v q N) → J966 y (x20 + 1)) : ∀ (n s : Nat) (y : Int32), s ≤ N → N < n + s → mk_bs N y (mk_pass (mk_w wt) N v q s) → (wL_law_975 post L xs J679 J821 J966 x1 (nI N) x5 x6 x8 x11 x12 x13 x16 x17 x18 x20 kc ks (nI N) nd vl wt lb kd fi se bo tn td tr vn vd pa np un mx n y (nI s)) := by
  intro n
  induction n with
  | zero => intro s y h1 h2; omega
  | succ n ih =>
    intro s y h1 h2 hy
    refine pk_le N s (fun h => ?_) (fun h => ?_)
    · obtain rfl : s = N := by omega
      exact nm_e (k y hy)
    · have bq := mk_bs_bit (mk_bs_diff hp hy) h (by omega)
      cases z : (v s && !mk_pass (mk_w wt) N v q s s) with
      | false =>
        refine br_t (bq.mpr z) (nm_r (nI_1 s) (ih (s + 1) y (by omega) (by omega) (mk_bs_congr hy (fun t _ => mk_add_no ?_ t))))
        cases z1 : mk_pass (mk_w wt) N v q s s with
        | true => exact Or.inl rfl
        | false =>
          rw [z1] at z
          right
          cases z2 : v s with
          | false => rfl
          | true => rw [z2] at z; exact absurd z (by decide)
      | true =>
        rw [Bool.and_eq_true] at z
        have zq : mk_pass (mk_w wt) N v q s s = false := by
          cases z1 : mk_pass (mk_w wt) N v q s s with
          | false => rfl
          | true => rw [z1] at z; exact absurd z.2 (by decide)
        refine br_f (fun z' => ?_) ⟨N + 1, mL_999 hN hW h hy zq z.1 (fun y' hy' => ?_) (N + 1) 0 (by omega) (by omega) (fun t' ht' => by omega)⟩
        · have := bq.mp z'
          rw [z.1, zq] at this
          exact absurd this (by decide)
        · rw [nI_1]
          exact ih (s + 1) y' (by omega) (by omega) hy'
theorem mL_966 {x13 x16 x17 x18 : Int32} {v p : Nat → Bool} (hN : N ≤ 12) (hW : mk_W wt N) (hp : mk_bs N x16 v) (k : ∀ y, mk_bs N y (mk_reach (mk_w wt) N v p N) → ∃ f, (wL_law_1081 post L xs J679 J821 x1 (nI N) x5 x6 x8 x11 x12 x13 x18 (x18 &&& (y ^^^ (-1))) (x16 &&& (x17 ^^^ (-1))) kc ks (nI N) nd vl wt lb kd fi se bo tn td tr vn vd pa np un mx f (x18 &&& (y ^^^ (-1))) 0)) : ∀ (n r : Nat) (y : Int32), r ≤ N → N < n + r → mk_bs N y (mk_reach (mk_w wt) N v p r) → (wL_law_966 post L xs J679 J821 x1 (nI N) x5 x6 x8 x11 x12 x13 x16 x17 x18 kc ks (nI N) nd vl wt lb kd fi se bo tn td tr vn vd pa np un mx n y (nI r)) := by
  intro n
  induction n with
  | zero => intro r y h1 h2; omega
  | succ n ih =>
    intro r y h1 h2 hy
    refine pk_le N r (fun h => ?_) (fun h => ?_)
    · obtain rfl : r = N := by omega
      exact nm_e (nm_e (k y hy))
    · refine ⟨N + 1, mL_975 (q := mk_reach (mk_w wt) N v p r) hN hW hp (fun y' hy' => ?_) (N + 1) 0 y (by omega) (by omega) hy⟩
      rw [nI_1]
      exact ih (r + 1) y' (by omega) (by omega) hy'
theorem mL_900 {x13 : Int32} {j l : Nat} (hN : N ≤ 12) (hC : C ≤ 16) (hv : ¬ vl = 0) (hj : j < C) (hl : l < C) (kj : ¬ kd j = 4) (kl : ¬ kd l = 4) (ht : mk_Tb N tr) (k : ∀ p q, mk_bs N p (bt (tr j)) → mk_bs N q (bt (tr l)) → ∃ f, (wL_law_966 post L xs J679 J821 x1 (nI N) x5 x6 x8 x11 x12 x13 p q (((1 : Int32) <<< (nI N &&& 31)) - 1) kc ks (nI N) (nI C) vl wt lb kd fi se bo tn td tr vn vd pa np un mx f q 0)) : ∀ (n s : Nat) (p q : Int32), s ≤ N → N < n + s → mk_bs N p (fun i => decide (i < s) && bt (tr j) i) → mk_bs N q (fun i => decide (i < s) && bt (tr l) i) → (wL_law_900 post L xs J679 J821 x1 (nI N) x5 x6 x8 x11 x12 x13 (nI j) (nI l) kc ks (nI N) (nI C) vl wt lb kd fi se bo tn td tr vn vd pa np un mx n p q (nI s)) := by
  intro n
  induction n with
  | zero => intro s p q h1 h2; omega
  | succ n ih =>
    intro s p q h1 h2 hp hq
    refine pk_le N s (fun h => ?_) (fun h => ?_)
    · obtain rfl : s = N := by omega
      exact nm_e (k p q (mk_bs_end hp) (mk_bs_end hq))
    · have second : ∀ p', mk_bs N p' (fun i => decide (i < s + 1) && bt (tr j) i) → (wL_law_926 post L xs J679 J821 (wL_law_900 post L xs J679 J821 x1 (nI N) x5 x6 x8 x11 x12 x13 (nI j) (nI l) kc ks (nI N) (nI C) vl wt lb kd fi se bo tn td tr vn vd pa np un mx n) x1 (nI N) x5 x6 x8 x11 x12 x13 (nI j) (nI l) p' q (nI s) kc ks (nI N) (nI C) vl wt lb kd fi se bo tn td tr vn vd pa np un mx) := by
        intro p' hp'
        refine mx_ho hN hC hv hl kl h ht (mk_bc (fun e => ?_) (fun e => ?_))
        · exact nm_r (nI_1 s) (ih (s + 1) p' q (by omega) (by omega) hp' (mk_bs_no hq e))
        · exact nm_e (nm_r (nI_1 s) (ih (s + 1) p' _ (by omega) (by omega) hp' (mk_bs_yes hq h hN e)))
      refine mx_ho hN hC hv hj kj h ht (mk_bc (fun e => ?_) (fun e => ?_))
      · exact second p (mk_bs_no hp e)
      · exact nm_e (second _ (mk_bs_yes hp h hN e))
theorem mL_one {i j l : Nat} (hN : N ≤ 12) (hC : C ≤ 16) (hW : mk_W wt N) (hv : ¬ vl = 0) (hi : i < C) (hk : kd i = 4) (hj : j < C) (hl : l < C) (kj : ¬ kd j = 4) (kl : ¬ kd l = 4) (ht : mk_Tb N tr) (hval : ∀ s, s < N → vn (i * 12 + s) = mk_un wt N (bt (tr j)) (bt (tr l)) s ∧ vd (i * 12 + s) = mk_um wt N (bt (tr j)) (bt (tr l)) s) (k : J821 (nI i + 1)) : ∃ f, (wL_law_900 post L xs J679 J821 x1 (nI N) x5 x6 x8 x11 x12 (nI i) (nI j) (nI l) kc ks (nI N) (nI C) vl wt lb kd fi se bo tn td tr vn vd pa np un mx f 0 0 0) := by
  have hpsi : ∀ s, bt (tr l) s = true → s < N := fun s hs => mk_bs_lt (ht l (by omega)) hs
  have hD := mk_D_pos (phi := bt (tr j)) hW hN hpsi
  refine ⟨N + 1, mL_900 hN hC hv hj hl kj kl ht (fun p q hp hq => ?_) (N + 1) 0 0 0 (by omega) (by omega) mk_bs_beg mk_bs_beg⟩
  refine ⟨N + 1, mL_966 (nd := nI C) hN hW hp (fun y hy => ?_) (N + 1) 0 q (by omega) (by omega) hq⟩
  have hZ : mk_bs N ((((1 : Int32) <<< (nI N &&& 31)) - 1) &&& (y ^^^ (-1))) (mk_Z (mk_w wt) N (bt (tr j)) (bt (tr l))) := mk_bs_congr (mk_bs_diff (mk_bs_all (N := N) (by omega)) hy) (fun s hs => by
    show (true && !mk_reach (mk_w wt) N (bt (tr j)) (bt (tr l)) N s) = (decide (s < N) && !mk_R1 (mk_w wt) N (bt (tr j)) (bt (tr l)) s)
    rw [decide_eq_true hs]; rfl)
  refine ⟨N + 1, mL_1081 (nd := nI C) hN hW (mk_bs_diff hp hq) (fun y2 hy2 => ?_) (N + 1) 0 _ (by omega) (by omega) hZ⟩
  have eZ : ∀ s, s < N → mk_Z (mk_w wt) N (bt (tr j)) (bt (tr l)) s = !mk_R1 (mk_w wt) N (bt (tr j)) (bt (tr l)) s := fun s hs => by
    show (decide (s < N) && !mk_R1 (mk_w wt) N (bt (tr j)) (bt (tr l)) s) = _
    rw [decide_eq_true hs, Bool.true_and]
  have hO : mk_bs N (((((1 : Int32) <<< (nI N &&& 31)) - 1) &&& (((((1 : Int32) <<< (nI N &&& 31)) - 1) &&& (y ^^^ (-1))) ^^^ (-1))) &&& (y2 ^^^ (-1))) (mk_O (mk_w wt) N (bt (tr j)) (bt (tr l))) := mk_bs_congr (mk_bs_diff (mk_bs_diff (mk_bs_all (N := N) (by omega)) hZ) hy2) (fun s hs => by
    show ((true && !mk_Z (mk_w wt) N (bt (tr j)) (bt (tr l)) s) && !mk_R2 (mk_w wt) N (bt (tr j)) (bt (tr l)) s) = (mk_R1 (mk_w wt) N (bt (tr j)) (bt (tr l)) s && !mk_R2 (mk_w wt) N (bt (tr j)) (bt (tr l)) s)
    rw [eZ s hs, Bool.true_and, Bool.not_not])
  have eU : ∀ s, s < N → mk_U (mk_w wt) N (bt (tr j)) (bt (tr l)) s = (!mk_Z (mk_w wt) N (bt (tr j)) (bt (tr l)) s && !mk_O (mk_w wt) N (bt (tr j)) (bt (tr l)) s) := fun s hs => by
    rw [eZ s hs, Bool.not_not]
    show (mk_R1 (mk_w wt) N (bt (tr j)) (bt (tr l)) s && mk_R2 (mk_w wt) N (bt (tr j)) (bt (tr l)) s) = (mk_R1 (mk_w wt) N (bt (tr j)) (bt (tr l)) s && !(mk_R1 (mk_w wt) N (bt (tr j)) (bt (tr l)) s && !mk_R2 (mk_w wt) N (bt (tr j)) (bt (tr l)) s))
    cases mk_R1 (mk_w wt) N (bt (tr j)) (bt (tr l)) s <;> cases mk_R2 (mk_w wt) N (bt (tr j)) (bt (tr l)) s <;> rfl
  have eO : ∀ s, s < N → mk_O (mk_w wt) N (bt (tr j)) (bt (tr l)) s = (!mk_Z (mk_w wt) N (bt (tr j)) (bt (tr l)) s && !mk_R2 (mk_w wt) N (bt (tr j)) (bt (tr l)) s) := fun s hs => by
    rw [eZ s hs, Bool.not_not]; rfl
  refine ⟨N + 1, mL_1188 (X := mk_X wt N (bt (tr j)) (bt (tr l))) hN hC hW hv hi hk hD.1 hD.2 (fun t h => mk_X_le hW hN hpsi h) (fun t h => ?_) (fun t h => ?_) hZ hO (fun s h z => ?_) (fun s h z1 z2 => ?_) (fun s h z1 z2 => ?_) k (N + 1) 0 (by omega) (by omega)⟩
  · rw [(hval t h).1]; exact (mk_unX hW hN hpsi h).1
  · rw [(hval t h).2]; exact (mk_unX hW hN hpsi h).2
  · have a := eU s h
    have b := eO s h
    rw [z, Bool.not_true, Bool.false_and] at a b
    unfold mk_X
    rw [if_neg (by rw [a]; decide), if_neg (by rw [b]; decide)]
  · have a := eU s h
    rw [z1, z2] at a
    unfold mk_X
    rw [if_neg (by rw [a]; decide), if_pos z2]
  · have a := eU s h
    rw [z1, z2] at a
    have hU : mk_U (mk_w wt) N (bt (tr j)) (bt (tr l)) s = true := a
    obtain ⟨⟨ρ, hρ⟩, _⟩ := mk_unk (w := mk_w wt) (phi := bt (tr j)) hN hpsi
    obtain ⟨t, ht', hwt, _⟩ := hρ s h hU
    have := mk_t_le (mk_w wt s) N ht'
    exact ⟨by omega, mk_X_eq hW hN hpsi h hU⟩
theorem mL_821 (K : mk_K N C vl wt kd fi se bo tr vn vd) (hub : mk_UB C kd fi se bo x5 x6 x8) (k : (J679 x1 (x12 + 1) (nI N) (nI C) vl wt lb kd fi se bo tn td tr vn vd pa np un mx)) : ∀ (n i : Nat), i ≤ 16 → 16 < n + i → (wL_law_821 post L xs J679 x1 (nI N) x5 x6 x8 x11 x12 kc ks (nI N) (nI C) vl wt lb kd fi se bo tn td tr vn vd pa np un mx n (nI i)) := by
  obtain ⟨h2, hN, hC, hW, hn, ht, hvl⟩ := id K
  intro n
  induction n with
  | zero => intro i h1 h2; omega
  | succ n ih =>
    intro i h1 h2
    refine pk_le 16 i (fun h => nm_e k) (fun h => ?_)
    have bq := mk_bit0 x5 (show i < 32 by omega)
    have nx : (wL_law_821 post L xs J679 x1 (nI N) x5 x6 x8 x11 x12 kc ks (nI N) (nI C) vl wt lb kd fi se bo tn td tr vn vd pa np un mx n (nI (i + 1))) := ih (i + 1) (by omega) (by omega)
    cases z : bt x5 i with
    | false => exact br_t (bq.mpr z) (nm_r (nI_1 i) nx)
    | true =>
      obtain ⟨g1, g2, g3, j, l, hj, hl, ef, es, hb⟩ := (hub i h).1 z
      obtain ⟨j', l', hj', hl', ef', es', kj, kl⟩ := (hn i g1).2 g2
      have e1 : j' = j := (nI_eq (by omega) (by omega)).mp (ef'.symm.trans ef)
      have e2 : l' = l := (nI_eq (by omega) (by omega)).mp (es'.symm.trans es)
      subst e1 e2
      refine br_f (fun z' => ?_) (mx_nk hC (fun r hr => ?_))
      · rw [bq.mp z'] at z
        exact absurd z (by decide)
      · rw [hr i g1 rfl, g2]
        refine br_t rfl ?_
        rcases hvl with hv0 | ⟨hv1, hval⟩
        · unfold wpX_probDen
          exact br_t hv0 (br_t rfl (nm_r (nI_1 i) nx))
        · have hv : ¬ vl = 0 := by rw [hv1]; decide
          have hpsi : ∀ s, bt (tr l') s = true → s < N := fun s hs => mk_bs_lt (ht l' (by omega)) hs
          have hval' := hval i g1 g2 g3 j' l' (by omega) (by omega) ef es
          have hD := mk_D_pos (phi := bt (tr j')) hW hN hpsi
          have h0 : 0 < N := by omega
          refine mx_pd (s := 0) hN hC hv g1 g2 h0 ?_
          rw [(hval' 0 h0).2, (mk_unX hW hN hpsi h0).2]
          obtain ⟨q0, qD, _⟩ := mk_f_all hD.1 (mk_X_le (phi := bt (tr j')) hW hN hpsi h0)
          have hne : ¬ lN (mk_D wt N (bt (tr j')) (bt (tr l')) / Nat.gcd (mk_X wt N (bt (tr j')) (bt (tr l')) 0) (mk_D wt N (bt (tr j')) (bt (tr l')))) = 0 := fun z => by
            have q0' : 0 < mk_D wt N (bt (tr j')) (bt (tr l')) / Nat.gcd (mk_X wt N (bt (tr j')) (bt (tr l')) 0) (mk_D wt N (bt (tr j')) (bt (tr l'))) := q0
            have qD' : mk_D wt N (bt (tr j')) (bt (tr l')) / Nat.gcd (mk_X wt N (bt (tr j')) (bt (tr l')) 0) (mk_D wt N (bt (tr j')) (bt (tr l'))) ≤ mk_D wt N (bt (tr j')) (bt (tr l')) := qD
            have := (pk_lEQ (b := 0) (by omega) (by omega)).mp z
            omega
          refine br_f hne (nm_r (mk_nib h (by omega) (fun p hp => (hb p hp).1)) (nm_r (mk_nib h (by omega) (fun p hp => (hb p hp).2)) ?_))
          refine mL_one hN hC hW hv g1 g2 (by omega) (by omega) kj kl ht hval' ?_
          rw [nI_1]
          exact nx
theorem mL_813 (K : mk_K N C vl wt kd fi se bo tr vn vd) (hub : mk_UB C kd fi se bo x5 x6 x8) (k : ∀ (vl' : Int32) (tr' un' : Nat → Int32) (vn' vd' pa' np' mx' : Nat → Int64), mk_K N C vl' wt kd fi se bo tr' vn' vd' → (J679 x1 (x12 + 1) (nI N) (nI C) vl' wt lb kd fi se bo tn td tr' vn' vd' pa' np' un' mx')) : (wL_law_813 post L xs J679 x1 (nI N) x5 x6 x8 x11 x12 kc ks (nI N) (nI C) vl wt lb kd fi se bo tn td tr vn vd pa np un mx) := by
  refine mx_kc K (fun r vl' tr' un' vn' vd' pa' np' mx' K' => ?_)
  exact ⟨17, mL_821 K' hub (k vl' tr' un' vn' vd' pa' np' mx' K') 17 0 (by omega) (by omega)⟩
end
end
section
/-! the law's rounds, its formulas -/
section
variable {L : Nat} {xs : Nat → Int32} {kc ks : Nat} {post : Int32 → Prop} {x5 : Int32} {x6 x8 : Int64}
variable {N C : Nat} {nd vl : Int32} {wt lb kd fi se bo tn td tr un : Nat → Int32} {vn vd pa np mx : Nat → Int64}
theorem mL_707 {J679 : (Int32 → Int32 → Int32 → Int32 → Int32 → (Nat → Int32) → (Nat → Int32) → (Nat → Int32) → (Nat → Int32) → (Nat → Int32) → (Nat → Int32) → (Nat → Int32) → (Nat → Int32) → (Nat → Int32) → (Nat → Int64) → (Nat → Int64) → (Nat → Int64) → (Nat → Int64) → (Nat → Int32) → (Nat → Int64) → Prop)} {x11 x12 : Int32} {M P : Nat} (hL : L ≤ 260) (hM : M ≤ 3) (hP : P ≤ 100000) (k : ∀ (p : Nat) (vl : Int32) (wt lb : Nat → Int32), p ≤ P + 10 * M → mk_K N C vl wt kd fi se bo tr vn vd → (wL_law_813 post L xs J679 (nI p) (nI N) x5 x6 x8 x11 x12 kc ks (nI N) (nI C) vl wt lb kd fi se bo tn td tr vn vd pa np un mx)) : ∀ (n i p : Nat) (vl : Int32) (wt lb : Nat → Int32), i ≤ M → M < n + i → p ≤ P + 10 * i → mk_K N C vl wt kd fi se bo tr vn vd → (wL_law_707 post L xs J679 (nI N) x5 x6 x8 x11 x12 (nI M) kc ks n (nI p) (nI i) (nI N) (nI C) vl wt lb kd fi se bo tn td tr vn vd pa np un mx) := by
  intro n
  induction n with
  | zero => intro i p vl wt lb h1 h2; omega
  | succ n ih =>
    intro i p vl wt lb h1 h2 hp K
    obtain ⟨hN2, hN, _⟩ := id K
    refine pk_le M i (fun h => ?_) (fun h => ?_)
    · obtain rfl : i = M := by omega
      exact k p vl wt lb hp K
    · refine nm_r (nI_1 p) (mL_pick N hL (by omega) (by omega) (by omega) (fun s _ => ?_))
      refine nm_r (nI_1 _) (mL_pick 2 hL (by omega) (by omega) (by omega) (fun b _ => ?_))
      refine br_c (fun _ => ?_) (fun _ => ?_)
      · refine nm_r (nI_1 _) (mL_pick N hL (by omega) (by omega) (by omega) (fun t _ => ?_))
        refine nm_r (nI_1 _) (mL_pick 3 hL (by omega) (by omega) (by omega) (fun w _ => ?_))
        refine mx_sw K (fun r vl' wt' K' => ?_)
        exact nm_r (nI_1 i) (ih (i + 1) _ vl' wt' lb (by omega) (by omega) (by omega) K')
      · refine nm_r (nI_1 _) (mL_pick 4 hL (by omega) (by omega) (by omega) (fun a _ => ?_))
        refine nm_r (nI_1 _) (mL_pick 2 hL (by omega) (by omega) (by omega) (fun o _ => ?_))
        refine br_c (fun _ => ?_) (fun _ => ?_)
        · refine mx_sl K (fun r vl' lb' K' => ?_)
          exact nm_r (nI_1 i) (ih (i + 1) _ vl' wt lb' (by omega) (by omega) (by omega) K')
        · refine mx_sl K (fun r vl' lb' K' => ?_)
          exact nm_r (nI_1 i) (ih (i + 1) _ vl' wt lb' (by omega) (by omega) (by omega) K')
theorem mL_679 {R : Nat} (hL : L ≤ 260) (hR : R ≤ 3) (kp : post 1) (hub : mk_UB C kd fi se bo x5 x6 x8) : ∀ (n rd p : Nat) (vl : Int32) (wt lb tr un : Nat → Int32) (vn vd pa np mx : Nat → Int64), rd ≤ R → R < n + rd → p ≤ 5000 + 100 * rd → mk_K N C vl wt kd fi se bo tr vn vd → (wL_law_679 post L xs (nI N) x5 x6 x8 (nI R) kc ks n (nI p) (nI rd) (nI N) (nI C) vl wt lb kd fi se bo tn td tr vn vd pa np un mx) := by
  intro n
  induction n with
  | zero => intro rd p vl wt lb tr un vn vd pa np mx h1 h2; omega
  | succ n ih =>
    intro rd p vl wt lb tr un vn vd pa np mx h1 h2 hp K
    refine pk_le R rd (fun h => kp) (fun h => ?_)
    refine pk_le rd 0 (fun h0 => ?_) (fun h0 => ?_)
    · refine mL_813 K hub (fun vl' tr' un' vn' vd' pa' np' mx' K' => ?_)
      rw [nI_1]
      exact ih (rd + 1) p vl' wt lb tr' un' vn' vd' pa' np' mx' (by omega) (by omega) (by omega) K'
    · refine nm_r (nI_1 p) (mL_pick 3 hL (by omega) (by omega) (by omega) (fun j hj => ?_))
      refine nm_r (e' := nI (1 + j)) (nI_add 1 j) ⟨(1 + j) + 1, mL_707 (P := p + 1) hL (by omega) (by omega) (fun p' vl' wt' lb' hp' K' => ?_) ((1 + j) + 1) 0 (p + 1) vl wt lb (by omega) (by omega) (by omega) K⟩
      refine mL_813 K' hub (fun vl2 tr' un' vn' vd' pa' np' mx' K2 => ?_)
      rw [nI_1]
      exact ih (rd + 1) p' vl2 wt' lb' tr' un' vn' vd' pa' np' mx' (by omega) (by omega) (by omega) K2
end
section
variable {L : Nat} {xs : Nat → Int32} {kc ks : Nat} {post : Int32 → Prop} {J269 : (Int32 → Int32 → Int32 → Int64 → Int64 → Int32 → Int32 → Int32 → Int32 → (Nat → Int32) → (Nat → Int32) → (Nat → Int32) → (Nat → Int32) → (Nat → Int32) → (Nat → Int32) → (Nat → Int32) → (Nat → Int32) → (Nat → Int32) → (Nat → Int64) → (Nat → Int64) → (Nat → Int64) → (Nat → Int64) → (Nat → Int32) → (Nat → Int64) → Prop)} {x1 x3 x4 x5 x10 x11 : Int32} {x6 x8 : Int64}
variable {N C : Nat} {nd vl : Int32} {wt lb kd fi se bo tn td tr un : Nat → Int32} {vn vd pa np mx : Nat → Int64}
theorem mL_639f {r : Int32} (hr : r < 0) (h : (J269 x1 x4 x5 x6 x8 (x11 + 1) (nI N) nd vl wt lb kd fi se bo tn td tr vn vd pa np un mx)) : (wL_law_639 post L xs J269 x1 x3 x4 x5 x6 x8 x10 x11 r kc ks (nI N) nd vl wt lb kd fi se bo tn td tr vn vd pa np un mx) := br_t hr (nm_e h)
theorem mL_639s {c : Nat} (hc : c < 16) (h : (J269 x1 (nI (c + 1)) x5 x6 x8 (x11 + 1) (nI N) nd vl wt lb kd fi se bo tn td tr vn vd pa np un mx)) : (wL_law_639 post L xs J269 x1 x3 x4 x5 x6 x8 x10 x11 (nI c) kc ks (nI N) nd vl wt lb kd fi se bo tn td tr vn vd pa np un mx) :=
  br_f (nI_pos (by omega)) (br_f (nI_ge (b := 16) hc (by decide)) (nm_r (nI_1 c) (nm_e h)))
/-- what each kind of formula comes to -/
def mL_H (J269 : (Int32 → Int32 → Int32 → Int64 → Int64 → Int32 → Int32 → Int32 → Int32 → (Nat → Int32) → (Nat → Int32) → (Nat → Int32) → (Nat → Int32) → (Nat → Int32) → (Nat → Int32) → (Nat → Int32) → (Nat → Int32) → (Nat → Int32) → (Nat → Int64) → (Nat → Int64) → (Nat → Int64) → (Nat → Int64) → (Nat → Int32) → (Nat → Int64) → Prop)) (N P : Nat) (o : Int32) (wt lb tr un : Nat → Int32) (vn vd pa np mx : Nat → Int64) : Prop :=
  ∀ (p C : Nat) (vl b : Int32) (x y : Int64) (kd fi se bo tn td : Nat → Int32), p ≤ P → 2 ≤ C → mk_K N C vl wt kd fi se bo tr vn vd → mk_UB C kd fi se bo b x y → (J269 (nI p) (nI C) b x y (o + 1) (nI N) (nI C) vl wt lb kd fi se bo tn td tr vn vd pa np un mx)
theorem mL_572 {x13 x14 z : Int32} {p P : Nat} (hC2 : 2 ≤ C) (K : mk_K N C vl wt kd fi se bo tr vn vd) (hub : mk_UB C kd fi se bo x5 x6 x8) (H : mL_H J269 N P x11 wt lb tr un vn vd pa np mx) (hp : p ≤ P) : (wL_law_572 post L xs J269 (nI p) x3 (nI C) x5 x6 x8 x10 x11 x13 x14 z kc ks (nI N) (nI C) vl wt lb kd fi se bo tn td tr vn vd pa np un mx) := by
  refine mx_a4 K (fun r hr => ?_) (fun hC j l hj hl ej el K' => ?_)
  · exact br_t hr (mL_639f hr (H p C vl x5 x6 x8 kd fi se bo tn td hp hC2 K hub))
  · refine br_f (nI_pos (by omega)) (br_f (nI_ge (b := 16) hC (by decide)) ?_)
    by_cases hz : z = -1
    · subst hz ej el
      refine br_t rfl (nm_e (nm_e (nm_e (mL_639s hC ?_))))
      exact H p (C + 1) 0 _ _ _ _ _ _ _ _ _ hp (by omega) K' (mk_UB_new hub hC (by omega) (by omega))
    · refine br_f hz (mL_639s hC ?_)
      exact H p (C + 1) 0 _ _ _ _ _ _ _ _ _ hp (by omega) K' (mk_UB_keep hub (fun i hi => pk_un (by omega)))
theorem mL_498 {x16 : Int32} {p P : Nat} (hL : L ≤ 260) (hC2 : 2 ≤ C) (K : mk_K N C vl wt kd fi se bo tr vn vd) (hub : mk_UB C kd fi se bo x5 x6 x8) (H : mL_H J269 N P x11 wt lb tr un vn vd pa np mx) (hp : p + 3 ≤ P) (hP : P ≤ 100000) : (wL_law_498 post L xs J269 (nI p) x3 (nI C) x5 x6 x8 x10 x11 x16 kc ks (nI N) (nI C) vl wt lb kd fi se bo tn td tr vn vd pa np un mx) := by
  refine nm_r (nI_1 p) (mL_pick 8 hL (by omega) (by omega) (by omega) (fun d hd => ?_))
  refine nm_r (e' := nI (1 + d)) (nI_add 1 d) ?_
  refine nm_r (nI_1 _) (mL_pick 4 hL (by omega) (by omega) (by omega) (fun op _ => ?_))
  rw [nI_1 (1 + d)]
  refine nm_r (nI_1 _) (mL_pick (1 + d + 1) hL (by omega) (by omega) (by omega) (fun nm _ => ?_))
  refine mx_a5 K (fun r hr => ?_) (fun hC b c q q' K' => ?_)
  · exact mL_639f hr (H _ C vl x5 x6 x8 kd fi se bo tn td (by omega) hC2 K hub)
  · refine mL_639s hC ?_
    exact H _ (C + 1) 0 _ _ _ _ _ _ _ _ _ (by omega) (by omega) K' (mk_UB_keep hub (fun i hi => rfl))
theorem mL_466 {p P : Nat} (hL : L ≤ 260) (hC2 : 2 ≤ C) (K : mk_K N C vl wt kd fi se bo tr vn vd) (hub : mk_UB C kd fi se bo x5 x6 x8) (H : mL_H J269 N P x11 wt lb tr un vn vd pa np mx) (hp : p + 3 ≤ P) (hP : P ≤ 100000) : ∀ (n i : Nat) (x16 : Int32), i ≤ 16 → 16 < n + i → (wL_law_466 post L xs J269 (nI p) x3 (nI C) x5 x6 x8 x10 x11 kc ks (nI N) (nI C) vl wt lb kd fi se bo tn td tr vn vd pa np un mx n x16 (nI i)) := by
  obtain ⟨_, _, hC, _⟩ := id K
  intro n
  induction n with
  | zero => intro i x16 h1 h2; omega
  | succ n ih =>
    intro i x16 h1 h2
    refine pk_le 16 i (fun h => mL_498 hL hC2 K hub H hp hP) (fun h => mx_nk hC (fun r _ => ?_))
    refine br_c (fun _ => mL_498 hL hC2 K hub H hp hP) (fun _ => ⟨nI_ne0 (by omega) (by omega), nm_e (nm_r (nI_1 i) (ih (i + 1) _ (by omega) (by omega)))⟩)
theorem mL_386 {x12 x13 x14 : Int32} {p P : Nat} (hL : L ≤ 260) (hC2 : 2 ≤ C) (K : mk_K N C vl wt kd fi se bo tr vn vd) (hub : mk_UB C kd fi se bo x5 x6 x8) (H : mL_H J269 N P x11 wt lb tr un vn vd pa np mx) (hp : p + 4 ≤ P) (hP : P ≤ 100000) : (wL_law_386 post L xs J269 (nI p) x3 (nI C) x5 x6 x8 x10 x11 x12 x13 x14 kc ks (nI N) (nI C) vl wt lb kd fi se bo tn td tr vn vd pa np un mx) := by
  obtain ⟨_, _, hC, _⟩ := id K
  refine br_c (fun _ => ?_) (fun _ => br_c (fun _ => ?_) (fun _ => br_c (fun _ => ?_) (fun _ => br_c (fun _ => ?_) (fun _ => br_c (fun _ => ?_) (fun _ => ?_)))))
  · refine nm_r (nI_1 p) (mL_pick 5 hL (by omega) (by omega) (by omega) (fun a _ => ?_))
    refine mx_a1 K (fun r hr => ?_) (fun hC b c K' => ?_)
    · exact mL_639f hr (H _ C vl x5 x6 x8 kd fi se bo tn td (by omega) hC2 K hub)
    · exact mL_639s hC (H _ (C + 1) 0 _ _ _ _ _ _ _ _ _ (by omega) (by omega) K' (mk_UB_keep hub (fun i hi => rfl)))
  · refine mx_a2 K (fun r hr => ?_) (fun hC b c K' => ?_)
    · exact mL_639f hr (H _ C vl x5 x6 x8 kd fi se bo tn td (by omega) hC2 K hub)
    · exact mL_639s hC (H _ (C + 1) 0 _ _ _ _ _ _ _ _ _ (by omega) (by omega) K' (mk_UB_keep hub (fun i hi => rfl)))
  · refine mx_a3 K (fun r hr => ?_) (fun hC b c K' => ?_)
    · exact mL_639f hr (H _ C vl x5 x6 x8 kd fi se bo tn td (by omega) hC2 K hub)
    · exact mL_639s hC (H _ (C + 1) 0 _ _ _ _ _ _ _ _ _ (by omega) (by omega) K' (mk_UB_keep hub (fun i hi => rfl)))
  · refine nm_r (nI_1 p) (mL_pick C hL (by omega) (by omega) (by omega) (fun u _ => ?_))
    exact ⟨17, mL_466 hL hC2 K hub H (by omega) hP 17 0 _ (by omega) (by omega)⟩
  · exact mL_572 hC2 K hub H (by omega)
  · refine nm_r (nI_1 p) (mL_pick 10 hL (by omega) (by omega) (by omega) (fun u _ => ?_))
    exact mL_572 hC2 K hub H (by omega)
theorem mL_isSt {q : Int32 → Prop} {x : Int32} (k0 : q 0) (k1 : q 1) : wpL_isState q () x := by
  unfold wpL_isState
  exact br_c (fun _ => k1) (fun _ => br_c (fun _ => k1) (fun _ => br_c (fun _ => k1) (fun _ => br_c (fun _ => k1) (fun _ => k0))))
theorem mL_352 {x12 x13 : Int32} {p P : Nat} (hL : L ≤ 260) (hC2 : 2 ≤ C) (K : mk_K N C vl wt kd fi se bo tr vn vd) (hub : mk_UB C kd fi se bo x5 x6 x8) (H : mL_H J269 N P x11 wt lb tr un vn vd pa np mx) (hp : p + 4 ≤ P) (hP : P ≤ 100000) : ∀ (n i : Nat) (x14 : Int32), i ≤ 16 → 16 < n + i → (wL_law_352 post L xs J269 (nI p) x3 (nI C) x5 x6 x8 x10 x11 x12 x13 kc ks (nI N) (nI C) vl wt lb kd fi se bo tn td tr vn vd pa np un mx n x14 (nI i)) := by
  obtain ⟨_, _, hC, _⟩ := id K
  intro n
  induction n with
  | zero => intro i x14 h1 h2; omega
  | succ n ih =>
    intro i x14 h1 h2
    refine pk_le 16 i (fun h => mL_386 hL hC2 K hub H hp hP) (fun h => mx_nk hC (fun r _ => mL_isSt ?_ ?_))
    · exact br_t rfl ⟨nI_ne0 (by omega) (by omega), nm_e (nm_r (nI_1 i) (ih (i + 1) _ (by omega) (by omega)))⟩
    · exact br_f (by decide) (mL_386 hL hC2 K hub H hp hP)
theorem mL_315 {x12 x14 : Int32} {p P : Nat} (hL : L ≤ 260) (hC2 : 2 ≤ C) (K : mk_K N C vl wt kd fi se bo tr vn vd) (hub : mk_UB C kd fi se bo x5 x6 x8) (H : mL_H J269 N P x11 wt lb tr un vn vd pa np mx) (hp : p + 4 ≤ P) (hP : P ≤ 100000) : ∀ (n i : Nat) (x13 : Int32), i ≤ 16 → 16 < n + i → (wL_law_315 post L xs J269 (nI p) x3 (nI C) x5 x6 x8 x10 x11 x12 x14 kc ks (nI N) (nI C) vl wt lb kd fi se bo tn td tr vn vd pa np un mx n x13 (nI i)) := by
  obtain ⟨_, _, hC, _⟩ := id K
  intro n
  induction n with
  | zero => intro i x13 h1 h2; omega
  | succ n ih =>
    intro i x13 h1 h2
    refine pk_le 16 i (fun h => ⟨17, mL_352 hL hC2 K hub H hp hP 17 0 _ (by omega) (by omega)⟩) (fun h => mx_nk hC (fun r _ => mL_isSt ?_ ?_))
    · exact br_t rfl ⟨nI_ne0 (by omega) (by omega), nm_e (nm_r (nI_1 i) (ih (i + 1) _ (by omega) (by omega)))⟩
    · exact br_f (by decide) ⟨17, mL_352 hL hC2 K hub H hp hP 17 0 _ (by omega) (by omega)⟩
end
section
variable {L : Nat} {xs : Nat → Int32} {kc ks : Nat} {post : Int32 → Prop}
variable {N : Nat} {wt lb tr un : Nat → Int32} {vn vd pa np mx : Nat → Int64}
theorem mL_269 {Q : Nat} (hL : L ≤ 260) (hQ : Q ≤ 12) (kp : post 1) : ∀ (n o p C : Nat) (vl x5 : Int32) (x6 x8 : Int64) (kd fi se bo tn td : Nat → Int32), o ≤ Q → Q < n + o → p ≤ 1000 + 10 * o → 2 ≤ C → mk_K N C vl wt kd fi se bo tr vn vd → mk_UB C kd fi se bo x5 x6 x8 → (wL_law_269 post L xs (nI N) (nI Q) kc ks n (nI p) (nI C) x5 x6 x8 (nI o) (nI N) (nI C) vl wt lb kd fi se bo tn td tr vn vd pa np un mx) := by
  intro n
  induction n with
  | zero => intro o p C vl x5 x6 x8 kd fi se bo tn td h1 h2; omega
  | succ n ih =>
    intro o p C vl x5 x6 x8 kd fi se bo tn td h1 h2 hp hC2 K hub
    obtain ⟨_, _, hC, _⟩ := id K
    refine pk_le Q o (fun h => ?_) (fun h => ?_)
    · refine nm_r (nI_1 p) (mL_pick 3 hL (by omega) (by omega) (by omega) (fun j hj => ?_))
      refine nm_r (e' := nI (1 + j)) (nI_add 1 j) ⟨(1 + j) + 1, mL_679 hL (by omega) kp hub ((1 + j) + 1) 0 (p + 1) vl wt lb tr un vn vd pa np mx (by omega) (by omega) (by omega) K⟩
    · refine nm_r (nI_1 p) (mL_pick 6 hL (by omega) (by omega) (by omega) (fun kind _ => ?_))
      refine nm_r (nI_1 _) (mL_pick C hL (by omega) (by omega) (by omega) (fun x _ => ?_))
      refine nm_r (nI_1 _) (mL_pick C hL (by omega) (by omega) (by omega) (fun y _ => ?_))
      refine ⟨17, mL_315 (P := 1000 + 10 * (o + 1)) hL hC2 K hub ?_ (by omega) (by omega) 17 0 _ (by omega) (by omega)⟩
      intro p' C' vl' b' x' y' kd' fi' se' bo' tn' td' hp' hC' K' hub'
      rw [nI_1]
      exact ih (o + 1) p' C' vl' b' x' y' kd' fi' se' bo' tn' td' (by omega) (by omega) hp' hC' K' hub'
end
end
section
/-! the law's chain, its first formulas, its top -/
def mk_dg : Nat → Nat → Int32
  | 0 => fun _ => 0
  | s + 1 => upd (mk_dg s) (s * 12 + s) 1
theorem mk_dg_at (n : Nat) : ∀ s t, s < 12 → t < 12 → mk_dg n (s * 12 + t) = nI (if s = t ∧ s < n then 1 else 0) := by
  induction n with
  | zero => intro s t _ _; rw [if_neg (by omega)]; rfl
  | succ n ih =>
    intro s t hs ht
    show upd (mk_dg n) (n * 12 + n) 1 (s * 12 + t) = _
    by_cases e : s * 12 + t = n * 12 + n
    · by_cases hn : n < 12
      · rw [e, pk_us, if_pos (by omega)]; rfl
      · omega
    · rw [pk_un e, ih s t hs ht]
      by_cases g : s = t ∧ s < n
      · rw [if_pos g, if_pos (by omega)]
      · rw [if_neg g, if_neg (by omega)]
theorem mk_t_one (f : Nat → Nat) (s : Nat) (h : ∀ t, f t ≤ if s = t then 1 else 0) (n : Nat) : mk_t f n ≤ if s < n then 1 else 0 := by
  induction n with
  | zero => exact Nat.zero_le _
  | succ n ih =>
    have h1 := h n
    show mk_t f n + f n ≤ _
    by_cases e : s = n
    · rw [if_pos e] at h1
      rw [if_neg (by omega)] at ih
      rw [if_pos (by omega)]; omega
    · rw [if_neg e] at h1
      by_cases g : s < n
      · rw [if_pos g] at ih
        rw [if_pos (by omega)]; omega
      · rw [if_neg g] at ih
        rw [if_neg (by omega)]; omega
theorem mk_dg_W {N : Nat} (hN : N ≤ 12) : mk_W (mk_dg N) N := by
  intro s hs
  have hw : ∀ t, t < N → mk_w (mk_dg N) s t = if s = t ∧ s < N then 1 else 0 := by
    intro t ht
    show (mk_dg N (s * 12 + t)).toNatClampNeg = _
    rw [mk_dg_at N s t (by omega) (by omega), nI_clamp]
    by_cases g : s = t ∧ s < N
    · rw [if_pos g]; decide
    · rw [if_neg g]; decide
  refine ⟨fun t ht => ?_, ?_⟩
  · rw [hw t ht]; exact mk_dg_at N s t (by omega) (by omega)
  · have h1 : mk_t (mk_w (mk_dg N) s) N = mk_t (fun t => if s = t then 1 else 0) N := by
      apply mk_t_congr
      intro t ht
      rw [hw t ht]
      by_cases g : s = t
      · rw [if_pos ⟨g, hs⟩, if_pos g]
      · rw [if_neg (fun z => g z.1), if_neg g]
    have h2 := mk_t_one (fun t => if s = t then 1 else 0) s (fun t => Nat.le_refl _) N
    rw [if_pos hs] at h2
    rw [h1]; omega
theorem mk_K_beg {N : Nat} (h2 : 2 ≤ N) (hN : N ≤ 12) {kd fi se bo : Nat → Int32} {vn vd : Nat → Int64} : mk_K N 0 0 (mk_dg N) kd fi se bo (fun _ => 0) vn vd := by
  refine ⟨h2, hN, by omega, mk_dg_W hN, fun i h => by omega, fun j _ i _ => ?_, Or.inl rfl⟩
  rw [b_0, Bool.and_false]
section
variable {L : Nat} {xs : Nat → Int32} {kc ks : Nat} {post : Int32 → Prop}
variable {N C : Nat} {nd vl : Int32} {wt lb kd fi se bo tn td tr un : Nat → Int32} {vn vd pa np mx : Nat → Int64}
theorem mx_a1s {po : Int32 → St2 → Prop} {a : Nat} (K : mk_K N C vl wt kd fi se bo tr vn vd) (h : C < 16) (ha : a ≤ 4) (k : ∀ b c : Int32, mk_K N (C + 1) 0 wt (upd kd C 1) (upd fi C b) (upd se C c) bo tr vn vd → po (nI C) ((nI N), (nI (C + 1)), 0, wt, lb, (upd kd C 1), (upd fi C b), (upd se C c), bo, tn, td, tr, vn, vd, pa, np, un, mx)) : (wpX_addAtom po ((nI N), (nI C), vl, wt, lb, kd, fi, se, bo, tn, td, tr, vn, vd, pa, np, un, mx) (nI a)) := by
  unfold wpX_addAtom
  refine br_t (nI_lt (b := 16) h (by decide)) (br_f (nI_pos (by omega)) (br_t (nI_le (b := 4) ha (by decide)) (mx_app h (k _ _ (mk_K_a K h (fun _ _ => rfl) ?_ (fun z => absurd z (by decide)))))))
  exact Or.inl ⟨pk_us, a, ha, pk_us⟩
/-- what a state's turn comes to -/
def mL_G (J30 : (Int32 → Int32 → Int32 → Int32 → Int32 → (Nat → Int32) → (Nat → Int32) → (Nat → Int32) → (Nat → Int32) → (Nat → Int32) → (Nat → Int32) → (Nat → Int32) → (Nat → Int32) → (Nat → Int32) → (Nat → Int64) → (Nat → Int64) → (Nat → Int64) → (Nat → Int64) → (Nat → Int32) → (Nat → Int64) → Prop)) (N P : Nat) (s : Int32) (nd : Int32) (C : Nat) (kd fi se bo tn td tr un : Nat → Int32) (vn vd pa np mx : Nat → Int64) : Prop :=
  ∀ (p : Nat) (vl : Int32) (wt lb : Nat → Int32), p ≤ P → mk_K N C vl wt kd fi se bo tr vn vd → (J30 (nI p) (s + 1) (nI N) (nI C) vl wt lb kd fi se bo tn td tr vn vd pa np un mx)
theorem mL_170 {J30 : (Int32 → Int32 → Int32 → Int32 → Int32 → (Nat → Int32) → (Nat → Int32) → (Nat → Int32) → (Nat → Int32) → (Nat → Int32) → (Nat → Int32) → (Nat → Int32) → (Nat → Int32) → (Nat → Int32) → (Nat → Int64) → (Nat → Int64) → (Nat → Int64) → (Nat → Int64) → (Nat → Int32) → (Nat → Int64) → Prop)} {x4 x6 : Int32} {p P : Nat} (G : mL_G J30 N P x4 nd C kd fi se bo tn td tr un vn vd pa np mx) (hp : p ≤ P) : ∀ (n a : Nat) (vl : Int32) (lb : Nat → Int32), a ≤ 4 → 4 < n + a → mk_K N C vl wt kd fi se bo tr vn vd → (wL_law_170 post L xs J30 (nI p) (nI N) x4 x6 kc ks n (nI a) (nI N) (nI C) vl wt lb kd fi se bo tn td tr vn vd pa np un mx) := by
  intro n
  induction n with
  | zero => intro a vl lb h1 h2; omega
  | succ n ih =>
    intro a vl lb h1 h2 K
    refine pk_le 4 a (fun h => nm_e (G p vl wt lb hp K)) (fun h => br_c (fun _ => ?_) (fun _ => ?_))
    · refine mx_sl K (fun r vl' lb' K' => ?_)
      exact nm_r (nI_1 a) (ih (a + 1) vl' lb' (by omega) (by omega) K')
    · refine mx_sl K (fun r vl' lb' K' => ?_)
      exact nm_r (nI_1 a) (ih (a + 1) vl' lb' (by omega) (by omega) K')
theorem mL_155 {J30 : (Int32 → Int32 → Int32 → Int32 → Int32 → (Nat → Int32) → (Nat → Int32) → (Nat → Int32) → (Nat → Int32) → (Nat → Int32) → (Nat → Int32) → (Nat → Int32) → (Nat → Int32) → (Nat → Int32) → (Nat → Int64) → (Nat → Int64) → (Nat → Int64) → (Nat → Int64) → (Nat → Int32) → (Nat → Int64) → Prop)} {x4 : Int32} {p P : Nat} (hL : L ≤ 260) (hP : P ≤ 100000) (G : mL_G J30 N P x4 nd C kd fi se bo tn td tr un vn vd pa np mx) (hp : p + 1 ≤ P) (K : mk_K N C vl wt kd fi se bo tr vn vd) : (wL_law_155 post L xs J30 (nI p) (nI N) x4 kc ks (nI N) (nI C) vl wt lb kd fi se bo tn td tr vn vd pa np un mx) := by
  refine nm_r (nI_1 p) (mL_pick 16 hL (by omega) (by omega) (by omega) (fun b _ => ?_))
  exact ⟨5, mL_170 G hp 5 0 vl lb (by omega) (by omega) K⟩
theorem mL_108 {J30 : (Int32 → Int32 → Int32 → Int32 → Int32 → (Nat → Int32) → (Nat → Int32) → (Nat → Int32) → (Nat → Int32) → (Nat → Int32) → (Nat → Int32) → (Nat → Int32) → (Nat → Int32) → (Nat → Int32) → (Nat → Int64) → (Nat → Int64) → (Nat → Int64) → (Nat → Int64) → (Nat → Int32) → (Nat → Int64) → Prop)} {s p P : Nat} (hL : L ≤ 260) (hP : P ≤ 100000) (hs : s < N) (G : mL_G J30 N P (nI s) nd C kd fi se bo tn td tr un vn vd pa np mx) (hp : p + 2 ≤ P) (K : mk_K N C vl wt kd fi se bo tr vn vd) : ∀ (n t : Nat) (x5 : Int32), t ≤ N → N < n + t → (wL_law_108 post L xs J30 (nI p) (nI N) (nI s) kc ks (nI N) (nI C) vl wt lb kd fi se bo tn td tr vn vd pa np un mx n x5 (nI t)) := by
  obtain ⟨hN2, hN, hC, hW, _⟩ := id K
  intro n
  induction n with
  | zero => intro t x5 h1 h2; omega
  | succ n ih =>
    intro t x5 h1 h2
    refine pk_le N t (fun h => br_c (fun _ => ?_) (fun _ => mL_155 hL hP G (by omega) K)) (fun h => ?_)
    · refine nm_r (nI_1 p) (mL_pick N hL (by omega) (by omega) (by omega) (fun t' _ => ?_))
      refine mx_sw K (fun r vl' wt' K' => ?_)
      exact mL_155 hL hP G (by omega) K'
    · refine mx_gw hN hW hs h ?_
      exact nm_e (nm_r (nI_1 t) (ih (t + 1) _ (by omega) (by omega)))
theorem mL_57 {J30 : (Int32 → Int32 → Int32 → Int32 → Int32 → (Nat → Int32) → (Nat → Int32) → (Nat → Int32) → (Nat → Int32) → (Nat → Int32) → (Nat → Int32) → (Nat → Int32) → (Nat → Int32) → (Nat → Int32) → (Nat → Int64) → (Nat → Int64) → (Nat → Int64) → (Nat → Int64) → (Nat → Int32) → (Nat → Int64) → Prop)} {s P : Nat} (hL : L ≤ 260) (hP : P ≤ 100000) (hs : s < N) (G : mL_G J30 N P (nI s) nd C kd fi se bo tn td tr un vn vd pa np mx) : ∀ (n i p : Nat) (vl : Int32) (wt lb : Nat → Int32), i ≤ 3 → 3 < n + i → p + 8 ≤ P + 2 * i → mk_K N C vl wt kd fi se bo tr vn vd → (wL_law_57 post L xs J30 (nI N) (nI s) kc ks n (nI p) (nI i) (nI N) (nI C) vl wt lb kd fi se bo tn td tr vn vd pa np un mx) := by
  intro n
  induction n with
  | zero => intro i p vl wt lb h1 h2; omega
  | succ n ih =>
    intro i p vl wt lb h1 h2 hp K
    obtain ⟨hN2, hN, _⟩ := id K
    refine pk_le 3 i (fun h => ?_) (fun h => ?_)
    · exact ⟨N + 1, mL_108 hL hP hs G (by omega) K (N + 1) 0 0 (by omega) (by omega)⟩
    · refine nm_r (nI_1 p) (mL_pick N hL (by omega) (by omega) (by omega) (fun t _ => ?_))
      refine nm_r (nI_1 _) (mL_pick 3 hL (by omega) (by omega) (by omega) (fun w _ => ?_))
      refine mx_sw K (fun r vl' wt' K' => ?_)
      exact nm_r (nI_1 i) (ih (i + 1) _ vl' wt' lb (by omega) (by omega) (by omega) K')
theorem mL_30 (hL : L ≤ 260) (kp : post 1) : ∀ (n s p : Nat) (vl : Int32) (wt lb : Nat → Int32), s ≤ N → N < n + s → p ≤ 1 + 20 * s → mk_K N 0 vl wt kd fi se bo tr vn vd → (wL_law_30 post L xs (nI N) kc ks n (nI p) (nI s) (nI N) (nI 0) vl wt lb kd fi se bo tn td tr vn vd pa np un mx) := by
  intro n
  induction n with
  | zero => intro s p vl wt lb h1 h2; omega
  | succ n ih =>
    intro s p vl wt lb h1 h2 hp K
    obtain ⟨hN2, hN, _⟩ := id K
    refine pk_le N s (fun h => ?_) (fun h => ?_)
    · refine nm_r (nI_1 p) (mL_pick 5 hL (by omega) (by omega) (by omega) (fun a ha => ?_))
      refine mx_a1s K (by omega) (by omega) (fun b c K1 => ?_)
      refine nm_r (nI_1 _) (mL_pick 5 hL (by omega) (by omega) (by omega) (fun a' ha' => ?_))
      refine mx_a1s K1 (by omega) (by omega) (fun b' c' K2 => ?_)
      refine nm_r (nI_1 _) (mL_pick 10 hL (by omega) (by omega) (by omega) (fun q hq => ?_))
      refine nm_r (e' := nI (3 + q)) (nI_add 3 q) ⟨(3 + q) + 1, mL_269 hL (by omega) kp ((3 + q) + 1) 0 (p + 1 + 1 + 1) 2 0 0 0 0 _ _ _ _ _ _ (by omega) (by omega) (by omega) (by omega) K2 mk_UB_0⟩
    · refine nm_r (nI_1 p) (mL_pick 2 hL (by omega) (by omega) (by omega) (fun b _ => ?_))
      refine mx_sw K (fun r vl' wt' K' => ?_)
      refine ⟨4, mL_57 (nd := 0) (P := p + 10) hL (by omega) h ?_ 4 0 (p + 1) vl' wt' lb (by omega) (by omega) (by omega) K'⟩
      intro p' vl2 wt2 lb2 hp' K2
      rw [nI_1]
      exact ih (s + 1) p' vl2 wt2 lb2 (by omega) (by omega) (by omega) K2
theorem mx_ini {po : St2 → Prop} {mc ms : Nat} (hN : N ≤ 12) (k : po ((nI N), nd, vl, (mk_dg N), lb, kd, fi, se, bo, tn, td, tr, vn, vd, pa, np, un, mx)) : ∀ n s : Nat, s ≤ N → N < n + s → (wX_init_153 po mc ms (nI N) kc ks (nI N) nd vl n (nI s) (mk_dg s) lb kd fi se bo tn td tr vn vd pa np un mx) := by
  intro n
  induction n with
  | zero => intro s h1 h2; omega
  | succ n ih =>
    intro s h1 h2
    refine pk_le N s (fun h => ?_) (fun h => ⟨pk_in (s * 12 + s) 144 (by omega) (mk_i12 s s), ?_⟩)
    · obtain rfl : s = N := by omega
      exact k
    · rw [mk_i12, nI_clamp (by omega)]
      exact nm_e (nm_r (nI_1 s) (ih (s + 1) (by omega) (by omega)))
end
theorem i_vc (xs : Nat → Int32) (L : Nat) (hL : L ≤ 260) : wpL_law (fun r => r = 1) L xs := by
  unfold wpL_law
  refine nm_r (e' := nI 1) rfl (mL_pick (p := 0) 11 hL (by omega) (by omega) (by omega) (fun j hj => ?_))
  refine ⟨15, 844, by omega, by omega, ?_⟩
  rw [show (2 : Int32) + nI j = nI (2 + j) from nI_add 2 j]
  unfold wpX_init
  refine ⟨by omega, by omega, by omega, by omega, by omega, by omega, by omega, by omega, by omega, by omega, by omega, by omega, by omega, by omega, by omega, by omega, by omega, by omega, by omega, by omega, by omega, by omega, by omega, by omega, by omega, by omega, by omega, by omega, by omega, by omega, ?_⟩
  refine br_t (nI_le (a := 2) (by omega) (by omega)) (br_t (nI_le (b := 12) (by omega) (by decide)) ⟨(2 + j) + 1, mx_ini (by omega) ?_ ((2 + j) + 1) 0 (by omega) (by omega)⟩)
  exact ⟨(2 + j) + 1, mL_30 (post := fun r => r = 1) (N := 2 + j) hL rfl ((2 + j) + 1) 0 1 0 _ _ (by omega) (by omega) (by omega) (mk_K_beg (by omega) (by omega))⟩
end
