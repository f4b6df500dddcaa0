/-! sets of states as bits of an int (bt, b_ext, b_or, b_and, b_xor, b_0, b_m1, b_shl, b_sshr: kit/rows) -/
theorem mk_b1 : ∀ i, i < 32 → bt 1 i = decide (i = 0) := by decide +kernel
theorem mk_ball : ∀ N, N < 13 → ∀ i, i < 32 → bt (((1 : Int32) <<< (nI N &&& 31)) - 1) i = decide (i < N) := by decide +kernel
theorem mk_bit0 (x : Int32) {s : Nat} (hs : s < 32) : ((x >>> (nI s &&& 31)) &&& 1) = 0 ↔ bt x s = false := by
  constructor
  · intro h
    have h1 : bt ((x >>> (nI s &&& 31)) &&& 1) 0 = false := by rw [h]; exact b_0 0
    rw [b_and, b_sshr s hs x (by omega), if_pos (by omega), mk_b1 0 (by omega)] at h1
    simpa using h1
  · intro h
    apply b_ext
    intro i hi
    rw [b_and, b_0, mk_b1 i hi]
    by_cases e : i = 0
    · subst e
      rw [b_sshr s hs x (by omega), if_pos (by omega), Nat.add_zero, h]; rfl
    · rw [decide_eq_false e, Bool.and_false]
theorem mk_bone {s : Nat} (hs : s < 32) {i : Nat} (hi : i < 32) : bt ((1 : Int32) <<< (nI s &&& 31)) i = decide (i = s) := by
  rw [b_shl s hs 1 hi, mk_b1 (i - s) (by omega)]
  by_cases e : i = s
  · subst e
    rw [decide_eq_true (Nat.le_refl i), decide_eq_true (Nat.sub_self i), decide_eq_true rfl]; rfl
  · rw [decide_eq_false e]
    by_cases g : s ≤ i
    · rw [decide_eq_false (show ¬ i - s = 0 by omega), Bool.and_false]
    · rw [decide_eq_false g, Bool.false_and]
def mk_bs (N : Nat) (x : Int32) (p : Nat → Bool) : Prop := ∀ i, i < 32 → bt x i = (decide (i < N) && p i)
theorem mk_bs_bit {N : Nat} {x : Int32} {p : Nat → Bool} (h : mk_bs N x p) {s : Nat} (hs : s < N) (hN : N < 13) : ((x >>> (nI s &&& 31)) &&& 1) = 0 ↔ p s = false := by
  rw [mk_bit0 x (show s < 32 by omega), h s (by omega), decide_eq_true hs, Bool.true_and]
theorem mk_bs_0 {N : Nat} : mk_bs N 0 (fun _ => false) := fun i _ => by rw [b_0, Bool.and_false]
theorem mk_bs_all {N : Nat} (hN : N < 13) : mk_bs N (((1 : Int32) <<< (nI N &&& 31)) - 1) (fun _ => true) := fun i hi => by rw [mk_ball N hN i hi, Bool.and_true]
theorem mk_bs_congr {N : Nat} {x : Int32} {p q : Nat → Bool} (h : mk_bs N x p) (e : ∀ s, s < N → p s = q s) : mk_bs N x q := by
  intro i hi
  rw [h i hi]
  by_cases g : i < N
  · rw [e i g]
  · rw [decide_eq_false g, Bool.false_and, Bool.false_and]
theorem mk_bs_and {N : Nat} {x y : Int32} {p q : Nat → Bool} (h : mk_bs N x p) (g : mk_bs N y q) : mk_bs N (x &&& y) (fun s => p s && q s) := by
  intro i hi
  rw [b_and, h i hi, g i hi]
  cases decide (i < N) <;> simp
theorem mk_bs_diff {N : Nat} {x y : Int32} {p q : Nat → Bool} (h : mk_bs N x p) (g : mk_bs N y q) : mk_bs N (x &&& (y ^^^ (-1))) (fun s => p s && !q s) := by
  intro i hi
  rw [b_and, b_xor, b_m1 i hi, h i hi, g i hi]
  cases decide (i < N) <;> simp
theorem mk_bs_put {N : Nat} {x : Int32} {p : Nat → Bool} (h : mk_bs N x p) {s : Nat} (hs : s < N) (hN : N < 13) : mk_bs N (x ||| ((1 : Int32) <<< (nI s &&& 31))) (fun t => if t = s then true else p t) := by
  intro i hi
  rw [b_or, mk_bone (show s < 32 by omega) hi, h i hi]
  show (decide (i < N) && p i || decide (i = s)) = (decide (i < N) && if i = s then true else p i)
  by_cases e : i = s
  · subst e
    rw [decide_eq_true rfl, if_pos rfl, decide_eq_true hs]; simp
  · rw [decide_eq_false e, if_neg e, Bool.or_false]
theorem mk_bs_eq0 {N : Nat} {x : Int32} {p : Nat → Bool} (h : mk_bs N x p) (hN : N < 13) : x = 0 ↔ mk_any p N = false := by
  constructor
  · intro e
    subst e
    cases hb : mk_any p N with
    | false => rfl
    | true =>
      obtain ⟨t, a, b⟩ := mk_any_ex p N hb
      have := h t (by omega)
      rw [b_0, decide_eq_true a, b] at this
      exact absurd this (by decide)
  · intro e
    apply b_ext
    intro i hi
    rw [h i hi, b_0]
    by_cases g : i < N
    · have : p i = false := by
        cases hb : p i with
        | false => rfl
        | true => rw [mk_any_of p N g hb] at e; exact absurd e (by decide)
      rw [this, Bool.and_false]
    · rw [decide_eq_false g, Bool.false_and]
