/-! terms for the walks -/
theorem mk_i12 (s t : Nat) : nI s * 12 + nI t = nI (s * 12 + t) := by
  rw [show (12 : Int32) = nI 12 from rfl, pk_mul, nI_add]
theorem mk_i13 (s t : Nat) : nI s * 13 + nI t = nI (s * 13 + t) := by
  rw [show (13 : Int32) = nI 13 from rfl, pk_mul, nI_add]
theorem mk_m13 (s : Nat) : nI s * 13 = nI (s * 13) := by
  rw [show (13 : Int32) = nI 13 from rfl, pk_mul]
theorem mk_bc {b : Bool} {A B : Prop} (f : b = false → A) (g : b = true → B) : (mk_bi b = 0 → A) ∧ (¬ mk_bi b = 0 → B) := by
  cases b
  · exact ⟨fun _ => f rfl, fun h => absurd rfl h⟩
  · exact ⟨fun h => absurd h (by decide), fun _ => g rfl⟩
theorem mk_bc' {b : Bool} {v : Int32} {A B : Prop} (e : v = mk_bi b) (f : b = false → A) (g : b = true → B) : (v = 0 → A) ∧ (¬ v = 0 → B) := by
  subst e; exact mk_bc f g
theorem mk_pos {v : Int32} {A B : Prop} (a : Nat) (hv : v = nI a) (ha : a < 2 ^ 31) (f : a = 0 → A) (g : 0 < a → B) : (v ≤ 0 → A) ∧ (¬ v ≤ 0 → B) := by
  subst hv
  exact pk_le a 0 (fun h => f (by omega)) g rfl rfl ha (by omega)
def mk_lb (x q : Int32) : Bool := !decide (((x >>> (q &&& 31)) &&& 1) = 0)
theorem mk_lb_f {x q : Int32} (h : ((x >>> (q &&& 31)) &&& 1) = 0) : mk_lb x q = false := by
  unfold mk_lb; rw [decide_eq_true h]; rfl
theorem mk_lb_t {x q : Int32} (h : ¬ ((x >>> (q &&& 31)) &&& 1) = 0) : mk_lb x q = true := by
  unfold mk_lb; rw [decide_eq_false h]; rfl
theorem mk_lb_bs {N : Nat} {x : Int32} {p : Nat → Bool} (h : mk_bs N x p) {s : Nat} (hs : s < N) (hN : N ≤ 12) : mk_lb x (nI s) = p s := by
  cases hp : p s with
  | false => exact mk_lb_f ((mk_bs_bit h hs (by omega)).mpr hp)
  | true =>
    refine mk_lb_t (fun z => ?_)
    rw [(mk_bs_bit h hs (by omega)).mp z] at hp
    exact absurd hp (by decide)
theorem mk_bs_end {N : Nat} {x : Int32} {q : Nat → Bool} (h : mk_bs N x (fun i => decide (i < N) && q i)) : mk_bs N x q :=
  mk_bs_congr h (fun s hs => by rw [decide_eq_true hs, Bool.true_and])
theorem mk_bs_beg {N : Nat} {q : Nat → Bool} : mk_bs N 0 (fun i => decide (i < 0) && q i) :=
  mk_bs_congr mk_bs_0 (fun s _ => by rw [decide_eq_false (by omega), Bool.false_and])
theorem mk_bs_no {N t : Nat} {x : Int32} {q : Nat → Bool} (h : mk_bs N x (fun i => decide (i < t) && q i)) (hq : q t = false) : mk_bs N x (fun i => decide (i < t + 1) && q i) := by
  refine mk_bs_congr h (fun s _ => ?_)
  by_cases e : s = t
  · rw [e, hq, Bool.and_false, Bool.and_false]
  · by_cases g : s < t
    · rw [decide_eq_true g, decide_eq_true (show s < t + 1 by omega)]
    · rw [decide_eq_false g, decide_eq_false (show ¬ s < t + 1 by omega)]
theorem mk_bs_yes {N t : Nat} {x : Int32} {q : Nat → Bool} (h : mk_bs N x (fun i => decide (i < t) && q i)) (ht : t < N) (hN : N ≤ 12) (hq : q t = true) : mk_bs N (x ||| ((1 : Int32) <<< (nI t &&& 31))) (fun i => decide (i < t + 1) && q i) := by
  refine mk_bs_congr (mk_bs_put h ht (by omega)) (fun s _ => ?_)
  by_cases e : s = t
  · rw [if_pos e, e, hq, decide_eq_true (Nat.lt_succ_self t)]; rfl
  · rw [if_neg e]
    by_cases g : s < t
    · rw [decide_eq_true g, decide_eq_true (show s < t + 1 by omega)]
    · rw [decide_eq_false g, decide_eq_false (show ¬ s < t + 1 by omega)]
def mk_at (lb : Nat → Int32) (a s : Nat) : Bool := if a = 4 then true else mk_lb (lb s) (nI a)
def mk_cmp (l : Int64) (op : Int32) (r : Int64) : Bool := if op = 0 then decide (r ≤ l) else if op = 1 then decide (r < l) else if op = 2 then decide (l ≤ r) else decide (l < r)
theorem mk_cmp0 {l r : Int64} {op : Int32} (h : op = 0) : mk_cmp l op r = decide (r ≤ l) := if_pos h
theorem mk_cmp1 {l r : Int64} {op : Int32} (h0 : ¬ op = 0) (h : op = 1) : mk_cmp l op r = decide (r < l) := by
  unfold mk_cmp; rw [if_neg h0, if_pos h]
theorem mk_cmp2 {l r : Int64} {op : Int32} (h0 : ¬ op = 0) (h1 : ¬ op = 1) (h : op = 2) : mk_cmp l op r = decide (l ≤ r) := by
  unfold mk_cmp; rw [if_neg h0, if_neg h1, if_pos h]
theorem mk_cmp3 {l r : Int64} {op : Int32} (h0 : ¬ op = 0) (h1 : ¬ op = 1) (h2 : ¬ op = 2) : mk_cmp l op r = decide (l < r) := by
  unfold mk_cmp; rw [if_neg h0, if_neg h1, if_neg h2]
theorem mk_bi_dt {p : Prop} [Decidable p] (h : p) : mk_bi (decide p) = 1 := by rw [decide_eq_true h]; rfl
theorem mk_bi_df {p : Prop} [Decidable p] (h : ¬ p) : mk_bi (decide p) = 0 := by rw [decide_eq_false h]; rfl
theorem mk_nm1 (B : Nat) (h : B < 2 ^ 31) : ¬ nI B = -1 := by
  intro z
  have h1 := nI_toInt h
  rw [z] at h1
  have h2 : (-1 : Int32).toInt = -1 := by decide
  omega
