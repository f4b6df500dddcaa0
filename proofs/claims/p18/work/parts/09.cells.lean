/-! sums of naturals; weights; cells; bits against booleans -/
def mk_t (f : Nat → Nat) : Nat → Nat
  | 0 => 0
  | n + 1 => mk_t f n + f n
theorem mk_t_int (f : Nat → Nat) (n : Nat) : mk_s (fun t => (f t : Int)) n = (mk_t f n : Int) := by
  induction n with
  | zero => rfl
  | succ n ih =>
    show mk_s (fun t => (f t : Int)) n + (f n : Int) = ((mk_t f n + f n : Nat) : Int)
    rw [ih]; omega
theorem mk_t_le (f : Nat → Nat) {t : Nat} : ∀ n, t < n → f t ≤ mk_t f n := by
  intro n
  induction n with
  | zero => intro h; omega
  | succ n ih =>
    intro h
    show f t ≤ mk_t f n + f n
    by_cases e : t = n
    · subst e; omega
    · have := ih (by omega); omega
theorem mk_t_mono (f : Nat → Nat) {a : Nat} : ∀ n, a ≤ n → mk_t f a ≤ mk_t f n := by
  intro n
  induction n with
  | zero =>
    intro h
    have : a = 0 := by omega
    subst this
    exact Nat.le_refl _
  | succ n ih =>
    intro h
    by_cases e : a = n + 1
    · subst e; exact Nat.le_refl _
    · have h1 := ih (by omega)
      show mk_t f a ≤ mk_t f n + f n
      omega
theorem mk_t_congr {f g : Nat → Nat} (n : Nat) (h : ∀ c, c < n → f c = g c) : mk_t f n = mk_t g n := by
  induction n with
  | zero => rfl
  | succ n ih =>
    show mk_t f n + f n = mk_t g n + g n
    rw [ih (fun c hc => h c (by omega)), h n (by omega)]
theorem mk_t_upd (f : Nat → Nat) (v : Nat) {t : Nat} : ∀ n, t < n → mk_t (fun c => if c = t then v else f c) n + f t = mk_t f n + v := by
  intro n
  induction n with
  | zero => intro h; omega
  | succ n ih =>
    intro h
    show mk_t (fun c => if c = t then v else f c) n + (if n = t then v else f n) + f t = mk_t f n + f n + v
    by_cases e : n = t
    · rw [if_pos e, mk_t_congr (f := fun c => if c = t then v else f c) (g := f) n (fun c hc => if_neg (by omega))]
      subst e; omega
    · rw [if_neg e]
      have := ih (by omega)
      omega
theorem mk_t_bd {f b : Nat → Nat} {B : Nat} (n : Nat) (h : ∀ t, t < n → b t ≤ B) : mk_t (fun t => f t * b t) n ≤ mk_t f n * B := by
  induction n with
  | zero => exact Nat.zero_le _
  | succ n ih =>
    show mk_t (fun t => f t * b t) n + f n * b n ≤ (mk_t f n + f n) * B
    have h1 := ih (fun t ht => h t (by omega))
    have h2 : f n * b n ≤ f n * B := Nat.mul_le_mul_left _ (h n (by omega))
    rw [Nat.add_mul]
    omega
theorem mk_t_mul (f : Nat → Nat) (c n : Nat) : mk_t (fun t => f t * c) n = mk_t f n * c := by
  induction n with
  | zero =>
    show 0 = 0 * c
    rw [Nat.zero_mul]
  | succ n ih =>
    show mk_t (fun t => f t * c) n + f n * c = (mk_t f n + f n) * c
    rw [ih, Nat.add_mul]
def mk_w (a : Nat → Int32) (s t : Nat) : Nat := (a (s * 12 + t)).toNatClampNeg
def mk_W (a : Nat → Int32) (N : Nat) : Prop := ∀ s, s < N → (∀ t, t < N → a (s * 12 + t) = nI (mk_w a s t)) ∧ mk_t (mk_w a s) N ≤ 4
theorem mk_W_le {a : Nat → Int32} {N : Nat} (h : mk_W a N) {s t : Nat} (hs : s < N) (ht : t < N) : mk_w a s t ≤ 4 :=
  Nat.le_trans (mk_t_le (mk_w a s) N ht) (h s hs).2
theorem mk_W_upd {a : Nat → Int32} {N : Nat} (hN : N ≤ 12) (h : mk_W a N) {s t v : Nat} (hs : s < N) (ht : t < N) (hv : v ≤ 4) (hb : mk_t (mk_w a s) N + v ≤ 4 + mk_w a s t) : mk_W (upd a (s * 12 + t) (nI v)) N := by
  have e1 : ∀ s' t', t' < 12 → mk_w (upd a (s * 12 + t) (nI v)) s' t' = if s' = s ∧ t' = t then v else mk_w a s' t' := by
    intro s' t' ht'
    show (if s' * 12 + t' = s * 12 + t then nI v else a (s' * 12 + t')).toNatClampNeg = _
    by_cases g : s' = s ∧ t' = t
    · rw [if_pos (by omega), if_pos g, nI_clamp (by omega)]
    · rw [if_neg (by omega), if_neg g]; rfl
  intro s' hs'
  constructor
  · intro t' ht'
    rw [e1 s' t' (by omega)]
    show (if s' * 12 + t' = s * 12 + t then nI v else a (s' * 12 + t')) = _
    by_cases g : s' = s ∧ t' = t
    · rw [if_pos (by omega), if_pos g]
    · rw [if_neg (by omega), if_neg g]; exact (h s' hs').1 t' ht'
  · by_cases g : s' = s
    · subst g
      have e2 : mk_t (mk_w (upd a (s' * 12 + t) (nI v)) s') N = mk_t (fun c => if c = t then v else mk_w a s' c) N := by
        apply mk_t_congr
        intro c hc
        rw [e1 s' c (by omega)]
        by_cases g2 : c = t
        · rw [if_pos ⟨rfl, g2⟩, if_pos g2]
        · rw [if_neg (fun z => g2 z.2), if_neg g2]
      have e3 := mk_t_upd (mk_w a s') v N ht
      rw [e2]; omega
    · have e2 : mk_t (mk_w (upd a (s * 12 + t) (nI v)) s') N = mk_t (mk_w a s') N := by
        apply mk_t_congr
        intro c hc
        rw [e1 s' c (by omega), if_neg (fun z => g z.1)]
      rw [e2]; exact (h s' hs').2
/-! the bounded until, in parts of 12^k -/
def mk_bv (w : Nat → Nat → Nat) (N : Nat) (phi psi : Nat → Bool) : Nat → Nat → Nat
  | 0 => fun s => if psi s = true then 1 else 0
  | k + 1 => fun s => if psi s = true then 12 ^ (k + 1) else if phi s = true then mk_t (fun t => w s t * mk_bv w N phi psi k t) N * (12 / mk_t (w s) N) else 0
theorem mk_bv_le (w : Nat → Nat → Nat) (N : Nat) (phi psi : Nat → Bool) (k : Nat) : ∀ s, mk_bv w N phi psi k s ≤ 12 ^ k := by
  induction k with
  | zero =>
    intro s
    show (if psi s = true then 1 else 0) ≤ 1
    by_cases h : psi s = true
    · rw [if_pos h]; exact Nat.le_refl 1
    · rw [if_neg h]; exact Nat.zero_le 1
  | succ k ih =>
    intro s
    show (if psi s = true then 12 ^ (k + 1) else if phi s = true then mk_t (fun t => w s t * mk_bv w N phi psi k t) N * (12 / mk_t (w s) N) else 0) ≤ 12 ^ (k + 1)
    by_cases h : psi s = true
    · rw [if_pos h]; exact Nat.le_refl _
    · rw [if_neg h]
      by_cases g : phi s = true
      · rw [if_pos g]
        have h1 : mk_t (fun t => w s t * mk_bv w N phi psi k t) N ≤ mk_t (w s) N * 12 ^ k := mk_t_bd N (fun t _ => ih t)
        have h2 : mk_t (w s) N * (12 / mk_t (w s) N) ≤ 12 := Nat.mul_div_le 12 _
        have h3 : mk_t (fun t => w s t * mk_bv w N phi psi k t) N * (12 / mk_t (w s) N) ≤ mk_t (w s) N * 12 ^ k * (12 / mk_t (w s) N) := Nat.mul_le_mul_right _ h1
        have h4 : mk_t (w s) N * 12 ^ k * (12 / mk_t (w s) N) = 12 ^ k * (mk_t (w s) N * (12 / mk_t (w s) N)) := by
          rw [Nat.mul_comm (mk_t (w s) N) (12 ^ k), Nat.mul_assoc]
        have h5 : 12 ^ k * (mk_t (w s) N * (12 / mk_t (w s) N)) ≤ 12 ^ k * 12 := Nat.mul_le_mul_left _ h2
        rw [Nat.pow_succ]
        omega
      · rw [if_neg g]; exact Nat.zero_le _
theorem mk_12 (k : Nat) (h : k ≤ 8) : 12 ^ k ≤ 429981696 ∧ 0 < 12 ^ k :=
  ⟨Nat.le_trans (Nat.pow_le_pow_right (by omega) h) (by decide), Nat.pow_pos (by omega)⟩
/-! booleans of the reference -/
def mk_bi (b : Bool) : Int32 := if b = true then 1 else 0
theorem mk_bi_t {b : Bool} (h : b = true) : mk_bi b = 1 := if_pos h
theorem mk_bi_f {b : Bool} (h : b = false) : mk_bi b = 0 := by rw [h]; rfl
theorem mk_bi_0 {b : Bool} : mk_bi b = 0 ↔ b = false := by
  cases b
  · exact ⟨fun _ => rfl, fun _ => rfl⟩
  · exact ⟨fun h => absurd h (by decide), fun h => absurd h (by decide)⟩
theorem mk_bi_n (b : Bool) : vp_nar .boolean (mk_bi b) = mk_bi b := by cases b <;> decide
theorem mk_bi_w (b : Bool) : narrow .boolean (.int (mk_bi b)) = .int (mk_bi b) := by cases b <;> rfl
def mk_ba (N : Nat) (a : Nat → Int32) (p : Nat → Bool) : Prop := ∀ s, s < N → a s = mk_bi (p s)
theorem mk_ba_put {N : Nat} {a : Nat → Int32} {p : Nat → Bool} (h : mk_ba N a p) {s : Nat} (b : Bool) : mk_ba N (upd a s (mk_bi b)) (fun t => if t = s then b else p t) := by
  intro t ht
  show (if t = s then mk_bi b else a t) = mk_bi (if t = s then b else p t)
  by_cases e : t = s
  · rw [if_pos e, if_pos e]
  · rw [if_neg e, if_neg e]; exact h t ht
theorem mk_ba_congr {N : Nat} {a : Nat → Int32} {p q : Nat → Bool} (h : mk_ba N a p) (e : ∀ s, s < N → p s = q s) : mk_ba N a q :=
  fun s hs => by rw [h s hs, e s hs]
def mk_tr (N : Nat) (x y : Nat → Int32) : Prop := ∀ i, i < 16 → mk_bs N (x i) (bt (x i)) ∧ ∀ s, s < N → y (i * 12 + s) = mk_bi (bt (x i) s)
theorem mk_bs_self {N : Nat} {x : Int32} {p : Nat → Bool} (h : mk_bs N x p) : mk_bs N x (bt x) := by
  intro i hi
  have := h i hi
  rw [this]
  cases decide (i < N) <;> rfl
theorem mk_bs_lt {N : Nat} {x : Int32} {p : Nat → Bool} (h : mk_bs N x p) {s : Nat} (hs : bt x s = true) : s < N := by
  by_cases g : s < 32
  · have := h s g
    rw [hs] at this
    have h2 : (decide (s < N) && p s) = true := this.symm
    rw [Bool.and_eq_true, decide_eq_true_eq] at h2
    exact h2.1
  · rw [b_big (by omega)] at hs
    exact absurd hs (by decide)
theorem mk_bs_at {N : Nat} {x : Int32} {p : Nat → Bool} (h : mk_bs N x p) {s : Nat} (hs : s < N) (hN : N ≤ 12) : bt x s = p s := by
  rw [h s (by omega), decide_eq_true hs, Bool.true_and]
theorem mk_tr_put {N : Nat} {x y y' : Nat → Int32} {i : Nat} {v : Int32} {p : Nat → Bool} (h : mk_tr N x y) (hN : N ≤ 12) (hv : mk_bs N v p) (h1 : ∀ s, s < N → y' (i * 12 + s) = mk_bi (p s)) (h2 : ∀ j, (∀ s, s < N → j ≠ i * 12 + s) → y' j = y j) : mk_tr N (upd x i v) y' := by
  intro i' hi'
  by_cases e : i' = i
  · have e1 : upd x i v i' = v := if_pos e
    rw [e1]
    refine ⟨mk_bs_self hv, ?_⟩
    intro s hs
    rw [e, h1 s hs, mk_bs_at hv hs hN]
  · have e1 : upd x i v i' = x i' := if_neg e
    rw [e1]
    refine ⟨(h i' hi').1, ?_⟩
    intro s hs
    rw [h2 _ (fun s' hs' => by omega)]
    exact (h i' hi').2 s hs
def mk_cell (N i : Nat) (f g F : Nat → Int64) : Prop := (∀ s, s < N → g (i * 12 + s) = F s) ∧ ∀ j, (∀ s, s < N → j ≠ i * 12 + s) → g j = f j
theorem mk_cell_u {N i : Nat} {f g g' F : Nat → Int64} (h : mk_cell N i f g F) (h' : mk_cell N i f g' F) : g = g' := by
  funext j
  by_cases e : ∃ s, s < N ∧ j = i * 12 + s
  · obtain ⟨s, hs, ej⟩ := e
    rw [ej, h.1 s hs, h'.1 s hs]
  · have hj : ∀ s, s < N → j ≠ i * 12 + s := fun s hs z => e ⟨s, hs, z⟩
    rw [h.2 j hj, h'.2 j hj]
theorem mk_cell_congr {N i : Nat} {f g F F' : Nat → Int64} (h : mk_cell N i f g F) (e : ∀ s, s < N → F s = F' s) : mk_cell N i f g F' :=
  ⟨fun s hs => by rw [h.1 s hs, e s hs], h.2⟩
/-- one cell more written, in the order of the states -/
theorem mk_cell_0 {i : Nat} {f F : Nat → Int64} : mk_cell 0 i f f F := ⟨fun s h => by omega, fun _ _ => rfl⟩
theorem mk_cell_s {s i : Nat} {f g F : Nat → Int64} (h : mk_cell s i f g F) : mk_cell (s + 1) i f (vp_updL g (i * 12 + s) (F s)) F := by
  constructor
  · intro s' hs'
    show (if i * 12 + s' = i * 12 + s then F s else g (i * 12 + s')) = F s'
    by_cases e : s' = s
    · rw [if_pos (by omega), e]
    · rw [if_neg (by omega)]; exact h.1 s' (by omega)
  · intro j hj
    show (if j = i * 12 + s then F s else g j) = f j
    rw [if_neg (hj s (by omega))]
    exact h.2 j (fun s' hs' => hj s' (by omega))
theorem mk_cell_put {N s i : Nat} {f g F : Nat → Int64} {x : Int64} (hs : s < N) (h : mk_cell N i f g F) : mk_cell N i f (vp_updL g (i * 12 + s) x) (fun t => if t = s then x else F t) := by
  constructor
  · intro s' hs'
    show (if i * 12 + s' = i * 12 + s then x else g (i * 12 + s')) = if s' = s then x else F s'
    by_cases e : s' = s
    · rw [if_pos (by omega), if_pos e]
    · rw [if_neg (by omega), if_neg e]; exact h.1 s' hs'
  · intro j hj
    show (if j = i * 12 + s then x else g j) = f j
    rw [if_neg (hj s hs)]
    exact h.2 j hj
/-! the unknown states in their order -/
def mk_id (U : Nat → Bool) : Nat → Nat → Nat
  | 0 => fun _ => 0
  | n + 1 => fun r => if U n = true ∧ mk_cn U n = r then n else mk_id U n r
theorem mk_id_L (U : Nat → Bool) (N : Nat) : mk_L U N (mk_id U N) := by
  induction N with
  | zero => intro s h; omega
  | succ n ih =>
    intro s hs hU
    show (if U n = true ∧ mk_cn U n = mk_cn U s then n else mk_id U n (mk_cn U s)) = s
    by_cases e : s = n
    · subst e; rw [if_pos ⟨hU, rfl⟩]
    · have h1 := mk_cn_lt hU (show s < n by omega)
      rw [if_neg (fun z => by omega)]
      exact ih s (by omega) hU
theorem mk_idx {U : Nat → Bool} {N : Nat} {a : Nat → Int32} (h : ∀ s, s < N → U s = true → a (mk_cn U s) = nI s) {r : Nat} (hr : r < mk_cn U N) : a r = nI (mk_id U N r) ∧ mk_id U N r < N ∧ U (mk_id U N r) = true ∧ mk_cn U (mk_id U N r) = r := by
  obtain ⟨a1, a2, a3⟩ := mk_L_idx (mk_id_L U N) hr
  have := h _ a1 a2
  rw [a3] at this
  exact ⟨this, a1, a2, a3⟩
/-! all that the elimination asks, of the chain -/
def mk_M (wt : Nat → Int32) (N : Nat) (phi psi : Nat → Bool) : Nat → Nat → Int :=
  mk_A (mk_w wt) N (mk_O (mk_w wt) N phi psi) (mk_id (mk_U (mk_w wt) N phi psi) N) (mk_cn (mk_U (mk_w wt) N phi psi) N)
theorem mk_M_H {wt : Nat → Int32} {N : Nat} {phi psi : Nat → Bool} (hW : mk_W wt N) (hN : N ≤ 12) (hpsi : ∀ s, psi s = true → s < N) : mk_H (mk_M wt N phi psi) (mk_cn (mk_U (mk_w wt) N phi psi) N) := by
  obtain ⟨⟨ρ, hρ⟩, h10⟩ := mk_unk (w := mk_w wt) (phi := phi) hN hpsi
  refine mk_A_H (ρ := ρ) (mk_id_L _ N) h10 mk_U_O ?_ hρ
  intro s hs
  rw [mk_t_int]
  have := (hW s hs).2
  omega
