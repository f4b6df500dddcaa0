/-! the matrix of the unknown states keeps what the elimination asks -/
def mk_A (w : Nat → Nat → Nat) (N : Nat) (O : Nat → Bool) (idx : Nat → Nat) (m r c : Nat) : Int :=
  if c = m then mk_s (fun t => if O t = true then (w (idx r) t : Int) else 0) N
  else (if c = r then mk_s (fun t => (w (idx r) t : Int)) N else 0) - (w (idx r) (idx c) : Int)
theorem mk_A_m {w : Nat → Nat → Nat} {N : Nat} {O : Nat → Bool} {idx : Nat → Nat} {m r : Nat} : mk_A w N O idx m r m = mk_s (fun t => if O t = true then (w (idx r) t : Int) else 0) N := if_pos rfl
theorem mk_A_c {w : Nat → Nat → Nat} {N : Nat} {O : Nat → Bool} {idx : Nat → Nat} {m r c : Nat} (h : c < m) : mk_A w N O idx m r c = (if c = r then mk_s (fun t => (w (idx r) t : Int)) N else 0) - (w (idx r) (idx c) : Int) := if_neg (by omega)
theorem mk_s_nn {f : Nat → Int} (n : Nat) (h : ∀ c, c < n → 0 ≤ f c) : 0 ≤ mk_s f n := by
  have := mk_s_mono (f := fun _ => 0) (g := f) n h
  rw [mk_s_zero] at this
  exact this
theorem mk_s_pos {f : Nat → Int} {n t : Nat} (h : ∀ c, c < n → 0 ≤ f c) (ht : t < n) (hp : 0 < f t) : 0 < mk_s f n := by
  have h1 : mk_s (fun c => if c = t then f t else 0) n ≤ mk_s f n := by
    apply mk_s_mono
    intro c hc
    by_cases e : c = t
    · rw [if_pos e, e]; exact Int.le_refl _
    · rw [if_neg e]; exact h c hc
  have h2 : mk_s (fun c => if c = t then f t else 0) n = f t := by
    rw [mk_s_one (p := t) (N := n) (fun c _ e => if_neg e) n (Nat.le_refl n), if_pos ht, if_pos rfl]
  omega
theorem mk_A_sum {w : Nat → Nat → Nat} {N : Nat} {U O : Nat → Bool} {idx : Nat → Nat} (L : mk_L U N idx) {r : Nat} (hr : r < mk_cn U N) : mk_s (mk_A w N O idx (mk_cn U N) r) (mk_cn U N) = mk_s (fun t => if U t = true then 0 else (w (idx r) t : Int)) N := by
  have h1 : mk_s (mk_A w N O idx (mk_cn U N) r) (mk_cn U N) = mk_s (fun c => (if c = r then mk_s (fun t => (w (idx r) t : Int)) N else 0) + - (w (idx r) (idx c) : Int)) (mk_cn U N) :=
    mk_s_congr _ (fun c hc => by rw [mk_A_c hc]; omega)
  have h2 : mk_s (fun c => if c = r then mk_s (fun t => (w (idx r) t : Int)) N else 0) (mk_cn U N) = mk_s (fun t => (w (idx r) t : Int)) N := by
    rw [mk_s_one (p := r) (N := mk_cn U N) (fun c _ e => if_neg e) _ (Nat.le_refl _), if_pos hr, if_pos rfl]
  have h3 : mk_s (fun c => (w (idx r) (idx c) : Int)) (mk_cn U N) = mk_s (fun t => if U t = true then (w (idx r) t : Int) else 0) N := mk_L_s L (fun t => (w (idx r) t : Int)) N (Nat.le_refl N)
  have h4 : mk_s (fun t => (w (idx r) t : Int)) N = mk_s (fun t => (if U t = true then (w (idx r) t : Int) else 0) + (if U t = true then 0 else (w (idx r) t : Int))) N := by
    apply mk_s_congr
    intro t _
    by_cases h : U t = true
    · rw [if_pos h, if_pos h]; omega
    · rw [if_neg h, if_neg h]; omega
  rw [mk_s_add] at h4
  rw [h1, mk_s_add, h2, mk_s_neg, h3]
  omega
theorem mk_A_r {w : Nat → Nat → Nat} {N : Nat} {U O : Nat → Bool} {idx : Nat → Nat} (L : mk_L U N idx) (hO : ∀ t, t < N → U t = true → O t = true → False) {r : Nat} (hr : r < mk_cn U N) (hd : mk_s (fun t => (w (idx r) t : Int)) N ≤ 4) : mk_r (mk_A w N O idx (mk_cn U N)) r (mk_cn U N + 1) ≤ 8 := by
  have hw : ∀ t, (0 : Int) ≤ (w (idx r) t : Int) := fun t => Int.natCast_nonneg _
  have hd0 : 0 ≤ mk_s (fun t => (w (idx r) t : Int)) N := mk_s_nn N (fun t _ => hw t)
  have e0 : mk_r (mk_A w N O idx (mk_cn U N)) r (mk_cn U N + 1) = mk_s (fun c => ((mk_A w N O idx (mk_cn U N) r c).natAbs : Int)) (mk_cn U N) + ((mk_A w N O idx (mk_cn U N) r (mk_cn U N)).natAbs : Int) := rfl
  have h1 : mk_s (fun c => ((mk_A w N O idx (mk_cn U N) r c).natAbs : Int)) (mk_cn U N) ≤ mk_s (fun c => (if c = r then mk_s (fun t => (w (idx r) t : Int)) N else 0) + (w (idx r) (idx c) : Int)) (mk_cn U N) := by
    apply mk_s_mono
    intro c hc
    rw [mk_A_c hc]
    by_cases e : c = r
    · rw [if_pos e]; have := hw (idx c); omega
    · rw [if_neg e]; have := hw (idx c); omega
  have h2 : mk_s (fun c => if c = r then mk_s (fun t => (w (idx r) t : Int)) N else 0) (mk_cn U N) = mk_s (fun t => (w (idx r) t : Int)) N := by
    rw [mk_s_one (p := r) (N := mk_cn U N) (fun c _ e => if_neg e) _ (Nat.le_refl _), if_pos hr, if_pos rfl]
  have h3 : mk_s (fun c => (w (idx r) (idx c) : Int)) (mk_cn U N) = mk_s (fun t => if U t = true then (w (idx r) t : Int) else 0) N := mk_L_s L (fun t => (w (idx r) t : Int)) N (Nat.le_refl N)
  have h4 : mk_s (fun t => if U t = true then (w (idx r) t : Int) else 0) N + mk_s (fun t => if O t = true then (w (idx r) t : Int) else 0) N ≤ mk_s (fun t => (w (idx r) t : Int)) N := by
    rw [← mk_s_add]
    apply mk_s_mono
    intro t ht
    have := hw t
    by_cases h : U t = true
    · by_cases g : O t = true
      · exact (hO t ht h g).elim
      · rw [if_pos h, if_neg g]; omega
    · by_cases g : O t = true
      · rw [if_neg h, if_pos g]; omega
      · rw [if_neg h, if_neg g]; omega
  have h5 : 0 ≤ mk_s (fun t => if O t = true then (w (idx r) t : Int) else 0) N := by
    apply mk_s_nn
    intro t _
    have := hw t
    by_cases g : O t = true
    · rw [if_pos g]; omega
    · rw [if_neg g]; exact Int.le_refl 0
  rw [mk_s_add, h2, h3] at h1
  rw [e0, mk_A_m]
  omega
theorem mk_A_H {w : Nat → Nat → Nat} {N : Nat} {U O : Nat → Bool} {idx ρ : Nat → Nat} (L : mk_L U N idx) (hm : mk_cn U N ≤ 10) (hO : ∀ t, t < N → U t = true → O t = true → False) (hd : ∀ s, s < N → mk_s (fun t => (w s t : Int)) N ≤ 4) (hρ : ∀ s, s < N → U s = true → ∃ t, t < N ∧ 0 < w s t ∧ (¬ U t = true ∨ ρ t < ρ s)) : mk_H (mk_A w N O idx (mk_cn U N)) (mk_cn U N) := by
  refine ⟨hm, ?_, fun j => ρ (idx j), ?_⟩
  · intro r hr
    exact mk_A_r L hO hr (hd _ (mk_L_idx L hr).1)
  · intro i hi
    obtain ⟨a, b, c⟩ := mk_L_idx L hi
    have hw : ∀ t, (0 : Int) ≤ (w (idx i) t : Int) := fun t => Int.natCast_nonneg _
    have hE : mk_E (mk_A w N O idx (mk_cn U N)) 0 i = mk_A w N O idx (mk_cn U N) i := funext (fun j => mk_E_0 _ i j)
    have hnn : ∀ t, t < N → (0 : Int) ≤ (if U t = true then 0 else (w (idx i) t : Int)) := by
      intro t _
      have := hw t
      by_cases g : U t = true
      · rw [if_pos g]; exact Int.le_refl 0
      · rw [if_neg g]; omega
    unfold mk_Row
    rw [hE]
    refine ⟨?_, ?_, ?_, ?_⟩
    · intro j hj hne
      rw [mk_A_c hj, if_neg hne]
      have := hw (idx j)
      omega
    · rw [mk_A_m]
      apply mk_s_nn
      intro t _
      have := hw t
      by_cases g : O t = true
      · rw [if_pos g]; omega
      · rw [if_neg g]; exact Int.le_refl 0
    · rw [mk_A_sum L hi]
      exact mk_s_nn N hnn
    · intro _
      obtain ⟨t, ht, hwt, hx⟩ := hρ (idx i) a b
      by_cases g : U t = true
      · right
        rcases hx with hx | hx
        · exact absurd g hx
        · have hj := mk_cn_lt g ht
          have e := L t ht g
          have hne : mk_cn U t ≠ i := by
            intro z
            rw [z] at e
            rw [e] at hx
            omega
          refine ⟨mk_cn U t, Nat.zero_le _, hj, hne, ?_, ?_⟩
          · rw [mk_A_c hj, if_neg hne, e]; omega
          · show ρ (idx (mk_cn U t)) < ρ (idx i)
            rw [e]; exact hx
      · left
        rw [mk_A_sum L hi]
        refine mk_s_pos hnn ht ?_
        show (0 : Int) < if U t = true then 0 else (w (idx i) t : Int)
        rw [if_neg g]; omega
/-! the states that reach -/
def mk_any (f : Nat → Bool) : Nat → Bool
  | 0 => false
  | n + 1 => mk_any f n || f n
theorem mk_any_ex (f : Nat → Bool) (n : Nat) : mk_any f n = true → ∃ t, t < n ∧ f t = true := by
  induction n with
  | zero => intro h; exact absurd (show false = true from h) Bool.false_ne_true
  | succ n ih =>
    intro h
    have h' : (mk_any f n || f n) = true := h
    rw [Bool.or_eq_true] at h'
    rcases h' with h | h
    · obtain ⟨t, a, b⟩ := ih h
      exact ⟨t, by omega, b⟩
    · exact ⟨n, by omega, h⟩
theorem mk_any_of (f : Nat → Bool) (n : Nat) {t : Nat} (ht : t < n) (h : f t = true) : mk_any f n = true := by
  induction n with
  | zero => omega
  | succ n ih =>
    show (mk_any f n || f n) = true
    rw [Bool.or_eq_true]
    by_cases e : t = n
    · right; rw [← e]; exact h
    · left; exact ih (by omega)
def mk_sc (w : Nat → Nat → Nat) (N : Nat) (q : Nat → Bool) (s : Nat) : Bool := mk_any (fun t => decide (0 < w s t) && q t) N
def mk_add (w : Nat → Nat → Nat) (N : Nat) (via q : Nat → Bool) (s : Nat) : Nat → Bool := fun t => if t = s then (q s || (via s && mk_sc w N q s)) else q t
def mk_pass (w : Nat → Nat → Nat) (N : Nat) (via q : Nat → Bool) : Nat → Nat → Bool
  | 0 => q
  | s + 1 => mk_add w N via (mk_pass w N via q s) s
def mk_reach (w : Nat → Nat → Nat) (N : Nat) (via q : Nat → Bool) : Nat → Nat → Bool
  | 0 => q
  | r + 1 => mk_pass w N via (mk_reach w N via q r) N
def mk_RI (w : Nat → Nat → Nat) (N : Nat) (via p q : Nat → Bool) : Prop :=
  (∀ s, p s = true → q s = true) ∧ (∀ s, q s = true → s < N) ∧
  ∃ (ρ : Nat → Nat) (T : Nat), (∀ s, q s = true → ρ s < T) ∧ ∀ s, q s = true → p s = true ∨ (via s = true ∧ ∃ t, t < N ∧ 0 < w s t ∧ q t = true ∧ ρ t < ρ s)
theorem mk_RI_0 {w : Nat → Nat → Nat} {N : Nat} {via p : Nat → Bool} (h : ∀ s, p s = true → s < N) : mk_RI w N via p p :=
  ⟨fun _ h => h, h, fun _ => 0, 1, fun _ _ => Nat.zero_lt_one, fun _ h => Or.inl h⟩
theorem mk_add_ne {w : Nat → Nat → Nat} {N : Nat} {via q : Nat → Bool} {s t : Nat} (h : t ≠ s) : mk_add w N via q s t = q t := if_neg h
theorem mk_add_at {w : Nat → Nat → Nat} {N : Nat} {via q : Nat → Bool} {s : Nat} : mk_add w N via q s s = (q s || (via s && mk_sc w N q s)) := if_pos rfl
theorem mk_add_old {w : Nat → Nat → Nat} {N : Nat} {via q : Nat → Bool} {s t : Nat} (h : q t = true) : mk_add w N via q s t = true := by
  by_cases e : t = s
  · rw [e, mk_add_at, ← e, h]; rfl
  · rw [mk_add_ne e]; exact h
theorem mk_RI_add {w : Nat → Nat → Nat} {N : Nat} {via p q : Nat → Bool} (h : mk_RI w N via p q) {s : Nat} (hs : s < N) : mk_RI w N via p (mk_add w N via q s) := by
  obtain ⟨h1, h2, ρ, T, h3, h4⟩ := h
  refine ⟨fun t ht => mk_add_old (h1 t ht), ?_, ?_⟩
  · intro t ht
    by_cases e : t = s
    · rw [e]; exact hs
    · rw [mk_add_ne e] at ht; exact h2 t ht
  · by_cases hq : q s = true
    · refine ⟨ρ, T, ?_, ?_⟩
      · intro t ht
        by_cases e : t = s
        · rw [e]; exact h3 s hq
        · rw [mk_add_ne e] at ht; exact h3 t ht
      · intro t ht
        have ht' : q t = true := by
          by_cases e : t = s
          · rw [e]; exact hq
          · rw [mk_add_ne e] at ht; exact ht
        rcases h4 t ht' with g | ⟨g, t', a, b, c, d⟩
        · exact Or.inl g
        · exact Or.inr ⟨g, t', a, b, mk_add_old c, d⟩
    · refine ⟨fun t => if t = s then T else ρ t, T + 1, ?_, ?_⟩
      · intro t ht
        by_cases e : t = s
        · show (if t = s then T else ρ t) < T + 1
          rw [if_pos e]; omega
        · rw [mk_add_ne e] at ht
          have := h3 t ht
          show (if t = s then T else ρ t) < T + 1
          rw [if_neg e]; omega
      · intro t ht
        by_cases e : t = s
        · rw [e, mk_add_at] at ht
          have hf : q s = false := Bool.eq_false_iff.mpr hq
          rw [hf, Bool.false_or, Bool.and_eq_true] at ht
          obtain ⟨hv, hsc⟩ := ht
          obtain ⟨t', a, b⟩ := mk_any_ex _ N hsc
          rw [Bool.and_eq_true, decide_eq_true_eq] at b
          have hne : t' ≠ s := fun z => hq (z ▸ b.2)
          have h5 := h3 t' b.2
          right
          refine ⟨by rw [e]; exact hv, t', a, by rw [e]; exact b.1, mk_add_old b.2, ?_⟩
          show (if t' = s then T else ρ t') < (if t = s then T else ρ t)
          rw [if_neg hne, if_pos e]; exact h5
        · rw [mk_add_ne e] at ht
          rcases h4 t ht with g | ⟨g, t', a, b, c, d⟩
          · exact Or.inl g
          · have hne : t' ≠ s := fun z => hq (z ▸ c)
            refine Or.inr ⟨g, t', a, b, mk_add_old c, ?_⟩
            show (if t' = s then T else ρ t') < (if t = s then T else ρ t)
            rw [if_neg hne, if_neg e]; exact d
theorem mk_RI_pass {w : Nat → Nat → Nat} {N : Nat} {via p q : Nat → Bool} (h : mk_RI w N via p q) : ∀ s, s ≤ N → mk_RI w N via p (mk_pass w N via q s) := by
  intro s
  induction s with
  | zero => intro _; exact h
  | succ s ih => intro hs; exact mk_RI_add (ih (by omega)) (by omega)
theorem mk_RI_reach {w : Nat → Nat → Nat} {N : Nat} {via p : Nat → Bool} (h : ∀ s, p s = true → s < N) : ∀ r, mk_RI w N via p (mk_reach w N via p r) := by
  intro r
  induction r with
  | zero => exact mk_RI_0 h
  | succ r ih => exact mk_RI_pass ih N (Nat.le_refl N)
/-- from a state that reaches, a state of the target is there -/
theorem mk_RI_ex {w : Nat → Nat → Nat} {N : Nat} {via p q : Nat → Bool} (h : mk_RI w N via p q) {s : Nat} (hs : q s = true) : ∃ t, t < N ∧ p t = true := by
  obtain ⟨_, h2, ρ, T, _, h4⟩ := h
  have key : ∀ n s, ρ s < n → q s = true → ∃ t, t < N ∧ p t = true := by
    intro n
    induction n with
    | zero => intro s hn; omega
    | succ n ih =>
      intro s hn hq
      rcases h4 s hq with g | ⟨_, t, _, _, c, d⟩
      · exact ⟨s, h2 s hq, g⟩
      · exact ih t (by omega) c
  exact key (ρ s + 1) s (by omega) hs
def mk_R1 (w : Nat → Nat → Nat) (N : Nat) (phi psi : Nat → Bool) : Nat → Bool := mk_reach w N phi psi N
def mk_Z (w : Nat → Nat → Nat) (N : Nat) (phi psi : Nat → Bool) : Nat → Bool := fun s => decide (s < N) && !mk_R1 w N phi psi s
def mk_R2 (w : Nat → Nat → Nat) (N : Nat) (phi psi : Nat → Bool) : Nat → Bool := mk_reach w N (fun s => phi s && !psi s) (mk_Z w N phi psi) N
def mk_U (w : Nat → Nat → Nat) (N : Nat) (phi psi : Nat → Bool) : Nat → Bool := fun s => mk_R1 w N phi psi s && mk_R2 w N phi psi s
def mk_O (w : Nat → Nat → Nat) (N : Nat) (phi psi : Nat → Bool) : Nat → Bool := fun s => mk_R1 w N phi psi s && !mk_R2 w N phi psi s
theorem mk_U_O {w : Nat → Nat → Nat} {N : Nat} {phi psi : Nat → Bool} (t : Nat) (_ : t < N) (h1 : mk_U w N phi psi t = true) (h2 : mk_O w N phi psi t = true) : False := by
  have a : (mk_R1 w N phi psi t && mk_R2 w N phi psi t) = true := h1
  have b : (mk_R1 w N phi psi t && !mk_R2 w N phi psi t) = true := h2
  rw [Bool.and_eq_true] at a b
  rw [a.2] at b
  exact absurd b.2 (by decide)
theorem mk_unk {w : Nat → Nat → Nat} {N : Nat} {phi psi : Nat → Bool} (hN : N ≤ 12) (hpsi : ∀ s, psi s = true → s < N) : (∃ ρ : Nat → Nat, ∀ s, s < N → mk_U w N phi psi s = true → ∃ t, t < N ∧ 0 < w s t ∧ (¬ mk_U w N phi psi t = true ∨ ρ t < ρ s)) ∧ mk_cn (mk_U w N phi psi) N ≤ 10 := by
  have I1 : mk_RI w N phi psi (mk_R1 w N phi psi) := mk_RI_reach hpsi N
  have hZ : ∀ s, mk_Z w N phi psi s = true → s < N ∧ ¬ mk_R1 w N phi psi s = true := by
    intro s h
    have h' : (decide (s < N) && !mk_R1 w N phi psi s) = true := h
    rw [Bool.and_eq_true, decide_eq_true_eq] at h'
    refine ⟨h'.1, fun g => ?_⟩
    rw [g] at h'
    exact absurd h'.2 (by decide)
  have I2 : mk_RI w N (fun s => phi s && !psi s) (mk_Z w N phi psi) (mk_R2 w N phi psi) := mk_RI_reach (fun s h => (hZ s h).1) N
  have hU : ∀ s, mk_U w N phi psi s = true → mk_R1 w N phi psi s = true ∧ mk_R2 w N phi psi s = true := by
    intro s h
    have h' : (mk_R1 w N phi psi s && mk_R2 w N phi psi s) = true := h
    rw [Bool.and_eq_true] at h'
    exact h'
  have hnp : ∀ s, mk_U w N phi psi s = true → ¬ psi s = true := by
    intro s h g
    obtain ⟨a, b⟩ := hU s h
    obtain ⟨_, _, ρ, T, _, h4⟩ := I2
    rcases h4 s b with z | ⟨z, _⟩
    · exact (hZ s z).2 a
    · have z' : (phi s && !psi s) = true := z
      rw [g, Bool.and_eq_true] at z'
      exact absurd z'.2 (by decide)
  constructor
  · obtain ⟨_, _, ρ, T, _, h4⟩ := id I1
    refine ⟨ρ, ?_⟩
    intro s hs hu
    rcases h4 s (hU s hu).1 with z | ⟨_, t, a, b, c, d⟩
    · exact absurd z (hnp s hu)
    · exact ⟨t, a, b, Or.inr d⟩
  · by_cases h0 : mk_cn (mk_U w N phi psi) N = 0
    · omega
    · obtain ⟨s, hs, hu, _⟩ := mk_cn_ex (U := mk_U w N phi psi) N 0 (by omega)
      obtain ⟨a, b⟩ := hU s hu
      obtain ⟨p, hp, hpp⟩ := mk_RI_ex I1 a
      obtain ⟨z, hz, hzz⟩ := mk_RI_ex I2 b
      have hne : p ≠ z := by
        intro e
        rw [e] at hpp
        exact (hZ z hzz).2 (I1.1 z hpp)
      have h1 : ¬ mk_U w N phi psi p = true := fun g => hnp p g hpp
      have h2 : ¬ mk_U w N phi psi z = true := fun g => (hZ z hzz).2 (hU z g).1
      have h3 := mk_cn_two hne h1 h2 N
      rw [if_pos hp, if_pos hz] at h3
      omega
