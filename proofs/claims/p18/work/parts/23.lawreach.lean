/-! the law's sets of reaching states, its look at all nodes -/
theorem mk_any_no {f : Nat → Bool} (n : Nat) (h : ∀ t, t < n → f t = false) : mk_any f n = false := by
  cases e : mk_any f n with
  | false => rfl
  | true =>
    obtain ⟨t, a, b⟩ := mk_any_ex f n e
    rw [h t a] at b
    exact absurd b (by decide)
theorem mk_add_no {w : Nat → Nat → Nat} {N : Nat} {via q : Nat → Bool} {s : Nat} (h : q s = true ∨ via s = false) (t : Nat) : q t = mk_add w N via q s t := by
  by_cases e : t = s
  · rw [e, mk_add_at]
    rcases h with h | h
    · rw [h]; rfl
    · rw [h, Bool.false_and, Bool.or_false]
  · rw [mk_add_ne e]
section
variable {L : Nat} {xs : Nat → Int32} {kc ks : Nat} {post : Int32 → Prop} {J679 : (Int32 → Int32 → Int32 → Int32 → Int32 → (Nat → Int32) → (Nat → Int32) → (Nat → Int32) → (Nat → Int32) → (Nat → Int32) → (Nat → Int32) → (Nat → Int32) → (Nat → Int32) → (Nat → Int32) → (Nat → Int64) → (Nat → Int64) → (Nat → Int64) → (Nat → Int64) → (Nat → Int32) → (Nat → Int64) → Prop)} {J821 : Int32 → Prop} {x1 x5 x11 x12 : Int32} {x6 x8 : Int64}
variable {N C : Nat} {nd vl : Int32} {wt lb kd fi se bo tn td tr un : Nat → Int32} {vn vd pa np mx : Nat → Int64}
theorem mL_1114 {J1081 J1090 : Int32 → Int32 → Prop} {x13 x18 x20 x22 x23 y : Int32} {s : Nat} {v q : Nat → Bool} (hN : N ≤ 12) (hW : mk_W wt N) (hs : s < N) (hy : mk_bs N y q) (hq : q s = false) (hv : v s = true) (k : ∀ y', mk_bs N y' (mk_add (mk_w wt) N v q s) → J1090 y' (nI s + 1)) : ∀ (n t : Nat), t ≤ N → N < n + t → (∀ t', t' < t → (decide (0 < mk_w wt s t') && q t') = false) → (wL_law_1114 post L xs J679 J821 J1081 J1090 x1 (nI N) x5 x6 x8 x11 x12 x13 x18 x20 y x22 x23 (nI s) kc ks (nI N) nd vl wt lb kd fi se bo tn td tr vn vd pa np un mx n (nI t)) := by
  intro n
  induction n with
  | zero => intro t h1 h2; omega
  | succ n ih =>
    intro t h1 h2 hf
    refine pk_le N t (fun h => ?_) (fun h => ?_)
    · obtain rfl : t = N := by omega
      refine nm_e (k y (mk_bs_congr hy (fun u _ => ?_)))
      by_cases e : u = s
      · rw [e, mk_add_at, hv, Bool.true_and]
        have : mk_sc (mk_w wt) t q s = false := mk_any_no t hf
        rw [this, Bool.or_false]
      · rw [mk_add_ne e]
    · have bq := mk_bs_bit hy h (by omega)
      have nx : (decide (0 < mk_w wt s t) && q t) = false → (wL_law_1114 post L xs J679 J821 J1081 J1090 x1 (nI N) x5 x6 x8 x11 x12 x13 x18 x20 y x22 x23 (nI s) kc ks (nI N) nd vl wt lb kd fi se bo tn td tr vn vd pa np un mx n (nI (t + 1))) := by
        intro z
        refine ih (t + 1) (by omega) (by omega) (fun t' ht' => ?_)
        by_cases e : t' = t
        · rw [e]; exact z
        · exact hf t' (by omega)
      cases z : q t with
      | false => exact br_t (bq.mpr z) (nm_r (nI_1 t) (nx (by rw [z, Bool.and_false])))
      | true =>
        have hw := mk_W_le hW hs h
        refine br_f (fun z' => ?_) (mx_gw hN hW hs h ?_)
        · rw [bq.mp z'] at z
          exact absurd z (by decide)
        · refine mk_pos (mk_w wt s t) rfl (by omega) (fun g => ?_) (fun g => ?_)
          · exact nm_r (nI_1 t) (nx (by rw [decide_eq_false (by omega), Bool.false_and]))
          · refine nm_e (nm_e (k _ (mk_bs_congr (mk_bs_put hy hs (by omega)) (fun u _ => ?_))))
            by_cases e : u = s
            · have hsc : mk_sc (mk_w wt) N q s = true := mk_any_of (fun t => decide (0 < mk_w wt s t) && q t) N h (by
                show (decide (0 < mk_w wt s t) && q t) = true
                rw [decide_eq_true g, z]; rfl)
              rw [if_pos e, e, mk_add_at, hv, hsc, Bool.true_and, Bool.or_true]
            · rw [if_neg e, mk_add_ne e]
theorem mL_1090 {J1081 : Int32 → Int32 → Prop} {x13 x18 x20 x22 x23 : Int32} {v q : Nat → Bool} (hN : N ≤ 12) (hW : mk_W wt N) (hp : mk_bs N x22 v) (k : ∀ y, mk_bs N y (mk_pass (mk_w wt) N v q N) → J1081 y (x23 + 1)) : ∀ (n s : Nat) (y : Int32), s ≤ N → N < n + s → mk_bs N y (mk_pass (mk_w wt) N v q s) → (wL_law_1090 post L xs J679 J821 J1081 x1 (nI N) x5 x6 x8 x11 x12 x13 x18 x20 x22 x23 kc ks (nI N) nd vl wt lb kd fi se bo tn td tr vn vd pa np un mx n y (nI s)) := by
  intro n
  induction n with
  | zero => intro s y h1 h2; omega
  | succ n ih =>
    intro s y h1 h2 hy
    refine pk_le N s (fun h => ?_) (fun h => ?_)
    · obtain rfl : s = N := by omega
      exact nm_e (k y hy)
    · have bq := mk_bs_bit (mk_bs_diff hp hy) h (by omega)
      cases z : (v s && !mk_pass (mk_w wt) N v q s s) with
      | false =>
        refine br_t (bq.mpr z) (nm_r (nI_1 s) (ih (s + 1) y (by omega) (by omega) (mk_bs_congr hy (fun t _ => mk_add_no ?_ t))))
        cases z1 : mk_pass (mk_w wt) N v q s s with
        | true => exact Or.inl rfl
        | false =>
          rw [z1] at z
          right
          cases z2 : v s with
          | false => rfl
          | true => rw [z2] at z; exact absurd z (by decide)
      | true =>
        rw [Bool.and_eq_true] at z
        have zq : mk_pass (mk_w wt) N v q s s = false := by
          cases z1 : mk_pass (mk_w wt) N v q s s with
          | false => rfl
          | true => rw [z1] at z; exact absurd z.2 (by decide)
        refine br_f (fun z' => ?_) ⟨N + 1, mL_1114 hN hW h hy zq z.1 (fun y' hy' => ?_) (N + 1) 0 (by omega) (by omega) (fun t' ht' => by omega)⟩
        · have := bq.mp z'
          rw [z.1, zq] at this
          exact absurd this (by decide)
        · rw [nI_1]
          exact ih (s + 1) y' (by omega) (by omega) hy'
theorem mL_1081 {x13 x18 x20 x22 : Int32} {v p : Nat → Bool} (hN : N ≤ 12) (hW : mk_W wt N) (hp : mk_bs N x22 v) (k : ∀ y, mk_bs N y (mk_reach (mk_w wt) N v p N) → ∃ f, (wL_law_1188 post L xs J679 J821 x1 (nI N) x5 x6 x8 x11 x12 x13 x20 ((x18 &&& (x20 ^^^ (-1))) &&& (y ^^^ (-1))) kc ks (nI N) nd vl wt lb kd fi se bo tn td tr vn vd pa np un mx f 0)) : ∀ (n r : Nat) (y : Int32), r ≤ N → N < n + r → mk_bs N y (mk_reach (mk_w wt) N v p r) → (wL_law_1081 post L xs J679 J821 x1 (nI N) x5 x6 x8 x11 x12 x13 x18 x20 x22 kc ks (nI N) nd vl wt lb kd fi se bo tn td tr vn vd pa np un mx n y (nI r)) := by
  intro n
  induction n with
  | zero => intro r y h1 h2; omega
  | succ n ih =>
    intro r y h1 h2 hy
    refine pk_le N r (fun h => ?_) (fun h => ?_)
    · obtain rfl : r = N := by omega
      exact nm_e (k y hy)
    · refine ⟨N + 1, mL_1090 (q := mk_reach (mk_w wt) N v p r) hN hW hp (fun y' hy' => ?_) (N + 1) 0 y (by omega) (by omega) hy⟩
      rw [nI_1]
      exact ih (r + 1) y' (by omega) (by omega) hy'
theorem mL_999 {J966 J975 : Int32 → Int32 → Prop} {x13 x16 x17 x18 x20 y : Int32} {s : Nat} {v q : Nat → Bool} (hN : N ≤ 12) (hW : mk_W wt N) (hs : s < N) (hy : mk_bs N y q) (hq : q s = false) (hv : v s = true) (k : ∀ y', mk_bs N y' (mk_add (mk_w wt) N v q s) → J975 y' (nI s + 1)) : ∀ (n t : Nat), t ≤ N → N < n + t → (∀ t', t' < t → (decide (0 < mk_w wt s t') && q t') = false) → (wL_law_999 post L xs J679 J821 J966 J975 x1 (nI N) x5 x6 x8 x11 x12 x13 x16 x17 x18 y x20 (nI s) kc ks (nI N) nd vl wt lb kd fi se bo tn td tr vn vd pa np un mx n (nI t)) := by
  intro n
  induction n with
  | zero => intro t h1 h2; omega
  | succ n ih =>
    intro t h1 h2 hf
    refine pk_le N t (fun h => ?_) (fun h => ?_)
    · obtain rfl : t = N := by omega
      refine nm_e (k y (mk_bs_congr hy (fun u _ => ?_)))
      by_cases e : u = s
      · rw [e, mk_add_at, hv, Bool.true_and]
        have : mk_sc (mk_w wt) t q s = false := mk_any_no t hf
        rw [this, Bool.or_false]
      · rw [mk_add_ne e]
    · have bq := mk_bs_bit hy h (by omega)
      have nx : (decide (0 < mk_w wt s t) && q t) = false → (wL_law_999 post L xs J679 J821 J966 J975 x1 (nI N) x5 x6 x8 x11 x12 x13 x16 x17 x18 y x20 (nI s) kc ks (nI N) nd vl wt lb kd fi se bo tn td tr vn vd pa np un mx n (nI (t + 1))) := by
        intro z
        refine ih (t + 1) (by omega) (by omega) (fun t' ht' => ?_)
        by_cases e : t' = t
        · rw [e]; exact z
        · exact hf t' (by omega)
      cases z : q t with
      | false => exact br_t (bq.mpr z) (nm_r (nI_1 t) (nx (by rw [z, Bool.and_false])))
      | true =>
        have hw := mk_W_le hW hs h
        refine br_f (fun z' => ?_) (mx_gw hN hW hs h ?_)
        · rw [bq.mp z'] at z
          exact absurd z (by decide)
        · refine mk_pos (mk_w wt s t) rfl (by omega) (fun g => ?_) (fun g => ?_)
          · exact nm_r (nI_1 t) (nx (by rw [decide_eq_false (by omega), Bool.false_and]))
          · refine nm_e (nm_e (k _ (mk_bs_congr (mk_bs_put hy hs (by omega)) (fun u _ => ?_))))
            by_cases e : u = s
            · have hsc : mk_sc (mk_w wt) N q s = true := mk_any_of (fun t => decide (0 < mk_w wt s t) && q t) N h (by
                show (decide (0 < mk_w wt s t) && q t) = true
                rw [decide_eq_true g, z]; rfl)
              rw [if_pos e, e, mk_add_at, hv, hsc, Bool.true_and, Bool.or_true]
            · rw [if_neg e, mk_add_ne e]
theorem mL_975 {J966 : Int32 → Int32 → Prop} {x13 x16 x17 x18 x20 : Int32} {v q : Nat → Bool} (hN : N ≤ 12) (hW : mk_W wt N) (hp : mk_bs N x16 v) (k : ∀ y, mk_bs N y (mk_pass (mk_w wt) N v q N) → J966 y (x20 + 1)) : ∀ (n s : Nat) (y : Int32), s ≤ N → N < n + s → mk_bs N y (mk_pass (mk_w wt) N v q s) → (wL_law_975 post L xs J679 J821 J966 x1 (nI N) x5 x6 x8 x11 x12 x13 x16 x17 x18 x20 kc ks (nI N) nd vl wt lb kd fi se bo tn td tr vn vd pa np un mx n y (nI s)) := by
  intro n
  induction n with
  | zero => intro s y h1 h2; omega
  | succ n ih =>
    intro s y h1 h2 hy
    refine pk_le N s (fun h => ?_) (fun h => ?_)
    · obtain rfl : s = N := by omega
      exact nm_e (k y hy)
    · have bq := mk_bs_bit (mk_bs_diff hp hy) h (by omega)
      cases z : (v s && !mk_pass (mk_w wt) N v q s s) with
      | false =>
        refine br_t (bq.mpr z) (nm_r (nI_1 s) (ih (s + 1) y (by omega) (by omega) (mk_bs_congr hy (fun t _ => mk_add_no ?_ t))))
        cases z1 : mk_pass (mk_w wt) N v q s s with
        | true => exact Or.inl rfl
        | false =>
          rw [z1] at z
          right
          cases z2 : v s with
          | false => rfl
          | true => rw [z2] at z; exact absurd z (by decide)
      | true =>
        rw [Bool.and_eq_true] at z
        have zq : mk_pass (mk_w wt) N v q s s = false := by
          cases z1 : mk_pass (mk_w wt) N v q s s with
          | false => rfl
          | true => rw [z1] at z; exact absurd z.2 (by decide)
        refine br_f (fun z' => ?_) ⟨N + 1, mL_999 hN hW h hy zq z.1 (fun y' hy' => ?_) (N + 1) 0 (by omega) (by omega) (fun t' ht' => by omega)⟩
        · have := bq.mp z'
          rw [z.1, zq] at this
          exact absurd this (by decide)
        · rw [nI_1]
          exact ih (s + 1) y' (by omega) (by omega) hy'
theorem mL_966 {x13 x16 x17 x18 : Int32} {v p : Nat → Bool} (hN : N ≤ 12) (hW : mk_W wt N) (hp : mk_bs N x16 v) (k : ∀ y, mk_bs N y (mk_reach (mk_w wt) N v p N) → ∃ f, (wL_law_1081 post L xs J679 J821 x1 (nI N) x5 x6 x8 x11 x12 x13 x18 (x18 &&& (y ^^^ (-1))) (x16 &&& (x17 ^^^ (-1))) kc ks (nI N) nd vl wt lb kd fi se bo tn td tr vn vd pa np un mx f (x18 &&& (y ^^^ (-1))) 0)) : ∀ (n r : Nat) (y : Int32), r ≤ N → N < n + r → mk_bs N y (mk_reach (mk_w wt) N v p r) → (wL_law_966 post L xs J679 J821 x1 (nI N) x5 x6 x8 x11 x12 x13 x16 x17 x18 kc ks (nI N) nd vl wt lb kd fi se bo tn td tr vn vd pa np un mx n y (nI r)) := by
  intro n
  induction n with
  | zero => intro r y h1 h2; omega
  | succ n ih =>
    intro r y h1 h2 hy
    refine pk_le N r (fun h => ?_) (fun h => ?_)
    · obtain rfl : r = N := by omega
      exact nm_e (nm_e (k y hy))
    · refine ⟨N + 1, mL_975 (q := mk_reach (mk_w wt) N v p r) hN hW hp (fun y' hy' => ?_) (N + 1) 0 y (by omega) (by omega) hy⟩
      rw [nI_1]
      exact ih (r + 1) y' (by omega) (by omega) hy'
theorem mL_900 {x13 : Int32} {j l : Nat} (hN : N ≤ 12) (hC : C ≤ 16) (hv : ¬ vl = 0) (hj : j < C) (hl : l < C) (kj : ¬ kd j = 4) (kl : ¬ kd l = 4) (ht : mk_Tb N tr) (k : ∀ p q, mk_bs N p (bt (tr j)) → mk_bs N q (bt (tr l)) → ∃ f, (wL_law_966 post L xs J679 J821 x1 (nI N) x5 x6 x8 x11 x12 x13 p q (((1 : Int32) <<< (nI N &&& 31)) - 1) kc ks (nI N) (nI C) vl wt lb kd fi se bo tn td tr vn vd pa np un mx f q 0)) : ∀ (n s : Nat) (p q : Int32), s ≤ N → N < n + s → mk_bs N p (fun i => decide (i < s) && bt (tr j) i) → mk_bs N q (fun i => decide (i < s) && bt (tr l) i) → (wL_law_900 post L xs J679 J821 x1 (nI N) x5 x6 x8 x11 x12 x13 (nI j) (nI l) kc ks (nI N) (nI C) vl wt lb kd fi se bo tn td tr vn vd pa np un mx n p q (nI s)) := by
  intro n
  induction n with
  | zero => intro s p q h1 h2; omega
  | succ n ih =>
    intro s p q h1 h2 hp hq
    refine pk_le N s (fun h => ?_) (fun h => ?_)
    · obtain rfl : s = N := by omega
      exact nm_e (k p q (mk_bs_end hp) (mk_bs_end hq))
    · have second : ∀ p', mk_bs N p' (fun i => decide (i < s + 1) && bt (tr j) i) → (wL_law_926 post L xs J679 J821 (wL_law_900 post L xs J679 J821 x1 (nI N) x5 x6 x8 x11 x12 x13 (nI j) (nI l) kc ks (nI N) (nI C) vl wt lb kd fi se bo tn td tr vn vd pa np un mx n) x1 (nI N) x5 x6 x8 x11 x12 x13 (nI j) (nI l) p' q (nI s) kc ks (nI N) (nI C) vl wt lb kd fi se bo tn td tr vn vd pa np un mx) := by
        intro p' hp'
        refine mx_ho hN hC hv hl kl h ht (mk_bc (fun e => ?_) (fun e => ?_))
        · exact nm_r (nI_1 s) (ih (s + 1) p' q (by omega) (by omega) hp' (mk_bs_no hq e))
        · exact nm_e (nm_r (nI_1 s) (ih (s + 1) p' _ (by omega) (by omega) hp' (mk_bs_yes hq h hN e)))
      refine mx_ho hN hC hv hj kj h ht (mk_bc (fun e => ?_) (fun e => ?_))
      · exact second p (mk_bs_no hp e)
      · exact nm_e (second _ (mk_bs_yes hp h hN e))
theorem mL_one {i j l : Nat} (hN : N ≤ 12) (hC : C ≤ 16) (hW : mk_W wt N) (hv : ¬ vl = 0) (hi : i < C) (hk : kd i = 4) (hj : j < C) (hl : l < C) (kj : ¬ kd j = 4) (kl : ¬ kd l = 4) (ht : mk_Tb N tr) (hval : ∀ s, s < N → vn (i * 12 + s) = mk_un wt N (bt (tr j)) (bt (tr l)) s ∧ vd (i * 12 + s) = mk_um wt N (bt (tr j)) (bt (tr l)) s) (k : J821 (nI i + 1)) : ∃ f, (wL_law_900 post L xs J679 J821 x1 (nI N) x5 x6 x8 x11 x12 (nI i) (nI j) (nI l) kc ks (nI N) (nI C) vl wt lb kd fi se bo tn td tr vn vd pa np un mx f 0 0 0) := by
  have hpsi : ∀ s, bt (tr l) s = true → s < N := fun s hs => mk_bs_lt (ht l (by omega)) hs
  have hD := mk_D_pos (phi := bt (tr j)) hW hN hpsi
  refine ⟨N + 1, mL_900 hN hC hv hj hl kj kl ht (fun p q hp hq => ?_) (N + 1) 0 0 0 (by omega) (by omega) mk_bs_beg mk_bs_beg⟩
  refine ⟨N + 1, mL_966 (nd := nI C) hN hW hp (fun y hy => ?_) (N + 1) 0 q (by omega) (by omega) hq⟩
  have hZ : mk_bs N ((((1 : Int32) <<< (nI N &&& 31)) - 1) &&& (y ^^^ (-1))) (mk_Z (mk_w wt) N (bt (tr j)) (bt (tr l))) := mk_bs_congr (mk_bs_diff (mk_bs_all (N := N) (by omega)) hy) (fun s hs => by
    show (true && !mk_reach (mk_w wt) N (bt (tr j)) (bt (tr l)) N s) = (decide (s < N) && !mk_R1 (mk_w wt) N (bt (tr j)) (bt (tr l)) s)
    rw [decide_eq_true hs]; rfl)
  refine ⟨N + 1, mL_1081 (nd := nI C) hN hW (mk_bs_diff hp hq) (fun y2 hy2 => ?_) (N + 1) 0 _ (by omega) (by omega) hZ⟩
  have eZ : ∀ s, s < N → mk_Z (mk_w wt) N (bt (tr j)) (bt (tr l)) s = !mk_R1 (mk_w wt) N (bt (tr j)) (bt (tr l)) s := fun s hs => by
    show (decide (s < N) && !mk_R1 (mk_w wt) N (bt (tr j)) (bt (tr l)) s) = _
    rw [decide_eq_true hs, Bool.true_and]
  have hO : mk_bs N (((((1 : Int32) <<< (nI N &&& 31)) - 1) &&& (((((1 : Int32) <<< (nI N &&& 31)) - 1) &&& (y ^^^ (-1))) ^^^ (-1))) &&& (y2 ^^^ (-1))) (mk_O (mk_w wt) N (bt (tr j)) (bt (tr l))) := mk_bs_congr (mk_bs_diff (mk_bs_diff (mk_bs_all (N := N) (by omega)) hZ) hy2) (fun s hs => by
    show ((true && !mk_Z (mk_w wt) N (bt (tr j)) (bt (tr l)) s) && !mk_R2 (mk_w wt) N (bt (tr j)) (bt (tr l)) s) = (mk_R1 (mk_w wt) N (bt (tr j)) (bt (tr l)) s && !mk_R2 (mk_w wt) N (bt (tr j)) (bt (tr l)) s)
    rw [eZ s hs, Bool.true_and, Bool.not_not])
  have eU : ∀ s, s < N → mk_U (mk_w wt) N (bt (tr j)) (bt (tr l)) s = (!mk_Z (mk_w wt) N (bt (tr j)) (bt (tr l)) s && !mk_O (mk_w wt) N (bt (tr j)) (bt (tr l)) s) := fun s hs => by
    rw [eZ s hs, Bool.not_not]
    show (mk_R1 (mk_w wt) N (bt (tr j)) (bt (tr l)) s && mk_R2 (mk_w wt) N (bt (tr j)) (bt (tr l)) s) = (mk_R1 (mk_w wt) N (bt (tr j)) (bt (tr l)) s && !(mk_R1 (mk_w wt) N (bt (tr j)) (bt (tr l)) s && !mk_R2 (mk_w wt) N (bt (tr j)) (bt (tr l)) s))
    cases mk_R1 (mk_w wt) N (bt (tr j)) (bt (tr l)) s <;> cases mk_R2 (mk_w wt) N (bt (tr j)) (bt (tr l)) s <;> rfl
  have eO : ∀ s, s < N → mk_O (mk_w wt) N (bt (tr j)) (bt (tr l)) s = (!mk_Z (mk_w wt) N (bt (tr j)) (bt (tr l)) s && !mk_R2 (mk_w wt) N (bt (tr j)) (bt (tr l)) s) := fun s hs => by
    rw [eZ s hs, Bool.not_not]; rfl
  refine ⟨N + 1, mL_1188 (X := mk_X wt N (bt (tr j)) (bt (tr l))) hN hC hW hv hi hk hD.1 hD.2 (fun t h => mk_X_le hW hN hpsi h) (fun t h => ?_) (fun t h => ?_) hZ hO (fun s h z => ?_) (fun s h z1 z2 => ?_) (fun s h z1 z2 => ?_) k (N + 1) 0 (by omega) (by omega)⟩
  · rw [(hval t h).1]; exact (mk_unX hW hN hpsi h).1
  · rw [(hval t h).2]; exact (mk_unX hW hN hpsi h).2
  · have a := eU s h
    have b := eO s h
    rw [z, Bool.not_true, Bool.false_and] at a b
    unfold mk_X
    rw [if_neg (by rw [a]; decide), if_neg (by rw [b]; decide)]
  · have a := eU s h
    rw [z1, z2] at a
    unfold mk_X
    rw [if_neg (by rw [a]; decide), if_pos z2]
  · have a := eU s h
    rw [z1, z2] at a
    have hU : mk_U (mk_w wt) N (bt (tr j)) (bt (tr l)) s = true := a
    obtain ⟨⟨ρ, hρ⟩, _⟩ := mk_unk (w := mk_w wt) (phi := bt (tr j)) hN hpsi
    obtain ⟨t, ht', hwt, _⟩ := hρ s h hU
    have := mk_t_le (mk_w wt s) N ht'
    exact ⟨by omega, mk_X_eq hW hN hpsi h hU⟩
theorem mL_821 (K : mk_K N C vl wt kd fi se bo tr vn vd) (hub : mk_UB C kd fi se bo x5 x6 x8) (k : (J679 x1 (x12 + 1) (nI N) (nI C) vl wt lb kd fi se bo tn td tr vn vd pa np un mx)) : ∀ (n i : Nat), i ≤ 16 → 16 < n + i → (wL_law_821 post L xs J679 x1 (nI N) x5 x6 x8 x11 x12 kc ks (nI N) (nI C) vl wt lb kd fi se bo tn td tr vn vd pa np un mx n (nI i)) := by
  obtain ⟨h2, hN, hC, hW, hn, ht, hvl⟩ := id K
  intro n
  induction n with
  | zero => intro i h1 h2; omega
  | succ n ih =>
    intro i h1 h2
    refine pk_le 16 i (fun h => nm_e k) (fun h => ?_)
    have bq := mk_bit0 x5 (show i < 32 by omega)
    have nx : (wL_law_821 post L xs J679 x1 (nI N) x5 x6 x8 x11 x12 kc ks (nI N) (nI C) vl wt lb kd fi se bo tn td tr vn vd pa np un mx n (nI (i + 1))) := ih (i + 1) (by omega) (by omega)
    cases z : bt x5 i with
    | false => exact br_t (bq.mpr z) (nm_r (nI_1 i) nx)
    | true =>
      obtain ⟨g1, g2, g3, j, l, hj, hl, ef, es, hb⟩ := (hub i h).1 z
      obtain ⟨j', l', hj', hl', ef', es', kj, kl⟩ := (hn i g1).2 g2
      have e1 : j' = j := (nI_eq (by omega) (by omega)).mp (ef'.symm.trans ef)
      have e2 : l' = l := (nI_eq (by omega) (by omega)).mp (es'.symm.trans es)
      subst e1 e2
      refine br_f (fun z' => ?_) (mx_nk hC (fun r hr => ?_))
      · rw [bq.mp z'] at z
        exact absurd z (by decide)
      · rw [hr i g1 rfl, g2]
        refine br_t rfl ?_
        rcases hvl with hv0 | ⟨hv1, hval⟩
        · unfold wpX_probDen
          exact br_t hv0 (br_t rfl (nm_r (nI_1 i) nx))
        · have hv : ¬ vl = 0 := by rw [hv1]; decide
          have hpsi : ∀ s, bt (tr l') s = true → s < N := fun s hs => mk_bs_lt (ht l' (by omega)) hs
          have hval' := hval i g1 g2 g3 j' l' (by omega) (by omega) ef es
          have hD := mk_D_pos (phi := bt (tr j')) hW hN hpsi
          have h0 : 0 < N := by omega
          refine mx_pd (s := 0) hN hC hv g1 g2 h0 ?_
          rw [(hval' 0 h0).2, (mk_unX hW hN hpsi h0).2]
          obtain ⟨q0, qD, _⟩ := mk_f_all hD.1 (mk_X_le (phi := bt (tr j')) hW hN hpsi h0)
          have hne : ¬ lN (mk_D wt N (bt (tr j')) (bt (tr l')) / Nat.gcd (mk_X wt N (bt (tr j')) (bt (tr l')) 0) (mk_D wt N (bt (tr j')) (bt (tr l')))) = 0 := fun z => by
            have q0' : 0 < mk_D wt N (bt (tr j')) (bt (tr l')) / Nat.gcd (mk_X wt N (bt (tr j')) (bt (tr l')) 0) (mk_D wt N (bt (tr j')) (bt (tr l'))) := q0
            have qD' : mk_D wt N (bt (tr j')) (bt (tr l')) / Nat.gcd (mk_X wt N (bt (tr j')) (bt (tr l')) 0) (mk_D wt N (bt (tr j')) (bt (tr l'))) ≤ mk_D wt N (bt (tr j')) (bt (tr l')) := qD
            have := (pk_lEQ (b := 0) (by omega) (by omega)).mp z
            omega
          refine br_f hne (nm_r (mk_nib h (by omega) (fun p hp => (hb p hp).1)) (nm_r (mk_nib h (by omega) (fun p hp => (hb p hp).2)) ?_))
          refine mL_one hN hC hW hv g1 g2 (by omega) (by omega) kj kl ht hval' ?_
          rw [nI_1]
          exact nx
theorem mL_813 (K : mk_K N C vl wt kd fi se bo tr vn vd) (hub : mk_UB C kd fi se bo x5 x6 x8) (k : ∀ (vl' : Int32) (tr' un' : Nat → Int32) (vn' vd' pa' np' mx' : Nat → Int64), mk_K N C vl' wt kd fi se bo tr' vn' vd' → (J679 x1 (x12 + 1) (nI N) (nI C) vl' wt lb kd fi se bo tn td tr' vn' vd' pa' np' un' mx')) : (wL_law_813 post L xs J679 x1 (nI N) x5 x6 x8 x11 x12 kc ks (nI N) (nI C) vl wt lb kd fi se bo tn td tr vn vd pa np un mx) := by
  refine mx_kc K (fun r vl' tr' un' vn' vd' pa' np' mx' K' => ?_)
  exact ⟨17, mL_821 K' hub (k vl' tr' un' vn' vd' pa' np' mx' K') 17 0 (by omega) (by omega)⟩
end
