/-! the law's look at one until: the averages -/
section
variable {L : Nat} {xs : Nat → Int32} {kc ks : Nat} {post : Int32 → Prop} {J679 : (Int32 → Int32 → Int32 → Int32 → Int32 → (Nat → Int32) → (Nat → Int32) → (Nat → Int32) → (Nat → Int32) → (Nat → Int32) → (Nat → Int32) → (Nat → Int32) → (Nat → Int32) → (Nat → Int32) → (Nat → Int64) → (Nat → Int64) → (Nat → Int64) → (Nat → Int64) → (Nat → Int32) → (Nat → Int64) → Prop)} {J821 : Int32 → Prop} {x1 x5 x11 x12 : Int32} {x6 x8 : Int64}
variable {N C : Nat} {vl : Int32} {wt lb kd fi se bo tn td tr un : Nat → Int32} {vn vd pa np mx : Nat → Int64}
theorem mL_1461 {J1188 : Int32 → Prop} {x20 x23 : Int32} {i s Lc D : Nat} {X : Nat → Nat} (hN : N ≤ 12) (hC : C ≤ 16) (hW : mk_W wt N) (hv : ¬ vl = 0) (hi : i < C) (hk : kd i = 4) (hs : s < N) (hD : 0 < D) (hD2 : D ≤ 1073741824) (hX : ∀ t, t < N → X t ≤ D) (hvn : ∀ t, t < N → vn (i * 12 + t) = lN (mk_fn (X t) D)) (hvd : ∀ t, t < N → vd (i * 12 + t) = lN (mk_fq (X t) D)) (heq : mk_t (mk_w wt s) N * X s = mk_t (fun t => mk_w wt s t * X t) N) (hL0 : 0 < Lc) (hLD : Lc ∣ D) (hq : ∀ t, t < N → 0 < mk_w wt s t → mk_fq (X t) D ∣ Lc) (k : J1188 (nI s + 1)) : ∀ (n t S : Nat), t ≤ N → N < n + t → S * D = Lc * mk_t (fun t => mk_w wt s t * X t) t → S ≤ mk_t (mk_w wt s) t * Lc → (wL_law_1461 post L xs J679 J821 J1188 x1 (nI N) x5 x6 x8 x11 x12 (nI i) x20 x23 (nI s) (lN (mk_fn (X s) D)) (lN (mk_fq (X s) D)) (lN Lc) (lN (mk_t (mk_w wt s) N)) kc ks (nI N) (nI C) vl wt lb kd fi se bo tn td tr vn vd pa np un mx n (lN S) (nI t)) := by
  have hLB : Lc ≤ D := Nat.le_of_dvd hD hLD
  have h4 := (hW s hs).2
  intro n
  induction n with
  | zero => intro t S h1 h2; omega
  | succ n ih =>
    intro t S h1 h2 hS hSB
    refine pk_le N t (fun h => ?_) (fun h => ?_)
    · obtain rfl : t = N := by omega
      obtain ⟨q0, qD, nq, g1, qd, e⟩ := mk_f_all hD (hX s hs)
      have b1 : mk_t (mk_w wt s) t * Lc ≤ 4 * 1073741824 := Nat.mul_le_mul h4 (by omega)
      have b2 : mk_t (mk_w wt s) t * mk_fn (X s) D ≤ 4 * 1073741824 := Nat.mul_le_mul h4 (by omega)
      have c1 := Nat.gcd_pos_of_pos_right (mk_t (mk_w wt s) t * mk_fn (X s) D) q0
      have c2 := Nat.gcd_le_right (mk_t (mk_w wt s) t * mk_fn (X s) D) q0
      have c3 := Nat.gcd_pos_of_pos_right S hL0
      have c4 := Nat.gcd_le_right S hL0
      have z1 : ¬ lN (Nat.gcd (mk_t (mk_w wt s) t * mk_fn (X s) D) (mk_fq (X s) D)) = 0 := mk_gne (by omega) q0
      have z2 : ¬ lN (Nat.gcd S Lc) = 0 := mk_gne (by omega) hL0
      have red := mk_red (p := mk_t (mk_w wt s) t * mk_fn (X s) D) (q := mk_fq (X s) D) (p' := S) (q' := Lc) (a := mk_fq (X s) D) (b := Lc) q0 hL0 (mk_final hD (by rw [heq]; exact hS) e) (Nat.mul_comm _ _)
      have e1 : lN (mk_t (mk_w wt s) t * mk_fn (X s) D) / lN (Nat.gcd (mk_t (mk_w wt s) t * mk_fn (X s) D) (mk_fq (X s) D)) = lN S / lN (Nat.gcd S Lc) := by
        rw [pk_lDiv (by omega) c1 (by omega), pk_lDiv (by omega) c3 (by omega), red.1]
      have e2 : lN (mk_fq (X s) D) / lN (Nat.gcd (mk_t (mk_w wt s) t * mk_fn (X s) D) (mk_fq (X s) D)) = lN Lc / lN (Nat.gcd S Lc) := by
        rw [pk_lDiv (by omega) c1 (by omega), pk_lDiv (by omega) c3 (by omega), red.2]
      rw [lN_mul]
      refine mL_gcd (by omega) (by omega) (mL_gcd (by omega) (by omega) ⟨z1, z2, br_t e1 ⟨z1, z2, br_t e2 (nm_e k)⟩⟩)
    · have hw := mk_W_le hW hs h
      obtain ⟨q0, qD, nq, g1, qd, e⟩ := mk_f_all hD (hX t h)
      refine mx_gw hN hW hs h ?_
      refine pk_lt 0 (mk_w wt s t) (fun g => ?_) (fun g => ?_)
      · refine mx_pn hN hC hv hi hk h (mx_pd hN hC hv hi hk h ?_)
        rw [hvn t h, hvd t h]
        have hne : ¬ lN (mk_fq (X t) D) = 0 := fun z => by
          have := (pk_lEQ (b := 0) (by omega) (by omega)).mp z
          omega
        refine ⟨hne, ?_⟩
        rw [nI_l (by omega), lN_mul, pk_lDiv (by omega) q0 (by omega), lN_mul, lN_add]
        have tm := mk_term q0 (hq t h g) e
        have tB := mk_termB (L := Lc) nq
        refine nm_e (nm_r (nI_1 t) (ih (t + 1) _ (by omega) (by omega) ?_ ?_))
        · show _ = Lc * (mk_t (fun t => mk_w wt s t * X t) t + mk_w wt s t * X t)
          have e3 : mk_w wt s t * mk_fn (X t) D * (Lc / mk_fq (X t) D) * D = mk_w wt s t * (mk_fn (X t) D * (Lc / mk_fq (X t) D) * D) := by
            rw [Nat.mul_assoc (mk_w wt s t), Nat.mul_assoc (mk_w wt s t)]
          have e4 : mk_w wt s t * (Lc * X t) = Lc * (mk_w wt s t * X t) := by
            rw [← Nat.mul_assoc, Nat.mul_comm (mk_w wt s t) Lc, Nat.mul_assoc]
          rw [Nat.add_mul, hS, Nat.mul_add, e3, tm, e4]
        · show _ ≤ (mk_t (mk_w wt s) t + mk_w wt s t) * Lc
          have e3 : mk_w wt s t * mk_fn (X t) D * (Lc / mk_fq (X t) D) ≤ mk_w wt s t * Lc := by
            rw [Nat.mul_assoc]
            exact Nat.mul_le_mul_left _ tB
          rw [Nat.add_mul]
          omega
      · have w0 : mk_w wt s t = 0 := by omega
        refine nm_r (nI_1 t) (ih (t + 1) S (by omega) (by omega) ?_ ?_)
        · show _ = Lc * (mk_t (fun t => mk_w wt s t * X t) t + mk_w wt s t * X t)
          rw [w0, Nat.zero_mul, Nat.add_zero]; exact hS
        · show _ ≤ (mk_t (mk_w wt s) t + mk_w wt s t) * Lc
          rw [w0, Nat.add_zero]; exact hSB
theorem mL_1322 {J1188 : Int32 → Prop} {x20 x23 : Int32} {i s D : Nat} {X : Nat → Nat} (hN : N ≤ 12) (hC : C ≤ 16) (hW : mk_W wt N) (hv : ¬ vl = 0) (hi : i < C) (hk : kd i = 4) (hs : s < N) (hD : 0 < D) (hD2 : D ≤ 1073741824) (hX : ∀ t, t < N → X t ≤ D) (hvn : ∀ t, t < N → vn (i * 12 + t) = lN (mk_fn (X t) D)) (hvd : ∀ t, t < N → vd (i * 12 + t) = lN (mk_fq (X t) D)) (heq : mk_t (mk_w wt s) N * X s = mk_t (fun t => mk_w wt s t * X t) N) (ht0 : 0 < mk_t (mk_w wt s) N) (k : J1188 (nI s + 1)) : ∀ (n t Lc : Nat), t ≤ N → N < n + t → 0 < Lc → Lc ∣ D → (∀ t', t' < t → 0 < mk_w wt s t' → mk_fq (X t') D ∣ Lc) → (wL_law_1322 post L xs J679 J821 J1188 x1 (nI N) x5 x6 x8 x11 x12 (nI i) x20 x23 (nI s) (lN (mk_fn (X s) D)) (lN (mk_fq (X s) D)) kc ks (nI N) (nI C) vl wt lb kd fi se bo tn td tr vn vd pa np un mx n (lN Lc) (lN (mk_t (mk_w wt s) t)) (nI t)) := by
  have h4 := (hW s hs).2
  intro n
  induction n with
  | zero => intro t Lc h1 h2; omega
  | succ n ih =>
    intro t Lc h1 h2 hL0 hLD hq
    have hLB : Lc ≤ D := Nat.le_of_dvd hD hLD
    refine pk_le N t (fun h => ?_) (fun h => ?_)
    · obtain rfl : t = N := by omega
      have hne : ¬ lN (mk_t (mk_w wt s) t) = 0 := fun z => by
        have := (pk_lEQ (b := 0) (by omega) (by omega)).mp z
        omega
      refine br_f hne ⟨t + 1, mL_1461 hN hC hW hv hi hk hs hD hD2 hX hvn hvd heq hL0 hLD hq k (t + 1) 0 0 (by omega) (by omega) ?_ (Nat.zero_le _)⟩
      show 0 * D = Lc * 0
      rw [Nat.zero_mul, Nat.mul_zero]
    · have hw := mk_W_le hW hs h
      obtain ⟨q0, qD, nq, g1, qd, e⟩ := mk_f_all hD (hX t h)
      refine mx_gw hN hW hs h ?_
      refine pk_lt 0 (mk_w wt s t) (fun g => ?_) (fun g => ?_)
      · refine nm_r (e' := lN (mk_t (mk_w wt s) (t + 1))) (by rw [nI_l (by omega), lN_add]; rfl) ?_
        refine mx_pd hN hC hv hi hk h (mx_pn hN hC hv hi hk h ?_)
        rw [hvn t h, hvd t h]
        have c3 := Nat.gcd_pos_of_pos_right Lc q0
        have c4 := Nat.gcd_le_right Lc q0
        have hne : ¬ lN (mk_fq (X t) D) = 0 := fun z => by
          have := (pk_lEQ (b := 0) (by omega) (by omega)).mp z
          omega
        have n1 : ¬ lN (mk_fq (X t) D) < 1 := fun z => by
          have := (pk_lLT (b := 1) (by omega) (by omega)).mp z
          omega
        have n2 : ¬ (1099511627776 : Int64) < lN (mk_fq (X t) D) := fun z => by
          have := (pk_lLT (a := 1099511627776) (by omega) (by omega)).mp z
          omega
        have n3 : ¬ lN (mk_fn (X t) D) < 0 := fun z => by
          have := (pk_lLT (b := 0) (by omega) (by omega)).mp z
          omega
        have n4 : lN (mk_fn (X t) D) ≤ lN (mk_fq (X t) D) := (pk_lLE (by omega) (by omega)).mpr nq
        obtain ⟨l0, l1, l2, l3, l4⟩ := mk_lc hL0 q0 hLD qd hD
        have ed : (1099511627776 : Int64) / lN (mk_fq (X t) D) = lN (1099511627776 / mk_fq (X t) D) := pk_lDiv (a := 1099511627776) (by omega) q0 (by omega)
        have dl : Lc / Nat.gcd Lc (mk_fq (X t) D) ≤ Lc := Nat.div_le_self _ _
        have dm : 1099511627776 / mk_fq (X t) D ≤ 1099511627776 := Nat.div_le_self _ _
        have n5 : lN (Lc / Nat.gcd Lc (mk_fq (X t) D)) ≤ lN (1099511627776 / mk_fq (X t) D) := (pk_lLE (by omega) (by omega)).mpr ((Nat.le_div_iff_mul_le q0).mpr (by omega))
        refine br_f n1 (br_f n2 (br_f n3 (br_t n4 (mL_gcd (by omega) (by omega) ⟨mk_gne (by omega) q0, ?_⟩))))
        refine nm_r (pk_lDiv (by omega) c3 (by omega)) ⟨hne, ?_⟩
        rw [ed, lN_mul]
        refine br_t n5 (nm_e (nm_r (nI_1 t) (ih (t + 1) _ (by omega) (by omega) l0 l1 (fun t' ht' hw' => ?_))))
        by_cases z : t' = t
        · rw [z]; exact l3
        · exact Nat.dvd_trans (hq t' (by omega) hw') l2
      · have w0 : mk_w wt s t = 0 := by omega
        have e1 : mk_t (mk_w wt s) t = mk_t (mk_w wt s) (t + 1) := by
          show _ = mk_t (mk_w wt s) t + mk_w wt s t
          omega
        rw [e1]
        refine nm_r (nI_1 t) (ih (t + 1) Lc (by omega) (by omega) hL0 hLD (fun t' ht' hw' => ?_))
        by_cases z : t' = t
        · rw [z] at hw'; omega
        · exact hq t' (by omega) hw'
theorem mL_1188 {x20 x23 : Int32} {i D : Nat} {X : Nat → Nat} {Z O : Nat → Bool} (hN : N ≤ 12) (hC : C ≤ 16) (hW : mk_W wt N) (hv : ¬ vl = 0) (hi : i < C) (hk : kd i = 4) (hD : 0 < D) (hD2 : D ≤ 1073741824) (hX : ∀ t, t < N → X t ≤ D) (hvn : ∀ t, t < N → vn (i * 12 + t) = lN (mk_fn (X t) D)) (hvd : ∀ t, t < N → vd (i * 12 + t) = lN (mk_fq (X t) D)) (hZ : mk_bs N x20 Z) (hO : mk_bs N x23 O) (cZ : ∀ s, s < N → Z s = true → X s = 0) (cO : ∀ s, s < N → Z s = false → O s = true → X s = D) (cU : ∀ s, s < N → Z s = false → O s = false → 0 < mk_t (mk_w wt s) N ∧ mk_t (mk_w wt s) N * X s = mk_t (fun t => mk_w wt s t * X t) N) (k : J821 (nI i + 1)) : ∀ (n s : Nat), s ≤ N → N < n + s → (wL_law_1188 post L xs J679 J821 x1 (nI N) x5 x6 x8 x11 x12 (nI i) x20 x23 kc ks (nI N) (nI C) vl wt lb kd fi se bo tn td tr vn vd pa np un mx n (nI s)) := by
  intro n
  induction n with
  | zero => intro s h1 h2; omega
  | succ n ih =>
    intro s h1 h2
    refine pk_le N s (fun h => ?_) (fun h => ?_)
    · exact nm_e k
    · obtain ⟨q0, qD, nq, g1, qd, e⟩ := mk_f_all hD (hX s h)
      refine mx_pn hN hC hv hi hk h (mx_pd hN hC hv hi hk h ?_)
      rw [hvn s h, hvd s h]
      have n1 : ¬ lN (mk_fq (X s) D) < 1 := fun z => by
        have := (pk_lLT (b := 1) (by omega) (by omega)).mp z
        omega
      have n3 : ¬ lN (mk_fn (X s) D) < 0 := fun z => by
        have := (pk_lLT (b := 0) (by omega) (by omega)).mp z
        omega
      refine br_f n1 (br_f n3 (mL_gcd (by omega) (by omega) ?_))
      rw [g1]
      refine br_t rfl ?_
      have bz := mk_bs_bit hZ h (by omega)
      have bo := mk_bs_bit hO h (by omega)
      cases zZ : Z s with
      | true =>
        have x0 := cZ s h zZ
        have f0 : mk_fn (X s) D = 0 := by unfold mk_fn; rw [x0, Nat.zero_div]
        have f1 : mk_fq (X s) D = 1 := by unfold mk_fq; rw [x0, Nat.gcd_zero_left, Nat.div_self hD]
        rw [f0, f1]
        refine br_f (fun z => ?_) (br_t rfl (br_t rfl (nm_r (nI_1 s) (ih (s + 1) (by omega) (by omega)))))
        rw [bz.mp z] at zZ
        exact absurd zZ (by decide)
      | false =>
        refine br_t (bz.mpr zZ) ?_
        cases zO : O s with
        | true =>
          have x0 := cO s h zZ zO
          have f0 : mk_fn (X s) D = 1 := by unfold mk_fn; rw [x0, Nat.gcd_self, Nat.div_self hD]
          have f1 : mk_fq (X s) D = 1 := by unfold mk_fq; rw [x0, Nat.gcd_self, Nat.div_self hD]
          rw [f0, f1]
          refine br_f (fun z => ?_) (br_t rfl (br_t rfl (nm_r (nI_1 s) (ih (s + 1) (by omega) (by omega)))))
          rw [bo.mp z] at zO
          exact absurd zO (by decide)
        | false =>
          obtain ⟨t0, heq⟩ := cU s h zZ zO
          have n4 : ¬ lN (mk_fq (X s) D) < lN (mk_fn (X s) D) := fun z => by
            have := (pk_lLT (by omega) (by omega)).mp z
            omega
          have n5 : lN (mk_fq (X s) D) ≤ 1152921504606846976 := (pk_lLE (b := 1152921504606846976) (by omega) (by omega)).mpr (by omega)
          refine br_t (bo.mpr zO) (br_f n4 (br_t n5 ⟨N + 1, mL_1322 hN hC hW hv hi hk h hD hD2 hX hvn hvd heq t0 ?_ (N + 1) 0 1 (by omega) (by omega) (by omega) (Nat.one_dvd D) (fun t' ht' => by omega)⟩))
          rw [nI_1]
          exact ih (s + 1) (by omega) (by omega)
end
