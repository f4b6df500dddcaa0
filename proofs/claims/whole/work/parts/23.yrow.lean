/-! the reference: rows, their division, the elimination -/
theorem mk_dw : ∀ d, d < 5 → ∀ a, a < 5 → (nI d - nI a).toInt64 = mk_z ((d : Int) - (a : Int)) := by decide
theorem mk_dw0 : ∀ a, a < 5 → ((0 : Int32) - nI a).toInt64 = mk_z (0 - (a : Int)) := by decide
theorem mk_g_lt {y : Nat → Int} {B : Nat} (hB : 0 < B) (n : Nat) (h : ∀ c, c < n → (y c).natAbs < B) : mk_g y n < B := by
  induction n with
  | zero => exact hB
  | succ n ih =>
    show Nat.gcd (mk_g y n) (y n).natAbs < B
    have h1 := ih (fun c hc => h c (by omega))
    by_cases e : (y n).natAbs = 0
    · rw [e, Nat.gcd_zero_right]; exact h1
    · have h2 := Nat.gcd_le_right (mk_g y n) (show 0 < (y n).natAbs by omega)
      have h3 := h n (by omega)
      omega
theorem mk_g_quo {y : Nat → Int} {n c : Nat} (hc : c < n) : y c = (mk_g y n : Int) * (y c / (mk_g y n : Int)) := by
  have h := mk_g_dvd y n c hc
  have h2 : (mk_g y n : Int) ∣ y c := Int.ofNat_dvd_left.mpr h
  exact (Int.mul_ediv_cancel' h2).symm
theorem mk_P_vip {A : Nat → Nat → Int} {m k : Nat} {y : Nat → Int} (h : mk_P A m (k + 1) k y) : mk_P A m k k y := by
  obtain ⟨⟨a, b, ha, hb, h1⟩, h2⟩ := h
  exact ⟨⟨a, b, ha, hb, fun j hj => by rw [← mk_E_piv]; exact h1 j hj⟩, h2⟩
section
variable {N : Nat} {nd vl : Int32} {wt lb kd fi se nc ne th ph ps ze oe ma ix po : Nat → Int32} {vn vd cu nx mt : Nat → Int64}
theorem my_br2 {post : SY → Prop} {O : Nat → Bool} {m r u : Nat} (hN : N ≤ 12) (hW : mk_W wt N) (hm : m < 12) (hr : r < m) (hu : u < N) (hO : mk_ba N oe O) (k : post ((nI N), nd, vl, wt, lb, kd, fi, se, nc, ne, th, vn, vd, ph, ps, ze, oe, ma, cu, nx, ix, po, (vp_updL mt (r * 13 + m) (mk_z (mk_s (fun t => if O t = true then (mk_w wt u t : Int) else 0) N))))) : ∀ (n t : Nat), t ≤ N → N < n + t → (wY_buildRow_78 post (nI r) (nI m) (nI u) (nI N) nd vl wt lb kd fi se nc ne th vn vd ph ps ze oe ma cu nx ix po mt n (mk_z (mk_s (fun t => if O t = true then (mk_w wt u t : Int) else 0) t)) (nI t)) := by
  intro n
  induction n with
  | zero => intro t h1 h2; omega
  | succ n ih =>
    intro t h1 h2
    refine pk_le N t (fun h => ?_) (fun h => ⟨pk_in t 12 (by omega), ?_⟩)
    · obtain rfl : t = N := by omega
      refine ⟨pk_in (r * 13 + m) 156 (by omega) (mk_i13 r m), ?_⟩
      rw [mk_i13, nI_clamp (by omega)]
      exact nm_e k
    · rw [nI_clamp (show t < 2 ^ 31 by omega)]
      refine mk_bc' (hO t h) (fun e => ?_) (fun e => ?_)
      · have g := ih (t + 1) (by omega) (by omega)
        have e1 : mk_s (fun t => if O t = true then (mk_w wt u t : Int) else 0) (t + 1) = mk_s (fun t => if O t = true then (mk_w wt u t : Int) else 0) t := by
          show _ + (if O t = true then _ else 0) = _
          rw [if_neg (by rw [e]; decide), Int.add_zero]
        rw [e1] at g
        exact nm_r (nI_1 t) g
      · have hw := mk_W_le hW hu h
        have g := ih (t + 1) (by omega) (by omega)
        have e1 : mk_s (fun t => if O t = true then (mk_w wt u t : Int) else 0) (t + 1) = mk_s (fun t => if O t = true then (mk_w wt u t : Int) else 0) t + (mk_w wt u t : Int) := by
          show _ + (if O t = true then _ else 0) = _
          rw [if_pos e]
        rw [e1] at g
        refine ⟨pk_in (u * 12 + t) 144 (by omega) (mk_i12 u t), ?_⟩
        rw [mk_i12, nI_clamp (by omega), (hW u hu).1 t h, mk_z_i (by omega), mk_z_add]
        exact nm_e (nm_r (nI_1 t) g)
theorem my_br1 {post : SY → Prop} {U O : Nat → Bool} {m r : Nat} (hN : N ≤ 12) (hW : mk_W wt N) (em : mk_cn U N = m) (hm : m ≤ 10) (hr : r < m) (hO : mk_ba N oe O) (hix : ∀ s, s < N → U s = true → ix (mk_cn U s) = nI s) (k : ∀ q : Nat → Int64, (∀ c, c ≤ m → q (r * 13 + c) = mk_z (mk_A (mk_w wt) N O (mk_id U N) m r c)) → (∀ j, (∀ c, c ≤ m → j ≠ r * 13 + c) → q j = mt j) → post ((nI N), nd, vl, wt, lb, kd, fi, se, nc, ne, th, vn, vd, ph, ps, ze, oe, ma, cu, nx, ix, po, q)) : ∀ (n c : Nat) (q : Nat → Int64), c ≤ m → m < n + c → (∀ c', c' < c → q (r * 13 + c') = mk_z (mk_A (mk_w wt) N O (mk_id U N) m r c')) → (∀ j, (∀ c, c ≤ m → j ≠ r * 13 + c) → q j = mt j) → (wY_buildRow_17 post (nI r) (nI m) (nI (mk_id U N r)) (nI (mk_t (mk_w wt (mk_id U N r)) N)) (nI N) nd vl n (nI c) wt lb kd fi se nc ne th vn vd ph ps ze oe ma cu nx ix po q) := by
  obtain ⟨_, hu, _, _⟩ := mk_idx hix (show r < mk_cn U N by omega)
  have h4 := (hW _ hu).2
  intro n
  induction n with
  | zero => intro c q h1 h2; omega
  | succ n ih =>
    intro c q h1 h2 hq hj
    refine pk_le m c (fun h => ?_) (fun h => ?_)
    · obtain rfl : c = m := by omega
      refine ⟨N + 1, my_br2 (mt := q) hN hW (by omega) hr hu hO ?_ (N + 1) 0 (by omega) (by omega)⟩
      apply k
      · intro c' hc'
        by_cases e : c' = c
        · rw [e, pk_uLs, mk_A_m]
        · rw [pk_uLn (by omega), hq c' (by omega)]
      · intro j hjj
        rw [pk_uLn (hjj c (Nat.le_refl c))]
        exact hj j hjj
    · obtain ⟨e1, hv, _, _⟩ := mk_idx hix (show c < mk_cn U N by omega)
      have hw := mk_W_le hW hu hv
      have step : ∀ v : Int64, v = mk_z (mk_A (mk_w wt) N O (mk_id U N) m r c) → ∃ z : Nat → Int64, z = vp_updL q (r * 13 + c) v ∧ (∀ c', c' < c + 1 → z (r * 13 + c') = mk_z (mk_A (mk_w wt) N O (mk_id U N) m r c')) ∧ (∀ j, (∀ c, c ≤ m → j ≠ r * 13 + c) → z j = mt j) := by
        intro v hv
        refine ⟨_, rfl, ?_, ?_⟩
        · intro c' hc'
          by_cases e : c' = c
          · rw [e, pk_uLs]; exact hv
          · rw [pk_uLn (by omega)]; exact hq c' (by omega)
        · intro j hjj
          rw [pk_uLn (hjj c (by omega))]
          exact hj j hjj
      have hcl : (nI c).toNatClampNeg = c := nI_clamp (by omega)
      refine pk_eq c r (fun e => ?_) (fun e => ?_)
      · refine ⟨pk_in c 12 (by omega), ?_⟩
        rw [hcl, e1]
        refine ⟨pk_in (mk_id U N r * 12 + mk_id U N c) 144 (by omega) (mk_i12 _ _), pk_in (r * 13 + c) 156 (by omega) (mk_i13 r c), ?_⟩
        rw [mk_i12, mk_i13, nI_clamp (show mk_id U N r * 12 + mk_id U N c < 2 ^ 31 by omega), nI_clamp (show r * 13 + c < 2 ^ 31 by omega), (hW _ hu).1 _ hv, mk_dw _ (by omega) _ (by omega)]
        obtain ⟨z, ez, z1, z2⟩ := step _ (by rw [mk_A_c h, if_pos e, mk_t_int])
        rw [← ez]
        exact nm_e (nm_r (nI_1 c) (ih (c + 1) z (by omega) (by omega) z1 z2))
      · refine ⟨pk_in c 12 (by omega), ?_⟩
        rw [hcl, e1]
        refine ⟨pk_in (mk_id U N r * 12 + mk_id U N c) 144 (by omega) (mk_i12 _ _), pk_in (r * 13 + c) 156 (by omega) (mk_i13 r c), ?_⟩
        rw [mk_i12, mk_i13, nI_clamp (show mk_id U N r * 12 + mk_id U N c < 2 ^ 31 by omega), nI_clamp (show r * 13 + c < 2 ^ 31 by omega), (hW _ hu).1 _ hv, mk_dw0 _ (by omega)]
        obtain ⟨z, ez, z1, z2⟩ := step _ (by rw [mk_A_c h, if_neg e])
        rw [← ez]
        exact nm_e (nm_r (nI_1 c) (ih (c + 1) z (by omega) (by omega) z1 z2))
theorem my_br {post : SY → Prop} {U O : Nat → Bool} {m r : Nat} (hN : N ≤ 12) (hW : mk_W wt N) (em : mk_cn U N = m) (hm : m ≤ 10) (hr : r < m) (hO : mk_ba N oe O) (hix : ∀ s, s < N → U s = true → ix (mk_cn U s) = nI s) (k : ∀ q : Nat → Int64, (∀ c, c ≤ m → q (r * 13 + c) = mk_z (mk_A (mk_w wt) N O (mk_id U N) m r c)) → (∀ j, (∀ c, c ≤ m → j ≠ r * 13 + c) → q j = mt j) → post ((nI N), nd, vl, wt, lb, kd, fi, se, nc, ne, th, vn, vd, ph, ps, ze, oe, ma, cu, nx, ix, po, q)) : (wpY_buildRow post ((nI N), nd, vl, wt, lb, kd, fi, se, nc, ne, th, vn, vd, ph, ps, ze, oe, ma, cu, nx, ix, po, mt) (nI r) (nI m)) := by
  unfold wpY_buildRow
  obtain ⟨e1, hu, _, _⟩ := mk_idx hix (show r < mk_cn U N by omega)
  refine ⟨pk_in r 12 (by omega), nm_r (e' := nI (mk_id U N r)) (by rw [nI_clamp (by omega), e1]) ?_⟩
  refine my_rowTotal hN hW hu ?_
  exact ⟨m + 1, my_br1 hN hW em hm hr hO hix k (m + 1) 0 mt (by omega) (by omega) (fun t ht => by omega) (fun _ _ => rfl)⟩
theorem my_pivot {post : Int32 → Prop} {k m : Nat} {x : Int} (hk : k < m) (hm : m ≤ 10) (hx : mt (k * 13 + k) = mk_z x) (h0 : 0 < x) (hb : x.natAbs < 2 ^ 62) (kk : post (nI k)) : (wpY_pivot post ((nI N), nd, vl, wt, lb, kd, fi, se, nc, ne, th, vn, vd, ph, ps, ze, oe, ma, cu, nx, ix, po, mt) (nI k) (nI m)) := by
  unfold wpY_pivot
  refine ⟨1, pk_le m k (fun h => absurd h (by omega)) (fun h => ⟨pk_in (k * 13 + k) 156 (by omega) (mk_i13 k k), ?_⟩)⟩
  rw [mk_i13, nI_clamp (by omega), hx]
  refine br_f (fun z => ?_) kk
  have := (mk_z_eq0 (by omega) (by omega)).mp z
  omega
theorem my_swap {post : SY → Prop} {k : Nat} {x : Int32} (kk : post ((nI N), nd, vl, wt, lb, kd, fi, se, nc, ne, th, vn, vd, ph, ps, ze, oe, ma, cu, nx, ix, po, mt)) : (wpY_swapRows post ((nI N), nd, vl, wt, lb, kd, fi, se, nc, ne, th, vn, vd, ph, ps, ze, oe, ma, cu, nx, ix, po, mt) (nI k) (nI k) x) := by
  unfold wpY_swapRows
  exact br_t rfl kk
theorem my_no2 {post : SY → Prop} {r m G : Nat} {z : Nat → Int} (hm : m ≤ 10) (hr : r < 12) (hG : 0 < G) (hGb : G < 2 ^ 62) {y : Nat → Int} (hb : ∀ c, c ≤ m → (y c).natAbs < 2 ^ 62) (hz : ∀ c, c ≤ m → y c = (G : Int) * z c) (k : ∀ q : Nat → Int64, (∀ c, c ≤ m → q (r * 13 + c) = mk_z (z c)) → (∀ j, (∀ c, c ≤ m → j ≠ r * 13 + c) → q j = mt j) → post ((nI N), nd, vl, wt, lb, kd, fi, se, nc, ne, th, vn, vd, ph, ps, ze, oe, ma, cu, nx, ix, po, q)) : ∀ (n c : Nat) (q : Nat → Int64), c ≤ m + 1 → m + 1 < n + c → (∀ c', c' < c → q (r * 13 + c') = mk_z (z c')) → (∀ c', c ≤ c' → c' ≤ m → q (r * 13 + c') = mk_z (y c')) → (∀ j, (∀ c, c ≤ m → j ≠ r * 13 + c) → q j = mt j) → (wY_normalize_44 post (nI r) (nI m) (lN G) (nI N) nd vl n (nI c) wt lb kd fi se nc ne th vn vd ph ps ze oe ma cu nx ix po q) := by
  intro n
  induction n with
  | zero => intro c q h1 h2; omega
  | succ n ih =>
    intro c q h1 h2 hq hq2 hj
    refine pk_lt m c (fun h => ?_) (fun h => ?_)
    · obtain rfl : c = m + 1 := by omega
      exact k q (fun c' hc' => hq c' (by omega)) hj
    · have hin : vp_in (nI r * 13 + nI c) 156 := pk_in (r * 13 + c) 156 (by omega) (mk_i13 r c)
      have hcl : (nI r * 13 + nI c).toNatClampNeg = r * 13 + c := by rw [mk_i13, nI_clamp (by omega)]
      have hne : ¬ lN G = 0 := fun z => by
        have := (pk_lEQ (a := G) (b := 0) (by omega) (by omega)).mp z
        omega
      have hyb := hb c h
      refine ⟨hin, hne, hin, ?_⟩
      rw [hcl, hq2 c (Nat.le_refl c) h, ← mk_z_n, mk_z_dvd (c := z c) (by omega) (by omega) (by omega) (by omega) (by omega) (hz c h), mk_z_n]
      refine nm_e (nm_r (nI_1 c) (ih (c + 1) _ (by omega) (by omega) ?_ ?_ ?_))
      · intro c' hc'
        by_cases e : c' = c
        · rw [e, pk_uLs]
        · rw [pk_uLn (by omega)]; exact hq c' (by omega)
      · intro c' hc1 hc2
        rw [pk_uLn (by omega)]; exact hq2 c' (by omega) hc2
      · intro j hjj
        rw [pk_uLn (hjj c h)]; exact hj j hjj
theorem my_no1 {post : SY → Prop} {r m : Nat} {y : Nat → Int} (hm : m ≤ 10) (hr : r < 12) (hy : ∀ c, c ≤ m → mt (r * 13 + c) = mk_z (y c)) (hb : ∀ c, c ≤ m → (y c).natAbs < 2 ^ 62) (h0 : ∃ c, c ≤ m ∧ y c ≠ 0) (k : ∀ q : Nat → Int64, (∀ c, c ≤ m → q (r * 13 + c) = mk_z (y c / (mk_g y (m + 1) : Int))) → (∀ j, (∀ c, c ≤ m → j ≠ r * 13 + c) → q j = mt j) → post ((nI N), nd, vl, wt, lb, kd, fi, se, nc, ne, th, vn, vd, ph, ps, ze, oe, ma, cu, nx, ix, po, q)) : ∀ n c : Nat, c ≤ m + 1 → m + 1 < n + c → (wY_normalize_5 post (nI r) (nI m) (nI N) nd vl wt lb kd fi se nc ne th vn vd ph ps ze oe ma cu nx ix po mt n (lN (mk_g y c)) (nI c)) := by
  intro n
  induction n with
  | zero => intro c h1 h2; omega
  | succ n ih =>
    intro c h1 h2
    have hg := mk_g_lt (y := y) (B := 2 ^ 62) (by decide) c (fun c' hc' => hb c' (by omega))
    refine pk_lt m c (fun h => ?_) (fun h => ?_)
    · obtain rfl : c = m + 1 := by omega
      obtain ⟨c0, hc0, hy0⟩ := h0
      have hp := (mk_g_bd y (m + 1) (show c0 < m + 1 by omega) hy0).1
      by_cases e : mk_g y (m + 1) = 1
      · refine br_t (by rw [e]; decide) (k mt (fun c hc => ?_) (fun _ _ => rfl))
        rw [hy c hc, e]; congr 1; omega
      · refine br_f (fun z => ?_) ?_
        · have := (pk_lLE (a := mk_g y (m + 1)) (b := 1) (by omega) (by omega)).mp z
          omega
        · exact ⟨m + 2, my_no2 hm hr hp hg hb (fun c hc => mk_g_quo (by omega)) k (m + 2) 0 mt (by omega) (by omega) (fun t ht => by omega) (fun c' _ hc => hy c' hc) (fun _ _ => rfl)⟩
    · refine ⟨pk_in (r * 13 + c) 156 (by omega) (mk_i13 r c), ?_⟩
      rw [mk_i13, nI_clamp (by omega), hy c h, ← mk_z_n]
      refine my_gcd (x := (mk_g y c : Int)) (y := y c) (by rw [Int.natAbs_natCast]; exact hg) (hb c h) ?_
      rw [Int.natAbs_natCast]
      exact nm_r (nI_1 c) (ih (c + 1) (by omega) (by omega))
theorem my_norm {post : SY → Prop} {r m : Nat} {y : Nat → Int} (hm : m ≤ 10) (hr : r < 12) (hy : ∀ c, c ≤ m → mt (r * 13 + c) = mk_z (y c)) (hb : ∀ c, c ≤ m → (y c).natAbs < 2 ^ 62) (h0 : ∃ c, c ≤ m ∧ y c ≠ 0) (k : ∀ q : Nat → Int64, (∀ c, c ≤ m → q (r * 13 + c) = mk_z (y c / (mk_g y (m + 1) : Int))) → (∀ j, (∀ c, c ≤ m → j ≠ r * 13 + c) → q j = mt j) → post ((nI N), nd, vl, wt, lb, kd, fi, se, nc, ne, th, vn, vd, ph, ps, ze, oe, ma, cu, nx, ix, po, q)) : (wpY_normalize post ((nI N), nd, vl, wt, lb, kd, fi, se, nc, ne, th, vn, vd, ph, ps, ze, oe, ma, cu, nx, ix, po, mt) (nI r) (nI m)) :=
  ⟨m + 2, my_no1 hm hr hy hb h0 k (m + 2) 0 (by omega) (by omega)⟩
theorem my_el_l {post : SY → Prop} {r p m : Nat} {y z : Nat → Int} (hm : m ≤ 10) (hr : r < 12) (hp : p < 12) (hne : r ≠ p) (hP : ∀ c, c ≤ m → mt (p * 13 + c) = mk_z (z c)) {f g : Int} (k : ∀ q : Nat → Int64, (∀ c, c ≤ m → q (r * 13 + c) = mk_z (y c * g - z c * f)) → (∀ j, (∀ c, c ≤ m → j ≠ r * 13 + c) → q j = mt j) → (wpY_normalize post ((nI N), nd, vl, wt, lb, kd, fi, se, nc, ne, th, vn, vd, ph, ps, ze, oe, ma, cu, nx, ix, po, q) (nI r) (nI m))) : ∀ (n c : Nat) (q : Nat → Int64), c ≤ m + 1 → m + 1 < n + c → (∀ c', c' < c → q (r * 13 + c') = mk_z (y c' * g - z c' * f)) → (∀ c', c ≤ c' → c' ≤ m → q (r * 13 + c') = mk_z (y c')) → (∀ j, (∀ c, c ≤ m → j ≠ r * 13 + c) → q j = mt j) → (wY_eliminate_37 post (nI r) (nI p) (nI m) (mk_z f) (mk_z g) (nI N) nd vl n (nI c) wt lb kd fi se nc ne th vn vd ph ps ze oe ma cu nx ix po q) := by
  intro n
  induction n with
  | zero => intro c q h1 h2; omega
  | succ n ih =>
    intro c q h1 h2 hq hq2 hj
    refine pk_lt m c (fun h => ?_) (fun h => ?_)
    · obtain rfl : c = m + 1 := by omega
      exact k q (fun c' hc' => hq c' (by omega)) hj
    · have hin : vp_in (nI r * 13 + nI c) 156 := pk_in (r * 13 + c) 156 (by omega) (mk_i13 r c)
      have hcl : (nI r * 13 + nI c).toNatClampNeg = r * 13 + c := by rw [mk_i13, nI_clamp (by omega)]
      have hin2 : vp_in (nI p * 13 + nI c) 156 := pk_in (p * 13 + c) 156 (by omega) (mk_i13 p c)
      have hcl2 : (nI p * 13 + nI c).toNatClampNeg = p * 13 + c := by rw [mk_i13, nI_clamp (by omega)]
      refine ⟨hin, hin2, hin, ?_⟩
      rw [hcl, hcl2, hq2 c (Nat.le_refl c) h, hj (p * 13 + c) (fun c' hc' => by omega), hP c h, mk_z_mul, mk_z_mul, mk_z_sub]
      refine nm_e (nm_r (nI_1 c) (ih (c + 1) _ (by omega) (by omega) ?_ ?_ ?_))
      · intro c' hc'
        by_cases e : c' = c
        · rw [e, pk_uLs]
        · rw [pk_uLn (by omega)]; exact hq c' (by omega)
      · intro c' hc1 hc2
        rw [pk_uLn (by omega)]; exact hq2 c' (by omega) hc2
      · intro j hjj
        rw [pk_uLn (hjj c h)]; exact hj j hjj
theorem my_el {post : SY → Prop} {A : Nat → Nat → Int} {r p m : Nat} {y z : Nat → Int} (H : mk_H A m) (hr : r < m) (hp : p < m) (hne : r ≠ p) (hy : ∀ c, c ≤ m → mt (r * 13 + c) = mk_z (y c)) (hP : ∀ c, c ≤ m → mt (p * 13 + c) = mk_z (z c)) (py : mk_P A m p r y) (pz : mk_P A m p p z) (k : ∀ (q : Nat → Int64) (y' : Nat → Int), mk_P A m (p + 1) r y' → (∀ c, c ≤ m → q (r * 13 + c) = mk_z (y' c)) → (∀ j, (∀ c, c ≤ m → j ≠ r * 13 + c) → q j = mt j) → post ((nI N), nd, vl, wt, lb, kd, fi, se, nc, ne, th, vn, vd, ph, ps, ze, oe, ma, cu, nx, ix, po, q)) : (wpY_eliminate post ((nI N), nd, vl, wt, lb, kd, fi, se, nc, ne, th, vn, vd, ph, ps, ze, oe, ma, cu, nx, ix, po, mt) (nI r) (nI p) (nI m)) := by
  unfold wpY_eliminate
  have h10 := H.1
  have by' : ∀ c, c ≤ m → (y c).natAbs ≤ 1073741824 := fun c hc => py.2 c (by omega)
  have bz' : ∀ c, c ≤ m → (z c).natAbs ≤ 1073741824 := fun c hc => pz.2 c (by omega)
  have byp := by' p (by omega)
  refine ⟨pk_in (r * 13 + p) 156 (by omega) (mk_i13 r p), ?_⟩
  rw [mk_i13, nI_clamp (by omega), hy p (by omega)]
  refine nm_e ?_
  by_cases e : y p = 0
  · refine br_t ((mk_z_eq0 (by omega) (by omega)).mpr e) ?_
    exact k mt y (mk_P_same H py hp hne e) hy (fun _ _ => rfl)
  · refine br_f (fun z => e ((mk_z_eq0 (by omega) (by omega)).mp z)) ⟨pk_in (p * 13 + p) 156 (by omega) (mk_i13 p p), ?_⟩
    rw [mk_i13, nI_clamp (by omega), hP p (by omega)]
    refine nm_e ⟨m + 2, my_el_l h10 (by omega) (by omega) hne hP (fun q hq hj => ?_) (m + 2) 0 mt (by omega) (by omega) (fun t ht => by omega) (fun c' _ hc => hy c' hc) (fun _ _ => rfl)⟩
    have hx := mk_P_xpos H py pz hp hne hr
    have hx' : (fun c => y c * z p - z c * y p) r ≠ 0 := by
      show y r * z p - z r * y p ≠ 0
      omega
    have bb : ∀ c, c ≤ m → (y c * z p - z c * y p).natAbs < 2 ^ 62 := by
      intro c hc
      have m1 := mk_mulN (by' c hc) (bz' p (by omega))
      have m2 := mk_mulN (bz' c hc) byp
      omega
    refine my_norm (mt := q) (y := fun c => y c * z p - z c * y p) h10 (by omega) hq bb ⟨r, by omega, hx'⟩ (fun q' hq' hj' => ?_)
    have gp := (mk_g_bd (fun c => y c * z p - z c * y p) (m + 1) (show r < m + 1 by omega) hx').1
    refine k q' (fun c => (y c * z p - z c * y p) / (mk_g (fun c => y c * z p - z c * y p) (m + 1) : Int)) ?_ hq' (fun j hjj => by rw [hj' j hjj, hj j hjj])
    refine mk_P_elim H py pz hp hne hr gp (mk_g_one gp rfl (fun c hc => mk_g_quo (y := fun c => y c * z p - z c * y p) hc)) (fun j hjm => mk_g_quo (y := fun c => y c * z p - z c * y p) hjm)
end
