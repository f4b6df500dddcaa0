/-! the reference: the unbounded until -/
def mk_SY (A : Nat → Nat → Int) (m k r : Nat) (q : Nat → Int64) : Prop := ∃ Y : Nat → Nat → Int, ∀ i, i < m → mk_P A m (if i < r then k + 1 else k) i (Y i) ∧ ∀ c, c ≤ m → q (i * 13 + c) = mk_z (Y i c)
theorem mk_SY_put {A : Nat → Nat → Int} {m k r : Nat} {q q' : Nat → Int64} {y : Nat → Int} (hm : m ≤ 10) (h : mk_SY A m k r q) (hy : mk_P A m (k + 1) r y) (h1 : ∀ c, c ≤ m → q' (r * 13 + c) = mk_z (y c)) (h2 : ∀ j, (∀ c, c ≤ m → j ≠ r * 13 + c) → q' j = q j) : mk_SY A m k (r + 1) q' := by
  obtain ⟨Y, hY⟩ := h
  refine ⟨fun i => if i = r then y else Y i, ?_⟩
  intro i hi
  by_cases e : i = r
  · show mk_P A m (if i < r + 1 then k + 1 else k) i (if i = r then y else Y i) ∧ ∀ c, c ≤ m → q' (i * 13 + c) = mk_z ((if i = r then y else Y i) c)
    rw [if_pos e, if_pos (show i < r + 1 by omega), e]
    exact ⟨hy, h1⟩
  · show mk_P A m (if i < r + 1 then k + 1 else k) i (if i = r then y else Y i) ∧ ∀ c, c ≤ m → q' (i * 13 + c) = mk_z ((if i = r then y else Y i) c)
    obtain ⟨a, b⟩ := hY i hi
    rw [if_neg e]
    refine ⟨?_, fun c hc => ?_⟩
    · by_cases g : i < r
      · rw [if_pos g] at a; rw [if_pos (show i < r + 1 by omega)]; exact a
      · rw [if_neg g] at a; rw [if_neg (show ¬ i < r + 1 by omega)]; exact a
    · rw [h2 _ (fun c' hc' => by omega)]; exact b c hc
theorem mk_SY_row {A : Nat → Nat → Int} {m k : Nat} {q q' : Nat → Int64} {y : Nat → Int} {p : Nat} (hm : m ≤ 10) (h : mk_SY A m k 0 q) (hy : mk_P A m k p y) (h1 : ∀ c, c ≤ m → q' (p * 13 + c) = mk_z (y c)) (h2 : ∀ j, (∀ c, c ≤ m → j ≠ p * 13 + c) → q' j = q j) : mk_SY A m k 0 q' := by
  obtain ⟨Y, hY⟩ := h
  refine ⟨fun i => if i = p then y else Y i, ?_⟩
  intro i hi
  by_cases e : i = p
  · show mk_P A m (if i < 0 then k + 1 else k) i (if i = p then y else Y i) ∧ ∀ c, c ≤ m → q' (i * 13 + c) = mk_z ((if i = p then y else Y i) c)
    rw [if_pos e, if_neg (Nat.not_lt_zero i), e]
    exact ⟨hy, h1⟩
  · show mk_P A m (if i < 0 then k + 1 else k) i (if i = p then y else Y i) ∧ ∀ c, c ≤ m → q' (i * 13 + c) = mk_z ((if i = p then y else Y i) c)
    obtain ⟨a, b⟩ := hY i hi
    rw [if_neg e]
    refine ⟨a, fun c hc => ?_⟩
    rw [h2 _ (fun c' hc' => by omega)]; exact b c hc
theorem mk_SY_next {A : Nat → Nat → Int} {m k : Nat} {q : Nat → Int64} (h : mk_SY A m k m q) : mk_SY A m (k + 1) 0 q := by
  obtain ⟨Y, hY⟩ := h
  refine ⟨Y, fun i hi => ?_⟩
  obtain ⟨a, b⟩ := hY i hi
  rw [if_pos hi] at a
  rw [if_neg (Nat.not_lt_zero i)]
  exact ⟨a, b⟩
section
variable {N : Nat} {nd vl : Int32} {wt lb kd fi se nc ne th ph ps ze oe ma ix po : Nat → Int32} {vn vd cu nx mt : Nat → Int64}
theorem my_ub9 {post : SY → Prop} {i m : Nat} {U O Z : Nat → Bool} {A : Nat → Nat → Int} {vn0 vd0 : Nat → Int64} (hN : N ≤ 12) (hi : i < 16) (H : mk_H A m) (em : mk_cn U N = m) (hZ : mk_ba N ze Z) (hO : mk_ba N oe O) (hpo : ∀ s, s < N → U s = true → po s = nI (mk_cn U s)) (hmt : mk_SY A m m 0 mt) (c1 : ∀ s, s < N → Z s = true → U s = false ∧ O s = false) (c2 : ∀ s, s < N → O s = true → U s = false) (c3 : ∀ s, s < N → Z s = false → O s = false → U s = true) (k : ∀ q q' : Nat → Int64, mk_cell N i vn0 q (mk_F U O A m m) → mk_cell N i vd0 q' (mk_G U A m m) → post ((nI N), nd, vl, wt, lb, kd, fi, se, nc, ne, th, q, q', ph, ps, ze, oe, ma, cu, nx, ix, po, mt)) : ∀ (n s : Nat) (q q' : Nat → Int64), s ≤ N → N < n + s → mk_cell s i vn0 q (mk_F U O A m m) → mk_cell s i vd0 q' (mk_G U A m m) → (wY_unbounded_293 post (nI i) (nI m) n (nI s) (nI N) nd vl wt lb kd fi se nc ne th q q' ph ps ze oe ma cu nx ix po mt) := by
  have h10 := H.1
  intro n
  induction n with
  | zero => intro s q q' h1 h2; omega
  | succ n ih =>
    intro s q q' h1 h2 hq hq'
    have hc : (nI s).toNatClampNeg = s := nI_clamp (by omega)
    refine pk_le N s (fun h => ?_) (fun h => ⟨pk_in s 12 (by omega), ?_⟩)
    · obtain rfl : s = N := by omega
      exact k q q' hq hq'
    · have hin : vp_in (nI s) 12 := pk_in s 12 (by omega)
      have g := mk_cell_s hq
      have g' := mk_cell_s hq'
      rw [hc]
      refine mk_bc' (hZ s h) (fun e => ⟨hin, ?_⟩) (fun e => ?_)
      · refine mk_bc' (hO s h) (fun eO => ⟨hin, ?_⟩) (fun eO => ?_)
        · have hU := c3 s h e eO
          have hr := mk_cn_lt hU h
          rw [em] at hr
          obtain ⟨Y, hY⟩ := hmt
          obtain ⟨P, hyc⟩ := hY _ hr
          rw [if_neg (Nat.not_lt_zero _)] at P
          have e1 : mk_F U O A m m s = mk_vn A m (mk_cn U s) := if_pos ⟨hU, hr⟩
          have e2 : mk_G U A m m s = mk_vm A m (mk_cn U s) := if_pos ⟨hU, hr⟩
          have ee := mk_P_end H P hr
          have p1 := mk_P_rhs H P (Nat.le_refl m) hr
          have p2 := mk_P_pos H P (Nat.le_refl m) hr
          have b1 := P.2 m (by omega)
          have b2 := P.2 (mk_cn U s) (by omega)
          rw [e1] at g
          rw [e2] at g'
          unfold mk_vn at g
          unfold mk_vm at g'
          rw [ee.1] at g
          rw [ee.2] at g'
          refine nm_r (hpo s h hU) ⟨pk_in (mk_cn U s * 13 + m) 156 (by omega) (mk_i13 _ m), ?_⟩
          rw [mk_i13, nI_clamp (by omega), hyc m (Nat.le_refl m), mk_z_nat p1]
          refine nm_e ⟨pk_in (mk_cn U s * 13 + mk_cn U s) 156 (by omega) (mk_i13 _ _), ?_⟩
          rw [mk_i13, nI_clamp (by omega), hyc _ (by omega), mk_z_nat (Int.le_of_lt p2)]
          refine nm_e ?_
          have z1 : (0 : Int64) ≤ lN (Y (mk_cn U s) (mk_cn U s)).natAbs := (pk_lLE (a := 0) (by omega) (by omega)).mpr (by omega)
          have z2 : ¬ lN (Y (mk_cn U s) (mk_cn U s)).natAbs = 0 := fun z => by
            have := (pk_lEQ (b := 0) (by omega) (by omega)).mp z
            omega
          refine br_t z1 (br_f z2 ?_)
          refine my_store (vn := q) (vd := q') hi (by omega) (by omega) (by omega) (by omega) ?_
          exact nm_r (nI_1 s) (ih (s + 1) _ _ (by omega) (by omega) g g')
        · have hU := c2 s h eO
          have e1 : mk_F U O A m m s = 1 := by
            show (if U s = true ∧ _ then _ else if O s = true then (1 : Int64) else 0) = 1
            rw [if_neg (fun z => by rw [hU] at z; exact absurd z.1 (by decide)), if_pos eO]
          have e2 : mk_G U A m m s = 1 := by
            show (if U s = true ∧ _ then _ else (1 : Int64)) = 1
            rw [if_neg (fun z => by rw [hU] at z; exact absurd z.1 (by decide))]
          rw [e1] at g
          rw [e2] at g'
          refine my_store (vn := q) (vd := q') (a := 1) (b := 1) hi (by omega) (by omega) (by omega) (by omega) ?_
          exact nm_r (nI_1 s) (ih (s + 1) _ _ (by omega) (by omega) g g')
      · obtain ⟨hU, hO'⟩ := c1 s h e
        have e1 : mk_F U O A m m s = 0 := by
          show (if U s = true ∧ _ then _ else if O s = true then (1 : Int64) else 0) = 0
          rw [if_neg (fun z => by rw [hU] at z; exact absurd z.1 (by decide)), if_neg (by rw [hO']; decide)]
        have e2 : mk_G U A m m s = 1 := by
          show (if U s = true ∧ _ then _ else (1 : Int64)) = 1
          rw [if_neg (fun z => by rw [hU] at z; exact absurd z.1 (by decide))]
        rw [e1] at g
        rw [e2] at g'
        refine my_store (vn := q) (vd := q') (a := 0) (b := 1) hi (by omega) (by omega) (by omega) (by omega) ?_
        exact nm_r (nI_1 s) (ih (s + 1) _ _ (by omega) (by omega) g g')
theorem my_ub8 {post : SY → Prop} {J : (Int32 → Int32 → Int32 → Int32 → (Nat → Int32) → (Nat → Int32) → (Nat → Int32) → (Nat → Int32) → (Nat → Int32) → (Nat → Int32) → (Nat → Int32) → (Nat → Int32) → (Nat → Int64) → (Nat → Int64) → (Nat → Int32) → (Nat → Int32) → (Nat → Int32) → (Nat → Int32) → (Nat → Int32) → (Nat → Int64) → (Nat → Int64) → (Nat → Int32) → (Nat → Int32) → (Nat → Int64) → Prop)} {A : Nat → Nat → Int} {m p : Nat} {x1 : Int32} (H : mk_H A m) (hp : p < m) (k : ∀ q : Nat → Int64, mk_SY A m p m q → (J (nI p + 1) (nI N) nd vl wt lb kd fi se nc ne th vn vd ph ps ze oe ma cu nx ix po q)) : ∀ (n r : Nat) (q : Nat → Int64), r ≤ m → m < n + r → mk_SY A m p r q → (wY_unbounded_259 post J x1 (nI m) (nI p) n (nI r) (nI N) nd vl wt lb kd fi se nc ne th vn vd ph ps ze oe ma cu nx ix po q) := by
  have h10 := H.1
  intro n
  induction n with
  | zero => intro r q h1 h2; omega
  | succ n ih =>
    intro r q h1 h2 hq
    refine pk_le m r (fun h => ?_) (fun h => ?_)
    · obtain rfl : r = m := by omega
      exact nm_e (k q hq)
    · obtain ⟨Y, hY⟩ := id hq
      obtain ⟨a, b⟩ := hY r h
      rw [if_neg (Nat.lt_irrefl r)] at a
      refine pk_eq r p (fun e => ?_) (fun e => ?_)
      · refine nm_r (nI_1 r) (ih (r + 1) q (by omega) (by omega) (mk_SY_put h10 hq ?_ b (fun _ _ => rfl)))
        subst e
        exact mk_P_piv a
      · obtain ⟨c, d⟩ := hY p hp
        have c' : mk_P A m p p (Y p) := by
          by_cases g : p < r
          · rw [if_pos g] at c; exact mk_P_vip c
          · rw [if_neg g] at c; exact c
        refine my_el (mt := q) H h hp e b d a c' (fun q' y' hy' f g => ?_)
        exact nm_r (nI_1 r) (ih (r + 1) q' (by omega) (by omega) (mk_SY_put h10 hq hy' f g))
theorem my_ub7 {post : SY → Prop} {i m : Nat} {A : Nat → Nat → Int} (H : mk_H A m) (k : ∀ q : Nat → Int64, mk_SY A m m 0 q → ∃ n, (wY_unbounded_293 post (nI i) (nI m) n 0 (nI N) nd vl wt lb kd fi se nc ne th vn vd ph ps ze oe ma cu nx ix po q)) : ∀ (n p : Nat) (q : Nat → Int64), p ≤ m → m < n + p → mk_SY A m p 0 q → (wY_unbounded_221 post (nI i) (nI m) n (nI p) (nI N) nd vl wt lb kd fi se nc ne th vn vd ph ps ze oe ma cu nx ix po q) := by
  have h10 := H.1
  intro n
  induction n with
  | zero => intro p q h1 h2; omega
  | succ n ih =>
    intro p q h1 h2 hq
    refine pk_le m p (fun h => ?_) (fun h => ?_)
    · obtain rfl : p = m := by omega
      exact k q hq
    · obtain ⟨Y, hY⟩ := id hq
      obtain ⟨a, b⟩ := hY p h
      rw [if_neg (Nat.not_lt_zero p)] at a
      have hpos := mk_P_pos H a (by omega) h
      have hb1 := a.2 p (by omega)
      refine my_pivot (mt := q) h h10 (b p (by omega)) hpos (by omega) ?_
      refine br_t (nI_pos' (by omega)) ?_
      refine my_swap (mt := q) ?_
      refine my_norm (mt := q) (y := Y p) h10 (by omega) b (fun c hc => by have := a.2 c (by omega); omega) ⟨p, by omega, by omega⟩ (fun q' f g => ?_)
      have gp := (mk_g_bd (Y p) (m + 1) (show p < m + 1 by omega) (by omega)).1
      have hq' : mk_SY A m p 0 q' := mk_SY_row h10 hq (mk_P_div a gp (fun j hj => mk_g_quo hj)) f g
      refine ⟨m + 1, my_ub8 H h (fun q2 hq2 => ?_) (m + 1) 0 q' (by omega) (by omega) hq'⟩
      rw [nI_1]
      exact ih (p + 1) q2 (by omega) (by omega) (mk_SY_next hq2)
theorem my_ub6 {post : SY → Prop} {i m : Nat} {U O : Nat → Bool} {A : Nat → Nat → Int} (hN : N ≤ 12) (hW : mk_W wt N) (eA : A = mk_A (mk_w wt) N O (mk_id U N) m) (H : mk_H A m) (em : mk_cn U N = m) (hO : mk_ba N oe O) (hix : ∀ s, s < N → U s = true → ix (mk_cn U s) = nI s) (k : ∀ q : Nat → Int64, mk_SY A m m 0 q → ∃ n, (wY_unbounded_293 post (nI i) (nI m) n 0 (nI N) nd vl wt lb kd fi se nc ne th vn vd ph ps ze oe ma cu nx ix po q)) : ∀ (n r : Nat) (q : Nat → Int64), r ≤ m → m < n + r → (∀ i c, i < r → c ≤ m → q (i * 13 + c) = mk_z (A i c)) → (wY_unbounded_202 post (nI i) (nI m) n (nI r) (nI N) nd vl wt lb kd fi se nc ne th vn vd ph ps ze oe ma cu nx ix po q) := by
  have h10 := H.1
  intro n
  induction n with
  | zero => intro r q h1 h2; omega
  | succ n ih =>
    intro r q h1 h2 hq
    refine pk_le m r (fun h => ?_) (fun h => ?_)
    · obtain rfl : r = m := by omega
      refine ⟨r + 1, my_ub7 H k (r + 1) 0 q (by omega) (by omega) ⟨A, fun i' hi' => ⟨?_, fun c hc => hq i' c hi' hc⟩⟩⟩
      rw [if_neg (Nat.not_lt_zero i')]
      exact mk_P_0 H hi'
    · refine my_br (mt := q) hN hW em h10 h hO hix (fun q' a b => ?_)
      refine nm_r (nI_1 r) (ih (r + 1) q' (by omega) (by omega) (fun i' c hi' hc => ?_))
      by_cases e : i' = r
      · rw [e, eA]; exact a c hc
      · rw [b _ (fun c' hc' => by omega)]; exact hq i' c (by omega) hc
theorem my_ub5 {post : SY → Prop} {i : Nat} {U O Z R : Nat → Bool} {m : Nat} (hN : N ≤ 12) (em : mk_cn U N = m) (hZ : mk_ba N ze Z) (hR : mk_ba N ma R) (eO : ∀ s, s < N → O s = (!Z s && !R s)) (eU : ∀ s, s < N → U s = (!Z s && !O s)) (k : ∀ o p x : Nat → Int32, mk_ba N o O → (∀ s, s < N → U s = true → p s = nI (mk_cn U s)) → (∀ s, s < N → U s = true → x (mk_cn U s) = nI s) → ∃ n, (wY_unbounded_202 post (nI i) (nI m) n 0 (nI N) nd vl wt lb kd fi se nc ne th vn vd ph ps ze o ma cu nx x p mt)) : ∀ (n s : Nat) (o p x : Nat → Int32), s ≤ N → N < n + s → mk_ba s o O → (∀ t, t < s → U t = true → p t = nI (mk_cn U t)) → (∀ t, t < s → U t = true → x (mk_cn U t) = nI t) → (wY_unbounded_122 post (nI i) (nI N) nd vl n (nI (mk_cn U s)) (nI s) wt lb kd fi se nc ne th vn vd ph ps ze o ma cu nx x p mt) := by
  intro n
  induction n with
  | zero => intro s o p x g1 g2; omega
  | succ n ih =>
    intro s o p x g1 g2 ho hp hx
    have hcn := mk_cn_le U s
    have hin : s < N → vp_in (nI s) 12 := fun h => pk_in s 12 (by omega)
    have hc : (nI s).toNatClampNeg = s := nI_clamp (by omega)
    refine pk_le N s (fun h => ?_) (fun h => ⟨hin h, ?_⟩)
    · obtain rfl : s = N := by omega
      rw [em]
      exact k o p x ho hp hx
    · have hin := hin h
      have hp0 : U s = false → ∀ t, t < s + 1 → U t = true → p t = nI (mk_cn U t) := fun hu t ht h' => by
        by_cases z : t = s
        · rw [z, hu] at h'; exact absurd h' (by decide)
        · exact hp t (by omega) h'
      have hx0 : U s = false → ∀ t, t < s + 1 → U t = true → x (mk_cn U t) = nI t := fun hu t ht h' => by
        by_cases z : t = s
        · rw [z, hu] at h'; exact absurd h' (by decide)
        · exact hx t (by omega) h'
      have join : ∀ b : Bool, b = O s → (wY_unbounded_158 post (wY_unbounded_122 post (nI i) (nI N) nd vl n) (nI i) (nI (mk_cn U s)) (nI s) (mk_bi b) (nI s) (nI N) nd vl wt lb kd fi se nc ne th vn vd ph ps ze o ma cu nx x p mt) := by
        intro b hb
        have ho' : mk_ba (s + 1) (upd o s (mk_bi b)) O := by
          intro t ht
          by_cases z : t = s
          · rw [z, pk_us, hb]
          · rw [pk_un z]; exact ho t (by omega)
        refine ⟨hin, ?_⟩
        rw [mk_bi_n, hc]
        refine nm_e ⟨hin, ?_⟩
        have no : U s = false → (wY_unbounded_122 post (nI i) (nI N) nd vl n (nI (mk_cn U s)) (nI (s + 1)) wt lb kd fi se nc ne th vn vd ph ps ze (upd o s (mk_bi b)) ma cu nx x p mt) := by
          intro hu
          have g := ih (s + 1) (upd o s (mk_bi b)) p x (by omega) (by omega) ho' (hp0 hu) (hx0 hu)
          rw [mk_cn_f (by rw [hu]; decide)] at g
          exact g
        refine mk_bc' (hZ s h) (fun eZ => ⟨hin, ?_⟩) (fun eZ => nm_r (nI_1 s) (no (by rw [eU s h, eZ]; rfl)))
        refine mk_bc' (b := b) pk_us (fun e1 => ⟨hin, ?_⟩) (fun e1 => nm_r (nI_1 s) (no (by rw [eU s h, eZ, ← hb, e1]; rfl)))
        have hu : U s = true := by rw [eU s h, eZ, ← hb, e1]; rfl
        refine nm_e ⟨pk_in (mk_cn U s) 12 (by omega), ?_⟩
        rw [nI_clamp (show mk_cn U s < 2 ^ 31 by omega)]
        have g := ih (s + 1) (upd o s (mk_bi b)) (upd p s (nI (mk_cn U s))) (upd x (mk_cn U s) (nI s)) (by omega) (by omega) ho' (fun t ht h' => by
          by_cases z : t = s
          · rw [z, pk_us]
          · rw [pk_un z]; exact hp t (by omega) h') (fun t ht h' => by
          by_cases z : t = s
          · rw [z, pk_us]
          · have h3 := mk_cn_lt h' (show t < s by omega)
            rw [pk_un (by omega)]; exact hx t (by omega) h')
        rw [mk_cn_t hu] at g
        exact nm_e (nm_r (nI_1 _) (nm_r (nI_1 s) g))
      rw [hc]
      refine mk_bc' (hZ s h) (fun eZ => ⟨hin, ?_⟩) (fun eZ => join false (by rw [eO s h, eZ]; rfl))
      exact mk_bc' (hR s h) (fun eR => join true (by rw [eO s h, eZ, eR]; rfl)) (fun eR => join false (by rw [eO s h, eZ, eR]; rfl))
theorem my_ubE {post : SY → Prop} {i : Nat} {phi psi : Nat → Bool} (hN : N ≤ 12) (hW : mk_W wt N) (hi : i < 16) (hpsi : ∀ s, psi s = true → s < N) (hZ : mk_ba N ze (mk_Z (mk_w wt) N phi psi)) (hR : mk_ba N ma (mk_R2 (mk_w wt) N phi psi)) (k : ∀ (q q' z : Nat → Int64) (b d e : Nat → Int32), mk_cell N i vn q (mk_un wt N phi psi) → mk_cell N i vd q' (mk_um wt N phi psi) → post ((nI N), nd, vl, wt, lb, kd, fi, se, nc, ne, th, q, q', ph, ps, ze, b, ma, cu, nx, d, e, z)) : ∃ n, (wY_unbounded_122 post (nI i) (nI N) nd vl n 0 0 wt lb kd fi se nc ne th vn vd ph ps ze oe ma cu nx ix po mt) := by
  have H := mk_M_H (phi := phi) hW hN hpsi
  have eZ : ∀ s, s < N → mk_Z (mk_w wt) N phi psi s = !mk_R1 (mk_w wt) N phi psi s := fun s hs => by
    show (decide (s < N) && !mk_R1 (mk_w wt) N phi psi s) = _
    rw [decide_eq_true hs, Bool.true_and]
  have eO : ∀ s, s < N → mk_O (mk_w wt) N phi psi s = (!mk_Z (mk_w wt) N phi psi s && !mk_R2 (mk_w wt) N phi psi s) := fun s hs => by
    rw [eZ s hs, Bool.not_not]; rfl
  have eU : ∀ s, s < N → mk_U (mk_w wt) N phi psi s = (!mk_Z (mk_w wt) N phi psi s && !mk_O (mk_w wt) N phi psi s) := fun s hs => by
    rw [eZ s hs, Bool.not_not]
    show (mk_R1 (mk_w wt) N phi psi s && mk_R2 (mk_w wt) N phi psi s) = (mk_R1 (mk_w wt) N phi psi s && !(mk_R1 (mk_w wt) N phi psi s && !mk_R2 (mk_w wt) N phi psi s))
    cases mk_R1 (mk_w wt) N phi psi s <;> cases mk_R2 (mk_w wt) N phi psi s <;> rfl
  refine ⟨N + 1, my_ub5 hN rfl hZ hR eO eU (fun o p x ho hp hx => ?_) (N + 1) 0 oe po ix (by omega) (by omega) (fun t h => by omega) (fun t h => by omega) (fun t h => by omega)⟩
  refine ⟨_, my_ub6 (oe := o) (po := p) (ix := x) hN hW rfl H rfl ho hx (fun q hq => ?_) (mk_cn (mk_U (mk_w wt) N phi psi) N + 1) 0 mt (by omega) (by omega) (fun _ _ h => by omega)⟩
  refine ⟨N + 1, my_ub9 (oe := o) (po := p) (ix := x) (mt := q) hN hi H rfl hZ ho hp hq ?_ ?_ ?_ (fun a b c d => k a b q o x p c d) (N + 1) 0 vn vd (by omega) (by omega) mk_cell_0 mk_cell_0⟩
  · intro s hs h
    have h1 := eU s hs
    have h2 := eO s hs
    rw [h] at h1 h2
    exact ⟨h1, h2⟩
  · intro s hs h
    have h1 := eU s hs
    rw [h] at h1
    rw [h1]; cases mk_Z (mk_w wt) N phi psi s <;> rfl
  · intro s hs h h'
    rw [eU s hs, h, h']; rfl
theorem my_ub4 {post : SY → Prop} {i : Nat} {phi psi : Nat → Bool} (hN : N ≤ 12) (hW : mk_W wt N) (h1 : mk_ba N ph phi) (h2 : mk_ba N ps psi) (k : ∀ M : Nat → Int32, mk_ba N M (mk_R2 (mk_w wt) N phi psi) → ∃ n, (wY_unbounded_122 post (nI i) (nI N) nd vl n 0 0 wt lb kd fi se nc ne th vn vd ph ps ze oe M cu nx ix po mt)) : ∀ (n r : Nat) (M : Nat → Int32), r ≤ N → N < n + r → mk_ba N M (mk_reach (mk_w wt) N (fun s => phi s && !psi s) (mk_Z (mk_w wt) N phi psi) r) → (wY_unbounded_99 post (nI i) n (nI r) (nI N) nd vl wt lb kd fi se nc ne th vn vd ph ps ze oe M cu nx ix po mt) := by
  intro n
  induction n with
  | zero => intro r M g1 g2; omega
  | succ n ih =>
    intro r M g1 g2 hM
    refine pk_le N r (fun h => ?_) (fun h => ?_)
    · obtain rfl : r = N := by omega
      exact k M hM
    · refine my_gr (np := true) (ma := M) hN hW h1 h2 (fun s _ => by rw [Bool.true_and]) hM (fun M' hM' => ?_)
      exact nm_r (nI_1 r) (ih (r + 1) M' (by omega) (by omega) hM')
theorem my_ub3 {post : SY → Prop} {i : Nat} {R Z : Nat → Bool} (hN : N ≤ 12) (eZ : ∀ s, s < N → Z s = !R s) (k : ∀ z M : Nat → Int32, mk_ba N z Z → mk_ba N M Z → ∃ n, (wY_unbounded_99 post (nI i) n 0 (nI N) nd vl wt lb kd fi se nc ne th vn vd ph ps z oe M cu nx ix po mt)) : ∀ (n s : Nat) (z M : Nat → Int32), s ≤ N → N < n + s → mk_ba s z Z → mk_ba s M Z → (∀ t, s ≤ t → t < N → M t = mk_bi (R t)) → (wY_unbounded_51 post (nI i) (nI N) nd vl n (nI s) wt lb kd fi se nc ne th vn vd ph ps z oe M cu nx ix po mt) := by
  intro n
  induction n with
  | zero => intro s z M g1 g2; omega
  | succ n ih =>
    intro s z M g1 g2 hz hM hR
    have hc : (nI s).toNatClampNeg = s := nI_clamp (by omega)
    refine pk_le N s (fun h => ?_) (fun h => ⟨pk_in s 12 (by omega), ?_⟩)
    · obtain rfl : s = N := by omega
      exact k z M hz hM
    · have hin : vp_in (nI s) 12 := pk_in s 12 (by omega)
      have join : ∀ b : Bool, b = Z s → (wY_unbounded_78 post (wY_unbounded_51 post (nI i) (nI N) nd vl n) (nI i) (nI s) (mk_bi b) (nI s) (nI N) nd vl wt lb kd fi se nc ne th vn vd ph ps z oe M cu nx ix po mt) := by
        intro b hb
        refine ⟨hin, ?_⟩
        rw [mk_bi_n, hc]
        refine nm_e ⟨hin, hin, ?_⟩
        rw [pk_us, mk_bi_n]
        refine nm_e (nm_r (nI_1 s) (ih (s + 1) _ _ (by omega) (by omega) (fun t ht => ?_) (fun t ht => ?_) (fun t a b => ?_)))
        · by_cases e : t = s
          · rw [e, pk_us, hb]
          · rw [pk_un e]; exact hz t (by omega)
        · by_cases e : t = s
          · rw [e, pk_us, hb]
          · rw [pk_un e]; exact hM t (by omega)
        · rw [pk_un (by omega)]; exact hR t (by omega) b
      rw [hc]
      exact mk_bc' (hR s (Nat.le_refl s) h) (fun e => join true (by rw [eZ s h, e]; rfl)) (fun e => join false (by rw [eZ s h, e]; rfl))
theorem my_ub2 {post : SY → Prop} {i : Nat} {phi psi : Nat → Bool} (hN : N ≤ 12) (hW : mk_W wt N) (h1 : mk_ba N ph phi) (h2 : mk_ba N ps psi) (k : ∀ M : Nat → Int32, mk_ba N M (mk_R1 (mk_w wt) N phi psi) → ∃ n, (wY_unbounded_51 post (nI i) (nI N) nd vl n 0 wt lb kd fi se nc ne th vn vd ph ps ze oe M cu nx ix po mt)) : ∀ (n r : Nat) (M : Nat → Int32), r ≤ N → N < n + r → mk_ba N M (mk_reach (mk_w wt) N phi psi r) → (wY_unbounded_30 post (nI i) n (nI r) (nI N) nd vl wt lb kd fi se nc ne th vn vd ph ps ze oe M cu nx ix po mt) := by
  intro n
  induction n with
  | zero => intro r M g1 g2; omega
  | succ n ih =>
    intro r M g1 g2 hM
    refine pk_le N r (fun h => ?_) (fun h => ?_)
    · obtain rfl : r = N := by omega
      exact k M hM
    · refine my_gr (np := false) (ma := M) hN hW h1 h2 (fun s _ => by rw [Bool.false_and, Bool.not_false, Bool.and_true]) hM (fun M' hM' => ?_)
      exact nm_r (nI_1 r) (ih (r + 1) M' (by omega) (by omega) hM')
theorem my_ub1 {post : SY → Prop} {i : Nat} {psi : Nat → Bool} (hN : N ≤ 12) (h2 : mk_ba N ps psi) (k : ∀ M : Nat → Int32, mk_ba N M psi → ∃ n, (wY_unbounded_30 post (nI i) n 0 (nI N) nd vl wt lb kd fi se nc ne th vn vd ph ps ze oe M cu nx ix po mt)) : ∀ (n s : Nat) (M : Nat → Int32), s ≤ N → N < n + s → mk_ba s M psi → (wY_unbounded_2 post (nI i) (nI N) nd vl n (nI s) wt lb kd fi se nc ne th vn vd ph ps ze oe M cu nx ix po mt) := by
  intro n
  induction n with
  | zero => intro s M g1 g2; omega
  | succ n ih =>
    intro s M g1 g2 hM
    have hc : (nI s).toNatClampNeg = s := nI_clamp (by omega)
    refine pk_le N s (fun h => ?_) (fun h => ⟨pk_in s 12 (by omega), pk_in s 12 (by omega), ?_⟩)
    · obtain rfl : s = N := by omega
      exact k M hM
    · rw [hc, h2 s h, mk_bi_n]
      refine nm_e (nm_r (nI_1 s) (ih (s + 1) _ (by omega) (by omega) (fun t ht => ?_)))
      by_cases e : t = s
      · rw [e, pk_us]
      · rw [pk_un e]; exact hM t (by omega)
theorem my_ub {post : SY → Prop} {i : Nat} {phi psi : Nat → Bool} (hN : N ≤ 12) (hW : mk_W wt N) (hi : i < 16) (hpsi : ∀ s, psi s = true → s < N) (h1 : mk_ba N ph phi) (h2 : mk_ba N ps psi) (k : ∀ (q q' z : Nat → Int64) (a b c d e : Nat → Int32), mk_cell N i vn q (mk_un wt N phi psi) → mk_cell N i vd q' (mk_um wt N phi psi) → post ((nI N), nd, vl, wt, lb, kd, fi, se, nc, ne, th, q, q', ph, ps, a, b, c, cu, nx, d, e, z)) : (wpY_unbounded post ((nI N), nd, vl, wt, lb, kd, fi, se, nc, ne, th, vn, vd, ph, ps, ze, oe, ma, cu, nx, ix, po, mt) (nI i)) := by
  refine ⟨N + 1, my_ub1 hN h2 (fun M hM => ?_) (N + 1) 0 ma (by omega) (by omega) (fun t h => by omega)⟩
  refine ⟨N + 1, my_ub2 hN hW h1 h2 (fun M hM => ?_) (N + 1) 0 M (by omega) (by omega) hM⟩
  refine ⟨N + 1, my_ub3 (R := mk_R1 (mk_w wt) N phi psi) (Z := mk_Z (mk_w wt) N phi psi) hN ?_ (fun z M hz hM => ?_) (N + 1) 0 ze M (by omega) (by omega) (fun t h => by omega) (fun t h => by omega) (fun t _ h => hM t h)⟩
  · intro s hs
    show (decide (s < N) && !mk_R1 (mk_w wt) N phi psi s) = _
    rw [decide_eq_true hs, Bool.true_and]
  · refine ⟨N + 1, my_ub4 (ze := z) hN hW h1 h2 (fun M' hM' => ?_) (N + 1) 0 M (by omega) (by omega) hM⟩
    exact my_ubE (ze := z) (ma := M') hN hW hi hpsi hz hM' (fun q q' y b d e h h' => k q q' y z b M' d e h h')
end
