/-! the reference: the bounded until -/
theorem mk_t_f (w b : Nat → Nat) (f n : Nat) : mk_t (fun t => w t * f * b t) n = mk_t (fun t => w t * b t) n * f := by
  rw [← mk_t_mul]
  apply mk_t_congr
  intro t _
  show w t * f * b t = w t * b t * f
  rw [Nat.mul_assoc, Nat.mul_comm f (b t), ← Nat.mul_assoc]
section
variable {N : Nat} {nd vl : Int32} {wt lb kd fi se nc ne th ph ps ze oe ma ix po : Nat → Int32} {vn vd cu nx mt : Nat → Int64}
theorem my_bs3 {post : SY → Prop} {F : Nat → Int64} (hN : N ≤ 12) (hF : ∀ s, s < N → nx s = F s) (k : ∀ q : Nat → Int64, (∀ s, s < N → q s = F s) → post ((nI N), nd, vl, wt, lb, kd, fi, se, nc, ne, th, vn, vd, ph, ps, ze, oe, ma, q, nx, ix, po, mt)) : ∀ (n s : Nat) (q : Nat → Int64), s ≤ N → N < n + s → (∀ t, t < s → q t = F t) → (wY_boundedStep_124 post (nI N) nd vl n (nI s) wt lb kd fi se nc ne th vn vd ph ps ze oe ma q nx ix po mt) := by
  intro n
  induction n with
  | zero => intro s q h1 h2; omega
  | succ n ih =>
    intro s q h1 h2 hq
    refine pk_le N s (fun h => ?_) (fun h => ⟨pk_in s 12 (by omega), pk_in s 12 (by omega), ?_⟩)
    · obtain rfl : s = N := by omega
      exact k q hq
    · rw [nI_clamp (by omega)]
      refine nm_e (nm_r (nI_1 s) (ih (s + 1) _ (by omega) (by omega) (fun t ht => ?_)))
      by_cases e : t = s
      · subst e; rw [pk_uLs]; exact hF t h
      · rw [pk_uLn e]; exact hq t (by omega)
/-- the inner sum -/
theorem my_bs2 {post : SY → Prop} {x1 : Int64} {J : (Int32 → (Nat → Int32) → (Nat → Int32) → (Nat → Int32) → (Nat → Int32) → (Nat → Int32) → (Nat → Int32) → (Nat → Int32) → (Nat → Int32) → (Nat → Int64) → (Nat → Int64) → (Nat → Int32) → (Nat → Int32) → (Nat → Int32) → (Nat → Int32) → (Nat → Int32) → (Nat → Int64) → (Nat → Int64) → (Nat → Int32) → (Nat → Int32) → (Nat → Int64) → Prop)} {s f : Nat} {b : Nat → Nat} (hN : N ≤ 12) (hW : mk_W wt N) (hs : s < N) (hf : f ≤ 12) (hb : ∀ t, t < N → cu t = lN (b t)) (k : (J (nI s + 1) wt lb kd fi se nc ne th vn vd ph ps ze oe ma cu (vp_updL nx s (lN (mk_t (fun t => mk_w wt s t * f * b t) N))) ix po mt)) : ∀ n t : Nat, t ≤ N → N < n + t → (wY_boundedStep_63 post J x1 (nI s) (nI f) (nI N) nd vl wt lb kd fi se nc ne th vn vd ph ps ze oe ma cu nx ix po mt n (lN (mk_t (fun t => mk_w wt s t * f * b t) t)) (nI t)) := by
  intro n
  induction n with
  | zero => intro t h1 h2; omega
  | succ n ih =>
    intro t h1 h2
    refine pk_le N t (fun h => ?_) (fun h => ⟨pk_in (s * 12 + t) 144 (by omega) (mk_i12 s t), pk_in t 12 (by omega), ?_⟩)
    · obtain rfl : t = N := by omega
      refine ⟨pk_in s 12 (by omega), ?_⟩
      rw [nI_clamp (by omega)]
      exact nm_e (nm_e k)
    · have hw := mk_W_le hW hs h
      refine nm_r (e' := lN (mk_t (fun t => mk_w wt s t * f * b t) (t + 1))) ?_ (nm_r (nI_1 t) (ih (t + 1) (by omega) (by omega)))
      rw [mk_i12, nI_clamp (show s * 12 + t < 2 ^ 31 by omega), nI_clamp (show t < 2 ^ 31 by omega), (hW s hs).1 t h, hb t h, nI_l (by omega), nI_l (by omega), lN_mul, lN_mul, lN_add]; rfl
theorem my_bs1 {post : SY → Prop} {phi psi : Nat → Bool} {K : Nat} (hN : N ≤ 12) (hW : mk_W wt N) (h1 : mk_ba N ph phi) (h2 : mk_ba N ps psi) (hb : ∀ t, t < N → cu t = lN (mk_bv (mk_w wt) N phi psi K t)) (k : ∀ q q' : Nat → Int64, (∀ s, s < N → q s = lN (mk_bv (mk_w wt) N phi psi (K + 1) s)) → post ((nI N), nd, vl, wt, lb, kd, fi, se, nc, ne, th, vn, vd, ph, ps, ze, oe, ma, q, q', ix, po, mt)) : ∀ (n s : Nat) (q : Nat → Int64), s ≤ N → N < n + s → (∀ t, t < s → q t = lN (mk_bv (mk_w wt) N phi psi (K + 1) t)) → (wY_boundedStep_2 post (lN (12 ^ (K + 1))) (nI N) nd vl n (nI s) wt lb kd fi se nc ne th vn vd ph ps ze oe ma cu q ix po mt) := by
  intro n
  induction n with
  | zero => intro s q h1 h2; omega
  | succ n ih =>
    intro s q g1 g2 hq
    refine pk_le N s (fun h => ?_) (fun h => ?_)
    · obtain rfl : s = N := by omega
      exact ⟨s + 1, my_bs3 (nx := q) hN hq (fun q' hq' => k q' q hq') (s + 1) 0 cu (by omega) (by omega) (fun t ht => by omega)⟩
    · have hin : vp_in (nI s) 12 := pk_in s 12 (by omega)
      have hc : (nI s).toNatClampNeg = s := nI_clamp (by omega)
      have step : ∀ v : Int64, v = lN (mk_bv (mk_w wt) N phi psi (K + 1) s) → ∀ t, t < s + 1 → vp_updL q s v t = lN (mk_bv (mk_w wt) N phi psi (K + 1) t) := by
        intro v hv t ht
        by_cases e : t = s
        · subst e; rw [pk_uLs]; exact hv
        · rw [pk_uLn e]; exact hq t (by omega)
      refine ⟨hin, ?_⟩
      rw [hc]
      refine mk_bc' (h2 s h) (fun e2 => ⟨hin, ?_⟩) (fun e2 => ?_)
      · refine mk_bc' (h1 s h) (fun e1 => ?_) (fun e1 => ?_)
        · refine ⟨hin, ?_⟩
          refine nm_e (nm_r (nI_1 s) (ih (s + 1) _ (by omega) (by omega) (step 0 ?_)))
          show 0 = lN (if psi s = true then _ else if phi s = true then _ else 0)
          rw [e2, e1]; rfl
        · have h4 := (hW s h).2
          refine my_rowTotal hN hW h ?_
          have fin : ∀ f, f = 12 / mk_t (mk_w wt s) N → ∃ m, (wY_boundedStep_63 post (wY_boundedStep_2 post (lN (12 ^ (K + 1))) (nI N) nd vl n) (lN (12 ^ (K + 1))) (nI s) (nI f) (nI N) nd vl wt lb kd fi se nc ne th vn vd ph ps ze oe ma cu q ix po mt m 0 0) := by
            intro f hf
            refine ⟨N + 1, my_bs2 (nx := q) hN hW h (by rw [hf]; exact Nat.div_le_self _ _) hb ?_ (N + 1) 0 (by omega) (by omega)⟩
            rw [nI_1]
            refine ih (s + 1) _ (by omega) (by omega) (step _ ?_)
            show _ = lN (if psi s = true then _ else if phi s = true then _ else 0)
            rw [e2, e1, mk_t_f, hf]; rfl
          refine mk_pos (mk_t (mk_w wt s) N) rfl (by omega) (fun g => ?_) (fun g => ⟨nI_ne0 g (by omega), ?_⟩)
          · exact fin 0 (by rw [g, Nat.div_zero])
          · refine nm_r (e' := nI (12 / mk_t (mk_w wt s) N)) ?_ (fin _ rfl)
            rw [show (12 : Int32) = nI 12 from rfl, pk_div (by omega) g (by omega)]
      · refine ⟨hin, ?_⟩
        refine nm_e (nm_r (nI_1 s) (ih (s + 1) _ (by omega) (by omega) (step _ ?_)))
        show _ = lN (if psi s = true then _ else _)
        rw [e2]; rfl
theorem my_bs {post : SY → Prop} {phi psi : Nat → Bool} {K : Nat} (hN : N ≤ 12) (hW : mk_W wt N) (h1 : mk_ba N ph phi) (h2 : mk_ba N ps psi) (hb : ∀ t, t < N → cu t = lN (mk_bv (mk_w wt) N phi psi K t)) (k : ∀ q q' : Nat → Int64, (∀ s, s < N → q s = lN (mk_bv (mk_w wt) N phi psi (K + 1) s)) → post ((nI N), nd, vl, wt, lb, kd, fi, se, nc, ne, th, vn, vd, ph, ps, ze, oe, ma, q, q', ix, po, mt)) : (wpY_boundedStep post ((nI N), nd, vl, wt, lb, kd, fi, se, nc, ne, th, vn, vd, ph, ps, ze, oe, ma, cu, nx, ix, po, mt) (lN (12 ^ (K + 1)))) :=
  ⟨N + 1, my_bs1 hN hW h1 h2 hb k (N + 1) 0 nx (by omega) (by omega) (fun t ht => by omega)⟩
theorem my_bo3 {post : SY → Prop} {i K : Nat} {phi psi : Nat → Bool} {vn0 vd0 : Nat → Int64} (hN : N ≤ 12) (hi : i < 16) (hK : K ≤ 8) (hb : ∀ t, t < N → cu t = lN (mk_bv (mk_w wt) N phi psi K t)) (k : ∀ q q' : Nat → Int64, mk_cell N i vn0 q (mk_bn (mk_w wt) N phi psi K) → mk_cell N i vd0 q' (mk_bm (mk_w wt) N phi psi K) → post ((nI N), nd, vl, wt, lb, kd, fi, se, nc, ne, th, q, q', ph, ps, ze, oe, ma, cu, nx, ix, po, mt)) : ∀ (n s : Nat) (q q' : Nat → Int64), s ≤ N → N < n + s → mk_cell s i vn0 q (mk_bn (mk_w wt) N phi psi K) → mk_cell s i vd0 q' (mk_bm (mk_w wt) N phi psi K) → (wY_bounded_67 post (nI i) (lN (12 ^ K)) n (nI s) (nI N) nd vl wt lb kd fi se nc ne th q q' ph ps ze oe ma cu nx ix po mt) := by
  intro n
  induction n with
  | zero => intro s q q' h1 h2; omega
  | succ n ih =>
    intro s q q' h1 h2 hq hq'
    have hp := mk_12 K hK
    refine pk_le N s (fun h => ?_) (fun h => ⟨pk_in s 12 (by omega), ?_⟩)
    · obtain rfl : s = N := by omega
      exact k q q' hq hq'
    · have hle := mk_bv_le (mk_w wt) N phi psi K s
      rw [nI_clamp (by omega), hb s h]
      refine my_store hi (by omega) (by omega) (by omega) hp.2 ?_
      exact nm_r (nI_1 s) (ih (s + 1) _ _ (by omega) (by omega) (mk_cell_s hq) (mk_cell_s hq'))
theorem my_bo2 {post : SY → Prop} {i B : Nat} {phi psi : Nat → Bool} (hN : N ≤ 12) (hW : mk_W wt N) (hi : i < 16) (hB : B ≤ 8) (h1 : mk_ba N ph phi) (h2 : mk_ba N ps psi) (k : ∀ q q' p p' : Nat → Int64, mk_cell N i vn q (mk_bn (mk_w wt) N phi psi B) → mk_cell N i vd q' (mk_bm (mk_w wt) N phi psi B) → post ((nI N), nd, vl, wt, lb, kd, fi, se, nc, ne, th, q, q', ph, ps, ze, oe, ma, p, p', ix, po, mt)) : ∀ (n K : Nat) (p p' : Nat → Int64), K ≤ B → B < n + K → (∀ t, t < N → p t = lN (mk_bv (mk_w wt) N phi psi K t)) → (wY_bounded_41 post (nI i) (nI B) n (lN (12 ^ K)) (nI (K + 1)) (nI N) nd vl wt lb kd fi se nc ne th vn vd ph ps ze oe ma p p' ix po mt) := by
  intro n
  induction n with
  | zero => intro K p p' g1 g2; omega
  | succ n ih =>
    intro K p p' g1 g2 hp
    refine pk_lt B (K + 1) (fun h => ?_) (fun h => ?_)
    · obtain rfl : K = B := by omega
      exact ⟨N + 1, my_bo3 (cu := p) (nx := p') hN hi hB hp (fun q q' a b => k q q' p p' a b) (N + 1) 0 vn vd (by omega) (by omega) mk_cell_0 mk_cell_0⟩
    · refine nm_r (e' := lN (12 ^ (K + 1))) (by rw [show (12 : Int64) = lN 12 from rfl, lN_mul, Nat.pow_succ]) ?_
      refine my_bs hN hW h1 h2 hp (fun q q' hq => ?_)
      exact nm_r (nI_1 (K + 1)) (ih (K + 1) q q' (by omega) (by omega) hq)
theorem my_bo1 {post : SY → Prop} {i B : Nat} {phi psi : Nat → Bool} (hN : N ≤ 12) (hW : mk_W wt N) (hi : i < 16) (hB : B ≤ 8) (h1 : mk_ba N ph phi) (h2 : mk_ba N ps psi) (k : ∀ q q' p p' : Nat → Int64, mk_cell N i vn q (mk_bn (mk_w wt) N phi psi B) → mk_cell N i vd q' (mk_bm (mk_w wt) N phi psi B) → post ((nI N), nd, vl, wt, lb, kd, fi, se, nc, ne, th, q, q', ph, ps, ze, oe, ma, p, p', ix, po, mt)) : ∀ (n s : Nat) (p : Nat → Int64), s ≤ N → N < n + s → (∀ t, t < s → p t = lN (mk_bv (mk_w wt) N phi psi 0 t)) → (wY_bounded_2 post (nI i) (nI B) (nI N) nd vl n (nI s) wt lb kd fi se nc ne th vn vd ph ps ze oe ma p nx ix po mt) := by
  intro n
  induction n with
  | zero => intro s p g1 g2; omega
  | succ n ih =>
    intro s p g1 g2 hp
    refine pk_le N s (fun h => ?_) (fun h => ?_)
    · obtain rfl : s = N := by omega
      exact ⟨B + 1, my_bo2 hN hW hi hB h1 h2 k (B + 1) 0 p nx (by omega) (by omega) hp⟩
    · have hin : vp_in (nI s) 12 := pk_in s 12 (by omega)
      have hc : (nI s).toNatClampNeg = s := nI_clamp (by omega)
      have step : ∀ v : Int64, v = lN (mk_bv (mk_w wt) N phi psi 0 s) → ∀ t, t < s + 1 → vp_updL p s v t = lN (mk_bv (mk_w wt) N phi psi 0 t) := by
        intro v hv t ht
        by_cases e : t = s
        · subst e; rw [pk_uLs]; exact hv
        · rw [pk_uLn e]; exact hp t (by omega)
      refine ⟨hin, ?_⟩
      rw [hc]
      refine mk_bc' (h2 s h) (fun e2 => ⟨hin, ?_⟩) (fun e2 => ⟨hin, ?_⟩)
      · refine nm_e (nm_r (nI_1 s) (ih (s + 1) _ (by omega) (by omega) (step _ ?_)))
        show _ = lN (if psi s = true then 1 else 0)
        rw [e2]; rfl
      · refine nm_e (nm_r (nI_1 s) (ih (s + 1) _ (by omega) (by omega) (step _ ?_)))
        show _ = lN (if psi s = true then 1 else 0)
        rw [e2]; rfl
theorem my_bo {post : SY → Prop} {i B : Nat} {phi psi : Nat → Bool} (hN : N ≤ 12) (hW : mk_W wt N) (hi : i < 16) (hB : B ≤ 8) (h1 : mk_ba N ph phi) (h2 : mk_ba N ps psi) (k : ∀ q q' p p' : Nat → Int64, mk_cell N i vn q (mk_bn (mk_w wt) N phi psi B) → mk_cell N i vd q' (mk_bm (mk_w wt) N phi psi B) → post ((nI N), nd, vl, wt, lb, kd, fi, se, nc, ne, th, q, q', ph, ps, ze, oe, ma, p, p', ix, po, mt)) : (wpY_bounded post ((nI N), nd, vl, wt, lb, kd, fi, se, nc, ne, th, vn, vd, ph, ps, ze, oe, ma, cu, nx, ix, po, mt) (nI i) (nI B)) :=
  ⟨N + 1, my_bo1 hN hW hi hB h1 h2 k (N + 1) 0 cu (by omega) (by omega) (fun t ht => by omega)⟩
end
