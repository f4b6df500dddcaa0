/-! the component: common divisors, stored values, the bounded until -/
theorem mk_gne {a b : Nat} (hb : b < 2 ^ 62) (h0 : 0 < b) : ¬ lN (Nat.gcd a b) = 0 := by
  intro z
  have hg : 0 < Nat.gcd a b := Nat.gcd_pos_of_pos_right a h0
  have hgb : Nat.gcd a b ≤ b := Nat.gcd_le_right a h0
  have := (pk_lEQ (a := Nat.gcd a b) (b := 0) (by omega) (by omega)).mp z
  omega
section
variable {N : Nat} {nd vl : Int32} {wt lb kd fi se bo tn td tr un : Nat → Int32} {vn vd pa np mx : Nat → Int64}
theorem mx_gcd_l {post : Int64 → Prop} : ∀ (f n a b : Nat), f ≤ 128 → f < n → a < 2 ^ 62 → b < 2 ^ 62 → post (lN (mk_e f a b)) → (wX_commonDivisor_9 post n (lN a) (lN b) (nI (128 - f))) := by
  intro f
  induction f with
  | zero =>
    intro n a b _ hn _ _ k
    obtain ⟨n, rfl⟩ : ∃ m, n = m + 1 := ⟨n - 1, by omega⟩
    exact pk_le 128 128 (fun _ => k) (fun h => absurd h (by omega))
  | succ f ih =>
    intro n a b hf hn ha hb k
    obtain ⟨n, rfl⟩ : ∃ m, n = m + 1 := ⟨n - 1, by omega⟩
    refine pk_le 128 (128 - (f + 1)) (fun h => absurd h (by omega)) (fun _ => ?_)
    by_cases e : b = 0
    · subst e
      rw [mk_e_0] at k
      exact br_t rfl k
    · have hne : ¬ lN b = 0 := fun z => e ((pk_lEQ (b := 0) (by omega) (by omega)).mp z)
      rw [mk_e_s _ _ e] at k
      have hm := Nat.mod_lt a (show 0 < b by omega)
      refine br_f hne ⟨hne, nm_r (pk_lRem (by omega) (by omega) (by omega)) ?_⟩
      refine nm_r (e' := nI (128 - f)) ?_ (ih n b (a % b) (by omega) (by omega) hb (by omega) k)
      rw [nI_1]; congr 1; omega
theorem mx_gcd {post : Int64 → Prop} {a b : Nat} (ha : a < 2 ^ 62) (hb : b < 2 ^ 62) (k : post (lN (Nat.gcd a b))) : (wpX_commonDivisor post () (lN a) (lN b)) := by
  have h := mx_gcd_l (post := post) 128 129 a b (by omega) (by omega) ha hb (by rw [mk_e_gcd 62 a b 128 hb (by omega)]; exact k)
  rw [Nat.sub_self] at h
  exact ⟨129, h⟩
theorem mx_store {post : St2 → Prop} {i s a b : Nat} (hi : i < 16) (hs : s < 12) (ha : a < 2 ^ 62) (hb : b < 2 ^ 62) (h0 : 0 < b) (k : post ((nI N), nd, vl, wt, lb, kd, fi, se, bo, tn, td, tr, (vp_updL vn (i * 12 + s) (lN (a / Nat.gcd a b))), (vp_updL vd (i * 12 + s) (lN (b / Nat.gcd a b))), pa, np, un, mx)) : (wpX_storeValue post ((nI N), nd, vl, wt, lb, kd, fi, se, bo, tn, td, tr, vn, vd, pa, np, un, mx) (nI i) (nI s) (lN a) (lN b)) := by
  unfold wpX_storeValue
  have hg : 0 < Nat.gcd a b := Nat.gcd_pos_of_pos_right a h0
  have hgb : Nat.gcd a b ≤ b := Nat.gcd_le_right a h0
  have hne := mk_gne (a := a) hb h0
  have hc : (nI i * 12 + nI s).toNatClampNeg = i * 12 + s := by rw [mk_i12, nI_clamp (by omega)]
  have hin : vp_in (nI i * 12 + nI s) 192 := pk_in (i * 12 + s) 192 (by omega) (mk_i12 i s)
  refine mx_gcd ha hb ?_
  refine br_f hne ⟨hne, hin, ?_⟩
  rw [hc, pk_lDiv (by omega) hg (by omega), pk_lDiv (by omega) hg (by omega)]
  exact nm_e ⟨hne, hin, nm_e k⟩
theorem mx_sp_l {post : Int64 → Prop} {s : Nat} {b : Nat → Nat} (hN : N ≤ 12) (hW : mk_W wt N) (hs : s < N) (hb : ∀ t, t < N → pa t = lN (b t)) (k : post (lN (mk_t (fun t => mk_w wt s t * b t) N * (12 / mk_t (mk_w wt s) N)))) : ∀ n t : Nat, t ≤ N → N < n + t → (wX_successorParts_7 post (nI s) (nI N) nd vl wt lb kd fi se bo tn td tr vn vd pa np un mx n (nI (mk_t (mk_w wt s) t)) (lN (mk_t (fun t => mk_w wt s t * b t) t)) (nI t)) := by
  intro n
  induction n with
  | zero => intro t h1 h2; omega
  | succ n ih =>
    intro t h1 h2
    refine pk_le N t (fun h => ?_) (fun h => ⟨pk_in (s * 12 + t) 144 (by omega) (mk_i12 s t), ?_⟩)
    · obtain rfl : t = N := by omega
      have h4 := (hW s hs).2
      refine mk_pos (mk_t (mk_w wt s) t) rfl (by omega) (fun g => ?_) (fun g => ?_)
      · rw [g, Nat.div_zero, Nat.mul_zero] at k
        exact k
      · have hne : ¬ nI (mk_t (mk_w wt s) t) = 0 := nI_ne0 g (by omega)
        refine ⟨hne, ?_⟩
        rw [show (12 : Int32) = nI 12 from rfl, pk_div (by omega) g (by omega), nI_l (Nat.lt_of_le_of_lt (Nat.div_le_self _ _) (by omega)), lN_mul]
        exact k
    · have hw := mk_W_le hW hs h
      refine nm_r (e' := nI (mk_w wt s t)) (by rw [mk_i12, nI_clamp (by omega), (hW s hs).1 t h]) ?_
      refine nm_r (e' := nI (mk_t (mk_w wt s) (t + 1))) (nI_add _ _) ⟨pk_in t 12 (by omega), ?_⟩
      refine nm_r (e' := lN (mk_t (fun t => mk_w wt s t * b t) (t + 1))) ?_ (nm_r (nI_1 t) (ih (t + 1) (by omega) (by omega)))
      rw [nI_clamp (by omega), hb t h, nI_l (by omega), lN_mul, lN_add]; rfl
theorem mx_sp {post : Int64 → Prop} {s : Nat} {b : Nat → Nat} (hN : N ≤ 12) (hW : mk_W wt N) (hs : s < N) (hb : ∀ t, t < N → pa t = lN (b t)) (k : post (lN (mk_t (fun t => mk_w wt s t * b t) N * (12 / mk_t (mk_w wt s) N)))) : (wpX_successorParts post ((nI N), nd, vl, wt, lb, kd, fi, se, bo, tn, td, tr, vn, vd, pa, np, un, mx) (nI s)) :=
  ⟨N + 1, mx_sp_l hN hW hs hb k (N + 1) 0 (by omega) (by omega)⟩
theorem mx_ts2 {post : St2 → Prop} {F : Nat → Int64} (hN : N ≤ 12) (hF : ∀ s, s < N → np s = F s) (k : ∀ q : Nat → Int64, (∀ s, s < N → q s = F s) → post ((nI N), nd, vl, wt, lb, kd, fi, se, bo, tn, td, tr, vn, vd, q, np, un, mx)) : ∀ (n s : Nat) (q : Nat → Int64), s ≤ N → N < n + s → (∀ t, t < s → q t = F t) → (wX_takeStep_74 post (nI N) nd vl n (nI s) wt lb kd fi se bo tn td tr vn vd q np un mx) := by
  intro n
  induction n with
  | zero => intro s q h1 h2; omega
  | succ n ih =>
    intro s q h1 h2 hq
    refine pk_le N s (fun h => ?_) (fun h => ⟨pk_in s 12 (by omega), pk_in s 12 (by omega), ?_⟩)
    · obtain rfl : s = N := by omega
      exact k q hq
    · rw [nI_clamp (by omega)]
      refine nm_e (nm_r (nI_1 s) (ih (s + 1) _ (by omega) (by omega) (fun t ht => ?_)))
      by_cases e : t = s
      · subst e; rw [pk_uLs]; exact hF t h
      · rw [pk_uLn e]; exact hq t (by omega)
theorem mx_ts1 {post : St2 → Prop} {x1 x2 : Int32} {phi psi : Nat → Bool} {K : Nat} (hN : N ≤ 12) (hW : mk_W wt N) (h1 : mk_bs N x1 phi) (h2 : mk_bs N x2 psi) (hb : ∀ t, t < N → pa t = lN (mk_bv (mk_w wt) N phi psi K t)) (k : ∀ q q' : Nat → Int64, (∀ s, s < N → q s = lN (mk_bv (mk_w wt) N phi psi (K + 1) s)) → post ((nI N), nd, vl, wt, lb, kd, fi, se, bo, tn, td, tr, vn, vd, q, q', un, mx)) : ∀ (n s : Nat) (q : Nat → Int64), s ≤ N → N < n + s → (∀ t, t < s → q t = lN (mk_bv (mk_w wt) N phi psi (K + 1) t)) → (wX_takeStep_3 post x1 x2 (lN (12 ^ (K + 1))) (nI N) nd vl n (nI s) wt lb kd fi se bo tn td tr vn vd pa q un mx) := by
  intro n
  induction n with
  | zero => intro s q h1 h2; omega
  | succ n ih =>
    intro s q g1 g2 hq
    refine pk_le N s (fun h => ?_) (fun h => ?_)
    · obtain rfl : s = N := by omega
      exact ⟨s + 1, mx_ts2 (np := q) hN hq (fun q' hq' => k q' q hq') (s + 1) 0 pa (by omega) (by omega) (fun t ht => by omega)⟩
    · have hin : vp_in (nI s) 12 := pk_in s 12 (by omega)
      have hc : (nI s).toNatClampNeg = s := nI_clamp (by omega)
      have step : ∀ v : Int64, v = lN (mk_bv (mk_w wt) N phi psi (K + 1) s) → ∀ t, t < s + 1 → vp_updL q s v t = lN (mk_bv (mk_w wt) N phi psi (K + 1) t) := by
        intro v hv t ht
        by_cases e : t = s
        · subst e; rw [pk_uLs]; exact hv
        · rw [pk_uLn e]; exact hq t (by omega)
      refine mx_has h2 h hN (mk_bc (fun e2 => ?_) (fun e2 => ?_))
      · refine mx_has h1 h hN (mk_bc (fun e1 => ?_) (fun e1 => ?_))
        · refine ⟨hin, ?_⟩
          rw [hc]
          refine nm_e (nm_r (nI_1 s) (ih (s + 1) _ (by omega) (by omega) (step 0 ?_)))
          show 0 = lN (if psi s = true then _ else if phi s = true then _ else 0)
          rw [e2, e1]; rfl
        · refine mx_sp hN hW h hb ⟨hin, ?_⟩
          rw [hc]
          refine nm_e (nm_r (nI_1 s) (ih (s + 1) _ (by omega) (by omega) (step _ ?_)))
          show _ = lN (if psi s = true then _ else if phi s = true then _ else 0)
          rw [e2, e1]; rfl
      · refine ⟨hin, ?_⟩
        rw [hc]
        refine nm_e (nm_r (nI_1 s) (ih (s + 1) _ (by omega) (by omega) (step _ ?_)))
        show _ = lN (if psi s = true then _ else _)
        rw [e2]; rfl
theorem mx_ts {post : St2 → Prop} {x1 x2 : Int32} {phi psi : Nat → Bool} {K : Nat} (hN : N ≤ 12) (hW : mk_W wt N) (h1 : mk_bs N x1 phi) (h2 : mk_bs N x2 psi) (hb : ∀ t, t < N → pa t = lN (mk_bv (mk_w wt) N phi psi K t)) (k : ∀ q q' : Nat → Int64, (∀ s, s < N → q s = lN (mk_bv (mk_w wt) N phi psi (K + 1) s)) → post ((nI N), nd, vl, wt, lb, kd, fi, se, bo, tn, td, tr, vn, vd, q, q', un, mx)) : (wpX_takeStep post ((nI N), nd, vl, wt, lb, kd, fi, se, bo, tn, td, tr, vn, vd, pa, np, un, mx) x1 x2 (lN (12 ^ (K + 1)))) :=
  ⟨N + 1, mx_ts1 hN hW h1 h2 hb k (N + 1) 0 np (by omega) (by omega) (fun t ht => by omega)⟩
def mk_bn (w : Nat → Nat → Nat) (N : Nat) (phi psi : Nat → Bool) (K s : Nat) : Int64 := lN (mk_bv w N phi psi K s / Nat.gcd (mk_bv w N phi psi K s) (12 ^ K))
def mk_bm (w : Nat → Nat → Nat) (N : Nat) (phi psi : Nat → Bool) (K s : Nat) : Int64 := lN (12 ^ K / Nat.gcd (mk_bv w N phi psi K s) (12 ^ K))
theorem mx_eb3 {post : St2 → Prop} {i K : Nat} {phi psi : Nat → Bool} {vn0 vd0 : Nat → Int64} (hN : N ≤ 12) (hi : i < 16) (hK : K ≤ 8) (hb : ∀ t, t < N → pa t = lN (mk_bv (mk_w wt) N phi psi K t)) (k : ∀ q q' : Nat → Int64, mk_cell N i vn0 q (mk_bn (mk_w wt) N phi psi K) → mk_cell N i vd0 q' (mk_bm (mk_w wt) N phi psi K) → post ((nI N), nd, vl, wt, lb, kd, fi, se, bo, tn, td, tr, q, q', pa, np, un, mx)) : ∀ (n s : Nat) (q q' : Nat → Int64), s ≤ N → N < n + s → mk_cell s i vn0 q (mk_bn (mk_w wt) N phi psi K) → mk_cell s i vd0 q' (mk_bm (mk_w wt) N phi psi K) → (wX_evaluateBounded_105 post (nI i) (lN (12 ^ K)) n (nI s) (nI N) nd vl wt lb kd fi se bo tn td tr q q' pa np un mx) := by
  intro n
  induction n with
  | zero => intro s q q' h1 h2; omega
  | succ n ih =>
    intro s q q' h1 h2 hq hq'
    have hp := mk_12 K hK
    refine pk_le N s (fun h => ?_) (fun h => ⟨pk_in s 12 (by omega), ?_⟩)
    · obtain rfl : s = N := by omega
      exact k q q' hq hq'
    · have hle := mk_bv_le (mk_w wt) N phi psi K s
      rw [nI_clamp (by omega), hb s h]
      refine mx_store hi (by omega) (by omega) (by omega) hp.2 ?_
      exact nm_r (nI_1 s) (ih (s + 1) _ _ (by omega) (by omega) (mk_cell_s hq) (mk_cell_s hq'))
theorem mx_eb2 {post : St2 → Prop} {x2 x3 : Int32} {i B : Nat} {phi psi : Nat → Bool} (hN : N ≤ 12) (hW : mk_W wt N) (hi : i < 16) (hB : B ≤ 8) (hbo : bo i = nI B) (h1 : mk_bs N x2 phi) (h2 : mk_bs N x3 psi) (k : ∀ q q' p p' : Nat → Int64, mk_cell N i vn q (mk_bn (mk_w wt) N phi psi B) → mk_cell N i vd q' (mk_bm (mk_w wt) N phi psi B) → post ((nI N), nd, vl, wt, lb, kd, fi, se, bo, tn, td, tr, q, q', p, p', un, mx)) : ∀ (n K : Nat) (p p' : Nat → Int64), K ≤ B → B < n + K → (∀ t, t < N → p t = lN (mk_bv (mk_w wt) N phi psi K t)) → (wX_evaluateBounded_69 post (nI i) x2 x3 n (lN (12 ^ K)) (nI K) (nI N) nd vl wt lb kd fi se bo tn td tr vn vd p p' un mx) := by
  intro n
  induction n with
  | zero => intro K p p' g1 g2; omega
  | succ n ih =>
    intro K p p' g1 g2 hp
    refine ⟨pk_in i 16 hi, ?_⟩
    rw [nI_clamp (show i < 2 ^ 31 by omega), hbo]
    refine pk_le B K (fun h => ?_) (fun h => ?_)
    · obtain rfl : K = B := by omega
      exact ⟨N + 1, mx_eb3 (pa := p) (np := p') hN hi hB hp (fun q q' a b => k q q' p p' a b) (N + 1) 0 vn vd (by omega) (by omega) mk_cell_0 mk_cell_0⟩
    · refine nm_r (e' := lN (12 ^ (K + 1))) (by rw [show (12 : Int64) = lN 12 from rfl, lN_mul, Nat.pow_succ]) ?_
      refine mx_ts hN hW h1 h2 hp (fun q q' hq => ?_)
      exact nm_r (nI_1 K) (ih (K + 1) q q' (by omega) (by omega) hq)
theorem mx_eb1 {post : St2 → Prop} {x2 x3 : Int32} {i B : Nat} {phi psi : Nat → Bool} (hN : N ≤ 12) (hW : mk_W wt N) (hi : i < 16) (hB : B ≤ 8) (hbo : bo i = nI B) (h1 : mk_bs N x2 phi) (h2 : mk_bs N x3 psi) (k : ∀ q q' p p' : Nat → Int64, mk_cell N i vn q (mk_bn (mk_w wt) N phi psi B) → mk_cell N i vd q' (mk_bm (mk_w wt) N phi psi B) → post ((nI N), nd, vl, wt, lb, kd, fi, se, bo, tn, td, tr, q, q', p, p', un, mx)) : ∀ (n s : Nat) (p : Nat → Int64), s ≤ N → N < n + s → (∀ t, t < s → p t = lN (mk_bv (mk_w wt) N phi psi 0 t)) → (wX_evaluateBounded_30 post (nI i) x2 x3 1 (nI N) nd vl n (nI s) wt lb kd fi se bo tn td tr vn vd p np un mx) := by
  intro n
  induction n with
  | zero => intro s p g1 g2; omega
  | succ n ih =>
    intro s p g1 g2 hp
    refine pk_le N s (fun h => ?_) (fun h => ?_)
    · obtain rfl : s = N := by omega
      exact ⟨B + 1, mx_eb2 hN hW hi hB hbo h1 h2 k (B + 1) 0 p np (by omega) (by omega) hp⟩
    · have hin : vp_in (nI s) 12 := pk_in s 12 (by omega)
      have hc : (nI s).toNatClampNeg = s := nI_clamp (by omega)
      have step : ∀ v : Int64, v = lN (mk_bv (mk_w wt) N phi psi 0 s) → ∀ t, t < s + 1 → vp_updL p s v t = lN (mk_bv (mk_w wt) N phi psi 0 t) := by
        intro v hv t ht
        by_cases e : t = s
        · subst e; rw [pk_uLs]; exact hv
        · rw [pk_uLn e]; exact hp t (by omega)
      refine mx_has h2 h hN (mk_bc (fun e2 => ?_) (fun e2 => ?_))
      · refine ⟨hin, ?_⟩
        rw [hc]
        refine nm_e (nm_r (nI_1 s) (ih (s + 1) _ (by omega) (by omega) (step _ ?_)))
        show _ = lN (if psi s = true then 1 else 0)
        rw [e2]; rfl
      · refine ⟨hin, ?_⟩
        rw [hc]
        refine nm_e (nm_r (nI_1 s) (ih (s + 1) _ (by omega) (by omega) (step _ ?_)))
        show _ = lN (if psi s = true then 1 else 0)
        rw [e2]; rfl
theorem mx_eb {post : St2 → Prop} {i j l B : Nat} (hN : N ≤ 12) (hW : mk_W wt N) (hi : i < 16) (hj : j < 16) (hl : l < 16) (hB : B ≤ 8) (hbo : bo i = nI B) (hfi : fi i = nI j) (hse : se i = nI l) (h1 : mk_bs N (tr j) (bt (tr j))) (h2 : mk_bs N (tr l) (bt (tr l))) (k : ∀ q q' p p' : Nat → Int64, mk_cell N i vn q (mk_bn (mk_w wt) N (bt (tr j)) (bt (tr l)) B) → mk_cell N i vd q' (mk_bm (mk_w wt) N (bt (tr j)) (bt (tr l)) B) → post ((nI N), nd, vl, wt, lb, kd, fi, se, bo, tn, td, tr, q, q', p, p', un, mx)) : (wpX_evaluateBounded post ((nI N), nd, vl, wt, lb, kd, fi, se, bo, tn, td, tr, vn, vd, pa, np, un, mx) (nI i)) := by
  unfold wpX_evaluateBounded
  have hc : (nI i).toNatClampNeg = i := nI_clamp (by omega)
  refine ⟨pk_in i 16 hi, ?_⟩
  rw [hc, hfi]
  refine ⟨pk_in j 16 hj, nm_r (e' := tr j) (by rw [nI_clamp (by omega)]) ⟨pk_in i 16 hi, ?_⟩⟩
  rw [hse]
  refine ⟨pk_in l 16 hl, nm_r (e' := tr l) (by rw [nI_clamp (by omega)]) ?_⟩
  exact ⟨N + 1, mx_eb1 hN hW hi hB hbo h1 h2 k (N + 1) 0 pa (by omega) (by omega) (fun t ht => by omega)⟩
end
