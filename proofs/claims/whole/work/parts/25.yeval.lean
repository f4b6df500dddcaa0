/-! the reference: one node, all nodes -/
def mk_ti (i s : Nat) (p : Nat → Bool) (th th' : Nat → Int32) : Prop := (∀ t, t < s → th' (i * 12 + t) = mk_bi (p t)) ∧ ∀ j, (∀ t, t < s → j ≠ i * 12 + t) → th' j = th j
theorem mk_ti_0 {i : Nat} {p : Nat → Bool} {th : Nat → Int32} : mk_ti i 0 p th th := ⟨fun t h => by omega, fun _ _ => rfl⟩
theorem mk_ti_s {i s : Nat} {p : Nat → Bool} {th th' : Nat → Int32} (h : mk_ti i s p th th') : mk_ti i (s + 1) p th (upd th' (i * 12 + s) (mk_bi (p s))) := by
  refine ⟨fun t ht => ?_, fun j hj => ?_⟩
  · by_cases e : t = s
    · rw [e, pk_us]
    · rw [pk_un (by omega)]; exact h.1 t (by omega)
  · rw [pk_un (hj s (by omega))]
    exact h.2 j (fun t ht => hj t (by omega))
theorem mk_ti_old {i s j N : Nat} {p : Nat → Bool} {th th' : Nat → Int32} (h : mk_ti i s p th th') (hs : s < N) (hN : N ≤ 12) : th' (j * 12 + s) = th (j * 12 + s) :=
  h.2 _ (fun t ht => by omega)
section
variable {N : Nat} {nd vl : Int32} {wt lb kd fi se nc ne th ph ps ze oe ma ix po : Nat → Int32} {vn vd cu nx mt : Nat → Int64}
theorem my_evl {post : SY → Prop} {i : Nat} {x2 : Int32} {p : Nat → Bool} (hN : N ≤ 12) (hi : i < 16) (step : ∀ (n s : Nat) (t : Nat → Int32), s < N → mk_ti i s p th t → (wY_evalNode_104 post (nI i) x2 (nI N) nd vl n (nI (s + 1)) wt lb kd fi se nc ne (upd t (i * 12 + s) (mk_bi (p s))) vn vd ph ps ze oe ma cu nx ix po mt) → (wY_evalNode_104 post (nI i) x2 (nI N) nd vl (n + 1) (nI s) wt lb kd fi se nc ne t vn vd ph ps ze oe ma cu nx ix po mt)) (k : ∀ t : Nat → Int32, mk_ti i N p th t → post ((nI N), nd, vl, wt, lb, kd, fi, se, nc, ne, t, vn, vd, ph, ps, ze, oe, ma, cu, nx, ix, po, mt)) : ∀ (n s : Nat) (t : Nat → Int32), s ≤ N → N < n + s → mk_ti i s p th t → (wY_evalNode_104 post (nI i) x2 (nI N) nd vl n (nI s) wt lb kd fi se nc ne t vn vd ph ps ze oe ma cu nx ix po mt) := by
  intro n
  induction n with
  | zero => intro s t h1 h2; omega
  | succ n ih =>
    intro s t h1 h2 ht
    by_cases e : s = N
    · subst e
      exact pk_le s s (fun _ => k t ht) (fun h => absurd h (by omega))
    · exact step n s t (by omega) ht (ih (s + 1) _ (by omega) (by omega) (mk_ti_s ht))
theorem my_ph {post : SY → Prop} {i j l : Nat} (hN : N ≤ 12) (hi : i < 16) (hj : j < 16) (hl : l < 16) (ef : fi i = nI j) (es : se i = nI l) {phi psi : Nat → Bool} (h1 : ∀ s, s < N → th (j * 12 + s) = mk_bi (phi s)) (h2 : ∀ s, s < N → th (l * 12 + s) = mk_bi (psi s)) (k : ∀ a b : Nat → Int32, mk_ba N a phi → mk_ba N b psi → (nc i = -1 → (wpY_unbounded post ((nI N), nd, vl, wt, lb, kd, fi, se, nc, ne, th, vn, vd, a, b, ze, oe, ma, cu, nx, ix, po, mt) (nI i))) ∧ (¬ nc i = -1 → (wpY_bounded post ((nI N), nd, vl, wt, lb, kd, fi, se, nc, ne, th, vn, vd, a, b, ze, oe, ma, cu, nx, ix, po, mt) (nI i) (nc i)))) : ∀ (n s : Nat) (a b : Nat → Int32), s ≤ N → N < n + s → mk_ba s a phi → mk_ba s b psi → (wY_evalNode_14 post (nI i) (nI N) nd vl n (nI s) wt lb kd fi se nc ne th vn vd a b ze oe ma cu nx ix po mt) := by
  intro n
  induction n with
  | zero => intro s a b g1 g2; omega
  | succ n ih =>
    intro s a b g1 g2 ha hb
    have hc : (nI i).toNatClampNeg = i := nI_clamp (by omega)
    have hin : vp_in (nI i) 16 := pk_in i 16 hi
    refine pk_le N s (fun h => ?_) (fun h => ?_)
    · obtain rfl : s = N := by omega
      refine ⟨hin, ?_⟩
      rw [hc]
      obtain ⟨k1, k2⟩ := k a b ha hb
      exact ⟨k1, fun z => ⟨hin, k2 z⟩⟩
    · have hin2 : vp_in (nI s) 12 := pk_in s 12 (by omega)
      have hc2 : (nI s).toNatClampNeg = s := nI_clamp (by omega)
      have put : ∀ (a : Nat → Int32) (p : Nat → Bool), mk_ba s a p → mk_ba (s + 1) (upd a s (mk_bi (p s))) p := by
        intro a p h t ht
        by_cases e : t = s
        · rw [e, pk_us]
        · rw [pk_un e]; exact h t (by omega)
      refine ⟨hin, ?_⟩
      rw [hc, ef]
      refine ⟨pk_in (j * 12 + s) 192 (by omega) (mk_i12 j s), hin2, ?_⟩
      rw [mk_i12, nI_clamp (show j * 12 + s < 2 ^ 31 by omega), hc2, h1 s h, mk_bi_n]
      refine nm_e ⟨hin, ?_⟩
      rw [es]
      refine ⟨pk_in (l * 12 + s) 192 (by omega) (mk_i12 l s), hin2, ?_⟩
      rw [mk_i12, nI_clamp (show l * 12 + s < 2 ^ 31 by omega), h2 s h, mk_bi_n]
      exact nm_e (nm_r (nI_1 s) (ih (s + 1) _ _ (by omega) (by omega) (put a phi ha) (put b psi hb)))
end
section
variable {N : Nat} {nd vl : Int32} {wt lb kd fi se nc ne th ph ps ze oe ma ix po : Nat → Int32} {vn vd cu nx mt : Nat → Int64}
theorem my_stJ {post : SY → Prop} {n i s : Nat} {x2 : Int32} {b : Bool} {t : Nat → Int32} (hN : N ≤ 12) (hi : i < 16) (hs : s < N) (k : (wY_evalNode_104 post (nI i) x2 (nI N) nd vl n (nI (s + 1)) wt lb kd fi se nc ne (upd t (i * 12 + s) (mk_bi b)) vn vd ph ps ze oe ma cu nx ix po mt)) : (wY_evalNode_250 post (wY_evalNode_104 post (nI i) x2 (nI N) nd vl n) (nI i) x2 (nI s) (mk_bi b) (nI N) nd vl wt lb kd fi se nc ne t vn vd ph ps ze oe ma cu nx ix po mt) := by
  refine ⟨pk_in (i * 12 + s) 192 (by omega) (mk_i12 i s), ?_⟩
  rw [mk_i12, nI_clamp (by omega), mk_bi_n]
  exact nm_e (nm_r (nI_1 s) k)
theorem my_st1 {post : SY → Prop} {i a : Nat} (hN : N ≤ 12) (hi : i < 16) (ha : a ≤ 4) (ef : fi i = nI a) : ∀ (n s : Nat) (t : Nat → Int32), s < N → mk_ti i s (mk_at lb a) th t → (wY_evalNode_104 post (nI i) 1 (nI N) nd vl n (nI (s + 1)) wt lb kd fi se nc ne (upd t (i * 12 + s) (mk_bi (mk_at lb a s))) vn vd ph ps ze oe ma cu nx ix po mt) → (wY_evalNode_104 post (nI i) 1 (nI N) nd vl (n + 1) (nI s) wt lb kd fi se nc ne t vn vd ph ps ze oe ma cu nx ix po mt) := by
  intro n s t hs ht k
  refine pk_le N s (fun h => absurd h (by omega)) (fun _ => br_t rfl ⟨pk_in i 16 hi, ?_⟩)
  rw [nI_clamp (show i < 2 ^ 31 by omega), ef]
  by_cases h4 : a = 4
  · have e : mk_at lb a s = true := if_pos h4
    rw [e] at k
    exact br_t (by rw [h4]; rfl) (my_stJ (b := true) hN hi hs k)
  · have e : mk_at lb a s = mk_lb (lb s) (nI a) := if_neg h4
    have hne : ¬ nI a = 4 := fun z => h4 ((nI_eq (b := 4) (by omega) (by omega)).mp z)
    refine br_f hne ⟨pk_in s 12 (by omega), pk_in i 16 hi, ?_⟩
    rw [nI_clamp (show s < 2 ^ 31 by omega)]
    by_cases z : ((lb s >>> (nI a &&& 31)) &&& 1) = 0
    · rw [e, mk_lb_f z] at k
      exact br_t z (my_stJ (b := false) hN hi hs k)
    · rw [e, mk_lb_t z] at k
      exact br_f z (my_stJ (b := true) hN hi hs k)
theorem my_st2 {post : SY → Prop} {i j : Nat} {tr : Nat → Int32} (hN : N ≤ 12) (hi : i < 16) (hj : j < 16) (ef : fi i = nI j) (htr : mk_tr N tr th) : ∀ (n s : Nat) (t : Nat → Int32), s < N → mk_ti i s (fun s => !bt (tr j) s) th t → (wY_evalNode_104 post (nI i) 2 (nI N) nd vl n (nI (s + 1)) wt lb kd fi se nc ne (upd t (i * 12 + s) (mk_bi (!bt (tr j) s))) vn vd ph ps ze oe ma cu nx ix po mt) → (wY_evalNode_104 post (nI i) 2 (nI N) nd vl (n + 1) (nI s) wt lb kd fi se nc ne t vn vd ph ps ze oe ma cu nx ix po mt) := by
  intro n s t hs ht k
  refine pk_le N s (fun h => absurd h (by omega)) (fun _ => br_f (by decide) (br_t rfl ⟨pk_in i 16 hi, ?_⟩))
  rw [nI_clamp (show i < 2 ^ 31 by omega), ef]
  refine ⟨pk_in (j * 12 + s) 192 (by omega) (mk_i12 j s), ?_⟩
  rw [mk_i12, nI_clamp (show j * 12 + s < 2 ^ 31 by omega)]
  have e : t (j * 12 + s) = mk_bi (bt (tr j) s) := by rw [mk_ti_old ht hs hN, (htr j hj).2 s hs]
  refine mk_bc' e (fun z => ?_) (fun z => ?_)
  · rw [z] at k
    exact my_stJ (b := true) hN hi hs k
  · rw [z] at k
    exact my_stJ (b := false) hN hi hs k
theorem my_st3 {post : SY → Prop} {i j l : Nat} {tr : Nat → Int32} (hN : N ≤ 12) (hi : i < 16) (hj : j < 16) (hl : l < 16) (ef : fi i = nI j) (es : se i = nI l) (htr : mk_tr N tr th) : ∀ (n s : Nat) (t : Nat → Int32), s < N → mk_ti i s (fun s => bt (tr j) s && bt (tr l) s) th t → (wY_evalNode_104 post (nI i) 3 (nI N) nd vl n (nI (s + 1)) wt lb kd fi se nc ne (upd t (i * 12 + s) (mk_bi (bt (tr j) s && bt (tr l) s))) vn vd ph ps ze oe ma cu nx ix po mt) → (wY_evalNode_104 post (nI i) 3 (nI N) nd vl (n + 1) (nI s) wt lb kd fi se nc ne t vn vd ph ps ze oe ma cu nx ix po mt) := by
  intro n s t hs ht k
  refine pk_le N s (fun h => absurd h (by omega)) (fun _ => br_f (by decide) (br_f (by decide) (br_t rfl ⟨pk_in i 16 hi, ?_⟩)))
  rw [nI_clamp (show i < 2 ^ 31 by omega), ef]
  refine ⟨pk_in (j * 12 + s) 192 (by omega) (mk_i12 j s), ?_⟩
  rw [mk_i12, nI_clamp (show j * 12 + s < 2 ^ 31 by omega)]
  have e : t (j * 12 + s) = mk_bi (bt (tr j) s) := by rw [mk_ti_old ht hs hN, (htr j hj).2 s hs]
  have e' : t (l * 12 + s) = mk_bi (bt (tr l) s) := by rw [mk_ti_old ht hs hN, (htr l hl).2 s hs]
  refine mk_bc' e (fun z => ?_) (fun z => ⟨pk_in i 16 hi, ?_⟩)
  · rw [z, Bool.false_and] at k
    exact my_stJ (b := false) hN hi hs k
  · rw [es]
    refine ⟨pk_in (l * 12 + s) 192 (by omega) (mk_i12 l s), ?_⟩
    rw [mk_i12, nI_clamp (show l * 12 + s < 2 ^ 31 by omega)]
    refine mk_bc' e' (fun z' => ?_) (fun z' => ?_)
    · rw [z', Bool.and_false] at k
      exact my_stJ (b := false) hN hi hs k
    · rw [z, z', Bool.true_and] at k
      exact my_stJ (b := true) hN hi hs k
theorem my_st5 {post : SY → Prop} {i j : Nat} (hN : N ≤ 12) (hi : i < 16) (hj : j < 16) (ef : fi i = nI j) : ∀ (n s : Nat) (t : Nat → Int32), s < N → mk_ti i s (mk_cq vn vd j (se i) (nc i) (ne i)) th t → (wY_evalNode_104 post (nI i) 5 (nI N) nd vl n (nI (s + 1)) wt lb kd fi se nc ne (upd t (i * 12 + s) (mk_bi (mk_cq vn vd j (se i) (nc i) (ne i) s))) vn vd ph ps ze oe ma cu nx ix po mt) → (wY_evalNode_104 post (nI i) 5 (nI N) nd vl (n + 1) (nI s) wt lb kd fi se nc ne t vn vd ph ps ze oe ma cu nx ix po mt) := by
  intro n s t hs ht k
  refine pk_le N s (fun h => absurd h (by omega)) (fun _ => br_f (by decide) (br_f (by decide) (br_f (by decide) ?_)))
  exact my_compare hi hj (by omega) ef (my_stJ hN hi hs k)
theorem my_ev {post : SY → Prop} {i : Nat} {bo tn td tr tr' : Nat → Int32} {vn' vd' : Nat → Int64} (hN : N ≤ 12) (hW : mk_W wt N) (hi : i < 16) (hev : mk_Ev N wt lb kd fi se bo tn td i tr vn vd tr' vn' vd') (h4 : kd i = 4 → nc i = bo i) (h5 : kd i = 5 → nc i = tn i ∧ ne i = td i) (htr : mk_tr N tr th) (k : ∀ (t a b c d e f g : Nat → Int32) (p q r : Nat → Int64), mk_tr N tr' t → post ((nI N), nd, vl, wt, lb, kd, fi, se, nc, ne, t, vn', vd', a, b, c, d, e, p, q, f, g, r)) : (wpY_evalNode post ((nI N), nd, vl, wt, lb, kd, fi, se, nc, ne, th, vn, vd, ph, ps, ze, oe, ma, cu, nx, ix, po, mt) (nI i)) := by
  unfold wpY_evalNode
  have hc : (nI i).toNatClampNeg = i := nI_clamp (by omega)
  refine ⟨pk_in i 16 hi, ?_⟩
  rw [hc]
  refine nm_e ?_
  rcases hev with ⟨hk, a, x, ha, ef, hx, e1, e2, e3⟩ | ⟨hk, j, x, hj, ef, hx, e1, e2, e3⟩ | ⟨hk, j, l, x, hj, hl, ef, es, hx, e1, e2, e3⟩ | ⟨hk, j, l, hj, hl, ef, es, e1, hv⟩ | ⟨hk, j, x, hj, ef, hx, e1, e2, e3⟩
  · subst e1 e2 e3
    refine br_f (by rw [hk]; decide) ?_
    rw [hk]
    exact ⟨N + 1, my_evl hN hi (my_st1 hN hi ha ef) (fun t ht => k t _ _ _ _ _ _ _ _ _ _ (mk_tr_put htr hN hx ht.1 ht.2)) (N + 1) 0 th (by omega) (by omega) mk_ti_0⟩
  · subst e1 e2 e3
    refine br_f (by rw [hk]; decide) ?_
    rw [hk]
    exact ⟨N + 1, my_evl hN hi (my_st2 hN hi hj ef htr) (fun t ht => k t _ _ _ _ _ _ _ _ _ _ (mk_tr_put htr hN hx ht.1 ht.2)) (N + 1) 0 th (by omega) (by omega) mk_ti_0⟩
  · subst e1 e2 e3
    refine br_f (by rw [hk]; decide) ?_
    rw [hk]
    exact ⟨N + 1, my_evl hN hi (my_st3 hN hi hj hl ef es htr) (fun t ht => k t _ _ _ _ _ _ _ _ _ _ (mk_tr_put htr hN hx ht.1 ht.2)) (N + 1) 0 th (by omega) (by omega) mk_ti_0⟩
  · subst e1
    refine br_t hk ⟨N + 1, my_ph hN hi hj hl ef es (htr j hj).2 (htr l hl).2 (fun a b hA hB => ?_) (N + 1) 0 ph ps (by omega) (by omega) (fun t h => by omega) (fun t h => by omega)⟩
    rw [h4 hk]
    rcases hv with ⟨hb, c1, c2⟩ | ⟨B, hB', hb, c1, c2⟩
    · refine br_t hb (my_ub (ph := a) (ps := b) hN hW hi (fun s hs => mk_bs_lt (htr l hl).1 hs) hA hB (fun q q' z a' b' c' d' e' g1 g2 => ?_))
      rw [mk_cell_u g1 c1, mk_cell_u g2 c2]
      exact k th a b a' b' c' d' e' _ _ _ htr
    · refine br_f (by rw [hb]; exact mk_nm1 B (by omega)) ?_
      rw [hb]
      refine my_bo (ph := a) (ps := b) hN hW hi hB' hA hB (fun q q' p p' g1 g2 => ?_)
      rw [mk_cell_u g1 c1, mk_cell_u g2 c2]
      exact k th a b _ _ _ _ _ _ _ _ htr
  · subst e1 e2 e3
    obtain ⟨f1, f2⟩ := h5 hk
    refine br_f (by rw [hk]; decide) ?_
    rw [hk]
    rw [← f1, ← f2] at hx
    exact ⟨N + 1, my_evl hN hi (my_st5 hN hi hj ef) (fun t ht => k t _ _ _ _ _ _ _ _ _ _ (mk_tr_put htr hN hx ht.1 ht.2)) (N + 1) 0 th (by omega) (by omega) mk_ti_0⟩
theorem my_ck2 {post : Int32 → SY → Prop} {C : Nat} {bo tn td : Nat → Int32} (hN : N ≤ 12) (hW : mk_W wt N) (hC : C ≤ 16) (h4 : ∀ i, i < C → kd i = 4 → nc i = bo i) (h5 : ∀ i, i < C → kd i = 5 → nc i = tn i ∧ ne i = td i) {tr' : Nat → Int32} {vn' vd' : Nat → Int64} : ∀ (d n i : Nat) (tr th ph ps ze oe ma ix po : Nat → Int32) (vn vd cu nx mt : Nat → Int64), i + d = C → d < n → mk_tr N tr th → mk_Ch N wt lb kd fi se bo tn td d i tr vn vd tr' vn' vd' → (∀ (t a b c d e f g : Nat → Int32) (p q r : Nat → Int64), mk_tr N tr' t → post 0 ((nI N), (nI C), 1, wt, lb, kd, fi, se, nc, ne, t, vn', vd', a, b, c, d, e, p, q, f, g, r)) → (wY_check_29 post n (nI i) (nI N) (nI C) vl wt lb kd fi se nc ne th vn vd ph ps ze oe ma cu nx ix po mt) := by
  intro d
  induction d with
  | zero =>
    intro n i tr th ph ps ze oe ma ix po vn vd cu nx mt h1 h2 ht hch k
    obtain ⟨n, rfl⟩ : ∃ m, n = m + 1 := ⟨n - 1, by omega⟩
    obtain rfl : i = C := by omega
    obtain ⟨e1, e2, e3⟩ := hch
    subst e1 e2 e3
    exact pk_le i i (fun _ => k th ph ps ze oe ma ix po cu nx mt ht) (fun h => absurd h (by omega))
  | succ d ih =>
    intro n i tr th ph ps ze oe ma ix po vn vd cu nx mt h1 h2 ht hch k
    obtain ⟨n, rfl⟩ : ∃ m, n = m + 1 := ⟨n - 1, by omega⟩
    obtain ⟨a, b, c, hev, hch'⟩ := hch
    refine pk_le C i (fun h => absurd h (by omega)) (fun h => ?_)
    refine my_ev hN hW (by omega) hev (h4 i h) (h5 i h) ht (fun t a1 a2 a3 a4 a5 a6 a7 p q r ht' => ?_)
    exact nm_r (nI_1 i) (ih n (i + 1) a t a1 a2 a3 a4 a5 a6 a7 b c p q r (by omega) (by omega) ht' hch' k)
theorem my_ck1 {post : Int32 → SY → Prop} {C : Nat} (hN : N ≤ 12) (hW : mk_W wt N) (k0 : (∃ s, s < N ∧ mk_t (mk_w wt s) N = 0) → post (-3) ((nI N), (nI C), vl, wt, lb, kd, fi, se, nc, ne, th, vn, vd, ph, ps, ze, oe, ma, cu, nx, ix, po, mt)) (k : (∀ s, s < N → mk_t (mk_w wt s) N ≠ 0) → ∃ n, (wY_check_29 post n 0 (nI N) (nI C) vl wt lb kd fi se nc ne th vn vd ph ps ze oe ma cu nx ix po mt)) : ∀ n s : Nat, s ≤ N → N < n + s → (∀ t, t < s → mk_t (mk_w wt t) N ≠ 0) → (wY_check_2 post (nI N) (nI C) vl wt lb kd fi se nc ne th vn vd ph ps ze oe ma cu nx ix po mt n (nI s)) := by
  intro n
  induction n with
  | zero => intro s h1 h2; omega
  | succ n ih =>
    intro s h1 h2 hs
    refine pk_le N s (fun h => ?_) (fun h => ?_)
    · obtain rfl : s = N := by omega
      exact k hs
    · have h4 := (hW s h).2
      refine my_rowTotal hN hW h ?_
      refine pk_eq (mk_t (mk_w wt s) N) 0 (fun e => k0 ⟨s, h, e⟩) (fun e => ?_)
      refine nm_r (nI_1 s) (ih (s + 1) (by omega) (by omega) (fun t ht => ?_))
      by_cases g : t = s
      · rw [g]; exact e
      · exact hs t (by omega)
end
