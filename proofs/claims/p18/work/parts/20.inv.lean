/-! what the component keeps, and its methods against it -/
def mk_Val (N C : Nat) (wt kd fi se bo tr : Nat → Int32) (vn vd : Nat → Int64) : Prop :=
  ∀ i, i < C → kd i = 4 → bo i = -1 → ∀ j l, j < 16 → l < 16 → fi i = nI j → se i = nI l → ∀ s, s < N → vn (i * 12 + s) = mk_un wt N (bt (tr j)) (bt (tr l)) s ∧ vd (i * 12 + s) = mk_um wt N (bt (tr j)) (bt (tr l)) s
def mk_Od (kd fi se : Nat → Int32) (i : Nat) : Prop := kd i = 4 → ∃ j l, j < i ∧ l < i ∧ fi i = nI j ∧ se i = nI l ∧ ¬ kd j = 4 ∧ ¬ kd l = 4
def mk_K (N C : Nat) (vl : Int32) (wt kd fi se bo tr : Nat → Int32) (vn vd : Nat → Int64) : Prop :=
  2 ≤ N ∧ N ≤ 12 ∧ C ≤ 16 ∧ mk_W wt N ∧ (∀ i, i < C → mk_Nd kd fi se bo i ∧ mk_Od kd fi se i) ∧ mk_Tb N tr ∧ (vl = 0 ∨ (vl = 1 ∧ mk_Val N C wt kd fi se bo tr vn vd))
theorem mk_Ch_keep {N : Nat} {wt lb kd fi se bo tn td : Nat → Int32} (hN : N ≤ 12) : ∀ (d i : Nat) {tr : Nat → Int32} {vn vd : Nat → Int64} {tr' : Nat → Int32} {vn' vd' : Nat → Int64}, mk_Ch N wt lb kd fi se bo tn td d i tr vn vd tr' vn' vd' → (∀ b, b < i → tr' b = tr b) ∧ ∀ a s, a < i → s < 12 → vn' (a * 12 + s) = vn (a * 12 + s) ∧ vd' (a * 12 + s) = vd (a * 12 + s) := by
  intro d
  induction d with
  | zero =>
    intro i tr vn vd tr' vn' vd' h
    obtain ⟨e1, e2, e3⟩ := h
    subst e1 e2 e3
    exact ⟨fun _ _ => rfl, fun _ _ _ _ => ⟨rfl, rfl⟩⟩
  | succ d ih =>
    intro i tr vn vd tr' vn' vd' h
    obtain ⟨a, b, c, hev, hch⟩ := h
    obtain ⟨k1, k2⟩ := ih (i + 1) hch
    have h1 : (∀ b, b < i → a b = tr b) ∧ ∀ p s, p < i → s < 12 → b (p * 12 + s) = vn (p * 12 + s) ∧ c (p * 12 + s) = vd (p * 12 + s) := by
      rcases hev with ⟨_, _, x, _, _, _, e1, e2, e3⟩ | ⟨_, _, x, _, _, _, e1, e2, e3⟩ | ⟨_, _, _, x, _, _, _, _, _, e1, e2, e3⟩ | ⟨_, j, l, _, _, _, _, e1, hv⟩ | ⟨_, _, x, _, _, _, e1, e2, e3⟩
      · subst e1 e2 e3
        exact ⟨fun b hb => pk_un (by omega), fun _ _ _ _ => ⟨rfl, rfl⟩⟩
      · subst e1 e2 e3
        exact ⟨fun b hb => pk_un (by omega), fun _ _ _ _ => ⟨rfl, rfl⟩⟩
      · subst e1 e2 e3
        exact ⟨fun b hb => pk_un (by omega), fun _ _ _ _ => ⟨rfl, rfl⟩⟩
      · subst e1
        refine ⟨fun _ _ => rfl, fun p s hp hs => ?_⟩
        rcases hv with ⟨_, c1, c2⟩ | ⟨_, _, _, c1, c2⟩
        · exact ⟨c1.2 _ (fun s' hs' => by omega), c2.2 _ (fun s' hs' => by omega)⟩
        · exact ⟨c1.2 _ (fun s' hs' => by omega), c2.2 _ (fun s' hs' => by omega)⟩
      · subst e1 e2 e3
        exact ⟨fun b hb => pk_un (by omega), fun _ _ _ _ => ⟨rfl, rfl⟩⟩
    refine ⟨fun b hb => ?_, fun p s hp hs => ?_⟩
    · rw [k1 b (by omega), h1.1 b hb]
    · obtain ⟨g1, g2⟩ := k2 p s (by omega) hs
      obtain ⟨g3, g4⟩ := h1.2 p s hp hs
      exact ⟨by rw [g1, g3], by rw [g2, g4]⟩
theorem mk_Ch_val {N C : Nat} {wt lb kd fi se bo tn td : Nat → Int32} (hN : N ≤ 12) (hC : C ≤ 16) (ho : ∀ i, i < C → mk_Od kd fi se i) : ∀ (d i : Nat) {tr : Nat → Int32} {vn vd : Nat → Int64} {tr' : Nat → Int32} {vn' vd' : Nat → Int64}, i + d = C → mk_Ch N wt lb kd fi se bo tn td d i tr vn vd tr' vn' vd' → ∀ p, i ≤ p → p < C → kd p = 4 → bo p = -1 → ∀ j l, j < 16 → l < 16 → fi p = nI j → se p = nI l → ∀ s, s < N → vn' (p * 12 + s) = mk_un wt N (bt (tr' j)) (bt (tr' l)) s ∧ vd' (p * 12 + s) = mk_um wt N (bt (tr' j)) (bt (tr' l)) s := by
  intro d
  induction d with
  | zero => intro i tr vn vd tr' vn' vd' h0 _ p h1 h2; omega
  | succ d ih =>
    intro i tr vn vd tr' vn' vd' h0 h p h1 h2 hk hb j l hj hl ef es s hs
    obtain ⟨a, b, c, hev, hch⟩ := h
    by_cases e : p = i
    · subst e
      obtain ⟨k1, k2⟩ := mk_Ch_keep hN d (p + 1) hch
      obtain ⟨j', l', hj', hl', ef', es', _, _⟩ := ho p h2 hk
      have e1 : j' = j := (nI_eq (by omega) (by omega)).mp (ef'.symm.trans ef)
      have e2 : l' = l := (nI_eq (by omega) (by omega)).mp (es'.symm.trans es)
      rw [e1] at hj'
      rw [e2] at hl'
      obtain ⟨g1, g2⟩ := k2 p s (by omega) (by omega)
      rw [g1, g2, k1 j (by omega), k1 l (by omega)]
      rcases hev with ⟨z, _⟩ | ⟨z, _⟩ | ⟨z, _⟩ | ⟨_, j2, l2, hj2, hl2, ef2, es2, et, hv⟩ | ⟨z, _⟩
      · rw [hk] at z; exact absurd z (by decide)
      · rw [hk] at z; exact absurd z (by decide)
      · rw [hk] at z; exact absurd z (by decide)
      · have e3 : j2 = j := (nI_eq (by omega) (by omega)).mp (ef2.symm.trans ef)
        have e4 : l2 = l := (nI_eq (by omega) (by omega)).mp (es2.symm.trans es)
        subst e3 e4 et
        rcases hv with ⟨_, c1, c2⟩ | ⟨B, hB, z, _, _⟩
        · exact ⟨c1.1 s hs, c2.1 s hs⟩
        · rw [hb] at z
          exact absurd z.symm (mk_nm1 B (by omega))
      · rw [hk] at z; exact absurd z (by decide)
    · exact ih (i + 1) (by omega) hch p (by omega) h2 hk hb j l hj hl ef es s hs
theorem mk_Ch_T {N : Nat} {wt lb kd fi se bo tn td : Nat → Int32} : ∀ (d i : Nat) {tr : Nat → Int32} {vn vd : Nat → Int64} {tr' : Nat → Int32} {vn' vd' : Nat → Int64}, mk_Ch N wt lb kd fi se bo tn td d i tr vn vd tr' vn' vd' → mk_Tb N tr → mk_Tb N tr' := by
  intro d
  induction d with
  | zero =>
    intro i tr vn vd tr' vn' vd' h ht
    obtain ⟨e1, _, _⟩ := h
    subst e1
    exact ht
  | succ d ih =>
    intro i tr vn vd tr' vn' vd' h ht
    obtain ⟨a, b, c, hev, hch⟩ := h
    exact ih (i + 1) hch (mk_Ev_T hev ht)
/-- a weight set, a node appended -/
theorem mk_K_w {N C : Nat} {vl : Int32} {wt kd fi se bo tr : Nat → Int32} {vn vd : Nat → Int64} (h : mk_K N C vl wt kd fi se bo tr vn vd) {s t v : Nat} (hs : s < N) (ht : t < N) (hv : v ≤ 4) (hb : mk_t (mk_w wt s) N + v ≤ 4 + mk_w wt s t) : mk_K N C 0 (upd wt (s * 12 + t) (nI v)) kd fi se bo tr vn vd := by
  obtain ⟨h1, h2, h3, h4, h5, h6, _⟩ := h
  exact ⟨h1, h2, h3, mk_W_upd h2 h4 hs ht hv hb, h5, h6, Or.inl rfl⟩
theorem mk_K_0 {N C : Nat} {vl : Int32} {wt kd fi se bo tr : Nat → Int32} {vn vd : Nat → Int64} (h : mk_K N C vl wt kd fi se bo tr vn vd) : mk_K N C 0 wt kd fi se bo tr vn vd := by
  obtain ⟨h1, h2, h3, h4, h5, h6, _⟩ := h
  exact ⟨h1, h2, h3, h4, h5, h6, Or.inl rfl⟩
theorem mk_K_a {N C : Nat} {vl : Int32} {wt kd fi se bo tr : Nat → Int32} {vn vd : Nat → Int64} (h : mk_K N C vl wt kd fi se bo tr vn vd) (hC : C < 16) {a b c : Int32} {bo' : Nat → Int32} (hbo : ∀ i, i < C → bo' i = bo i) (hn : mk_Nd (upd kd C a) (upd fi C b) (upd se C c) bo' C) (ho : a = 4 → ∃ j l, j < C ∧ l < C ∧ b = nI j ∧ c = nI l ∧ ¬ kd j = 4 ∧ ¬ kd l = 4) : mk_K N (C + 1) 0 wt (upd kd C a) (upd fi C b) (upd se C c) bo' tr vn vd := by
  obtain ⟨g1, g2, g3, g4, g5, g6, _⟩ := h
  refine ⟨g1, g2, by omega, g4, ?_, g6, Or.inl rfl⟩
  intro i hi
  by_cases z : i = C
  · subst z
    refine ⟨hn, ?_⟩
    unfold mk_Od
    rw [pk_us, pk_us, pk_us]
    intro ha
    obtain ⟨j, l, hj, hl, e1, e2, k1, k2⟩ := ho ha
    refine ⟨j, l, hj, hl, e1, e2, ?_, ?_⟩
    · rw [pk_un (by omega)]; exact k1
    · rw [pk_un (by omega)]; exact k2
  · have hi' : i < C := by omega
    obtain ⟨k1, k2⟩ := g5 i hi'
    constructor
    · unfold mk_Nd at k1 ⊢
      rw [pk_un z, pk_un z, pk_un z, hbo i hi']
      exact k1
    · unfold mk_Od at k2 ⊢
      rw [pk_un z, pk_un z, pk_un z]
      intro ha
      obtain ⟨j, l, hj, hl, e1, e2, q1, q2⟩ := k2 ha
      refine ⟨j, l, hj, hl, e1, e2, ?_, ?_⟩
      · rw [pk_un (by omega)]; exact q1
      · rw [pk_un (by omega)]; exact q2
theorem mk_ns {C : Nat} (kd : Nat → Int32) (hC : C ≤ 16) (x : Int32) : (x < 0 ∨ nI C ≤ x ∨ ∃ j, j < C ∧ x = nI j ∧ kd j = 4) ∨ ∃ j, j < C ∧ x = nI j ∧ ¬ kd j = 4 := by
  rcases pk_ix x (n := C) (by omega) with z | z | ⟨j, hj, e⟩
  · exact Or.inl (Or.inl z)
  · exact Or.inl (Or.inr (Or.inl z))
  · by_cases h : kd j = 4
    · exact Or.inl (Or.inr (Or.inr ⟨j, hj, e, h⟩))
    · exact Or.inr ⟨j, hj, e, h⟩
theorem mk_nu {C : Nat} (kd : Nat → Int32) (hC : C ≤ 16) (x : Int32) : (x < 0 ∨ nI C ≤ x ∨ ∃ j, j < C ∧ x = nI j ∧ ¬ kd j = 4) ∨ ∃ j, j < C ∧ x = nI j ∧ kd j = 4 := by
  rcases pk_ix x (n := C) (by omega) with z | z | ⟨j, hj, e⟩
  · exact Or.inl (Or.inl z)
  · exact Or.inl (Or.inr (Or.inl z))
  · by_cases h : kd j = 4
    · exact Or.inr ⟨j, hj, e, h⟩
    · exact Or.inl (Or.inr (Or.inr ⟨j, hj, e, h⟩))
theorem mk_sx {N : Nat} (hN : N ≤ 12) (x : Int32) : (x < 0 ∨ nI N ≤ x) ∨ ∃ s, s < N ∧ x = nI s := by
  rcases pk_ix x (n := N) (by omega) with z | z | z
  · exact Or.inl (Or.inl z)
  · exact Or.inl (Or.inr z)
  · exact Or.inr z
section
variable {N C : Nat} {nd vl : Int32} {wt lb kd fi se bo tn td tr un : Nat → Int32} {vn vd pa np mx : Nat → Int64}
theorem mx_sw {post : Int32 → St2 → Prop} {x y z : Int32} (K : mk_K N C vl wt kd fi se bo tr vn vd) (k : ∀ (r vl' : Int32) (wt' : Nat → Int32), mk_K N C vl' wt' kd fi se bo tr vn vd → post r ((nI N), (nI C), vl', wt', lb, kd, fi, se, bo, tn, td, tr, vn, vd, pa, np, un, mx)) : (wpX_setWeight post ((nI N), (nI C), vl, wt, lb, kd, fi, se, bo, tn, td, tr, vn, vd, pa, np, un, mx) x y z) := by
  obtain ⟨h2, hN, hC, hW, _⟩ := id K
  unfold wpX_setWeight
  rcases mk_sx hN x with hs | ⟨s, hs, rfl⟩
  · exact mx_is_f hs (br_t rfl (k _ _ _ K))
  · refine mx_is_t hN hs (br_f (by decide) ?_)
    rcases mk_sx hN y with ht | ⟨t, ht, rfl⟩
    · exact mx_is_f ht (br_t rfl (k _ _ _ K))
    · refine mx_is_t hN ht (br_f (by decide) ?_)
      by_cases h0 : z < 0
      · exact br_t h0 (k _ _ _ K)
      · by_cases h4 : z ≤ 4
        · obtain ⟨w, hw, rfl⟩ := nI_of2 (n := 4) (by decide) h0 h4
          have hb := (hW s hs).2
          have hle := mk_t_le (mk_w wt s) N ht
          have hin : vp_in (nI (s * 12 + t)) 144 := pk_in (s * 12 + t) 144 (by omega)
          have hcl : (nI (s * 12 + t)).toNatClampNeg = s * 12 + t := nI_clamp (by omega)
          have he : nI (mk_t (mk_w wt s) N) - wt (s * 12 + t) + nI w = nI (mk_t (mk_w wt s) N - mk_w wt s t + w) := by
            rw [(hW s hs).1 t ht, pk_sub hle, nI_add]
          refine br_f h0 (br_t h4 (nm_r (mk_i12 s t) (mx_rowTotal hN hW hs ⟨hin, ?_⟩)))
          rw [hcl, he]
          by_cases hr : mk_t (mk_w wt s) N - mk_w wt s t + w ≤ 4
          · exact br_t (nI_le (b := 4) hr (by decide)) ⟨hin, nm_e (k _ _ _ (mk_K_w K hs ht hw (by omega)))⟩
          · exact br_f (nI_ge (a := 4) (by omega) (by omega)) (k _ _ _ K)
        · exact br_f h0 (br_f h4 (k _ _ _ K))
theorem mx_sl {post : Int32 → St2 → Prop} {x y z : Int32} (K : mk_K N C vl wt kd fi se bo tr vn vd) (k : ∀ (r vl' : Int32) (lb' : Nat → Int32), mk_K N C vl' wt kd fi se bo tr vn vd → post r ((nI N), (nI C), vl', wt, lb', kd, fi, se, bo, tn, td, tr, vn, vd, pa, np, un, mx)) : (wpX_setLabel post ((nI N), (nI C), vl, wt, lb, kd, fi, se, bo, tn, td, tr, vn, vd, pa, np, un, mx) x y z) := by
  obtain ⟨h2, hN, hC, hW, _⟩ := id K
  unfold wpX_setLabel
  rcases mk_sx hN x with hs | ⟨s, hs, rfl⟩
  · exact mx_is_f hs (br_t rfl (k _ _ _ K))
  · have hin : vp_in (nI s) 12 := pk_in s 12 (by omega)
    refine mx_is_t hN hs (br_f (by decide) ?_)
    by_cases h0 : y < 0
    · exact br_t h0 (k _ _ _ K)
    · by_cases h4 : y < 4
      · refine br_f h0 (br_t h4 ?_)
        by_cases on : z = 0
        · exact br_t on ⟨hin, hin, nm_e (k _ _ _ (mk_K_0 K))⟩
        · exact br_f on ⟨hin, hin, nm_e (k _ _ _ (mk_K_0 K))⟩
      · exact br_f h0 (br_f h4 (k _ _ _ K))
theorem mx_gw {post : Int32 → Prop} {s t : Nat} (hN : N ≤ 12) (hW : mk_W wt N) (hs : s < N) (ht : t < N) (k : post (nI (mk_w wt s t))) : (wpX_getWeight post ((nI N), nd, vl, wt, lb, kd, fi, se, bo, tn, td, tr, vn, vd, pa, np, un, mx) (nI s) (nI t)) := by
  unfold wpX_getWeight
  refine mx_is_t hN hs (br_f (by decide) (mx_is_t hN ht (br_f (by decide) ⟨pk_in (s * 12 + t) 144 (by omega) (mk_i12 s t), ?_⟩)))
  rw [mk_i12, nI_clamp (by omega), (hW s hs).1 t ht]
  exact k
theorem mx_nk {post : Int32 → Prop} {x : Int32} (hC : C ≤ 16) (k : ∀ r, (∀ j, j < C → x = nI j → r = kd j) → post r) : (wpX_nodeKind post ((nI N), (nI C), vl, wt, lb, kd, fi, se, bo, tn, td, tr, vn, vd, pa, np, un, mx) x) := by
  unfold wpX_nodeKind
  rcases pk_ix x (n := C) (by omega) with z | z | ⟨j, hj, rfl⟩
  · refine mx_in_f (Or.inl z) (br_t rfl (k 0 (fun j hj e => ?_)))
    rw [e] at z
    exact absurd z (nI_pos (by omega))
  · refine mx_in_f (Or.inr z) (br_t rfl (k 0 (fun j hj e => ?_)))
    rw [e] at z
    exact absurd z (nI_ge hj (by omega))
  · refine mx_in_t hC hj (br_f (by decide) ⟨pk_in j 16 (by omega), ?_⟩)
    rw [nI_clamp (by omega)]
    refine k _ (fun j' hj' e => ?_)
    rw [(nI_eq (by omega) (by omega)).mp e]
theorem mx_pn {post : Int64 → Prop} {i s : Nat} (hN : N ≤ 12) (hC : C ≤ 16) (hv : ¬ vl = 0) (hi : i < C) (hk : kd i = 4) (hs : s < N) (k : post (vn (i * 12 + s))) : (wpX_probNum post ((nI N), (nI C), vl, wt, lb, kd, fi, se, bo, tn, td, tr, vn, vd, pa, np, un, mx) (nI i) (nI s)) := by
  unfold wpX_probNum
  refine br_f hv (mx_un_t hC hi hk (br_f (by decide) (mx_is_t hN hs (br_f (by decide) ⟨pk_in (i * 12 + s) 192 (by omega) (mk_i12 i s), ?_⟩))))
  rw [mk_i12, nI_clamp (by omega)]
  exact k
theorem mx_pd {post : Int64 → Prop} {i s : Nat} (hN : N ≤ 12) (hC : C ≤ 16) (hv : ¬ vl = 0) (hi : i < C) (hk : kd i = 4) (hs : s < N) (k : post (vd (i * 12 + s))) : (wpX_probDen post ((nI N), (nI C), vl, wt, lb, kd, fi, se, bo, tn, td, tr, vn, vd, pa, np, un, mx) (nI i) (nI s)) := by
  unfold wpX_probDen
  refine br_f hv (mx_un_t hC hi hk (br_f (by decide) (mx_is_t hN hs (br_f (by decide) ⟨pk_in (i * 12 + s) 192 (by omega) (mk_i12 i s), ?_⟩))))
  rw [mk_i12, nI_clamp (by omega)]
  exact k
theorem mx_ho {post : Int32 → Prop} {j s : Nat} (hN : N ≤ 12) (hC : C ≤ 16) (hv : ¬ vl = 0) (hj : j < C) (hk : ¬ kd j = 4) (hs : s < N) (ht : mk_Tb N tr) (k : post (mk_bi (bt (tr j) s))) : (wpX_holds post ((nI N), (nI C), vl, wt, lb, kd, fi, se, bo, tn, td, tr, vn, vd, pa, np, un, mx) (nI j) (nI s)) := by
  unfold wpX_holds
  refine br_f hv (mx_sn_t hC hj hk (br_f (by decide) (mx_is_t hN hs (br_f (by decide) ⟨pk_in j 16 (by omega), ?_⟩))))
  rw [nI_clamp (by omega)]
  refine mx_contains ⟨mk_bi_w _, ?_⟩
  rw [mk_lb_bs (ht j (by omega)) hs hN]
  exact k
theorem mx_kc {post : Int32 → St2 → Prop} (K : mk_K N C vl wt kd fi se bo tr vn vd) (k : ∀ (r vl' : Int32) (tr' un' : Nat → Int32) (vn' vd' pa' np' mx' : Nat → Int64), mk_K N C vl' wt kd fi se bo tr' vn' vd' → post r ((nI N), (nI C), vl', wt, lb, kd, fi, se, bo, tn, td, tr', vn', vd', pa', np', un', mx')) : (wpX_check post ((nI N), (nI C), vl, wt, lb, kd, fi, se, bo, tn, td, tr, vn, vd, pa, np, un, mx)) := by
  obtain ⟨h2, hN, hC, hW, hn, ht, _⟩ := id K
  refine mx_ck hN hW hC (fun i hi => (hn i hi).1) ht (fun _ => k _ _ _ _ _ _ _ _ _ K) (fun _ tr' un' vn' vd' pa' np' mx' hch => k _ _ _ _ _ _ _ _ _ ?_)
  refine ⟨h2, hN, hC, hW, hn, mk_Ch_T C 0 hch ht, Or.inr ⟨rfl, ?_⟩⟩
  intro i hi hk hb j l hj hl ef es s hs
  exact mk_Ch_val hN hC (fun i hi => (hn i hi).2) C 0 (by omega) hch i (by omega) hi hk hb j l hj hl ef es s hs
theorem mx_a1 {post : Int32 → St2 → Prop} {x : Int32} (K : mk_K N C vl wt kd fi se bo tr vn vd) (k0 : ∀ r : Int32, r < 0 → post r ((nI N), (nI C), vl, wt, lb, kd, fi, se, bo, tn, td, tr, vn, vd, pa, np, un, mx)) (k : C < 16 → ∀ b c : Int32, mk_K N (C + 1) 0 wt (upd kd C 1) (upd fi C b) (upd se C c) bo tr vn vd → post (nI C) ((nI N), (nI (C + 1)), 0, wt, lb, (upd kd C 1), (upd fi C b), (upd se C c), bo, tn, td, tr, vn, vd, pa, np, un, mx)) : (wpX_addAtom post ((nI N), (nI C), vl, wt, lb, kd, fi, se, bo, tn, td, tr, vn, vd, pa, np, un, mx) x) := by
  obtain ⟨h2, hN, hC, hW, _⟩ := id K
  unfold wpX_addAtom
  refine pk_lt C 16 (fun h => ?_) (fun h => k0 _ (by decide))
  by_cases h0 : x < 0
  · exact br_t h0 (k0 _ (by decide))
  · by_cases h4 : x ≤ 4
    · obtain ⟨a, ha, rfl⟩ := nI_of2 (n := 4) (by decide) h0 h4
      refine br_f h0 (br_t h4 (mx_app h (k h _ _ (mk_K_a K h (fun _ _ => rfl) ?_ (fun z => absurd z (by decide))))))
      exact Or.inl ⟨pk_us, a, ha, pk_us⟩
    · exact br_f h0 (br_f h4 (k0 _ (by decide)))
theorem mx_a2 {post : Int32 → St2 → Prop} {x : Int32} (K : mk_K N C vl wt kd fi se bo tr vn vd) (k0 : ∀ r : Int32, r < 0 → post r ((nI N), (nI C), vl, wt, lb, kd, fi, se, bo, tn, td, tr, vn, vd, pa, np, un, mx)) (k : C < 16 → ∀ b c : Int32, mk_K N (C + 1) 0 wt (upd kd C 2) (upd fi C b) (upd se C c) bo tr vn vd → post (nI C) ((nI N), (nI (C + 1)), 0, wt, lb, (upd kd C 2), (upd fi C b), (upd se C c), bo, tn, td, tr, vn, vd, pa, np, un, mx)) : (wpX_addNot post ((nI N), (nI C), vl, wt, lb, kd, fi, se, bo, tn, td, tr, vn, vd, pa, np, un, mx) x) := by
  obtain ⟨h2, hN, hC, hW, _⟩ := id K
  unfold wpX_addNot
  refine pk_lt C 16 (fun h => ?_) (fun h => k0 _ (by decide))
  rcases mk_ns kd hC x with hx | ⟨j, hj, rfl, hx⟩
  · exact mx_sn_f hC hx (br_t rfl (k0 _ (by decide)))
  · refine mx_sn_t hC hj hx (br_f (by decide) (mx_app h (k h _ _ (mk_K_a K h (fun _ _ => rfl) ?_ (fun z => absurd z (by decide))))))
    exact Or.inr (Or.inl ⟨pk_us, j, by omega, pk_us⟩)
theorem mx_a3 {post : Int32 → St2 → Prop} {x y : Int32} (K : mk_K N C vl wt kd fi se bo tr vn vd) (k0 : ∀ r : Int32, r < 0 → post r ((nI N), (nI C), vl, wt, lb, kd, fi, se, bo, tn, td, tr, vn, vd, pa, np, un, mx)) (k : C < 16 → ∀ b c : Int32, mk_K N (C + 1) 0 wt (upd kd C 3) (upd fi C b) (upd se C c) bo tr vn vd → post (nI C) ((nI N), (nI (C + 1)), 0, wt, lb, (upd kd C 3), (upd fi C b), (upd se C c), bo, tn, td, tr, vn, vd, pa, np, un, mx)) : (wpX_addAnd post ((nI N), (nI C), vl, wt, lb, kd, fi, se, bo, tn, td, tr, vn, vd, pa, np, un, mx) x y) := by
  obtain ⟨h2, hN, hC, hW, _⟩ := id K
  unfold wpX_addAnd
  refine pk_lt C 16 (fun h => ?_) (fun h => k0 _ (by decide))
  rcases mk_ns kd hC x with hx | ⟨j, hj, rfl, hx⟩
  · exact mx_sn_f hC hx (br_t rfl (k0 _ (by decide)))
  · refine mx_sn_t hC hj hx (br_f (by decide) ?_)
    rcases mk_ns kd hC y with hy | ⟨l, hl, rfl, hy⟩
    · exact mx_sn_f hC hy (br_t rfl (k0 _ (by decide)))
    · refine mx_sn_t hC hl hy (br_f (by decide) (mx_app h (k h _ _ (mk_K_a K h (fun _ _ => rfl) ?_ (fun z => absurd z (by decide))))))
      exact Or.inr (Or.inr (Or.inl ⟨pk_us, j, l, by omega, by omega, pk_us, pk_us⟩))
theorem mx_a4 {post : Int32 → St2 → Prop} {x y z : Int32} (K : mk_K N C vl wt kd fi se bo tr vn vd) (k0 : ∀ r : Int32, r < 0 → post r ((nI N), (nI C), vl, wt, lb, kd, fi, se, bo, tn, td, tr, vn, vd, pa, np, un, mx)) (k : C < 16 → ∀ j l, j < C → l < C → x = nI j → y = nI l → mk_K N (C + 1) 0 wt (upd kd C 4) (upd fi C (nI j)) (upd se C (nI l)) (upd bo C z) tr vn vd → post (nI C) ((nI N), (nI (C + 1)), 0, wt, lb, (upd kd C 4), (upd fi C (nI j)), (upd se C (nI l)), (upd bo C z), tn, td, tr, vn, vd, pa, np, un, mx)) : (wpX_addUntil post ((nI N), (nI C), vl, wt, lb, kd, fi, se, bo, tn, td, tr, vn, vd, pa, np, un, mx) x y z) := by
  obtain ⟨h2, hN, hC, hW, _⟩ := id K
  unfold wpX_addUntil
  refine pk_lt C 16 (fun h => ?_) (fun h => k0 _ (by decide))
  have hin : vp_in (nI C) 16 := pk_in C 16 h
  have hcl : (nI C).toNatClampNeg = C := nI_clamp (by omega)
  rcases mk_ns kd hC x with hx | ⟨j, hj, rfl, hx⟩
  · exact mx_sn_f hC hx (br_t rfl (k0 _ (by decide)))
  · refine mx_sn_t hC hj hx (br_f (by decide) ?_)
    rcases mk_ns kd hC y with hy | ⟨l, hl, rfl, hy⟩
    · exact mx_sn_f hC hy (br_t rfl (k0 _ (by decide)))
    · refine mx_sn_t hC hl hy (br_f (by decide) ?_)
      have fin : (z = -1 ∨ ∃ B, B ≤ 8 ∧ z = nI B) → mk_K N (C + 1) 0 wt (upd kd C 4) (upd fi C (nI j)) (upd se C (nI l)) (upd bo C z) tr vn vd := by
        intro hb
        refine mk_K_a K h (fun i hi => pk_un (by omega)) ?_ (fun _ => ⟨j, l, hj, hl, rfl, rfl, hx, hy⟩)
        refine Or.inr (Or.inr (Or.inr (Or.inl ⟨pk_us, j, l, by omega, by omega, pk_us, pk_us, ?_⟩)))
        rw [pk_us]; exact hb
      by_cases hm : z = -1
      · refine br_t hm ⟨hin, ?_⟩
        rw [hcl]
        exact nm_e (mx_app h (k h j l hj hl rfl rfl (fin (Or.inl hm))))
      · by_cases h0 : z < 0
        · exact br_f hm (br_t h0 (k0 _ (by decide)))
        · by_cases h8 : z ≤ 8
          · refine br_f hm (br_f h0 (br_t h8 ⟨hin, ?_⟩))
            rw [hcl]
            exact nm_e (mx_app h (k h j l hj hl rfl rfl (fin (Or.inr (nI_of2 (n := 8) (by decide) h0 h8)))))
          · exact br_f hm (br_f h0 (br_f h8 (k0 _ (by decide))))
theorem mx_a5 {post : Int32 → St2 → Prop} {x y z w : Int32} (K : mk_K N C vl wt kd fi se bo tr vn vd) (k0 : ∀ r : Int32, r < 0 → post r ((nI N), (nI C), vl, wt, lb, kd, fi, se, bo, tn, td, tr, vn, vd, pa, np, un, mx)) (k : C < 16 → ∀ (b c : Int32) (p q : Nat → Int32), mk_K N (C + 1) 0 wt (upd kd C 5) (upd fi C b) (upd se C c) bo tr vn vd → post (nI C) ((nI N), (nI (C + 1)), 0, wt, lb, (upd kd C 5), (upd fi C b), (upd se C c), bo, p, q, tr, vn, vd, pa, np, un, mx)) : (wpX_addCompare post ((nI N), (nI C), vl, wt, lb, kd, fi, se, bo, tn, td, tr, vn, vd, pa, np, un, mx) x y z w) := by
  obtain ⟨h2, hN, hC, hW, _⟩ := id K
  unfold wpX_addCompare
  refine pk_lt C 16 (fun h => ?_) (fun h => k0 _ (by decide))
  have hin : vp_in (nI C) 16 := pk_in C 16 h
  rcases mk_nu kd hC x with hx | ⟨j, hj, rfl, hx⟩
  · exact mx_un_f hC hx (br_t rfl (k0 _ (by decide)))
  · refine mx_un_t hC hj hx (br_f (by decide) ?_)
    refine br_c (fun _ => k0 _ (by decide)) (fun _ => br_c (fun _ => ?_) (fun _ => k0 _ (by decide)))
    refine br_c (fun _ => k0 _ (by decide)) (fun _ => br_c (fun _ => k0 _ (by decide)) (fun _ => ?_))
    refine br_c (fun _ => k0 _ (by decide)) (fun _ => br_c (fun _ => ⟨hin, nm_e ⟨hin, nm_e (mx_app h ?_)⟩⟩) (fun _ => k0 _ (by decide)))
    refine k h _ _ _ _ (mk_K_a K h (fun _ _ => rfl) ?_ (fun z => absurd z (by decide)))
    exact Or.inr (Or.inr (Or.inr (Or.inr ⟨pk_us, j, by omega, pk_us⟩)))
end
