/-! the owed statements: construction, weights, labels -/
theorem i_up {k : Nat} {u : SX} {v : SY} (h : i_Rel k u v) : i_Rel (k + 5) u v := h
def mk_dg : Nat → Nat → Int32
  | 0 => fun _ => 0
  | s + 1 => upd (mk_dg s) (s * 12 + s) 1
theorem mk_dg_at (n : Nat) : ∀ s t, s < 12 → t < 12 → mk_dg n (s * 12 + t) = nI (if s = t ∧ s < n then 1 else 0) := by
  induction n with
  | zero => intro s t _ _; rw [if_neg (by omega)]; rfl
  | succ n ih =>
    intro s t hs ht
    show upd (mk_dg n) (n * 12 + n) 1 (s * 12 + t) = _
    by_cases e : s * 12 + t = n * 12 + n
    · by_cases hn : n < 12
      · rw [e, pk_us, if_pos (by omega)]; rfl
      · omega
    · rw [pk_un e, ih s t hs ht]
      by_cases g : s = t ∧ s < n
      · rw [if_pos g, if_pos (by omega)]
      · rw [if_neg g, if_neg (by omega)]
theorem mk_t_one (f : Nat → Nat) (s : Nat) (h : ∀ t, f t ≤ if s = t then 1 else 0) (n : Nat) : mk_t f n ≤ if s < n then 1 else 0 := by
  induction n with
  | zero => exact Nat.zero_le _
  | succ n ih =>
    have h1 := h n
    show mk_t f n + f n ≤ _
    by_cases e : s = n
    · rw [if_pos e] at h1
      rw [if_neg (by omega)] at ih
      rw [if_pos (by omega)]; omega
    · rw [if_neg e] at h1
      by_cases g : s < n
      · rw [if_pos g] at ih
        rw [if_pos (by omega)]; omega
      · rw [if_neg g] at ih
        rw [if_neg (by omega)]; omega
theorem mk_dg_W {N : Nat} (hN : N ≤ 12) : mk_W (mk_dg N) N := by
  intro s hs
  have hw : ∀ t, t < N → mk_w (mk_dg N) s t = if s = t ∧ s < N then 1 else 0 := by
    intro t ht
    show (mk_dg N (s * 12 + t)).toNatClampNeg = _
    rw [mk_dg_at N s t (by omega) (by omega), nI_clamp]
    by_cases g : s = t ∧ s < N
    · rw [if_pos g]; decide
    · rw [if_neg g]; decide
  refine ⟨fun t ht => ?_, ?_⟩
  · rw [hw t ht]; exact mk_dg_at N s t (by omega) (by omega)
  · have h1 : mk_t (mk_w (mk_dg N) s) N = mk_t (fun t => if s = t then 1 else 0) N := by
      apply mk_t_congr
      intro t ht
      rw [hw t ht]
      by_cases g : s = t
      · rw [if_pos ⟨g, hs⟩, if_pos g]
      · rw [if_neg (fun z => g z.1), if_neg g]
    have h2 := mk_t_one (fun t => if s = t then 1 else 0) s (fun t => Nat.le_refl _) N
    rw [if_pos hs] at h2
    rw [h1]; omega
theorem mk_tr_0 {N : Nat} : mk_tr N (fun _ => 0) (fun _ => 0) := by
  intro i _
  refine ⟨fun j _ => ?_, fun s _ => ?_⟩
  · rw [b_0, Bool.and_false]
  · show (0 : Int32) = mk_bi (bt 0 s)
    rw [b_0]; rfl
theorem mk_Inv_0 {N : Nat} (h2 : 2 ≤ N) (hN : N ≤ 12) {kd fi se bo tn td nc ne : Nat → Int32} : mk_Inv N 0 0 (mk_dg N) kd fi se bo tn td (fun _ => 0) nc ne (fun _ => 0) :=
  ⟨h2, hN, by omega, Or.inl rfl, mk_dg_W hN, fun i h => by omega, mk_tr_0⟩
/-- a weight set -/
theorem mk_Inv_w {N C : Nat} {vl : Int32} {wt kd fi se bo tn td tr nc ne th : Nat → Int32} (h : mk_Inv N C vl wt kd fi se bo tn td tr nc ne th) {s t v : Nat} (hs : s < N) (ht : t < N) (hv : v ≤ 4) (hb : mk_t (mk_w wt s) N + v ≤ 4 + mk_w wt s t) : mk_Inv N C 0 (upd wt (s * 12 + t) (nI v)) kd fi se bo tn td tr nc ne th := by
  obtain ⟨h1, h2, h3, _, h5, h6, h7⟩ := h
  exact ⟨h1, h2, h3, Or.inl rfl, mk_W_upd h2 h5 hs ht hv hb, h6, h7⟩
theorem mk_Inv_v {N C : Nat} {vl vl' : Int32} {wt kd fi se bo tn td tr nc ne th : Nat → Int32} (h : mk_Inv N C vl wt kd fi se bo tn td tr nc ne th) (hv : vl' = 0 ∨ vl' = 1) : mk_Inv N C vl' wt kd fi se bo tn td tr nc ne th := by
  obtain ⟨h1, h2, h3, _, h5, h6, h7⟩ := h
  exact ⟨h1, h2, h3, hv, h5, h6, h7⟩
/-- a node appended -/
theorem mk_Inv_a {N C : Nat} {vl : Int32} {wt kd fi se bo tn td tr nc ne th : Nat → Int32} (h : mk_Inv N C vl wt kd fi se bo tn td tr nc ne th) (hC : C < 16) {a b c x y : Int32} {bo' tn' td' : Nat → Int32} (hbo : ∀ i, i < C → bo' i = bo i) (htn : ∀ i, i < C → tn' i = tn i) (htd : ∀ i, i < C → td' i = td i) (hn : mk_Nd (upd kd C a) (upd fi C b) (upd se C c) bo' C) (h4 : a = 4 → x = bo' C) (h5 : a = 5 → x = tn' C ∧ y = td' C) : mk_Inv N (C + 1) 0 wt (upd kd C a) (upd fi C b) (upd se C c) bo' tn' td' tr (upd nc C x) (upd ne C y) th := by
  obtain ⟨g1, g2, g3, _, g5, g6, g7⟩ := h
  refine ⟨g1, g2, by omega, Or.inl rfl, g5, ?_, g7⟩
  intro i hi
  by_cases z : i = C
  · subst z
    rw [pk_us, pk_us, pk_us]
    exact ⟨hn, h4, h5⟩
  · have hi' : i < C := by omega
    obtain ⟨k1, k2, k3⟩ := g6 i hi'
    rw [pk_un z, pk_un z, pk_un z, hbo i hi', htn i hi', htd i hi']
    refine ⟨?_, k2, k3⟩
    unfold mk_Nd at k1 ⊢
    rw [pk_un z, pk_un z, pk_un z, hbo i hi']
    exact k1
section
variable {N C : Nat} {nd vl : Int32} {wt lb kd fi se bo tn td tr un : Nat → Int32} {vn vd pa np mx : Nat → Int64}
theorem mx_ini {post : SX → Prop} (hN : N ≤ 12) (k : post ((nI N), nd, vl, (mk_dg N), lb, kd, fi, se, bo, tn, td, tr, vn, vd, pa, np, un, mx)) : ∀ n s : Nat, s ≤ N → N < n + s → (wX_init_153 post (nI N) (nI N) nd vl n (nI s) (mk_dg s) lb kd fi se bo tn td tr vn vd pa np un mx) := by
  intro n
  induction n with
  | zero => intro s h1 h2; omega
  | succ n ih =>
    intro s h1 h2
    refine pk_le N s (fun h => ?_) (fun h => ⟨pk_in (s * 12 + s) 144 (by omega) (mk_i12 s s), ?_⟩)
    · obtain rfl : s = N := by omega
      exact k
    · rw [mk_i12, nI_clamp (by omega)]
      exact nm_e (nm_r (nI_1 s) (ih (s + 1) (by omega) (by omega)))
end
section
variable {N C : Nat} {nd vl : Int32} {wt lb kd fi se nc ne th ph ps ze oe ma ix po : Nat → Int32} {vn vd cu nx mt : Nat → Int64}
theorem my_ini {post : SY → Prop} (hN : N ≤ 12) (k : post ((nI N), nd, vl, (mk_dg N), lb, kd, fi, se, nc, ne, th, vn, vd, ph, ps, ze, oe, ma, cu, nx, ix, po, mt)) : ∀ n s : Nat, s ≤ N → N < n + s → (wY_init_196 post (nI N) nd vl n (nI s) (mk_dg s) lb kd fi se nc ne th vn vd ph ps ze oe ma cu nx ix po mt) := by
  intro n
  induction n with
  | zero => intro s h1 h2; omega
  | succ n ih =>
    intro s h1 h2
    refine pk_le N s (fun h => ?_) (fun h => ⟨pk_in (s * 12 + s) 144 (by omega) (mk_i12 s s), ?_⟩)
    · obtain rfl : s = N := by omega
      exact k
    · rw [mk_i12, nI_clamp (by omega)]
      exact nm_e (nm_r (nI_1 s) (ih (s + 1) (by omega) (by omega)))
end
theorem mk_ge2 {x : Int32} (h : 2 ≤ x) : ¬ x < 0 := by
  rw [Int32.le_iff_toInt_le, show (2 : Int32).toInt = 2 from by decide] at h
  rw [Int32.lt_iff_toInt_lt, show (0 : Int32).toInt = 0 from by decide]
  omega
theorem i_vc0 (k0 : Int32) : wpX_init (fun u => wpY_init (fun v => i_Rel 1 u v) k0) k0 := by
  by_cases h2 : 2 ≤ k0
  · by_cases h12 : k0 ≤ 12
    · obtain ⟨N, hN, rfl⟩ := nI_of2 (n := 12) (by decide) (mk_ge2 h2) h12
      have hN2 : 2 ≤ N := (nI_leI (a := 2) (by omega) (by omega)).mp h2
      refine br_t h2 (br_t h12 ⟨N + 1, mx_ini hN ?_ (N + 1) 0 (by omega) (by omega)⟩)
      exact br_t h2 (br_t h12 ⟨N + 1, my_ini hN (mk_rel (C := 0) (mk_Inv_0 hN2 hN)) (N + 1) 0 (by omega) (by omega)⟩)
    · refine br_t h2 (br_f h12 ⟨13, mx_ini (N := 12) (by omega) ?_ 13 0 (by omega) (by omega)⟩)
      exact br_t h2 (br_f h12 ⟨13, my_ini (N := 12) (by omega) (mk_rel (N := 12) (C := 0) (mk_Inv_0 (by omega) (by omega))) 13 0 (by omega) (by omega)⟩)
  · refine br_f h2 (br_t (by decide) ⟨3, mx_ini (N := 2) (by omega) ?_ 3 0 (by omega) (by omega)⟩)
    exact br_f h2 ⟨3, my_ini (N := 2) (by omega) (mk_rel (N := 2) (C := 0) (mk_Inv_0 (by omega) (by omega))) 3 0 (by omega) (by omega)⟩
