/-! one node, and the chain of all nodes -/
def mk_Nd (kd fi se bo : Nat → Int32) (i : Nat) : Prop :=
  (kd i = 1 ∧ ∃ a, a ≤ 4 ∧ fi i = nI a) ∨ (kd i = 2 ∧ ∃ j, j < 16 ∧ fi i = nI j) ∨
  (kd i = 3 ∧ ∃ j l, j < 16 ∧ l < 16 ∧ fi i = nI j ∧ se i = nI l) ∨
  (kd i = 4 ∧ ∃ j l, j < 16 ∧ l < 16 ∧ fi i = nI j ∧ se i = nI l ∧ (bo i = -1 ∨ ∃ B, B ≤ 8 ∧ bo i = nI B)) ∨
  (kd i = 5 ∧ ∃ j, j < 16 ∧ fi i = nI j)
def mk_Ev (N : Nat) (wt lb kd fi se bo tn td : Nat → Int32) (i : Nat) (tr : Nat → Int32) (vn vd : Nat → Int64) (tr' : Nat → Int32) (vn' vd' : Nat → Int64) : Prop :=
  (kd i = 1 ∧ ∃ (a : Nat) (x : Int32), a ≤ 4 ∧ fi i = nI a ∧ mk_bs N x (mk_at lb a) ∧ tr' = upd tr i x ∧ vn' = vn ∧ vd' = vd) ∨
  (kd i = 2 ∧ ∃ (j : Nat) (x : Int32), j < 16 ∧ fi i = nI j ∧ mk_bs N x (fun s => !bt (tr j) s) ∧ tr' = upd tr i x ∧ vn' = vn ∧ vd' = vd) ∨
  (kd i = 3 ∧ ∃ (j l : Nat) (x : Int32), j < 16 ∧ l < 16 ∧ fi i = nI j ∧ se i = nI l ∧ mk_bs N x (fun s => bt (tr j) s && bt (tr l) s) ∧ tr' = upd tr i x ∧ vn' = vn ∧ vd' = vd) ∨
  (kd i = 4 ∧ ∃ (j l : Nat), j < 16 ∧ l < 16 ∧ fi i = nI j ∧ se i = nI l ∧ tr' = tr ∧
    ((bo i = -1 ∧ mk_cell N i vn vn' (mk_un wt N (bt (tr j)) (bt (tr l))) ∧ mk_cell N i vd vd' (mk_um wt N (bt (tr j)) (bt (tr l)))) ∨
     ∃ B, B ≤ 8 ∧ bo i = nI B ∧ mk_cell N i vn vn' (mk_bn (mk_w wt) N (bt (tr j)) (bt (tr l)) B) ∧ mk_cell N i vd vd' (mk_bm (mk_w wt) N (bt (tr j)) (bt (tr l)) B))) ∨
  (kd i = 5 ∧ ∃ (j : Nat) (x : Int32), j < 16 ∧ fi i = nI j ∧ mk_bs N x (mk_cq vn vd j (se i) (tn i) (td i)) ∧ tr' = upd tr i x ∧ vn' = vn ∧ vd' = vd)
def mk_Tb (N : Nat) (tr : Nat → Int32) : Prop := ∀ j, j < 16 → mk_bs N (tr j) (bt (tr j))
theorem mk_Tb_put {N : Nat} {tr : Nat → Int32} {i : Nat} {x : Int32} {p : Nat → Bool} (h : mk_Tb N tr) (hx : mk_bs N x p) : mk_Tb N (upd tr i x) := by
  intro j hj
  by_cases e : j = i
  · rw [e, pk_us]; exact mk_bs_self hx
  · rw [pk_un e]; exact h j hj
theorem mk_Ev_T {N : Nat} {wt lb kd fi se bo tn td : Nat → Int32} {i : Nat} {tr : Nat → Int32} {vn vd : Nat → Int64} {tr' : Nat → Int32} {vn' vd' : Nat → Int64} (h : mk_Ev N wt lb kd fi se bo tn td i tr vn vd tr' vn' vd') (ht : mk_Tb N tr) : mk_Tb N tr' := by
  rcases h with ⟨_, a, x, _, _, hx, e, _⟩ | ⟨_, a, x, _, _, hx, e, _⟩ | ⟨_, a, b, x, _, _, _, _, hx, e, _⟩ | ⟨_, a, b, _, _, _, _, e, _⟩ | ⟨_, a, x, _, _, hx, e, _⟩
  · rw [e]; exact mk_Tb_put ht hx
  · rw [e]; exact mk_Tb_put ht hx
  · rw [e]; exact mk_Tb_put ht hx
  · rw [e]; exact ht
  · rw [e]; exact mk_Tb_put ht hx
def mk_Ch (N : Nat) (wt lb kd fi se bo tn td : Nat → Int32) : Nat → Nat → (Nat → Int32) → (Nat → Int64) → (Nat → Int64) → (Nat → Int32) → (Nat → Int64) → (Nat → Int64) → Prop
  | 0 => fun _ tr vn vd tr' vn' vd' => tr' = tr ∧ vn' = vn ∧ vd' = vd
  | d + 1 => fun i tr vn vd tr' vn' vd' => ∃ (a : Nat → Int32) (b c : Nat → Int64), mk_Ev N wt lb kd fi se bo tn td i tr vn vd a b c ∧ mk_Ch N wt lb kd fi se bo tn td d (i + 1) a b c tr' vn' vd'
section
variable {N : Nat} {nd vl : Int32} {wt lb kd fi se bo tn td tr un : Nat → Int32} {vn vd pa np mx : Nat → Int64}
theorem mx_ev {post : St2 → Prop} {i : Nat} (hN : N ≤ 12) (hW : mk_W wt N) (hi : i < 16) (hn : mk_Nd kd fi se bo i) (ht : mk_Tb N tr) (k : ∀ (tr' un' : Nat → Int32) (vn' vd' pa' np' mx' : Nat → Int64), mk_Ev N wt lb kd fi se bo tn td i tr vn vd tr' vn' vd' → post ((nI N), nd, vl, wt, lb, kd, fi, se, bo, tn, td, tr', vn', vd', pa', np', un', mx')) : (wpX_evaluate post ((nI N), nd, vl, wt, lb, kd, fi, se, bo, tn, td, tr, vn, vd, pa, np, un, mx) (nI i)) := by
  unfold wpX_evaluate
  have hc : (nI i).toNatClampNeg = i := nI_clamp (by omega)
  have hin : vp_in (nI i) 16 := pk_in i 16 hi
  refine ⟨hin, ?_⟩
  rw [hc]
  refine nm_e ?_
  rcases hn with ⟨hk, a, ha, ef⟩ | ⟨hk, j, hj, ef⟩ | ⟨hk, j, l, hj, hl, ef, es⟩ | ⟨hk, j, l, hj, hl, ef, es, hb⟩ | ⟨hk, j, hj, ef⟩
  · refine br_t hk ⟨hin, ?_⟩
    rw [ef]
    refine mx_lab hN ha (fun x hx => ⟨hin, nm_e (k _ _ _ _ _ _ _ (Or.inl ⟨hk, a, x, ha, ef, hx, rfl, rfl, rfl⟩))⟩)
  · refine br_f (by rw [hk]; decide) (br_t hk ?_)
    refine mx_all ⟨hin, ?_⟩
    rw [ef]
    refine ⟨pk_in j 16 hj, hin, ?_⟩
    rw [nI_clamp (by omega)]
    refine nm_e (k _ _ _ _ _ _ _ (Or.inr (Or.inl ⟨hk, j, _, hj, ef, ?_, rfl, rfl, rfl⟩)))
    exact mk_bs_congr (mk_bs_diff (mk_bs_all (by omega)) (ht j hj)) (fun s _ => Bool.true_and _)
  · refine br_f (by rw [hk]; decide) (br_f (by rw [hk]; decide) (br_t hk ⟨hin, ?_⟩))
    rw [ef]
    refine ⟨pk_in j 16 hj, hin, ?_⟩
    rw [es]
    refine ⟨pk_in l 16 hl, hin, ?_⟩
    rw [nI_clamp (show j < 2 ^ 31 by omega), nI_clamp (show l < 2 ^ 31 by omega)]
    exact nm_e (k _ _ _ _ _ _ _ (Or.inr (Or.inr (Or.inl ⟨hk, j, l, _, hj, hl, ef, es, mk_bs_and (ht j hj) (ht l hl), rfl, rfl, rfl⟩))))
  · refine br_f (by rw [hk]; decide) (br_f (by rw [hk]; decide) (br_f (by rw [hk]; decide) (br_f (by rw [hk]; decide) ⟨hin, ?_⟩)))
    rcases hb with hb | ⟨B, hB, hb⟩
    · refine br_t hb (mx_eu hN hW hi hj hl ef es (ht j hj) (ht l hl) (fun q q' z y a b => ?_))
      exact k _ _ _ _ _ _ _ (Or.inr (Or.inr (Or.inr (Or.inl ⟨hk, j, l, hj, hl, ef, es, rfl, Or.inl ⟨hb, a, b⟩⟩))))
    · refine br_f (by rw [hb]; exact mk_nm1 B (by omega)) (mx_eb hN hW hi hj hl hB hb ef es (ht j hj) (ht l hl) (fun q q' p p' a b => ?_))
      exact k _ _ _ _ _ _ _ (Or.inr (Or.inr (Or.inr (Or.inl ⟨hk, j, l, hj, hl, ef, es, rfl, Or.inr ⟨B, hB, hb, a, b⟩⟩))))
  · refine br_f (by rw [hk]; decide) (br_f (by rw [hk]; decide) (br_f (by rw [hk]; decide) (br_t hk ?_)))
    refine mx_cmps hN hi hj ef (fun x hx => ⟨hin, ?_⟩)
    exact nm_e (k _ _ _ _ _ _ _ (Or.inr (Or.inr (Or.inr (Or.inr ⟨hk, j, x, hj, ef, hx, rfl, rfl, rfl⟩)))))
theorem mx_ck2 {post : Int32 → St2 → Prop} {C : Nat} (hN : N ≤ 12) (hW : mk_W wt N) (hC : C ≤ 16) (hn : ∀ i, i < C → mk_Nd kd fi se bo i) : ∀ (d n i : Nat) (tr un : Nat → Int32) (vn vd pa np mx : Nat → Int64), i + d = C → d < n → mk_Tb N tr → (∀ (tr' un' : Nat → Int32) (vn' vd' pa' np' mx' : Nat → Int64), mk_Ch N wt lb kd fi se bo tn td d i tr vn vd tr' vn' vd' → post 0 ((nI N), (nI C), 1, wt, lb, kd, fi, se, bo, tn, td, tr', vn', vd', pa', np', un', mx')) → (wX_check_29 post n (nI i) (nI N) (nI C) vl wt lb kd fi se bo tn td tr vn vd pa np un mx) := by
  intro d
  induction d with
  | zero =>
    intro n i tr un vn vd pa np mx h1 h2 ht k
    obtain ⟨n, rfl⟩ : ∃ m, n = m + 1 := ⟨n - 1, by omega⟩
    obtain rfl : i = C := by omega
    exact pk_le i i (fun _ => k tr un vn vd pa np mx ⟨rfl, rfl, rfl⟩) (fun h => absurd h (by omega))
  | succ d ih =>
    intro n i tr un vn vd pa np mx h1 h2 ht k
    obtain ⟨n, rfl⟩ : ∃ m, n = m + 1 := ⟨n - 1, by omega⟩
    refine pk_le C i (fun h => absurd h (by omega)) (fun h => ?_)
    refine mx_ev hN hW (by omega) (hn i h) ht (fun tr' un' vn' vd' pa' np' mx' he => ?_)
    refine nm_r (nI_1 i) (ih n (i + 1) tr' un' vn' vd' pa' np' mx' (by omega) (by omega) (mk_Ev_T he ht) ?_)
    intro tr2 un2 vn2 vd2 pa2 np2 mx2 hch
    exact k tr2 un2 vn2 vd2 pa2 np2 mx2 ⟨tr', vn', vd', he, hch⟩
theorem mx_ck1 {post : Int32 → St2 → Prop} {C : Nat} (hN : N ≤ 12) (hW : mk_W wt N) (hC : C ≤ 16) (hn : ∀ i, i < C → mk_Nd kd fi se bo i) (ht : mk_Tb N tr) (k0 : (∃ s, s < N ∧ mk_t (mk_w wt s) N = 0) → post (-3) ((nI N), (nI C), vl, wt, lb, kd, fi, se, bo, tn, td, tr, vn, vd, pa, np, un, mx)) (k : (∀ s, s < N → mk_t (mk_w wt s) N ≠ 0) → ∀ (tr' un' : Nat → Int32) (vn' vd' pa' np' mx' : Nat → Int64), mk_Ch N wt lb kd fi se bo tn td C 0 tr vn vd tr' vn' vd' → post 0 ((nI N), (nI C), 1, wt, lb, kd, fi, se, bo, tn, td, tr', vn', vd', pa', np', un', mx')) : ∀ n s : Nat, s ≤ N → N < n + s → (∀ t, t < s → mk_t (mk_w wt t) N ≠ 0) → (wX_check_2 post (nI N) (nI C) vl wt lb kd fi se bo tn td tr vn vd pa np un mx n (nI s)) := by
  intro n
  induction n with
  | zero => intro s h1 h2; omega
  | succ n ih =>
    intro s h1 h2 hs
    refine pk_le N s (fun h => ?_) (fun h => ?_)
    · obtain rfl : s = N := by omega
      exact ⟨C + 1, mx_ck2 hN hW hC hn C (C + 1) 0 tr un vn vd pa np mx (by omega) (by omega) ht (k hs)⟩
    · have h4 := (hW s h).2
      refine mx_rowTotal hN hW h ?_
      refine pk_eq (mk_t (mk_w wt s) N) 0 (fun e => k0 ⟨s, h, e⟩) (fun e => ?_)
      refine nm_r (nI_1 s) (ih (s + 1) (by omega) (by omega) (fun t ht => ?_))
      by_cases g : t = s
      · rw [g]; exact e
      · exact hs t (by omega)
theorem mx_ck {post : Int32 → St2 → Prop} {C : Nat} (hN : N ≤ 12) (hW : mk_W wt N) (hC : C ≤ 16) (hn : ∀ i, i < C → mk_Nd kd fi se bo i) (ht : mk_Tb N tr) (k0 : (∃ s, s < N ∧ mk_t (mk_w wt s) N = 0) → post (-3) ((nI N), (nI C), vl, wt, lb, kd, fi, se, bo, tn, td, tr, vn, vd, pa, np, un, mx)) (k : (∀ s, s < N → mk_t (mk_w wt s) N ≠ 0) → ∀ (tr' un' : Nat → Int32) (vn' vd' pa' np' mx' : Nat → Int64), mk_Ch N wt lb kd fi se bo tn td C 0 tr vn vd tr' vn' vd' → post 0 ((nI N), (nI C), 1, wt, lb, kd, fi, se, bo, tn, td, tr', vn', vd', pa', np', un', mx')) : (wpX_check post ((nI N), (nI C), vl, wt, lb, kd, fi, se, bo, tn, td, tr, vn, vd, pa, np, un, mx)) :=
  ⟨N + 1, mx_ck1 hN hW hC hn ht k0 k (N + 1) 0 (by omega) (by omega) (fun t h => by omega)⟩
end
