/-! the component: the rows of the equations, the elimination -/
theorem mk_negw : ∀ a, a < 5 → (-(nI a)).toInt64 = mk_z (-(a : Int)) := by decide
theorem mk_z_nat {x : Int} (h : 0 ≤ x) : mk_z x = lN x.natAbs := by
  rw [← mk_z_n, Int.natAbs_of_nonneg h]
section
variable {N : Nat} {nd vl : Int32} {wt lb kd fi se bo tn td tr un : Nat → Int32} {vn vd pa np mx : Nat → Int64}
theorem mx_fr2 {post : St2 → Prop} {x3 : Int32} {O : Nat → Bool} {m r u : Nat} (hN : N ≤ 12) (hW : mk_W wt N) (hm : m < 12) (hr : r < m) (hu : u < N) (hO : mk_bs N x3 O) (k : post ((nI N), nd, vl, wt, lb, kd, fi, se, bo, tn, td, tr, vn, vd, pa, np, un, (vp_updL mx (r * 13 + m) (mk_z (mk_s (fun t => if O t = true then (mk_w wt u t : Int) else 0) N))))) : ∀ (n t : Nat), t ≤ N → N < n + t → (wX_fillRow_84 post (nI m) x3 (nI (r * 13)) (nI u) (nI N) nd vl wt lb kd fi se bo tn td tr vn vd pa np un mx n (mk_z (mk_s (fun t => if O t = true then (mk_w wt u t : Int) else 0) t)) (nI t)) := by
  intro n
  induction n with
  | zero => intro t h1 h2; omega
  | succ n ih =>
    intro t h1 h2
    refine pk_le N t (fun h => ?_) (fun h => ?_)
    · obtain rfl : t = N := by omega
      refine ⟨pk_in (r * 13 + m) 156 (by omega) (nI_add _ _), ?_⟩
      rw [nI_add, nI_clamp (by omega)]
      exact nm_e k
    · refine mx_has hO h hN (mk_bc (fun e => ?_) (fun e => ?_))
      · have g := ih (t + 1) (by omega) (by omega)
        have e1 : mk_s (fun t => if O t = true then (mk_w wt u t : Int) else 0) (t + 1) = mk_s (fun t => if O t = true then (mk_w wt u t : Int) else 0) t := by
          show _ + (if O t = true then _ else 0) = _
          rw [if_neg (by rw [e]; decide), Int.add_zero]
        rw [e1] at g
        exact nm_r (nI_1 t) g
      · have hw := mk_W_le hW hu h
        have g := ih (t + 1) (by omega) (by omega)
        have e1 : mk_s (fun t => if O t = true then (mk_w wt u t : Int) else 0) (t + 1) = mk_s (fun t => if O t = true then (mk_w wt u t : Int) else 0) t + (mk_w wt u t : Int) := by
          show _ + (if O t = true then _ else 0) = _
          rw [if_pos e]
        rw [e1] at g
        refine ⟨pk_in (u * 12 + t) 144 (by omega) (mk_i12 u t), ?_⟩
        rw [mk_i12, nI_clamp (by omega), (hW u hu).1 t h, mk_z_i (by omega), mk_z_add]
        exact nm_e (nm_r (nI_1 t) g)
theorem mx_fr1 {post : St2 → Prop} {x3 : Int32} {U O : Nat → Bool} {m r : Nat} (hN : N ≤ 12) (hW : mk_W wt N) (em : mk_cn U N = m) (hm : m ≤ 10) (hr : r < m) (hO : mk_bs N x3 O) (hun : ∀ s, s < N → U s = true → un (mk_cn U s) = nI s) (k : ∀ q : Nat → Int64, (∀ c, c ≤ m → q (r * 13 + c) = mk_z (mk_A (mk_w wt) N O (mk_id U N) m r c)) → (∀ j, (∀ c, c ≤ m → j ≠ r * 13 + c) → q j = mx j) → post ((nI N), nd, vl, wt, lb, kd, fi, se, bo, tn, td, tr, vn, vd, pa, np, un, q)) : ∀ (n c : Nat) (q : Nat → Int64), c ≤ m → m < n + c → (∀ c', c' < c → q (r * 13 + c') = mk_z (-(mk_w wt (mk_id U N r) (mk_id U N c') : Int))) → (∀ j, (∀ c, c ≤ m → j ≠ r * 13 + c) → q j = mx j) → (wX_fillRow_17 post (nI r) (nI m) x3 (nI (r * 13)) (nI (mk_id U N r)) (nI N) nd vl n (nI c) wt lb kd fi se bo tn td tr vn vd pa np un q) := by
  obtain ⟨_, hu, _, _⟩ := mk_idx hun (show r < mk_cn U N by omega)
  intro n
  induction n with
  | zero => intro c q h1 h2; omega
  | succ n ih =>
    intro c q h1 h2 hq hj
    refine pk_le m c (fun h => ?_) (fun h => ?_)
    · obtain rfl : c = m := by omega
      have hrr : vp_in (nI (r * 13) + nI r) 156 := pk_in (r * 13 + r) 156 (by omega) (nI_add _ _)
      have h4 := (hW _ hu).2
      refine ⟨hrr, mx_rowTotal hN hW hu ⟨hrr, ?_⟩⟩
      rw [nI_add, nI_clamp (by omega), hq r hr, mk_z_i (by omega), mk_z_add]
      refine nm_e ⟨N + 1, mx_fr2 hN hW (by omega) hr hu hO ?_ (N + 1) 0 (by omega) (by omega)⟩
      apply k
      · intro c' hc'
        by_cases e : c' = c
        · rw [e, pk_uLs, mk_A_m]
        · rw [pk_uLn (by omega), mk_A_c (by omega)]
          by_cases e2 : c' = r
          · rw [e2, pk_uLs, if_pos rfl, mk_t_int]; congr 1; omega
          · rw [pk_uLn (by omega), hq c' (by omega), if_neg e2]; congr 1; omega
      · intro j hjj
        rw [pk_uLn (hjj c (Nat.le_refl c)), pk_uLn (hjj r (by omega))]
        exact hj j hjj
    · obtain ⟨e1, hv, _, _⟩ := mk_idx hun (show c < mk_cn U N by omega)
      have hw := mk_W_le hW hu hv
      refine ⟨pk_in c 12 (by omega), ?_⟩
      rw [nI_clamp (show c < 2 ^ 31 by omega), e1]
      refine ⟨pk_in (mk_id U N r * 12 + mk_id U N c) 144 (by omega) (mk_i12 _ _), pk_in (r * 13 + c) 156 (by omega) (nI_add _ _), ?_⟩
      rw [mk_i12, nI_clamp (by omega), (hW _ hu).1 _ hv, mk_negw _ (by omega), nI_add, nI_clamp (by omega)]
      refine nm_e (nm_r (nI_1 c) (ih (c + 1) _ (by omega) (by omega) ?_ ?_))
      · intro c' hc'
        by_cases e : c' = c
        · rw [e, pk_uLs]
        · rw [pk_uLn (by omega)]; exact hq c' (by omega)
      · intro j hjj
        rw [pk_uLn (hjj c (by omega))]
        exact hj j hjj
theorem mx_fr {post : St2 → Prop} {x3 : Int32} {U O : Nat → Bool} {m r : Nat} (hN : N ≤ 12) (hW : mk_W wt N) (em : mk_cn U N = m) (hm : m ≤ 10) (hr : r < m) (hO : mk_bs N x3 O) (hun : ∀ s, s < N → U s = true → un (mk_cn U s) = nI s) (k : ∀ q : Nat → Int64, (∀ c, c ≤ m → q (r * 13 + c) = mk_z (mk_A (mk_w wt) N O (mk_id U N) m r c)) → (∀ j, (∀ c, c ≤ m → j ≠ r * 13 + c) → q j = mx j) → post ((nI N), nd, vl, wt, lb, kd, fi, se, bo, tn, td, tr, vn, vd, pa, np, un, q)) : (wpX_fillRow post ((nI N), nd, vl, wt, lb, kd, fi, se, bo, tn, td, tr, vn, vd, pa, np, un, mx) (nI r) (nI m) x3) := by
  unfold wpX_fillRow
  obtain ⟨e1, hu, _, _⟩ := mk_idx hun (show r < mk_cn U N by omega)
  refine nm_r (mk_m13 r) ⟨pk_in r 12 (by omega), nm_r (e' := nI (mk_id U N r)) (by rw [nI_clamp (by omega), e1]) ?_⟩
  exact ⟨m + 1, mx_fr1 hN hW em hm hr hO hun k (m + 1) 0 mx (by omega) (by omega) (fun t ht => by omega) (fun _ _ => rfl)⟩
theorem mx_ce_l {post : St2 → Prop} {A : Nat → Nat → Int} {m r p : Nat} (H : mk_H A m) (hp : p < m) (hr : r < m) (hne : r ≠ p) (hP : ∀ c, c ≤ m → mx (p * 13 + c) = mk_z (mk_E A p p c)) (k : ∀ q : Nat → Int64, (∀ c, c ≤ m → q (r * 13 + c) = mk_z (mk_E A (p + 1) r c)) → (∀ j, (∀ c, c ≤ m → j ≠ r * 13 + c) → q j = mx j) → post ((nI N), nd, vl, wt, lb, kd, fi, se, bo, tn, td, tr, vn, vd, pa, np, un, q)) : ∀ (n c : Nat) (q : Nat → Int64), c ≤ m + 1 → m + 1 < n + c → (∀ c', c' < c → q (r * 13 + c') = mk_z (mk_E A (p + 1) r c')) → (∀ c', c ≤ c' → c' ≤ m → q (r * 13 + c') = mk_z (mk_E A p r c')) → (∀ j, (∀ c, c ≤ m → j ≠ r * 13 + c) → q j = mx j) → (wX_clearEntry_34 post (nI m) (mk_z (mk_d (p + 1) A)) (mk_z (mk_d p A)) (nI (r * 13)) (nI (p * 13)) (mk_z (mk_E A p r p)) (nI N) nd vl n (nI c) wt lb kd fi se bo tn td tr vn vd pa np un q) := by
  have h10 := H.1
  intro n
  induction n with
  | zero => intro c q h1 h2; omega
  | succ n ih =>
    intro c q h1 h2 hq hq2 hj
    refine pk_lt m c (fun h => ?_) (fun h => ?_)
    · obtain rfl : c = m + 1 := by omega
      exact k q (fun c' hc' => hq c' (by omega)) hj
    · have b1 := mk_H_dB H (k := p + 1) (by omega) (by omega)
      have b2 := mk_H_B H (k := p) (i := r) (j := c) (by omega) hr (by omega)
      have b3 := mk_H_B H (k := p) (i := r) (j := p) (by omega) hr (by omega)
      have b4 := mk_H_B H (k := p) (i := p) (j := c) (by omega) hp (by omega)
      have b5 := mk_H_dB H (k := p) (by omega) (by omega)
      have d0 := mk_H_d H (k := p) (by omega)
      have m1 := mk_mulN b1 b2
      have m2 := mk_mulN b3 b4
      have st := mk_H_step H hp hne c
      refine ⟨pk_in (r * 13 + c) 156 (by omega) (nI_add _ _), pk_in (p * 13 + c) 156 (by omega) (nI_add _ _), ?_⟩
      rw [nI_add, nI_add, nI_clamp (show r * 13 + c < 2 ^ 31 by omega), nI_clamp (show p * 13 + c < 2 ^ 31 by omega), hq2 c (Nat.le_refl c) h, hj (p * 13 + c) (fun c' hc' => by omega), hP c h, mk_z_mul, mk_z_mul, mk_z_sub]
      refine nm_e ⟨fun z => ?_, pk_in (r * 13 + c) 156 (by omega), ?_⟩
      · have := (mk_z_eq0 (by omega) (by omega)).mp z
        omega
      · rw [mk_z_dvd (c := mk_E A (p + 1) r c) (by omega) (by omega) (by omega) (by omega) (by omega) st.symm]
        refine nm_e (nm_r (nI_1 c) (ih (c + 1) _ (by omega) (by omega) ?_ ?_ ?_))
        · intro c' hc'
          by_cases e : c' = c
          · rw [e, pk_uLs]
          · rw [pk_uLn (by omega)]; exact hq c' (by omega)
        · intro c' hc1 hc2
          rw [pk_uLn (by omega)]; exact hq2 c' (by omega) hc2
        · intro j hjj
          rw [pk_uLn (hjj c h)]; exact hj j hjj
theorem mx_ce {post : St2 → Prop} {A : Nat → Nat → Int} {m r p : Nat} (H : mk_H A m) (hp : p < m) (hr : r < m) (hne : r ≠ p) (hP : ∀ c, c ≤ m → mx (p * 13 + c) = mk_z (mk_E A p p c)) (hR : ∀ c, c ≤ m → mx (r * 13 + c) = mk_z (mk_E A p r c)) (k : ∀ q : Nat → Int64, (∀ c, c ≤ m → q (r * 13 + c) = mk_z (mk_E A (p + 1) r c)) → (∀ j, (∀ c, c ≤ m → j ≠ r * 13 + c) → q j = mx j) → post ((nI N), nd, vl, wt, lb, kd, fi, se, bo, tn, td, tr, vn, vd, pa, np, un, q)) : (wpX_clearEntry post ((nI N), nd, vl, wt, lb, kd, fi, se, bo, tn, td, tr, vn, vd, pa, np, un, mx) (nI r) (nI p) (nI m) (mk_z (mk_d (p + 1) A)) (mk_z (mk_d p A))) := by
  unfold wpX_clearEntry
  have h10 := H.1
  have b5 := mk_H_dB H (k := p) (by omega) (by omega)
  have d0 := mk_H_d H (k := p) (by omega)
  refine br_f (fun z => ?_) ?_
  · have := (mk_z_eq0 (by omega) (by omega)).mp z
    omega
  · refine nm_r (mk_m13 r) (nm_r (mk_m13 p) ⟨pk_in (r * 13 + p) 156 (by omega) (nI_add _ _), ?_⟩)
    rw [nI_add, nI_clamp (by omega), hR p (by omega)]
    exact nm_e ⟨m + 2, mx_ce_l H hp hr hne hP k (m + 2) 0 mx (by omega) (by omega) (fun t ht => by omega) (fun c' _ hc => hR c' hc) (fun _ _ => rfl)⟩
def mk_St (A : Nat → Nat → Int) (m k r : Nat) (q : Nat → Int64) : Prop := ∀ i c, i < m → c ≤ m → q (i * 13 + c) = mk_z (mk_E A (if i < r then k + 1 else k) i c)
theorem mk_St_put {A : Nat → Nat → Int} {m k r : Nat} {q q' : Nat → Int64} (hm : m ≤ 10) (h : mk_St A m k r q) (h1 : ∀ c, c ≤ m → q' (r * 13 + c) = mk_z (mk_E A (k + 1) r c)) (h2 : ∀ j, (∀ c, c ≤ m → j ≠ r * 13 + c) → q' j = q j) : mk_St A m k (r + 1) q' := by
  intro i c hi hc
  by_cases e : i = r
  · rw [e, if_pos (Nat.lt_succ_self r)]; exact h1 c hc
  · rw [h2 _ (fun c' hc' => by omega), h i c hi hc]
    by_cases g : i < r
    · rw [if_pos g, if_pos (show i < r + 1 by omega)]
    · rw [if_neg g, if_neg (show ¬ i < r + 1 by omega)]
theorem mx_el2 {post : St2 → Prop} {J : (Int64 → Int32 → Int32 → Int32 → Int32 → (Nat → Int32) → (Nat → Int32) → (Nat → Int32) → (Nat → Int32) → (Nat → Int32) → (Nat → Int32) → (Nat → Int32) → (Nat → Int32) → (Nat → Int32) → (Nat → Int64) → (Nat → Int64) → (Nat → Int64) → (Nat → Int64) → (Nat → Int32) → (Nat → Int64) → Prop)} {A : Nat → Nat → Int} {m p : Nat} (H : mk_H A m) (hp : p < m) (k : ∀ q : Nat → Int64, mk_St A m p m q → (J (mk_z (mk_d (p + 1) A)) (nI p + 1) (nI N) nd vl wt lb kd fi se bo tn td tr vn vd pa np un q)) : ∀ (n r : Nat) (q : Nat → Int64), r ≤ m → m < n + r → mk_St A m p r q → (wX_eliminate_29 post J (nI m) (mk_z (mk_d p A)) (nI p) (mk_z (mk_d (p + 1) A)) n (nI r) (nI N) nd vl wt lb kd fi se bo tn td tr vn vd pa np un q) := by
  have h10 := H.1
  intro n
  induction n with
  | zero => intro r q h1 h2; omega
  | succ n ih =>
    intro r q h1 h2 hq
    refine pk_le m r (fun h => ?_) (fun h => ?_)
    · obtain rfl : r = m := by omega
      exact nm_e (k q hq)
    · refine pk_eq r p (fun e => ?_) (fun e => ?_)
      · refine nm_r (nI_1 r) (ih (r + 1) q (by omega) (by omega) (mk_St_put h10 hq ?_ (fun _ _ => rfl)))
        intro c hc
        rw [hq r c h hc, if_neg (Nat.lt_irrefl r), e, mk_E_piv]
      · refine mx_ce (mx := q) H hp h e (fun c hc => ?_) (fun c hc => ?_) (fun q' a b => ?_)
        · rw [hq p c hp hc]
          by_cases g : p < r
          · rw [if_pos g, mk_E_piv]
          · rw [if_neg g]
        · rw [hq r c h hc, if_neg (Nat.lt_irrefl r)]
        · exact nm_r (nI_1 r) (ih (r + 1) q' (by omega) (by omega) (mk_St_put h10 hq a b))
theorem mx_el1 {post : St2 → Prop} {A : Nat → Nat → Int} {m : Nat} (H : mk_H A m) (k : ∀ q : Nat → Int64, mk_St A m m 0 q → post ((nI N), nd, vl, wt, lb, kd, fi, se, bo, tn, td, tr, vn, vd, pa, np, un, q)) : ∀ (n p : Nat) (q : Nat → Int64), p ≤ m → m < n + p → mk_St A m p 0 q → (wX_eliminate_5 post (nI m) n (mk_z (mk_d p A)) (nI p) (nI N) nd vl wt lb kd fi se bo tn td tr vn vd pa np un q) := by
  have h10 := H.1
  intro n
  induction n with
  | zero => intro p q h1 h2; omega
  | succ n ih =>
    intro p q h1 h2 hq
    refine pk_le m p (fun h => ?_) (fun h => ?_)
    · obtain rfl : p = m := by omega
      exact k q hq
    · refine ⟨pk_in (p * 13 + p) 156 (by omega) (mk_i13 p p), nm_r (e' := mk_z (mk_d (p + 1) A)) ?_ ?_⟩
      · rw [mk_i13, nI_clamp (by omega), hq p p h (by omega), if_neg (Nat.not_lt_zero p), mk_E_kk]
      · refine ⟨m + 1, mx_el2 H h (fun q' hq' => ?_) (m + 1) 0 q (by omega) (by omega) hq⟩
        rw [nI_1]
        refine ih (p + 1) q' (by omega) (by omega) (fun i c hi hc => ?_)
        rw [hq' i c hi hc, if_pos hi, if_neg (Nat.not_lt_zero i)]
theorem mx_el {post : St2 → Prop} {A : Nat → Nat → Int} {m : Nat} (H : mk_H A m) (h : ∀ i c, i < m → c ≤ m → mx (i * 13 + c) = mk_z (A i c)) (k : ∀ q : Nat → Int64, (∀ i c, i < m → c ≤ m → q (i * 13 + c) = mk_z (mk_E A m i c)) → post ((nI N), nd, vl, wt, lb, kd, fi, se, bo, tn, td, tr, vn, vd, pa, np, un, q)) : (wpX_eliminate post ((nI N), nd, vl, wt, lb, kd, fi, se, bo, tn, td, tr, vn, vd, pa, np, un, mx) (nI m)) := by
  refine ⟨m + 1, mx_el1 H (fun q hq => k q (fun i c hi hc => ?_)) (m + 1) 0 mx (by omega) (by omega) (fun i c hi hc => ?_)⟩
  · have := hq i c hi hc
    rw [if_neg (Nat.not_lt_zero i)] at this
    exact this
  · rw [if_neg (Nat.not_lt_zero i), mk_E_0]; exact h i c hi hc
end
