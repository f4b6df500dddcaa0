/-! the component's small methods -/
section
variable {N : Nat} {nd vl : Int32} {wt lb kd fi se bo tn td tr un : Nat → Int32} {vn vd pa np mx : Nat → Int64}
theorem mx_contains {post : Int32 → Prop} {x q : Int32} (k : post (mk_bi (mk_lb x q))) : (wpX_contains post () x q) := by
  unfold wpX_contains
  by_cases h : ((x >>> (q &&& 31)) &&& 1) = 0
  · rw [mk_lb_f h] at k
    exact br_t h k
  · rw [mk_lb_t h] at k
    exact br_f h k
theorem mx_has {post : Int32 → Prop} {x : Int32} {p : Nat → Bool} {s : Nat} (h : mk_bs N x p) (hs : s < N) (hN : N ≤ 12) (k : post (mk_bi (p s))) : (wpX_contains post () x (nI s)) := by
  apply mx_contains
  rw [mk_lb_bs h hs hN]; exact k
theorem mx_all {post : Int32 → Prop} (k : post (((1 : Int32) <<< (nI N &&& 31)) - 1)) : (wpX_allStates post ((nI N), nd, vl, wt, lb, kd, fi, se, bo, tn, td, tr, vn, vd, pa, np, un, mx)) := k
theorem mx_rowTotal_l {post : Int32 → Prop} {s : Nat} (hN : N ≤ 12) (hW : mk_W wt N) (hs : s < N) (k : post (nI (mk_t (mk_w wt s) N))) : ∀ n t : Nat, t ≤ N → N < n + t → (wX_rowTotal_4 post (nI s) (nI N) nd vl wt lb kd fi se bo tn td tr vn vd pa np un mx n (nI (mk_t (mk_w wt s) t)) (nI t)) := by
  intro n
  induction n with
  | zero => intro t h1 h2; omega
  | succ n ih =>
    intro t h1 h2
    refine pk_le N t (fun h => ?_) (fun h => ⟨pk_in (s * 12 + t) 144 (by omega) (mk_i12 s t), ?_⟩)
    · obtain rfl : t = N := by omega
      exact k
    · refine nm_r (e' := nI (mk_t (mk_w wt s) (t + 1))) ?_ (nm_r (nI_1 t) (ih (t + 1) (by omega) (by omega)))
      rw [mk_i12, nI_clamp (by omega), (hW s hs).1 t (by omega), nI_add]; rfl
theorem mx_rowTotal {post : Int32 → Prop} {s : Nat} (hN : N ≤ 12) (hW : mk_W wt N) (hs : s < N) (k : post (nI (mk_t (mk_w wt s) N))) : (wpX_rowTotal post ((nI N), nd, vl, wt, lb, kd, fi, se, bo, tn, td, tr, vn, vd, pa, np, un, mx) (nI s)) :=
  ⟨N + 1, mx_rowTotal_l hN hW hs k (N + 1) 0 (by omega) (by omega)⟩
theorem mx_succ_l {post : Int32 → Prop} {s : Nat} (hN : N ≤ 12) (hW : mk_W wt N) (hs : s < N) (k : ∀ x, mk_bs N x (fun t => decide (0 < mk_w wt s t)) → post x) : ∀ (n t : Nat) (x : Int32), t ≤ N → N < n + t → mk_bs N x (fun i => decide (i < t) && decide (0 < mk_w wt s i)) → (wX_successors_4 post (nI s) (nI N) nd vl wt lb kd fi se bo tn td tr vn vd pa np un mx n x (nI t)) := by
  intro n
  induction n with
  | zero => intro t x h1 h2; omega
  | succ n ih =>
    intro t x h1 h2 hx
    refine pk_le N t (fun h => ?_) (fun h => ⟨pk_in (s * 12 + t) 144 (by omega) (mk_i12 s t), ?_⟩)
    · obtain rfl : t = N := by omega
      exact k x (mk_bs_end hx)
    · refine mk_pos (mk_w wt s t) (by rw [mk_i12, nI_clamp (by omega), (hW s hs).1 t (by omega)]) (by have := mk_W_le hW hs h; omega) (fun g => ?_) (fun g => ?_)
      · exact nm_r (nI_1 t) (ih (t + 1) x (by omega) (by omega) (mk_bs_no hx (decide_eq_false (by omega))))
      · exact nm_e (nm_r (nI_1 t) (ih (t + 1) _ (by omega) (by omega) (mk_bs_yes hx h hN (decide_eq_true g))))
theorem mx_succ {post : Int32 → Prop} {s : Nat} (hN : N ≤ 12) (hW : mk_W wt N) (hs : s < N) (k : ∀ x, mk_bs N x (fun t => decide (0 < mk_w wt s t)) → post x) : (wpX_successors post ((nI N), nd, vl, wt, lb, kd, fi, se, bo, tn, td, tr, vn, vd, pa, np, un, mx) (nI s)) :=
  ⟨N + 1, mx_succ_l hN hW hs k (N + 1) 0 0 (by omega) (by omega) mk_bs_beg⟩
theorem mx_lab_l {post : Int32 → Prop} {a : Nat} (hN : N ≤ 12) (ha : ¬ a = 4) (k : ∀ x, mk_bs N x (mk_at lb a) → post x) : ∀ (n t : Nat) (x : Int32), t ≤ N → N < n + t → mk_bs N x (fun i => decide (i < t) && mk_at lb a i) → (wX_labelledStates_14 post (nI a) (nI N) nd vl wt lb kd fi se bo tn td tr vn vd pa np un mx n x (nI t)) := by
  intro n
  induction n with
  | zero => intro t x h1 h2; omega
  | succ n ih =>
    intro t x h1 h2 hx
    have ea : ∀ i, mk_at lb a i = mk_lb (lb i) (nI a) := fun i => if_neg ha
    refine pk_le N t (fun h => ?_) (fun h => ⟨pk_in t 12 (by omega), ?_⟩)
    · obtain rfl : t = N := by omega
      exact k x (mk_bs_end hx)
    · rw [nI_clamp (by omega)]
      refine mx_contains (mk_bc (fun g => ?_) (fun g => ?_))
      · exact nm_r (nI_1 t) (ih (t + 1) x (by omega) (by omega) (mk_bs_no hx (by rw [ea]; exact g)))
      · exact nm_e (nm_r (nI_1 t) (ih (t + 1) _ (by omega) (by omega) (mk_bs_yes hx h hN (by rw [ea]; exact g))))
theorem mx_lab {post : Int32 → Prop} {a : Nat} (hN : N ≤ 12) (ha : a ≤ 4) (k : ∀ x, mk_bs N x (mk_at lb a) → post x) : (wpX_labelledStates post ((nI N), nd, vl, wt, lb, kd, fi, se, bo, tn, td, tr, vn, vd, pa, np, un, mx) (nI a)) := by
  unfold wpX_labelledStates
  refine pk_eq a 4 (fun h => ?_) (fun h => ⟨N + 1, mx_lab_l hN h k (N + 1) 0 0 (by omega) (by omega) mk_bs_beg⟩)
  exact mx_all (k _ (mk_bs_congr (mk_bs_all (by omega)) (fun s _ => (if_pos h).symm)))
theorem mx_compare {post : Int32 → Prop} {l r : Int64} {op : Int32} (k : post (mk_bi (mk_cmp l op r))) : (wpX_compare post () l op r) := by
  unfold wpX_compare
  by_cases h0 : op = 0
  · rw [mk_cmp0 h0] at k
    refine br_t h0 ?_
    by_cases h : r ≤ l
    · rw [mk_bi_dt h] at k
      exact br_f (Int64.not_lt.mpr h) k
    · rw [mk_bi_df h] at k
      exact br_t (Int64.not_le.mp h) k
  · refine br_f h0 ?_
    by_cases h1 : op = 1
    · rw [mk_cmp1 h0 h1] at k
      refine br_t h1 ?_
      by_cases h : r < l
      · rw [mk_bi_dt h] at k
        exact br_f (Int64.not_le.mpr h) k
      · rw [mk_bi_df h] at k
        exact br_t (Int64.not_lt.mp h) k
    · refine br_f h1 ?_
      by_cases h2 : op = 2
      · rw [mk_cmp2 h0 h1 h2] at k
        refine br_t h2 ?_
        by_cases h : l ≤ r
        · rw [mk_bi_dt h] at k
          exact br_f (Int64.not_lt.mpr h) k
        · rw [mk_bi_df h] at k
          exact br_t (Int64.not_le.mp h) k
      · rw [mk_cmp3 h0 h1 h2] at k
        refine br_f h2 ?_
        by_cases h : l < r
        · rw [mk_bi_dt h] at k
          exact br_f (Int64.not_le.mpr h) k
        · rw [mk_bi_df h] at k
          exact br_t (Int64.not_lt.mp h) k
def mk_cq (vn vd : Nat → Int64) (j : Nat) (op tn td : Int32) (s : Nat) : Bool := mk_cmp (vn (j * 12 + s) * td.toInt64) op (tn.toInt64 * vd (j * 12 + s))
theorem mx_cmps_l {post : Int32 → Prop} {i j : Nat} (hN : N ≤ 12) (hi : i < 16) (hj : j < 16) (hf : fi i = nI j) (k : ∀ x, mk_bs N x (mk_cq vn vd j (se i) (tn i) (td i)) → post x) : ∀ (n t : Nat) (x : Int32), t ≤ N → N < n + t → mk_bs N x (fun s => decide (s < t) && mk_cq vn vd j (se i) (tn i) (td i) s) → (wX_comparedStates_4 post (nI i) (nI N) nd vl wt lb kd fi se bo tn td tr vn vd pa np un mx n x (nI t)) := by
  intro n
  induction n with
  | zero => intro t x h1 h2; omega
  | succ n ih =>
    intro t x h1 h2 hx
    refine pk_le N t (fun h => ?_) (fun h => ⟨pk_in i 16 hi, ?_⟩)
    · obtain rfl : t = N := by omega
      exact k x (mk_bs_end hx)
    · refine nm_r (e' := nI (j * 12 + t)) (by rw [nI_clamp (by omega), hf, mk_i12]) ?_
      have hc : (nI i).toNatClampNeg = i := nI_clamp (by omega)
      have hd : (nI (j * 12 + t)).toNatClampNeg = j * 12 + t := nI_clamp (by omega)
      refine ⟨pk_in (j * 12 + t) 192 (by omega), pk_in i 16 hi, ?_⟩
      rw [hc, hd]
      refine nm_e ⟨pk_in i 16 hi, pk_in (j * 12 + t) 192 (by omega), nm_e ⟨pk_in i 16 hi, ?_⟩⟩
      refine mx_compare (mk_bc (fun g => ?_) (fun g => ?_))
      · exact nm_r (nI_1 t) (ih (t + 1) x (by omega) (by omega) (mk_bs_no hx g))
      · exact nm_e (nm_r (nI_1 t) (ih (t + 1) _ (by omega) (by omega) (mk_bs_yes hx h hN g)))
theorem mx_cmps {post : Int32 → Prop} {i j : Nat} (hN : N ≤ 12) (hi : i < 16) (hj : j < 16) (hf : fi i = nI j) (k : ∀ x, mk_bs N x (mk_cq vn vd j (se i) (tn i) (td i)) → post x) : (wpX_comparedStates post ((nI N), nd, vl, wt, lb, kd, fi, se, bo, tn, td, tr, vn, vd, pa, np, un, mx) (nI i)) :=
  ⟨N + 1, mx_cmps_l hN hi hj hf k (N + 1) 0 0 (by omega) (by omega) mk_bs_beg⟩
end
