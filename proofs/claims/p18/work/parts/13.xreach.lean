/-! the component: states that reach, the list of the unknown ones -/
theorem mk_pass_no {w : Nat → Nat → Nat} {N : Nat} {via q : Nat → Bool} {s : Nat} (h : (via s && mk_sc w N (mk_pass w N via q s) s) = false) (t : Nat) : mk_pass w N via q s t = mk_pass w N via q (s + 1) t := by
  show _ = mk_add w N via (mk_pass w N via q s) s t
  by_cases e : t = s
  · rw [e, mk_add_at, h, Bool.or_false]
  · rw [mk_add_ne e]
theorem mk_pass_yes {w : Nat → Nat → Nat} {N : Nat} {via q : Nat → Bool} {s : Nat} (h : (via s && mk_sc w N (mk_pass w N via q s) s) = true) (t : Nat) : (if t = s then true else mk_pass w N via q s t) = mk_pass w N via q (s + 1) t := by
  show _ = mk_add w N via (mk_pass w N via q s) s t
  by_cases e : t = s
  · rw [if_pos e, e, mk_add_at, h, Bool.or_true]
  · rw [if_neg e, mk_add_ne e]
section
variable {N : Nat} {nd vl : Int32} {wt lb kd fi se bo tn td tr un : Nat → Int32} {vn vd pa np mx : Nat → Int64}
theorem mx_sr2 {post : Int32 → Prop} {J : Int32 → Int32 → Prop} {x2 x4 : Int32} {v q : Nat → Bool} (hN : N ≤ 12) (hW : mk_W wt N) (hv : mk_bs N x2 v) (k : ∀ x, mk_bs N x (mk_pass (mk_w wt) N v q N) → J x (x4 + 1)) : ∀ (n s : Nat) (x : Int32), s ≤ N → N < n + s → mk_bs N x (mk_pass (mk_w wt) N v q s) → (wX_statesReaching_17 post J x2 x4 (nI N) nd vl wt lb kd fi se bo tn td tr vn vd pa np un mx n x (nI s)) := by
  intro n
  induction n with
  | zero => intro s x h1 h2; omega
  | succ n ih =>
    intro s x h1 h2 hx
    refine pk_le N s (fun h => ?_) (fun h => ?_)
    · obtain rfl : s = N := by omega
      exact nm_e (k x hx)
    · refine mx_has hv h hN (mk_bc (fun e => ?_) (fun e => ?_))
      · exact nm_r (nI_1 s) (ih (s + 1) x (by omega) (by omega) (mk_bs_congr hx (fun t _ => mk_pass_no (by rw [e, Bool.false_and]) t)))
      · refine mx_succ hN hW h (fun y hy => ?_)
        have hz := mk_bs_eq0 (mk_bs_and hy hx) (by omega)
        by_cases z : y &&& x = 0
        · refine br_t z (nm_r (nI_1 s) (ih (s + 1) x (by omega) (by omega) (mk_bs_congr hx (fun t _ => mk_pass_no ?_ t))))
          rw [e, Bool.true_and]; exact hz.mp z
        · refine br_f z (nm_e (nm_r (nI_1 s) (ih (s + 1) _ (by omega) (by omega) (mk_bs_congr (mk_bs_put hx h (by omega)) (fun t _ => mk_pass_yes ?_ t)))))
          rw [e, Bool.true_and]
          cases hb : mk_sc (mk_w wt) N (mk_pass (mk_w wt) N v q s) s with
          | true => rfl
          | false => exact absurd (hz.mpr hb) z
theorem mx_sr1 {post : Int32 → Prop} {x2 : Int32} {v p : Nat → Bool} (hN : N ≤ 12) (hW : mk_W wt N) (hv : mk_bs N x2 v) (k : ∀ x, mk_bs N x (mk_reach (mk_w wt) N v p N) → post x) : ∀ (n r : Nat) (x : Int32), r ≤ N → N < n + r → mk_bs N x (mk_reach (mk_w wt) N v p r) → (wX_statesReaching_5 post x2 (nI N) nd vl wt lb kd fi se bo tn td tr vn vd pa np un mx n x (nI r)) := by
  intro n
  induction n with
  | zero => intro r x h1 h2; omega
  | succ n ih =>
    intro r x h1 h2 hx
    refine pk_le N r (fun h => ?_) (fun h => ?_)
    · obtain rfl : r = N := by omega
      exact k x hx
    · refine ⟨N + 1, mx_sr2 (q := mk_reach (mk_w wt) N v p r) hN hW hv (fun y hy => ?_) (N + 1) 0 x (by omega) (by omega) hx⟩
      rw [nI_1]
      exact ih (r + 1) y (by omega) (by omega) hy
theorem mx_sr {post : Int32 → Prop} {x1 x2 : Int32} {v p : Nat → Bool} (hN : N ≤ 12) (hW : mk_W wt N) (hv : mk_bs N x2 v) (hp : mk_bs N x1 p) (k : ∀ x, mk_bs N x (mk_reach (mk_w wt) N v p N) → post x) : (wpX_statesReaching post ((nI N), nd, vl, wt, lb, kd, fi, se, bo, tn, td, tr, vn, vd, pa, np, un, mx) x1 x2) :=
  ⟨N + 1, mx_sr1 hN hW hv k (N + 1) 0 x1 (by omega) (by omega) hp⟩
theorem mx_lu_l {post : Int32 → St2 → Prop} {x1 : Int32} {U : Nat → Bool} (hN : N ≤ 12) (hU : mk_bs N x1 U) (k : ∀ q : Nat → Int32, (∀ s, s < N → U s = true → q (mk_cn U s) = nI s) → post (nI (mk_cn U N)) ((nI N), nd, vl, wt, lb, kd, fi, se, bo, tn, td, tr, vn, vd, pa, np, q, mx)) : ∀ (n s : Nat) (q : Nat → Int32), s ≤ N → N < n + s → (∀ t, t < s → U t = true → q (mk_cn U t) = nI t) → (wX_listUnknowns_4 post x1 (nI N) nd vl n (nI (mk_cn U s)) (nI s) wt lb kd fi se bo tn td tr vn vd pa np q mx) := by
  intro n
  induction n with
  | zero => intro s q h1 h2; omega
  | succ n ih =>
    intro s q h1 h2 hq
    have hc := mk_cn_le U s
    refine pk_le N s (fun h => ?_) (fun h => ?_)
    · obtain rfl : s = N := by omega
      exact k q hq
    · refine mx_has hU h hN (mk_bc (fun e => ?_) (fun e => ?_))
      · have e1 : mk_cn U (s + 1) = mk_cn U s := mk_cn_f (by rw [e]; decide)
        have g := ih (s + 1) q (by omega) (by omega) (fun t ht hu => by
          by_cases z : t = s
          · rw [z, e] at hu; exact absurd hu (by decide)
          · exact hq t (by omega) hu)
        rw [e1] at g
        exact nm_r (nI_1 s) g
      · have e1 : mk_cn U (s + 1) = mk_cn U s + 1 := mk_cn_t e
        have g := ih (s + 1) (upd q (mk_cn U s) (nI s)) (by omega) (by omega) (fun t ht hu => by
          by_cases z : t = s
          · rw [z, pk_us]
          · have h3 := mk_cn_lt hu (show t < s by omega)
            rw [pk_un (by omega)]
            exact hq t (by omega) hu)
        rw [e1] at g
        refine ⟨pk_in (mk_cn U s) 12 (by omega), ?_⟩
        rw [nI_clamp (by omega)]
        exact nm_e (nm_r (nI_1 _) (nm_r (nI_1 s) g))
theorem mx_lu {post : Int32 → St2 → Prop} {x1 : Int32} {U : Nat → Bool} (hN : N ≤ 12) (hU : mk_bs N x1 U) (k : ∀ q : Nat → Int32, (∀ s, s < N → U s = true → q (mk_cn U s) = nI s) → post (nI (mk_cn U N)) ((nI N), nd, vl, wt, lb, kd, fi, se, bo, tn, td, tr, vn, vd, pa, np, q, mx)) : (wpX_listUnknowns post ((nI N), nd, vl, wt, lb, kd, fi, se, bo, tn, td, tr, vn, vd, pa, np, un, mx) x1) :=
  ⟨N + 1, mx_lu_l hN hU k (N + 1) 0 un (by omega) (by omega) (fun t ht => by omega)⟩
end
