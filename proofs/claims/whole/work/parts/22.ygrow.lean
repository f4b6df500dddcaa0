/-! the reference: the states that reach -/
theorem mk_any_s (f : Nat → Bool) (n : Nat) : mk_any f (n + 1) = (mk_any f n || f n) := rfl
theorem mk_add_no {w : Nat → Nat → Nat} {N : Nat} {via q : Nat → Bool} {s : Nat} (h : q s = true ∨ via s = false) (t : Nat) : q t = mk_add w N via q s t := by
  by_cases e : t = s
  · rw [e, mk_add_at]
    rcases h with h | h
    · rw [h]; rfl
    · rw [h, Bool.false_and, Bool.or_false]
  · rw [mk_add_ne e]
section
variable {N : Nat} {nd vl : Int32} {wt lb kd fi se nc ne th ph ps ze oe ma ix po : Nat → Int32} {vn vd cu nx mt : Nat → Int64}
theorem my_gr2 {post : SY → Prop} {J : (Int32 → (Nat → Int32) → (Nat → Int32) → (Nat → Int32) → (Nat → Int32) → (Nat → Int32) → (Nat → Int32) → (Nat → Int32) → (Nat → Int32) → (Nat → Int64) → (Nat → Int64) → (Nat → Int32) → (Nat → Int32) → (Nat → Int32) → (Nat → Int32) → (Nat → Int32) → (Nat → Int64) → (Nat → Int64) → (Nat → Int32) → (Nat → Int32) → (Nat → Int64) → Prop)} {x1 : Int32} {s : Nat} {q v : Nat → Bool} (hN : N ≤ 12) (hW : mk_W wt N) (hs : s < N) (hq : q s = false) (hv : v s = true) (k : ∀ M : Nat → Int32, mk_ba N M (mk_add (mk_w wt) N v q s) → (J (nI s + 1) wt lb kd fi se nc ne th vn vd ph ps ze oe M cu nx ix po mt)) : ∀ (n t : Nat) (M : Nat → Int32), t ≤ N → N < n + t → mk_ba N M (fun u => if u = s then mk_any (fun t => decide (0 < mk_w wt s t) && q t) t else q u) → (wY_grow_46 post J x1 (nI s) (nI N) nd vl n (nI t) wt lb kd fi se nc ne th vn vd ph ps ze oe M cu nx ix po mt) := by
  intro n
  induction n with
  | zero => intro t M h1 h2; omega
  | succ n ih =>
    intro t M h1 h2 hM
    refine pk_le N t (fun h => ?_) (fun h => ⟨pk_in (s * 12 + t) 144 (by omega) (mk_i12 s t), ?_⟩)
    · obtain rfl : t = N := by omega
      refine nm_e (k M (mk_ba_congr hM (fun u hu => ?_)))
      by_cases e : u = s
      · rw [if_pos e, e, mk_add_at, hq, hv]; rfl
      · rw [if_neg e, mk_add_ne e]
    · have hw := mk_W_le hW hs h
      have no : (decide (0 < mk_w wt s t) && q t) = false → mk_ba N M (fun u => if u = s then mk_any (fun t => decide (0 < mk_w wt s t) && q t) (t + 1) else q u) := by
        intro z
        rw [mk_any_s, z, Bool.or_false]; exact hM
      refine mk_pos (mk_w wt s t) (by rw [mk_i12, nI_clamp (by omega), (hW s hs).1 t h]) (by omega) (fun g => ?_) (fun g => ⟨pk_in t 12 (by omega), ?_⟩)
      · refine nm_r (nI_1 t) (ih (t + 1) M (by omega) (by omega) (no ?_))
        rw [decide_eq_false (by omega), Bool.false_and]
      · rw [nI_clamp (show t < 2 ^ 31 by omega)]
        refine mk_bc' (hM t h) (fun e => ?_) (fun e => ⟨pk_in s 12 (by omega), ?_⟩)
        · replace e : (if t = s then mk_any (fun t => decide (0 < mk_w wt s t) && q t) t else q t) = false := e
          refine nm_r (nI_1 t) (ih (t + 1) M (by omega) (by omega) (no ?_))
          by_cases z : t = s
          · rw [z, hq, Bool.and_false]
          · rw [if_neg z] at e
            rw [e, Bool.and_false]
        · replace e : (if t = s then mk_any (fun t => decide (0 < mk_w wt s t) && q t) t else q t) = true := e
          rw [nI_clamp (show s < 2 ^ 31 by omega)]
          refine nm_e (nm_r (nI_1 t) (ih (t + 1) _ (by omega) (by omega) ?_))
          refine mk_ba_congr (mk_ba_put hM (s := s) true) (fun u hu => ?_)
          by_cases z : u = s
          · rw [if_pos z, if_pos z, mk_any_s]
            by_cases z2 : t = s
            · rw [if_pos z2] at e
              rw [z2] at e ⊢
              rw [e]; rfl
            · rw [if_neg z2] at e
              rw [e, decide_eq_true g, Bool.true_and, Bool.or_true]
          · rw [if_neg z, if_neg z, if_neg z]
theorem my_gr1 {post : SY → Prop} {np : Bool} {phi psi v q : Nat → Bool} (hN : N ≤ 12) (hW : mk_W wt N) (h1 : mk_ba N ph phi) (h2 : mk_ba N ps psi) (hv : ∀ s, s < N → v s = (phi s && !(np && psi s))) (k : ∀ M : Nat → Int32, mk_ba N M (mk_pass (mk_w wt) N v q N) → post ((nI N), nd, vl, wt, lb, kd, fi, se, nc, ne, th, vn, vd, ph, ps, ze, oe, M, cu, nx, ix, po, mt)) : ∀ (n s : Nat) (M : Nat → Int32), s ≤ N → N < n + s → mk_ba N M (mk_pass (mk_w wt) N v q s) → (wY_grow_2 post (mk_bi np) (nI N) nd vl n (nI s) wt lb kd fi se nc ne th vn vd ph ps ze oe M cu nx ix po mt) := by
  intro n
  induction n with
  | zero => intro s M g1 g2; omega
  | succ n ih =>
    intro s M g1 g2 hM
    refine pk_le N s (fun h => ?_) (fun h => ⟨pk_in s 12 (by omega), ?_⟩)
    · obtain rfl : s = N := by omega
      exact k M hM
    · have hin : vp_in (nI s) 12 := pk_in s 12 (by omega)
      have hc : (nI s).toNatClampNeg = s := nI_clamp (by omega)
      have no : (mk_pass (mk_w wt) N v q s s = true ∨ v s = false) → mk_ba N M (mk_pass (mk_w wt) N v q (s + 1)) := fun z => mk_ba_congr hM (fun t _ => mk_add_no z t)
      have yes : mk_pass (mk_w wt) N v q s s = false → v s = true → ∃ m, (wY_grow_46 post (wY_grow_2 post (mk_bi np) (nI N) nd vl n) (mk_bi np) (nI s) (nI N) nd vl m 0 wt lb kd fi se nc ne th vn vd ph ps ze oe M cu nx ix po mt) := by
        intro a b
        refine ⟨N + 1, my_gr2 hN hW h a b (fun M' hM' => ?_) (N + 1) 0 M (by omega) (by omega) (mk_ba_congr hM (fun u hu => ?_))⟩
        · rw [nI_1]; exact ih (s + 1) M' (by omega) (by omega) hM'
        · by_cases e : u = s
          · rw [if_pos e, e, a]; rfl
          · rw [if_neg e]
      rw [hc]
      refine mk_bc' (hM s h) (fun e => ⟨hin, ?_⟩) (fun e => nm_r (nI_1 s) (ih (s + 1) M (by omega) (by omega) (no (Or.inl e))))
      refine mk_bc' (h1 s h) (fun e1 => nm_r (nI_1 s) (ih (s + 1) M (by omega) (by omega) (no (Or.inr (by rw [hv s h, e1, Bool.false_and]))))) (fun e1 => ?_)
      refine mk_bc (fun e3 => yes e (by rw [hv s h, e1, e3]; rfl)) (fun e3 => ⟨hin, ?_⟩)
      refine mk_bc' (h2 s h) (fun e2 => yes e (by rw [hv s h, e1, e3, e2]; rfl)) (fun e2 => nm_r (nI_1 s) (ih (s + 1) M (by omega) (by omega) (no (Or.inr (by rw [hv s h, e1, e3, e2]; rfl)))))
theorem my_gr {post : SY → Prop} {np : Bool} {phi psi v q : Nat → Bool} (hN : N ≤ 12) (hW : mk_W wt N) (h1 : mk_ba N ph phi) (h2 : mk_ba N ps psi) (hv : ∀ s, s < N → v s = (phi s && !(np && psi s))) (hM : mk_ba N ma q) (k : ∀ M : Nat → Int32, mk_ba N M (mk_pass (mk_w wt) N v q N) → post ((nI N), nd, vl, wt, lb, kd, fi, se, nc, ne, th, vn, vd, ph, ps, ze, oe, M, cu, nx, ix, po, mt)) : (wpY_grow post ((nI N), nd, vl, wt, lb, kd, fi, se, nc, ne, th, vn, vd, ph, ps, ze, oe, ma, cu, nx, ix, po, mt) (mk_bi np)) :=
  ⟨N + 1, my_gr1 hN hW h1 h2 hv k (N + 1) 0 ma (by omega) (by omega) hM⟩
end
