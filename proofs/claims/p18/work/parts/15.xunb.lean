/-! the component: the unbounded until -/
def mk_vn (A : Nat → Nat → Int) (m r : Nat) : Int64 := lN ((mk_E A m r m).natAbs / Nat.gcd (mk_E A m r m).natAbs (mk_E A m r r).natAbs)
def mk_vm (A : Nat → Nat → Int) (m r : Nat) : Int64 := lN ((mk_E A m r r).natAbs / Nat.gcd (mk_E A m r m).natAbs (mk_E A m r r).natAbs)
/-- the values after r rows -/
def mk_F (U O : Nat → Bool) (A : Nat → Nat → Int) (m r s : Nat) : Int64 := if U s = true ∧ mk_cn U s < r then mk_vn A m (mk_cn U s) else if O s = true then 1 else 0
def mk_G (U : Nat → Bool) (A : Nat → Nat → Int) (m r s : Nat) : Int64 := if U s = true ∧ mk_cn U s < r then mk_vm A m (mk_cn U s) else 1
def mk_un (wt : Nat → Int32) (N : Nat) (phi psi : Nat → Bool) : Nat → Int64 := mk_F (mk_U (mk_w wt) N phi psi) (mk_O (mk_w wt) N phi psi) (mk_M wt N phi psi) (mk_cn (mk_U (mk_w wt) N phi psi) N) (mk_cn (mk_U (mk_w wt) N phi psi) N)
def mk_um (wt : Nat → Int32) (N : Nat) (phi psi : Nat → Bool) : Nat → Int64 := mk_G (mk_U (mk_w wt) N phi psi) (mk_M wt N phi psi) (mk_cn (mk_U (mk_w wt) N phi psi) N) (mk_cn (mk_U (mk_w wt) N phi psi) N)
theorem mk_FG {U : Nat → Bool} {N r : Nat} (hr : r < mk_cn U N) {α : Type} (f : Nat → α) (g : Nat → α) (s : Nat) (hs : s < N) : (if s = mk_id U N r then f r else if U s = true ∧ mk_cn U s < r then f (mk_cn U s) else g s) = if U s = true ∧ mk_cn U s < r + 1 then f (mk_cn U s) else g s := by
  obtain ⟨a, b, c⟩ := mk_L_idx (mk_id_L U N) hr
  by_cases e : s = mk_id U N r
  · rw [if_pos e, e, c, if_pos ⟨b, Nat.lt_succ_self r⟩]
  · rw [if_neg e]
    by_cases h : U s = true ∧ mk_cn U s < r
    · rw [if_pos h, if_pos ⟨h.1, by omega⟩]
    · rw [if_neg h, if_neg]
      intro z
      have h2 : mk_cn U s = r := by
        by_cases g : mk_cn U s < r
        · exact absurd ⟨z.1, g⟩ h
        · omega
      have h3 := mk_id_L U N s hs z.1
      rw [h2] at h3
      exact e h3.symm
section
variable {N : Nat} {nd vl : Int32} {wt lb kd fi se bo tn td tr un : Nat → Int32} {vn vd pa np mx : Nat → Int64}
theorem mx_eu3 {post : St2 → Prop} {i m : Nat} {U O : Nat → Bool} {A : Nat → Nat → Int} {vn0 vd0 : Nat → Int64} (hN : N ≤ 12) (hi : i < 16) (H : mk_H A m) (em : mk_cn U N = m) (hun : ∀ s, s < N → U s = true → un (mk_cn U s) = nI s) (hmx : ∀ r c, r < m → c ≤ m → mx (r * 13 + c) = mk_z (mk_E A m r c)) (k : ∀ q q' : Nat → Int64, mk_cell N i vn0 q (mk_F U O A m m) → mk_cell N i vd0 q' (mk_G U A m m) → post ((nI N), nd, vl, wt, lb, kd, fi, se, bo, tn, td, tr, q, q', pa, np, un, mx)) : ∀ (n r : Nat) (q q' : Nat → Int64), r ≤ m → m < n + r → mk_cell N i vn0 q (mk_F U O A m r) → mk_cell N i vd0 q' (mk_G U A m r) → (wX_evaluateUnbounded_156 post (nI i) (nI m) n (nI r) (nI N) nd vl wt lb kd fi se bo tn td tr q q' pa np un mx) := by
  have h10 := H.1
  intro n
  induction n with
  | zero => intro r q q' h1 h2; omega
  | succ n ih =>
    intro r q q' h1 h2 hq hq'
    refine pk_le m r (fun h => ?_) (fun h => ?_)
    · obtain rfl : r = m := by omega
      exact k q q' hq hq'
    · have hrU : r < mk_cn U N := by omega
      obtain ⟨e1, hs, _, _⟩ := mk_idx hun hrU
      have p1 := mk_H_rhs H (k := m) (Nat.le_refl m) h
      have p2 := mk_H_own H (k := m) (Nat.le_refl m) h
      have b1 := mk_H_B H (k := m) (i := r) (j := m) (Nat.le_refl m) h (by omega)
      have b2 := mk_H_B H (k := m) (i := r) (j := r) (Nat.le_refl m) h (by omega)
      refine nm_r (mk_m13 r) ⟨pk_in r 12 (by omega), pk_in (r * 13 + m) 156 (by omega) (nI_add _ _), pk_in (r * 13 + r) 156 (by omega) (nI_add _ _), ?_⟩
      rw [nI_add, nI_add, nI_clamp (show r * 13 + m < 2 ^ 31 by omega), nI_clamp (show r * 13 + r < 2 ^ 31 by omega), nI_clamp (show r < 2 ^ 31 by omega), e1, hmx r m h (Nat.le_refl m), hmx r r h (by omega), mk_z_nat p1, mk_z_nat (Int.le_of_lt p2)]
      refine mx_store (vn := q) (vd := q') hi (by omega) (by omega) (by omega) (by omega) ?_
      refine nm_r (nI_1 r) (ih (r + 1) _ _ (by omega) (by omega) ?_ ?_)
      · exact mk_cell_congr (mk_cell_put hs hq) (fun s hs' => mk_FG hrU (mk_vn A m) (fun s => if O s = true then 1 else 0) s hs')
      · exact mk_cell_congr (mk_cell_put hs hq') (fun s hs' => mk_FG hrU (mk_vm A m) (fun _ => 1) s hs')
theorem mx_eu2 {post : St2 → Prop} {i m : Nat} {U O : Nat → Bool} {A : Nat → Nat → Int} {x7 : Int32} (hN : N ≤ 12) (hW : mk_W wt N) (hi : i < 16) (eA : A = mk_A (mk_w wt) N O (mk_id U N) m) (H : mk_H A m) (em : mk_cn U N = m) (hO : mk_bs N x7 O) (hun : ∀ s, s < N → U s = true → un (mk_cn U s) = nI s) {vn0 vd0 : Nat → Int64} (hq : mk_cell N i vn0 vn (mk_F U O A m 0)) (hq' : mk_cell N i vd0 vd (mk_G U A m 0)) (k : ∀ (q q' z : Nat → Int64), mk_cell N i vn0 q (mk_F U O A m m) → mk_cell N i vd0 q' (mk_G U A m m) → post ((nI N), nd, vl, wt, lb, kd, fi, se, bo, tn, td, tr, q, q', pa, np, un, z)) : ∀ (n r : Nat) (z : Nat → Int64), r ≤ m → m < n + r → (∀ i c, i < r → c ≤ m → z (i * 13 + c) = mk_z (A i c)) → (wX_evaluateUnbounded_124 post (nI i) x7 (nI m) n (nI r) (nI N) nd vl wt lb kd fi se bo tn td tr vn vd pa np un z) := by
  have h10 := H.1
  intro n
  induction n with
  | zero => intro r z h1 h2; omega
  | succ n ih =>
    intro r z h1 h2 hz
    refine pk_le m r (fun h => ?_) (fun h => ?_)
    · obtain rfl : r = m := by omega
      refine mx_el (mx := z) H hz (fun z' hz' => ?_)
      exact ⟨r + 1, mx_eu3 (mx := z') hN hi H em hun hz' (fun q q' a b => k q q' z' a b) (r + 1) 0 vn vd (by omega) (by omega) hq hq'⟩
    · refine mx_fr (mx := z) hN hW em h10 h hO hun (fun z' a b => ?_)
      refine nm_r (nI_1 r) (ih (r + 1) z' (by omega) (by omega) (fun i' c hi' hc => ?_))
      by_cases e : i' = r
      · rw [e, eA]; exact a c hc
      · rw [b _ (fun c' hc' => by omega)]; exact hz i' c (by omega) hc
theorem mx_eu1 {post : St2 → Prop} {i m : Nat} {U O : Nat → Bool} {A : Nat → Nat → Int} {x4 x6 x7 : Int32} (hN : N ≤ 12) (hW : mk_W wt N) (hi : i < 16) (eA : A = mk_A (mk_w wt) N O (mk_id U N) m) (H : mk_H A m) (em : mk_cn U N = m) (hO : mk_bs N x7 O) (hU : mk_bs N (x4 &&& x6) U) {vn0 vd0 : Nat → Int64} (k : ∀ (q q' z : Nat → Int64) (y : Nat → Int32), mk_cell N i vn0 q (mk_F U O A m m) → mk_cell N i vd0 q' (mk_G U A m m) → post ((nI N), nd, vl, wt, lb, kd, fi, se, bo, tn, td, tr, q, q', pa, np, y, z)) : ∀ (n s : Nat) (q q' : Nat → Int64), s ≤ N → N < n + s → mk_cell s i vn0 q (mk_F U O A m 0) → mk_cell s i vd0 q' (mk_G U A m 0) → (wX_evaluateUnbounded_68 post (nI i) x4 x6 x7 n (nI s) (nI N) nd vl wt lb kd fi se bo tn td tr q q' pa np un mx) := by
  intro n
  induction n with
  | zero => intro s q q' h1 h2; omega
  | succ n ih =>
    intro s q q' h1 h2 hq hq'
    have hF : ∀ s, mk_F U O A m 0 s = if O s = true then 1 else 0 := fun s => if_neg (fun z => by omega)
    have hG : ∀ s, mk_G U A m 0 s = 1 := fun s => if_neg (fun z => by omega)
    refine pk_le N s (fun h => ?_) (fun h => ?_)
    · obtain rfl : s = N := by omega
      refine mx_lu hN hU (fun y hy => ?_)
      rw [em]
      exact ⟨m + 1, mx_eu2 (vn := q) (vd := q') (un := y) hN hW hi eA H em hO hy hq hq' (fun a b c d e => k a b c y d e) (m + 1) 0 mx (by omega) (by omega) (fun _ _ z => by omega)⟩
    · refine mx_has hO h hN (mk_bc (fun e => ?_) (fun e => ?_))
      · refine mx_store (vn := q) (vd := q') (a := 0) (b := 1) hi (by omega) (by omega) (by omega) (by omega) ?_
        refine nm_r (nI_1 s) (ih (s + 1) _ _ (by omega) (by omega) ?_ ?_)
        · have g := mk_cell_s hq
          rw [hF s, e] at g; exact g
        · have g := mk_cell_s hq'
          rw [hG s] at g; exact g
      · refine mx_store (vn := q) (vd := q') (a := 1) (b := 1) hi (by omega) (by omega) (by omega) (by omega) ?_
        refine nm_r (nI_1 s) (ih (s + 1) _ _ (by omega) (by omega) ?_ ?_)
        · have g := mk_cell_s hq
          rw [hF s, e] at g; exact g
        · have g := mk_cell_s hq'
          rw [hG s] at g; exact g
theorem mx_eu {post : St2 → Prop} {i j l : Nat} (hN : N ≤ 12) (hW : mk_W wt N) (hi : i < 16) (hj : j < 16) (hl : l < 16) (hfi : fi i = nI j) (hse : se i = nI l) (h1 : mk_bs N (tr j) (bt (tr j))) (h2 : mk_bs N (tr l) (bt (tr l))) (k : ∀ (q q' z : Nat → Int64) (y : Nat → Int32), mk_cell N i vn q (mk_un wt N (bt (tr j)) (bt (tr l))) → mk_cell N i vd q' (mk_um wt N (bt (tr j)) (bt (tr l))) → post ((nI N), nd, vl, wt, lb, kd, fi, se, bo, tn, td, tr, q, q', pa, np, y, z)) : (wpX_evaluateUnbounded post ((nI N), nd, vl, wt, lb, kd, fi, se, bo, tn, td, tr, vn, vd, pa, np, un, mx) (nI i)) := by
  unfold wpX_evaluateUnbounded
  have hc : (nI i).toNatClampNeg = i := nI_clamp (by omega)
  have hpsi : ∀ s, bt (tr l) s = true → s < N := fun s hs => mk_bs_lt h2 hs
  refine ⟨pk_in i 16 hi, ?_⟩
  rw [hc, hfi]
  refine ⟨pk_in j 16 hj, nm_r (e' := tr j) (by rw [nI_clamp (by omega)]) ⟨pk_in i 16 hi, ?_⟩⟩
  rw [hse]
  refine ⟨pk_in l 16 hl, nm_r (e' := tr l) (by rw [nI_clamp (by omega)]) ?_⟩
  refine mx_sr hN hW h1 h2 (fun x4 h4 => ?_)
  refine mx_all ?_
  refine nm_e ?_
  have h5 := mk_bs_congr (mk_bs_diff (mk_bs_all (N := N) (by omega)) h4) (q := mk_Z (mk_w wt) N (bt (tr j)) (bt (tr l))) (fun s hs => by
    show (true && !mk_reach (mk_w wt) N (bt (tr j)) (bt (tr l)) N s) = (decide (s < N) && !mk_R1 (mk_w wt) N (bt (tr j)) (bt (tr l)) s)
    rw [decide_eq_true hs]; rfl)
  refine mx_sr hN hW (mk_bs_diff h1 h2) h5 (fun x6 h6 => ?_)
  refine nm_e ?_
  have h7 : mk_bs N (x4 &&& (x6 ^^^ (-1))) (mk_O (mk_w wt) N (bt (tr j)) (bt (tr l))) := mk_bs_diff h4 h6
  have h8 : mk_bs N (x4 &&& x6) (mk_U (mk_w wt) N (bt (tr j)) (bt (tr l))) := mk_bs_and h4 h6
  exact ⟨N + 1, mx_eu1 hN hW hi rfl (mk_M_H hW hN hpsi) rfl h7 h8 k (N + 1) 0 vn vd (by omega) (by omega) mk_cell_0 mk_cell_0⟩
end
