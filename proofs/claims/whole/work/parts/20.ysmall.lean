/-! the reference's small methods -/
section
variable {N : Nat} {nd vl : Int32} {wt lb kd fi se nc ne th ph ps ze oe ma ix po : Nat → Int32} {vn vd cu nx mt : Nat → Int64}
theorem my_rowTotal_l {post : Int32 → Prop} {s : Nat} (hN : N ≤ 12) (hW : mk_W wt N) (hs : s < N) (k : post (nI (mk_t (mk_w wt s) N))) : ∀ n t : Nat, t ≤ N → N < n + t → (wY_rowTotal_4 post (nI s) (nI N) nd vl wt lb kd fi se nc ne th vn vd ph ps ze oe ma cu nx ix po mt n (nI (mk_t (mk_w wt s) t)) (nI t)) := by
  intro n
  induction n with
  | zero => intro t h1 h2; omega
  | succ n ih =>
    intro t h1 h2
    refine pk_le N t (fun h => ?_) (fun h => ⟨pk_in (s * 12 + t) 144 (by omega) (mk_i12 s t), ?_⟩)
    · obtain rfl : t = N := by omega
      exact k
    · refine nm_r (e' := nI (mk_t (mk_w wt s) (t + 1))) ?_ (nm_r (nI_1 t) (ih (t + 1) (by omega) (by omega)))
      rw [mk_i12, nI_clamp (by omega), (hW s hs).1 t (by omega), nI_add]; rfl
theorem my_rowTotal {post : Int32 → Prop} {s : Nat} (hN : N ≤ 12) (hW : mk_W wt N) (hs : s < N) (k : post (nI (mk_t (mk_w wt s) N))) : (wpY_rowTotal post ((nI N), nd, vl, wt, lb, kd, fi, se, nc, ne, th, vn, vd, ph, ps, ze, oe, ma, cu, nx, ix, po, mt) (nI s)) :=
  ⟨N + 1, my_rowTotal_l hN hW hs k (N + 1) 0 (by omega) (by omega)⟩
theorem my_gcd_l {post : Int64 → Prop} : ∀ (f n a b : Nat), f ≤ 200 → f < n → a < 2 ^ 62 → b < 2 ^ 62 → post (lN (mk_e f a b)) → (wY_gcd_21 post (nI N) nd vl wt lb kd fi se nc ne th vn vd ph ps ze oe ma cu nx ix po mt n (lN a) (lN b) (nI (200 - f))) := by
  intro f
  induction f with
  | zero =>
    intro n a b _ hn _ _ k
    obtain ⟨n, rfl⟩ : ∃ m, n = m + 1 := ⟨n - 1, by omega⟩
    exact pk_le 200 200 (fun _ => k) (fun h => absurd h (by omega))
  | succ f ih =>
    intro n a b hf hn ha hb k
    obtain ⟨n, rfl⟩ : ∃ m, n = m + 1 := ⟨n - 1, by omega⟩
    refine pk_le 200 (200 - (f + 1)) (fun h => absurd h (by omega)) (fun _ => ?_)
    by_cases e : b = 0
    · subst e
      rw [mk_e_0] at k
      exact br_t rfl k
    · have hne : ¬ lN b = 0 := fun z => e ((pk_lEQ (b := 0) (by omega) (by omega)).mp z)
      rw [mk_e_s _ _ e] at k
      have hm := Nat.mod_lt a (show 0 < b by omega)
      refine br_f hne ⟨hne, nm_r (pk_lRem (by omega) (by omega) (by omega)) ?_⟩
      refine nm_r (e' := nI (200 - f)) ?_ (ih n b (a % b) (by omega) (by omega) hb (by omega) k)
      rw [nI_1]; congr 1; omega
theorem my_gcd0 {post : Int64 → Prop} {a b : Nat} (ha : a < 2 ^ 62) (hb : b < 2 ^ 62) (k : post (lN (Nat.gcd a b))) : ∃ n, (wY_gcd_21 post (nI N) nd vl wt lb kd fi se nc ne th vn vd ph ps ze oe ma cu nx ix po mt n (lN a) (lN b) 0) := by
  have h := my_gcd_l (N := N) (nd := nd) (vl := vl) (wt := wt) (lb := lb) (kd := kd) (fi := fi) (se := se) (nc := nc) (ne := ne) (th := th) (ph := ph) (ps := ps) (ze := ze) (oe := oe) (ma := ma) (ix := ix) (po := po) (vn := vn) (vd := vd) (cu := cu) (nx := nx) (mt := mt) (post := post) 200 201 a b (by omega) (by omega) ha hb (by rw [mk_e_gcd 62 a b 200 hb (by omega)]; exact k)
  rw [Nat.sub_self] at h
  exact ⟨201, h⟩
theorem mk_z_abs {x : Int} (h : x < 0) : - mk_z x = lN x.natAbs := by
  rw [mk_z_neg, mk_z_nat (by omega), Int.natAbs_neg]
theorem my_gcd {post : Int64 → Prop} {x y : Int} (hx : x.natAbs < 2 ^ 62) (hy : y.natAbs < 2 ^ 62) (k : post (lN (Nat.gcd x.natAbs y.natAbs))) : (wpY_gcd post ((nI N), nd, vl, wt, lb, kd, fi, se, nc, ne, th, vn, vd, ph, ps, ze, oe, ma, cu, nx, ix, po, mt) (mk_z x) (mk_z y)) := by
  unfold wpY_gcd
  by_cases h1 : x < 0
  · have z1 : mk_z x < 0 := (mk_z_lt0 (by omega) (by omega)).mpr h1
    refine br_f (Int64.not_le.mpr z1) (nm_r (mk_z_abs h1) ?_)
    by_cases h2 : y < 0
    · have z2 : mk_z y < 0 := (mk_z_lt0 (by omega) (by omega)).mpr h2
      exact br_f (Int64.not_le.mpr z2) (nm_r (mk_z_abs h2) (my_gcd0 hx hy k))
    · have z2 : ¬ mk_z y < 0 := fun z => h2 ((mk_z_lt0 (by omega) (by omega)).mp z)
      rw [mk_z_nat (show 0 ≤ y by omega)] at z2 ⊢
      exact br_t (Int64.not_lt.mp z2) (my_gcd0 hx hy k)
  · have z1 : ¬ mk_z x < 0 := fun z => h1 ((mk_z_lt0 (by omega) (by omega)).mp z)
    rw [mk_z_nat (show 0 ≤ x by omega)] at z1 ⊢
    refine br_t (Int64.not_lt.mp z1) ?_
    by_cases h2 : y < 0
    · have z2 : mk_z y < 0 := (mk_z_lt0 (by omega) (by omega)).mpr h2
      exact br_f (Int64.not_le.mpr z2) (nm_r (mk_z_abs h2) (my_gcd0 hx hy k))
    · have z2 : ¬ mk_z y < 0 := fun z => h2 ((mk_z_lt0 (by omega) (by omega)).mp z)
      rw [mk_z_nat (show 0 ≤ y by omega)] at z2 ⊢
      exact br_t (Int64.not_lt.mp z2) (my_gcd0 hx hy k)
theorem my_store {post : SY → Prop} {i s a b : Nat} (hi : i < 16) (hs : s < 12) (ha : a < 2 ^ 62) (hb : b < 2 ^ 62) (h0 : 0 < b) (k : post ((nI N), nd, vl, wt, lb, kd, fi, se, nc, ne, th, (vp_updL vn (i * 12 + s) (lN (a / Nat.gcd a b))), (vp_updL vd (i * 12 + s) (lN (b / Nat.gcd a b))), ph, ps, ze, oe, ma, cu, nx, ix, po, mt)) : (wpY_store post ((nI N), nd, vl, wt, lb, kd, fi, se, nc, ne, th, vn, vd, ph, ps, ze, oe, ma, cu, nx, ix, po, mt) (nI i) (nI s) (lN a) (lN b)) := by
  unfold wpY_store
  have hg : 0 < Nat.gcd a b := Nat.gcd_pos_of_pos_right a h0
  have hgb : Nat.gcd a b ≤ b := Nat.gcd_le_right a h0
  have hne := mk_gne (a := a) hb h0
  have hc : (nI i * 12 + nI s).toNatClampNeg = i * 12 + s := by rw [mk_i12, nI_clamp (by omega)]
  have hin : vp_in (nI i * 12 + nI s) 192 := pk_in (i * 12 + s) 192 (by omega) (mk_i12 i s)
  have hgt : ¬ lN (Nat.gcd a b) ≤ 0 := fun z => by
    have := (pk_lLE (a := Nat.gcd a b) (b := 0) (by omega) (by omega)).mp z
    omega
  rw [← mk_z_n a, ← mk_z_n b]
  refine my_gcd (x := (a : Int)) (y := (b : Int)) (by rw [Int.natAbs_natCast]; exact ha) (by rw [Int.natAbs_natCast]; exact hb) ?_
  rw [Int.natAbs_natCast, Int.natAbs_natCast, mk_z_n, mk_z_n]
  refine br_f hgt ⟨hne, ?_⟩
  rw [pk_lDiv (by omega) hg (by omega), pk_lDiv (by omega) hg (by omega)]
  refine nm_e ⟨hne, nm_e ⟨hin, ?_⟩⟩
  rw [hc]
  exact nm_e ⟨hin, nm_e k⟩
theorem my_compare {post : Int32 → Prop} {i j s : Nat} (hi : i < 16) (hj : j < 16) (hs : s < 12) (hf : fi i = nI j) (k : post (mk_bi (mk_cq vn vd j (se i) (nc i) (ne i) s))) : (wpY_compare post ((nI N), nd, vl, wt, lb, kd, fi, se, nc, ne, th, vn, vd, ph, ps, ze, oe, ma, cu, nx, ix, po, mt) (nI i) (nI s)) := by
  unfold wpY_compare
  have hc : (nI i).toNatClampNeg = i := nI_clamp (by omega)
  have hin : vp_in (nI i) 16 := pk_in i 16 hi
  have hv : vp_in (nI j * 12 + nI s) 192 := pk_in (j * 12 + s) 192 (by omega) (mk_i12 j s)
  have hd : (nI j * 12 + nI s).toNatClampNeg = j * 12 + s := by rw [mk_i12, nI_clamp (by omega)]
  refine ⟨hin, ?_⟩
  rw [hc]
  refine nm_r hf ⟨hv, hin, ?_⟩
  rw [hd]
  refine nm_e ⟨hin, hv, nm_e ⟨hin, nm_e ?_⟩⟩
  unfold mk_cq at k
  by_cases h0 : se i = 0
  · rw [mk_cmp0 h0] at k
    refine br_t h0 ?_
    by_cases h : (nc i).toInt64 * vd (j * 12 + s) ≤ vn (j * 12 + s) * (ne i).toInt64
    · rw [mk_bi_dt h] at k
      exact br_f (Int64.not_lt.mpr h) k
    · rw [mk_bi_df h] at k
      exact br_t (Int64.not_le.mp h) k
  · refine br_f h0 ?_
    by_cases h1 : se i = 1
    · rw [mk_cmp1 h0 h1] at k
      refine br_t h1 ?_
      by_cases h : (nc i).toInt64 * vd (j * 12 + s) < vn (j * 12 + s) * (ne i).toInt64
      · rw [mk_bi_dt h] at k
        exact br_f (Int64.not_le.mpr h) k
      · rw [mk_bi_df h] at k
        exact br_t (Int64.not_lt.mp h) k
    · refine br_f h1 ?_
      by_cases h2 : se i = 2
      · rw [mk_cmp2 h0 h1 h2] at k
        refine br_t h2 ?_
        by_cases h : vn (j * 12 + s) * (ne i).toInt64 ≤ (nc i).toInt64 * vd (j * 12 + s)
        · rw [mk_bi_dt h] at k
          exact br_f (Int64.not_lt.mpr h) k
        · rw [mk_bi_df h] at k
          exact br_t (Int64.not_le.mp h) k
      · rw [mk_cmp3 h0 h1 h2] at k
        refine br_f h2 ?_
        by_cases h : vn (j * 12 + s) * (ne i).toInt64 < (nc i).toInt64 * vd (j * 12 + s)
        · rw [mk_bi_dt h] at k
          exact br_f (Int64.not_le.mpr h) k
        · rw [mk_bi_df h] at k
          exact br_t (Int64.not_lt.mp h) k
end
