/-! the owed statements: the results -/
theorem i_vc_holds {k : Nat} {u : SX} {v : SY} (I : i_Rel k u v) (hk : k + 5 ≤ 2561) (v1 : Int32) (v2 : Int32) : wpX_holds (fun r => wpY_holds (fun r' => r' = r ∧ i_Rel (k + 5) u v) v v1 v2) u v1 v2 := by
  obtain ⟨N, C, vl, wt, lb, kd, fi, se, bo, tn, td, tr, un, vn, vd, pa, np, mx, nc, ne, th, ph, ps, ze, oe, ma, ix, po, cu, nx, mt, rfl, rfl, J⟩ := I
  obtain ⟨h2, hN, hC, hvl, hW, hnd, htr⟩ := id J
  unfold wpX_holds
  by_cases hv : vl = 0
  · refine br_t hv ?_
    unfold wpY_holds
    exact br_t hv ⟨rfl, mk_rel J⟩
  · refine br_f hv ?_
    rcases mk_ns kd hC v1 with hx | ⟨j, hj, rfl, hx⟩
    · refine mx_sn_f hC hx (br_t rfl ?_)
      unfold wpY_holds
      exact br_f hv (my_sn_f hC hx (br_t rfl ⟨rfl, mk_rel J⟩))
    · have sx := mk_nk (hnd j hj).1 hx
      refine mx_sn_t hC hj hx (br_f (by decide) ?_)
      rcases mk_nx kd (C := N) (by omega) v2 with hs | ⟨s, hs, rfl⟩
      · refine mx_is_f hs (br_t rfl ?_)
        unfold wpY_holds
        exact br_f hv (my_sn_t hC hj sx (br_f (by decide) (my_ir_f hs (br_t rfl ⟨rfl, mk_rel J⟩))))
      · refine mx_is_t hN hs (br_f (by decide) ⟨pk_in j 16 (by omega), ?_⟩)
        rw [nI_clamp (by omega)]
        refine mx_contains ⟨mk_bi_w _, ?_⟩
        unfold wpY_holds
        have e : th (nI j * 12 + nI s).toNatClampNeg = mk_bi (mk_lb (tr j) (nI s)) := by
          rw [mk_i12, nI_clamp (by omega), (htr j (by omega)).2 s hs, mk_lb_bs (htr j (by omega)).1 hs hN]
        refine br_f hv (my_sn_t hC hj sx (br_f (by decide) (my_ir_t hN hs (br_f (by decide) ⟨pk_in (j * 12 + s) 192 (by omega) (mk_i12 j s), ?_⟩))))
        rw [e]
        exact ⟨mk_bi_w _, rfl, mk_rel J⟩
theorem i_vc_probNum {k : Nat} {u : SX} {v : SY} (I : i_Rel k u v) (hk : k + 5 ≤ 2561) (v1 : Int32) (v2 : Int32) : wpX_probNum (fun r => wpY_probNum (fun r' => r' = r ∧ i_Rel (k + 5) u v) v v1 v2) u v1 v2 := by
  obtain ⟨N, C, vl, wt, lb, kd, fi, se, bo, tn, td, tr, un, vn, vd, pa, np, mx, nc, ne, th, ph, ps, ze, oe, ma, ix, po, cu, nx, mt, rfl, rfl, J⟩ := I
  obtain ⟨h2, hN, hC, hvl, hW, hnd, htr⟩ := id J
  unfold wpX_probNum
  by_cases hv : vl = 0
  · refine br_t hv ?_
    unfold wpY_probNum
    exact my_ur_f hC hN (Or.inl hv) (br_t rfl ⟨rfl, mk_rel J⟩)
  · refine br_f hv ?_
    rcases mk_nu kd hC v1 with hx | ⟨j, hj, rfl, hx⟩
    · refine mx_un_f hC hx (br_t rfl ?_)
      unfold wpY_probNum
      exact my_ur_f hC hN (Or.inr (Or.inl hx)) (br_t rfl ⟨rfl, mk_rel J⟩)
    · refine mx_un_t hC hj hx (br_f (by decide) ?_)
      rcases mk_nx kd (C := N) (by omega) v2 with hs | ⟨s, hs, rfl⟩
      · refine mx_is_f hs (br_t rfl ?_)
        unfold wpY_probNum
        exact my_ur_f hC hN (Or.inr (Or.inr hs)) (br_t rfl ⟨rfl, mk_rel J⟩)
      · have hin : vp_in (nI j * 12 + nI s) 192 := pk_in (j * 12 + s) 192 (by omega) (mk_i12 j s)
        refine mx_is_t hN hs (br_f (by decide) ⟨hin, ?_⟩)
        unfold wpY_probNum
        exact my_ur_t hC hN hv hj hx hs (br_f (by decide) ⟨hin, rfl, mk_rel J⟩)
theorem i_vc_probDen {k : Nat} {u : SX} {v : SY} (I : i_Rel k u v) (hk : k + 5 ≤ 2561) (v1 : Int32) (v2 : Int32) : wpX_probDen (fun r => wpY_probDen (fun r' => r' = r ∧ i_Rel (k + 5) u v) v v1 v2) u v1 v2 := by
  obtain ⟨N, C, vl, wt, lb, kd, fi, se, bo, tn, td, tr, un, vn, vd, pa, np, mx, nc, ne, th, ph, ps, ze, oe, ma, ix, po, cu, nx, mt, rfl, rfl, J⟩ := I
  obtain ⟨h2, hN, hC, hvl, hW, hnd, htr⟩ := id J
  unfold wpX_probDen
  by_cases hv : vl = 0
  · refine br_t hv ?_
    unfold wpY_probDen
    exact my_ur_f hC hN (Or.inl hv) (br_t rfl ⟨rfl, mk_rel J⟩)
  · refine br_f hv ?_
    rcases mk_nu kd hC v1 with hx | ⟨j, hj, rfl, hx⟩
    · refine mx_un_f hC hx (br_t rfl ?_)
      unfold wpY_probDen
      exact my_ur_f hC hN (Or.inr (Or.inl hx)) (br_t rfl ⟨rfl, mk_rel J⟩)
    · refine mx_un_t hC hj hx (br_f (by decide) ?_)
      rcases mk_nx kd (C := N) (by omega) v2 with hs | ⟨s, hs, rfl⟩
      · refine mx_is_f hs (br_t rfl ?_)
        unfold wpY_probDen
        exact my_ur_f hC hN (Or.inr (Or.inr hs)) (br_t rfl ⟨rfl, mk_rel J⟩)
      · have hin : vp_in (nI j * 12 + nI s) 192 := pk_in (j * 12 + s) 192 (by omega) (mk_i12 j s)
        refine mx_is_t hN hs (br_f (by decide) ⟨hin, ?_⟩)
        unfold wpY_probDen
        exact my_ur_t hC hN hv hj hx hs (br_f (by decide) ⟨hin, rfl, mk_rel J⟩)
