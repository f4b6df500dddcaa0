/-! the owed statements: the methods that keep no results -/
theorem i_vc_stateCount {k : Nat} {u : SX} {v : SY} (I : i_Rel k u v) (hk : k + 5 ≤ 2561) : wpX_stateCount (fun r => wpY_stateCount (fun r' => r' = r ∧ i_Rel (k + 5) u v) v) u := by
  obtain ⟨N, C, vl, wt, lb, kd, fi, se, bo, tn, td, tr, un, vn, vd, pa, np, mx, nc, ne, th, ph, ps, ze, oe, ma, ix, po, cu, nx, mt, rfl, rfl, J⟩ := I
  exact ⟨rfl, mk_rel J⟩
theorem i_vc_setWeight {k : Nat} {u : SX} {v : SY} (I : i_Rel k u v) (hk : k + 5 ≤ 2561) (v1 : Int32) (v2 : Int32) (v3 : Int32) : wpX_setWeight (fun r u' => wpY_setWeight (fun r' v' => r' = r ∧ i_Rel (k + 5) u' v') v v1 v2 v3) u v1 v2 v3 := by
  obtain ⟨N, C, vl, wt, lb, kd, fi, se, bo, tn, td, tr, un, vn, vd, pa, np, mx, nc, ne, th, ph, ps, ze, oe, ma, ix, po, cu, nx, mt, rfl, rfl, J⟩ := I
  obtain ⟨h2, hN, hC, hvl, hW, hnd, htr⟩ := id J
  unfold wpX_setWeight
  by_cases hs0 : v1 < 0 ∨ nI N ≤ v1
  · refine mx_is_f hs0 (br_t rfl ?_)
    unfold wpY_setWeight
    exact my_ir_f hs0 (br_t rfl ⟨rfl, mk_rel J⟩)
  · obtain ⟨s, hs, rfl⟩ : ∃ s, s < N ∧ v1 = nI s := by
      rcases pk_ix v1 (n := N) (by omega) with z | z | z
      · exact absurd (Or.inl z) hs0
      · exact absurd (Or.inr z) hs0
      · exact z
    refine mx_is_t hN hs (br_f (by decide) ?_)
    by_cases ht0 : v2 < 0 ∨ nI N ≤ v2
    · refine mx_is_f ht0 (br_t rfl ?_)
      unfold wpY_setWeight
      exact my_ir_t hN hs (br_f (by decide) (my_ir_f ht0 (br_t rfl ⟨rfl, mk_rel J⟩)))
    · obtain ⟨t, ht, rfl⟩ : ∃ t, t < N ∧ v2 = nI t := by
        rcases pk_ix v2 (n := N) (by omega) with z | z | z
        · exact absurd (Or.inl z) ht0
        · exact absurd (Or.inr z) ht0
        · exact z
      refine mx_is_t hN ht (br_f (by decide) ?_)
      by_cases h0 : v3 < 0
      · refine br_t h0 ?_
        unfold wpY_setWeight
        exact my_ir_t hN hs (br_f (by decide) (my_ir_t hN ht (br_f (by decide) (br_t h0 ⟨rfl, mk_rel J⟩))))
      · by_cases h4 : v3 ≤ 4
        · obtain ⟨w, hw, rfl⟩ := nI_of2 (n := 4) (by decide) h0 h4
          have hb := (hW s hs).2
          have hle := mk_t_le (mk_w wt s) N ht
          have hin : vp_in (nI (s * 12 + t)) 144 := pk_in (s * 12 + t) 144 (by omega)
          have hin' : vp_in (nI s * 12 + nI t) 144 := pk_in (s * 12 + t) 144 (by omega) (mk_i12 s t)
          have hcl : (nI (s * 12 + t)).toNatClampNeg = s * 12 + t := nI_clamp (by omega)
          have he : nI (mk_t (mk_w wt s) N) - wt (s * 12 + t) + nI w = nI (mk_t (mk_w wt s) N - mk_w wt s t + w) := by
            rw [(hW s hs).1 t ht, pk_sub hle, nI_add]
          refine br_f h0 (br_t h4 (nm_r (mk_i12 s t) (mx_rowTotal hN hW hs ⟨hin, ?_⟩)))
          rw [hcl, he]
          by_cases hr : mk_t (mk_w wt s) N - mk_w wt s t + w ≤ 4
          · refine br_t (nI_le (b := 4) hr (by decide)) ⟨hin, nm_e ?_⟩
            unfold wpY_setWeight
            refine my_ir_t hN hs (br_f (by decide) (my_ir_t hN ht (br_f (by decide) (br_f h0 (br_t h4 (my_rowTotal hN hW hs ⟨hin', ?_⟩))))))
            rw [mk_i12, hcl, he]
            refine br_t (nI_le (b := 4) hr (by decide)) ⟨hin, nm_e ⟨rfl, mk_rel (mk_Inv_w J hs ht hw (by omega))⟩⟩
          · have hg : ¬ nI (mk_t (mk_w wt s) N - mk_w wt s t + w) ≤ 4 := nI_ge (a := 4) (by omega) (by omega)
            refine br_f hg ?_
            unfold wpY_setWeight
            refine my_ir_t hN hs (br_f (by decide) (my_ir_t hN ht (br_f (by decide) (br_f h0 (br_t h4 (my_rowTotal hN hW hs ⟨hin', ?_⟩))))))
            rw [mk_i12, hcl, he]
            exact br_f hg ⟨rfl, mk_rel J⟩
        · refine br_f h0 (br_f h4 ?_)
          unfold wpY_setWeight
          exact my_ir_t hN hs (br_f (by decide) (my_ir_t hN ht (br_f (by decide) (br_f h0 (br_f h4 ⟨rfl, mk_rel J⟩)))))
theorem i_vc_getWeight {k : Nat} {u : SX} {v : SY} (I : i_Rel k u v) (hk : k + 5 ≤ 2561) (v1 : Int32) (v2 : Int32) : wpX_getWeight (fun r => wpY_getWeight (fun r' => r' = r ∧ i_Rel (k + 5) u v) v v1 v2) u v1 v2 := by
  obtain ⟨N, C, vl, wt, lb, kd, fi, se, bo, tn, td, tr, un, vn, vd, pa, np, mx, nc, ne, th, ph, ps, ze, oe, ma, ix, po, cu, nx, mt, rfl, rfl, J⟩ := I
  obtain ⟨h2, hN, hC, hvl, hW, hnd, htr⟩ := id J
  unfold wpX_getWeight
  by_cases hs0 : v1 < 0 ∨ nI N ≤ v1
  · refine mx_is_f hs0 (br_t rfl ?_)
    unfold wpY_getWeight
    exact my_ir_f hs0 (br_t rfl ⟨rfl, mk_rel J⟩)
  · obtain ⟨s, hs, rfl⟩ : ∃ s, s < N ∧ v1 = nI s := by
      rcases pk_ix v1 (n := N) (by omega) with z | z | z
      · exact absurd (Or.inl z) hs0
      · exact absurd (Or.inr z) hs0
      · exact z
    refine mx_is_t hN hs (br_f (by decide) ?_)
    by_cases ht0 : v2 < 0 ∨ nI N ≤ v2
    · refine mx_is_f ht0 (br_t rfl ?_)
      unfold wpY_getWeight
      exact my_ir_t hN hs (br_f (by decide) (my_ir_f ht0 (br_t rfl ⟨rfl, mk_rel J⟩)))
    · obtain ⟨t, ht, rfl⟩ : ∃ t, t < N ∧ v2 = nI t := by
        rcases pk_ix v2 (n := N) (by omega) with z | z | z
        · exact absurd (Or.inl z) ht0
        · exact absurd (Or.inr z) ht0
        · exact z
      have hin : vp_in (nI s * 12 + nI t) 144 := pk_in (s * 12 + t) 144 (by omega) (mk_i12 s t)
      refine mx_is_t hN ht (br_f (by decide) ⟨hin, ?_⟩)
      unfold wpY_getWeight
      exact my_ir_t hN hs (br_f (by decide) (my_ir_t hN ht (br_f (by decide) ⟨hin, rfl, mk_rel J⟩)))
