/-! the owed statements: labels, formulas -/
theorem mk_lt43 (x : Int32) : x < 4 ↔ x ≤ 3 := by
  rw [Int32.lt_iff_toInt_lt, Int32.le_iff_toInt_le, show (4 : Int32).toInt = 4 from by decide, show (3 : Int32).toInt = 3 from by decide]
  omega
theorem i_vc_setLabel {k : Nat} {u : SX} {v : SY} (I : i_Rel k u v) (hk : k + 5 ≤ 2561) (v1 : Int32) (v2 : Int32) (v3 : Int32) : wpX_setLabel (fun r u' => wpY_setLabel (fun r' v' => r' = r ∧ i_Rel (k + 5) u' v') v v1 v2 (lw_bz v3)) u v1 v2 (lw_bz v3) := by
  obtain ⟨N, C, vl, wt, lb, kd, fi, se, bo, tn, td, tr, un, vn, vd, pa, np, mx, nc, ne, th, ph, ps, ze, oe, ma, ix, po, cu, nx, mt, rfl, rfl, J⟩ := I
  obtain ⟨h2, hN, hC, hvl, hW, hnd, htr⟩ := id J
  generalize lw_bz v3 = v3
  unfold wpX_setLabel
  by_cases hs0 : v1 < 0 ∨ nI N ≤ v1
  · refine mx_is_f hs0 (br_t rfl ?_)
    unfold wpY_setLabel
    exact my_ir_f hs0 (br_t rfl ⟨rfl, mk_rel J⟩)
  · obtain ⟨s, hs, rfl⟩ : ∃ s, s < N ∧ v1 = nI s := by
      rcases pk_ix v1 (n := N) (by omega) with z | z | z
      · exact absurd (Or.inl z) hs0
      · exact absurd (Or.inr z) hs0
      · exact z
    have hin : vp_in (nI s) 12 := pk_in s 12 (by omega)
    refine mx_is_t hN hs (br_f (by decide) ?_)
    by_cases h0 : v2 < 0
    · refine br_t h0 ?_
      unfold wpY_setLabel
      exact my_ir_t hN hs (br_f (by decide) (br_t h0 ⟨rfl, mk_rel J⟩))
    · by_cases h4 : v2 < 4
      · have h3 := (mk_lt43 v2).mp h4
        refine br_f h0 (br_t h4 ?_)
        by_cases on : v3 = 0
        · refine br_t on ⟨hin, hin, nm_e ?_⟩
          unfold wpY_setLabel
          refine my_ir_t hN hs (br_f (by decide) (br_f h0 (br_t h3 (br_t on ⟨hin, hin, nm_e ⟨rfl, mk_rel (mk_Inv_v J (Or.inl rfl))⟩⟩))))
        · refine br_f on ⟨hin, hin, nm_e ?_⟩
          unfold wpY_setLabel
          refine my_ir_t hN hs (br_f (by decide) (br_f h0 (br_t h3 (br_f on ⟨hin, hin, nm_e ⟨rfl, mk_rel (mk_Inv_v J (Or.inl rfl))⟩⟩))))
      · have h3 : ¬ v2 ≤ 3 := fun z => h4 ((mk_lt43 v2).mpr z)
        refine br_f h0 (br_f h4 ?_)
        unfold wpY_setLabel
        exact my_ir_t hN hs (br_f (by decide) (br_f h0 (br_f h3 ⟨rfl, mk_rel J⟩)))
theorem i_vc_getLabels {k : Nat} {u : SX} {v : SY} (I : i_Rel k u v) (hk : k + 5 ≤ 2561) (v1 : Int32) : wpX_getLabels (fun r => wpY_getLabels (fun r' => r' = r ∧ i_Rel (k + 5) u v) v v1) u v1 := by
  obtain ⟨N, C, vl, wt, lb, kd, fi, se, bo, tn, td, tr, un, vn, vd, pa, np, mx, nc, ne, th, ph, ps, ze, oe, ma, ix, po, cu, nx, mt, rfl, rfl, J⟩ := I
  obtain ⟨h2, hN, hC, hvl, hW, hnd, htr⟩ := id J
  unfold wpX_getLabels
  by_cases hs0 : v1 < 0 ∨ nI N ≤ v1
  · refine mx_is_f hs0 (br_t rfl ?_)
    unfold wpY_getLabels
    exact my_ir_f hs0 (br_t rfl ⟨rfl, mk_rel J⟩)
  · obtain ⟨s, hs, rfl⟩ : ∃ s, s < N ∧ v1 = nI s := by
      rcases pk_ix v1 (n := N) (by omega) with z | z | z
      · exact absurd (Or.inl z) hs0
      · exact absurd (Or.inr z) hs0
      · exact z
    have hin : vp_in (nI s) 12 := pk_in s 12 (by omega)
    refine mx_is_t hN hs (br_f (by decide) ⟨hin, ?_⟩)
    unfold wpY_getLabels
    exact my_ir_t hN hs (br_f (by decide) ⟨hin, rfl, mk_rel J⟩)
theorem i_vc_addAtom {k : Nat} {u : SX} {v : SY} (I : i_Rel k u v) (hk : k + 5 ≤ 2561) (v1 : Int32) : wpX_addAtom (fun r u' => wpY_addAtom (fun r' v' => r' = r ∧ i_Rel (k + 5) u' v') v v1) u v1 := by
  obtain ⟨N, C, vl, wt, lb, kd, fi, se, bo, tn, td, tr, un, vn, vd, pa, np, mx, nc, ne, th, ph, ps, ze, oe, ma, ix, po, cu, nx, mt, rfl, rfl, J⟩ := I
  obtain ⟨h2, hN, hC, hvl, hW, hnd, htr⟩ := id J
  unfold wpX_addAtom
  refine pk_lt C 16 (fun h => ?_) (fun h => ?_)
  · have hf : nI C < 16 := nI_lt (b := 16) h (by decide)
    by_cases h0 : v1 < 0
    · refine br_t h0 ?_
      unfold wpY_addAtom
      exact br_t hf (br_t h0 ⟨rfl, mk_rel J⟩)
    · by_cases h4 : v1 ≤ 4
      · obtain ⟨a, ha, rfl⟩ := nI_of2 (n := 4) (by decide) h0 h4
        refine br_f h0 (br_t h4 (mx_app h ?_))
        unfold wpY_addAtom
        refine br_t hf (br_f h0 (br_t h4 (my_app h ⟨rfl, mk_rel (mk_Inv_a J h (fun _ _ => rfl) (fun _ _ => rfl) (fun _ _ => rfl) ?_ (fun z => absurd z (by decide)) (fun z => absurd z (by decide)))⟩)))
        exact Or.inl ⟨pk_us, a, ha, pk_us⟩
      · refine br_f h0 (br_f h4 ?_)
        unfold wpY_addAtom
        exact br_t hf (br_f h0 (br_f h4 ⟨rfl, mk_rel J⟩))
  · unfold wpY_addAtom
    exact br_f (nI_nlt (b := 16) h (by omega)) ⟨rfl, mk_rel J⟩
/-- a number is out of the nodes, an until's, or a state formula's -/
theorem mk_nx {C : Nat} (kd : Nat → Int32) (hC : C ≤ 16) (x : Int32) : (x < 0 ∨ nI C ≤ x) ∨ ∃ j, j < C ∧ x = nI j := by
  rcases pk_ix x (n := C) (by omega) with z | z | z
  · exact Or.inl (Or.inl z)
  · exact Or.inl (Or.inr z)
  · exact Or.inr z
theorem mk_ns {C : Nat} (kd : Nat → Int32) (hC : C ≤ 16) (x : Int32) : (x < 0 ∨ nI C ≤ x ∨ ∃ j, j < C ∧ x = nI j ∧ kd j = 4) ∨ ∃ j, j < C ∧ x = nI j ∧ ¬ kd j = 4 := by
  rcases pk_ix x (n := C) (by omega) with z | z | ⟨j, hj, e⟩
  · exact Or.inl (Or.inl z)
  · exact Or.inl (Or.inr (Or.inl z))
  · by_cases h : kd j = 4
    · exact Or.inl (Or.inr (Or.inr ⟨j, hj, e, h⟩))
    · exact Or.inr ⟨j, hj, e, h⟩
theorem mk_nk {kd fi se bo : Nat → Int32} {j : Nat} (h : mk_Nd kd fi se bo j) (h4 : ¬ kd j = 4) : kd j = 1 ∨ kd j = 2 ∨ kd j = 3 ∨ kd j = 5 := by
  rcases h with h | h | h | h | h
  · exact Or.inl h.1
  · exact Or.inr (Or.inl h.1)
  · exact Or.inr (Or.inr (Or.inl h.1))
  · exact absurd h.1 h4
  · exact Or.inr (Or.inr (Or.inr h.1))
theorem i_vc_addNot {k : Nat} {u : SX} {v : SY} (I : i_Rel k u v) (hk : k + 5 ≤ 2561) (v1 : Int32) : wpX_addNot (fun r u' => wpY_addNot (fun r' v' => r' = r ∧ i_Rel (k + 5) u' v') v v1) u v1 := by
  obtain ⟨N, C, vl, wt, lb, kd, fi, se, bo, tn, td, tr, un, vn, vd, pa, np, mx, nc, ne, th, ph, ps, ze, oe, ma, ix, po, cu, nx, mt, rfl, rfl, J⟩ := I
  obtain ⟨h2, hN, hC, hvl, hW, hnd, htr⟩ := id J
  unfold wpX_addNot
  refine pk_lt C 16 (fun h => ?_) (fun h => ?_)
  · have hf : nI C < 16 := nI_lt (b := 16) h (by decide)
    rcases mk_ns kd hC v1 with hx | ⟨j, hj, rfl, hx⟩
    · refine mx_sn_f hC hx (br_t rfl ?_)
      unfold wpY_addNot
      exact br_t hf (my_sn_f hC hx (br_t rfl ⟨rfl, mk_rel J⟩))
    · refine mx_sn_t hC hj hx (br_f (by decide) (mx_app h ?_))
      unfold wpY_addNot
      refine br_t hf (my_sn_t hC hj (mk_nk (hnd j hj).1 hx) (br_f (by decide) (my_app h ⟨rfl, mk_rel (mk_Inv_a J h (fun _ _ => rfl) (fun _ _ => rfl) (fun _ _ => rfl) ?_ (fun z => absurd z (by decide)) (fun z => absurd z (by decide)))⟩)))
      exact Or.inr (Or.inl ⟨pk_us, j, by omega, pk_us⟩)
  · unfold wpY_addNot
    exact br_f (nI_nlt (b := 16) h (by omega)) ⟨rfl, mk_rel J⟩
theorem i_vc_addAnd {k : Nat} {u : SX} {v : SY} (I : i_Rel k u v) (hk : k + 5 ≤ 2561) (v1 : Int32) (v2 : Int32) : wpX_addAnd (fun r u' => wpY_addAnd (fun r' v' => r' = r ∧ i_Rel (k + 5) u' v') v v1 v2) u v1 v2 := by
  obtain ⟨N, C, vl, wt, lb, kd, fi, se, bo, tn, td, tr, un, vn, vd, pa, np, mx, nc, ne, th, ph, ps, ze, oe, ma, ix, po, cu, nx, mt, rfl, rfl, J⟩ := I
  obtain ⟨h2, hN, hC, hvl, hW, hnd, htr⟩ := id J
  unfold wpX_addAnd
  refine pk_lt C 16 (fun h => ?_) (fun h => ?_)
  · have hf : nI C < 16 := nI_lt (b := 16) h (by decide)
    rcases mk_ns kd hC v1 with hx | ⟨j, hj, rfl, hx⟩
    · refine mx_sn_f hC hx (br_t rfl ?_)
      unfold wpY_addAnd
      exact br_t hf (my_sn_f hC hx (br_t rfl ⟨rfl, mk_rel J⟩))
    · refine mx_sn_t hC hj hx (br_f (by decide) ?_)
      have sx := mk_nk (hnd j hj).1 hx
      rcases mk_ns kd hC v2 with hy | ⟨l, hl, rfl, hy⟩
      · refine mx_sn_f hC hy (br_t rfl ?_)
        unfold wpY_addAnd
        exact br_t hf (my_sn_t hC hj sx (br_f (by decide) (my_sn_f hC hy (br_t rfl ⟨rfl, mk_rel J⟩))))
      · refine mx_sn_t hC hl hy (br_f (by decide) (mx_app h ?_))
        unfold wpY_addAnd
        refine br_t hf (my_sn_t hC hj sx (br_f (by decide) (my_sn_t hC hl (mk_nk (hnd l hl).1 hy) (br_f (by decide) (my_app h ⟨rfl, mk_rel (mk_Inv_a J h (fun _ _ => rfl) (fun _ _ => rfl) (fun _ _ => rfl) ?_ (fun z => absurd z (by decide)) (fun z => absurd z (by decide)))⟩)))))
        exact Or.inr (Or.inr (Or.inl ⟨pk_us, j, l, by omega, by omega, pk_us, pk_us⟩))
  · unfold wpY_addAnd
    exact br_f (nI_nlt (b := 16) h (by omega)) ⟨rfl, mk_rel J⟩
