/-! the owed statements: until, compare, clear, kind, check, results -/
theorem i_vc_addUntil {k : Nat} {u : SX} {v : SY} (I : i_Rel k u v) (hk : k + 5 ≤ 2561) (v1 : Int32) (v2 : Int32) (v3 : Int32) : wpX_addUntil (fun r u' => wpY_addUntil (fun r' v' => r' = r ∧ i_Rel (k + 5) u' v') v v1 v2 v3) u v1 v2 v3 := by
  obtain ⟨N, C, vl, wt, lb, kd, fi, se, bo, tn, td, tr, un, vn, vd, pa, np, mx, nc, ne, th, ph, ps, ze, oe, ma, ix, po, cu, nx, mt, rfl, rfl, J⟩ := I
  obtain ⟨h2, hN, hC, hvl, hW, hnd, htr⟩ := id J
  unfold wpX_addUntil
  refine pk_lt C 16 (fun h => ?_) (fun h => ?_)
  · have hf : nI C < 16 := nI_lt (b := 16) h (by decide)
    have hin : vp_in (nI C) 16 := pk_in C 16 h
    have hcl : (nI C).toNatClampNeg = C := nI_clamp (by omega)
    rcases mk_ns kd hC v1 with hx | ⟨j, hj, rfl, hx⟩
    · refine mx_sn_f hC hx (br_t rfl ?_)
      unfold wpY_addUntil
      exact br_t hf (my_sn_f hC hx (br_t rfl ⟨rfl, mk_rel J⟩))
    · refine mx_sn_t hC hj hx (br_f (by decide) ?_)
      have sx := mk_nk (hnd j hj).1 hx
      rcases mk_ns kd hC v2 with hy | ⟨l, hl, rfl, hy⟩
      · refine mx_sn_f hC hy (br_t rfl ?_)
        unfold wpY_addUntil
        exact br_t hf (my_sn_t hC hj sx (br_f (by decide) (my_sn_f hC hy (br_t rfl ⟨rfl, mk_rel J⟩))))
      · refine mx_sn_t hC hl hy (br_f (by decide) ?_)
        have sy := mk_nk (hnd l hl).1 hy
        have fin : (v3 = -1 ∨ ∃ B, B ≤ 8 ∧ v3 = nI B) → mk_Inv N (C + 1) 0 wt (upd kd C 4) (upd fi C (nI j)) (upd se C (nI l)) (upd bo C v3) tn td tr (upd nc C v3) (upd ne C 0) th := by
          intro hb
          refine mk_Inv_a J h (fun i hi => pk_un (by omega)) (fun _ _ => rfl) (fun _ _ => rfl) ?_ (fun _ => pk_us.symm) (fun z => absurd z (by decide))
          refine Or.inr (Or.inr (Or.inr (Or.inl ⟨pk_us, j, l, by omega, by omega, pk_us, pk_us, ?_⟩)))
          rw [pk_us]; exact hb
        by_cases hm : v3 = -1
        · refine br_t hm ⟨hin, ?_⟩
          rw [hcl]
          refine nm_e (mx_app h ?_)
          unfold wpY_addUntil
          refine br_t hf (my_sn_t hC hj sx (br_f (by decide) (my_sn_t hC hl sy (br_f (by decide) (br_t hm (my_app h ⟨rfl, mk_rel (fin (Or.inl hm))⟩))))))
        · by_cases h0 : v3 < 0
          · refine br_f hm (br_t h0 ?_)
            unfold wpY_addUntil
            exact br_t hf (my_sn_t hC hj sx (br_f (by decide) (my_sn_t hC hl sy (br_f (by decide) (br_f hm (br_t h0 ⟨rfl, mk_rel J⟩))))))
          · by_cases h8 : v3 ≤ 8
            · have hB : ∃ B, B ≤ 8 ∧ v3 = nI B := nI_of2 (n := 8) (by decide) h0 h8
              refine br_f hm (br_f h0 (br_t h8 ⟨hin, ?_⟩))
              rw [hcl]
              refine nm_e (mx_app h ?_)
              unfold wpY_addUntil
              exact br_t hf (my_sn_t hC hj sx (br_f (by decide) (my_sn_t hC hl sy (br_f (by decide) (br_f hm (br_f h0 (br_t h8 (my_app h ⟨rfl, mk_rel (fin (Or.inr hB))⟩))))))))
            · refine br_f hm (br_f h0 (br_f h8 ?_))
              unfold wpY_addUntil
              exact br_t hf (my_sn_t hC hj sx (br_f (by decide) (my_sn_t hC hl sy (br_f (by decide) (br_f hm (br_f h0 (br_f h8 ⟨rfl, mk_rel J⟩)))))))
  · unfold wpY_addUntil
    exact br_f (nI_nlt (b := 16) h (by omega)) ⟨rfl, mk_rel J⟩
theorem mk_nu {C : Nat} (kd : Nat → Int32) (hC : C ≤ 16) (x : Int32) : (x < 0 ∨ nI C ≤ x ∨ ∃ j, j < C ∧ x = nI j ∧ ¬ kd j = 4) ∨ ∃ j, j < C ∧ x = nI j ∧ kd j = 4 := by
  rcases pk_ix x (n := C) (by omega) with z | z | ⟨j, hj, e⟩
  · exact Or.inl (Or.inl z)
  · exact Or.inl (Or.inr (Or.inl z))
  · by_cases h : kd j = 4
    · exact Or.inr ⟨j, hj, e, h⟩
    · exact Or.inl (Or.inr (Or.inr ⟨j, hj, e, h⟩))
theorem i_vc_addCompare {k : Nat} {u : SX} {v : SY} (I : i_Rel k u v) (hk : k + 5 ≤ 2561) (v1 : Int32) (v2 : Int32) (v3 : Int32) (v4 : Int32) : wpX_addCompare (fun r u' => wpY_addCompare (fun r' v' => r' = r ∧ i_Rel (k + 5) u' v') v v1 v2 v3 v4) u v1 v2 v3 v4 := by
  obtain ⟨N, C, vl, wt, lb, kd, fi, se, bo, tn, td, tr, un, vn, vd, pa, np, mx, nc, ne, th, ph, ps, ze, oe, ma, ix, po, cu, nx, mt, rfl, rfl, J⟩ := I
  obtain ⟨h2, hN, hC, hvl, hW, hnd, htr⟩ := id J
  unfold wpX_addCompare
  refine pk_lt C 16 (fun h => ?_) (fun h => ?_)
  · have hf : nI C < 16 := nI_lt (b := 16) h (by decide)
    have hin : vp_in (nI C) 16 := pk_in C 16 h
    have hcl : (nI C).toNatClampNeg = C := nI_clamp (by omega)
    rcases mk_nu kd hC v1 with hx | ⟨j, hj, rfl, hx⟩
    · refine mx_un_f hC hx (br_t rfl ?_)
      unfold wpY_addCompare
      refine br_t hf ?_
      rcases hx with z | z | ⟨j, hj, rfl, z⟩
      · exact br_t z ⟨rfl, mk_rel J⟩
      · by_cases z0 : v1 < 0
        · exact br_t z0 ⟨rfl, mk_rel J⟩
        · exact br_f z0 (br_t z ⟨rfl, mk_rel J⟩)
      · refine br_f (nI_pos (by omega)) (br_f (nI_ge hj (by omega)) ⟨pk_in j 16 (by omega), ?_⟩)
        rw [nI_clamp (by omega)]
        exact br_f z ⟨rfl, mk_rel J⟩
    · refine mx_un_t hC hj hx (br_f (by decide) ?_)
      have hj1 : ¬ nI j < 0 := nI_pos (by omega)
      have hj2 : ¬ nI C ≤ nI j := nI_ge hj (by omega)
      have hj3 : vp_in (nI j) 16 := pk_in j 16 (by omega)
      have hj4 : (nI j).toNatClampNeg = j := nI_clamp (by omega)
      by_cases h0 : v2 < 0
      · refine (br_t h0 ?_)
        unfold wpY_addCompare
        refine br_t hf (br_f hj1 (br_f hj2 ⟨hj3, ?_⟩))
        rw [hj4]
        exact br_t hx (br_t h0 ⟨rfl, mk_rel J⟩)
      · skip
        by_cases h3 : v2 ≤ 3
        rotate_left
        · refine (br_f h0 (br_f h3 ?_))
          unfold wpY_addCompare
          refine br_t hf (br_f hj1 (br_f hj2 ⟨hj3, ?_⟩))
          rw [hj4]
          exact br_t hx (br_f h0 (br_f h3 ⟨rfl, mk_rel J⟩))
        · skip
          by_cases d1 : v4 < 1
          · refine (br_f h0 (br_t h3 (br_t d1 ?_)))
            unfold wpY_addCompare
            refine br_t hf (br_f hj1 (br_f hj2 ⟨hj3, ?_⟩))
            rw [hj4]
            exact br_t hx (br_f h0 (br_t h3 (br_t d1 ⟨rfl, mk_rel J⟩)))
          · skip
            by_cases d2 : v4 ≤ 1024
            rotate_left
            · refine (br_f h0 (br_t h3 (br_f d1 (br_t (Int32.not_le.mp d2) ?_))))
              unfold wpY_addCompare
              refine br_t hf (br_f hj1 (br_f hj2 ⟨hj3, ?_⟩))
              rw [hj4]
              exact br_t hx (br_f h0 (br_t h3 (br_f d1 (br_f d2 ⟨rfl, mk_rel J⟩))))
            · skip
              by_cases n0 : v3 < 0
              · refine (br_f h0 (br_t h3 (br_f d1 (br_f (Int32.not_lt.mpr d2) (br_t n0 ?_)))))
                unfold wpY_addCompare
                refine br_t hf (br_f hj1 (br_f hj2 ⟨hj3, ?_⟩))
                rw [hj4]
                exact br_t hx (br_f h0 (br_t h3 (br_f d1 (br_t d2 (br_t n0 ⟨rfl, mk_rel J⟩)))))
              · skip
                by_cases n1 : v3 ≤ v4
                rotate_left
                · refine (br_f h0 (br_t h3 (br_f d1 (br_f (Int32.not_lt.mpr d2) (br_f n0 (br_f n1 ?_))))))
                  unfold wpY_addCompare
                  refine br_t hf (br_f hj1 (br_f hj2 ⟨hj3, ?_⟩))
                  rw [hj4]
                  exact br_t hx (br_f h0 (br_t h3 (br_f d1 (br_t d2 (br_f n0 (br_f n1 ⟨rfl, mk_rel J⟩))))))
                · skip
                  refine (br_f h0 (br_t h3 (br_f d1 (br_f (Int32.not_lt.mpr d2) (br_f n0 (br_t n1 ⟨hin, ?_⟩))))))
                  rw [hcl]
                  refine nm_e ⟨hin, nm_e (mx_app h ?_)⟩
                  unfold wpY_addCompare
                  refine br_t hf (br_f hj1 (br_f hj2 ⟨hj3, ?_⟩))
                  rw [hj4]
                  exact br_t hx (br_f h0 (br_t h3 (br_f d1 (br_t d2 (br_f n0 (br_t n1 (my_app h ⟨rfl, mk_rel (mk_Inv_a J h (fun _ _ => rfl) (fun i hi => pk_un (by omega)) (fun i hi => pk_un (by omega)) (Or.inr (Or.inr (Or.inr (Or.inr ⟨pk_us, j, by omega, pk_us⟩)))) (fun z => absurd z (by decide)) (fun _ => ⟨pk_us.symm, pk_us.symm⟩))⟩)))))))
  · unfold wpY_addCompare
    exact br_f (nI_nlt (b := 16) h (by omega)) ⟨rfl, mk_rel J⟩
theorem i_vc_clearFormulas {k : Nat} {u : SX} {v : SY} (I : i_Rel k u v) (hk : k + 5 ≤ 2561) : wpX_clearFormulas (fun u' => wpY_clearFormulas (fun v' => i_Rel (k + 5) u' v') v) u := by
  obtain ⟨N, C, vl, wt, lb, kd, fi, se, bo, tn, td, tr, un, vn, vd, pa, np, mx, nc, ne, th, ph, ps, ze, oe, ma, ix, po, cu, nx, mt, rfl, rfl, J⟩ := I
  obtain ⟨h2, hN, hC, hvl, hW, hnd, htr⟩ := id J
  have J' : mk_Inv N 0 0 wt kd fi se bo tn td tr nc ne th := ⟨h2, hN, by omega, Or.inl rfl, hW, fun i h => by omega, htr⟩
  exact mk_rel (k := k + 5) (C := 0) J'
theorem i_vc_nodeKind {k : Nat} {u : SX} {v : SY} (I : i_Rel k u v) (hk : k + 5 ≤ 2561) (v1 : Int32) : wpX_nodeKind (fun r => wpY_nodeKind (fun r' => r' = r ∧ i_Rel (k + 5) u v) v v1) u v1 := by
  obtain ⟨N, C, vl, wt, lb, kd, fi, se, bo, tn, td, tr, un, vn, vd, pa, np, mx, nc, ne, th, ph, ps, ze, oe, ma, ix, po, cu, nx, mt, rfl, rfl, J⟩ := I
  obtain ⟨h2, hN, hC, hvl, hW, hnd, htr⟩ := id J
  unfold wpX_nodeKind
  rcases mk_nx kd hC v1 with hx | ⟨j, hj, rfl⟩
  · refine mx_in_f hx (br_t rfl ?_)
    unfold wpY_nodeKind
    rcases hx with hx | hx
    · exact br_t hx ⟨rfl, mk_rel J⟩
    · by_cases h0 : v1 < 0
      · exact br_t h0 ⟨rfl, mk_rel J⟩
      · exact br_f h0 (br_t hx ⟨rfl, mk_rel J⟩)
  · have hin : vp_in (nI j) 16 := pk_in j 16 (by omega)
    refine mx_in_t hC hj (br_f (by decide) ⟨hin, ?_⟩)
    unfold wpY_nodeKind
    exact br_f (nI_pos (by omega)) (pk_le C j (fun h => absurd h (by omega)) (fun _ => ⟨hin, rfl, mk_rel J⟩))
theorem i_vc_check {k : Nat} {u : SX} {v : SY} (I : i_Rel k u v) (hk : k + 5 ≤ 2561) : wpX_check (fun r u' => wpY_check (fun r' v' => r' = r ∧ i_Rel (k + 5) u' v') v) u := by
  obtain ⟨N, C, vl, wt, lb, kd, fi, se, bo, tn, td, tr, un, vn, vd, pa, np, mx, nc, ne, th, ph, ps, ze, oe, ma, ix, po, cu, nx, mt, rfl, rfl, J⟩ := I
  obtain ⟨h2, hN, hC, hvl, hW, hnd, htr⟩ := id J
  refine mx_ck hN hW hC (fun i hi => (hnd i hi).1) (fun j hj => (htr j hj).1) (fun h0 => ?_) (fun h0 tr' un' vn' vd' pa' np' mx' hch => ?_)
  · refine ⟨N + 1, my_ck1 hN hW (fun _ => ⟨rfl, mk_rel J⟩) (fun h => ?_) (N + 1) 0 (by omega) (by omega) (fun t h => by omega)⟩
    obtain ⟨s, hs, e⟩ := h0
    exact absurd e (h s hs)
  · refine ⟨N + 1, my_ck1 hN hW (fun h => ?_) (fun _ => ?_) (N + 1) 0 (by omega) (by omega) (fun t h => by omega)⟩
    · obtain ⟨s, hs, e⟩ := h
      exact absurd e (h0 s hs)
    · refine ⟨C + 1, my_ck2 hN hW hC (fun i hi => (hnd i hi).2.1) (fun i hi => (hnd i hi).2.2) C (C + 1) 0 tr th ph ps ze oe ma ix po vn vd cu nx mt (by omega) (by omega) htr hch (fun t a b c d e f g p q r ht => ⟨rfl, mk_rel ?_⟩)⟩
      exact ⟨h2, hN, hC, Or.inr rfl, hW, hnd, ht⟩
