/-! the reference: ranges and kinds -/
section
variable {N C : Nat} {nd vl : Int32} {wt lb kd fi se nc ne th ph ps ze oe ma ix po : Nat → Int32} {vn vd cu nx mt : Nat → Int64}
theorem my_ir_t {post : Int32 → Prop} {j : Nat} (hN : N ≤ 12) (hj : j < N) (k : post 1) : (wpY_inRange post ((nI N), nd, vl, wt, lb, kd, fi, se, nc, ne, th, vn, vd, ph, ps, ze, oe, ma, cu, nx, ix, po, mt) (nI j)) := by
  unfold wpY_inRange
  exact br_f (nI_pos (by omega)) (pk_le N j (fun h => absurd h (by omega)) (fun _ => k))
theorem my_ir_f {post : Int32 → Prop} {x : Int32} (h : x < 0 ∨ nI N ≤ x) (k : post 0) : (wpY_inRange post ((nI N), nd, vl, wt, lb, kd, fi, se, nc, ne, th, vn, vd, ph, ps, ze, oe, ma, cu, nx, ix, po, mt) x) := by
  unfold wpY_inRange
  by_cases h0 : x < 0
  · exact br_t h0 k
  · rcases h with h | h
    · exact absurd h h0
    · exact br_f h0 (br_t h k)
theorem my_sn_t {post : Int32 → Prop} {j : Nat} (hC : C ≤ 16) (hj : j < C) (hk : kd j = 1 ∨ kd j = 2 ∨ kd j = 3 ∨ kd j = 5) (k : post 1) : (wpY_stateNode post ((nI N), (nI C), vl, wt, lb, kd, fi, se, nc, ne, th, vn, vd, ph, ps, ze, oe, ma, cu, nx, ix, po, mt) (nI j)) := by
  unfold wpY_stateNode
  refine br_f (nI_pos (by omega)) (pk_lt j C (fun h => ⟨pk_in j 16 (by omega), ?_⟩) (fun h => absurd h (by omega)))
  rw [nI_clamp (by omega)]
  refine nm_e ?_
  rcases hk with h | h | h | h
  · exact br_t h k
  · exact br_f (by rw [h]; decide) (br_t h k)
  · exact br_f (by rw [h]; decide) (br_f (by rw [h]; decide) (br_t h k))
  · exact br_f (by rw [h]; decide) (br_f (by rw [h]; decide) (br_f (by rw [h]; decide) (br_t h k)))
theorem my_sn_f {post : Int32 → Prop} {x : Int32} (hC : C ≤ 16) (h : x < 0 ∨ nI C ≤ x ∨ ∃ j, j < C ∧ x = nI j ∧ kd j = 4) (k : post 0) : (wpY_stateNode post ((nI N), (nI C), vl, wt, lb, kd, fi, se, nc, ne, th, vn, vd, ph, ps, ze, oe, ma, cu, nx, ix, po, mt) x) := by
  unfold wpY_stateNode
  rcases h with h | h | ⟨j, hj, rfl, h⟩
  · exact br_t h k
  · by_cases h0 : x < 0
    · exact br_t h0 k
    · exact br_f h0 (br_f (Int32.not_lt.mpr h) k)
  · refine br_f (nI_pos (by omega)) (pk_lt j C (fun _ => ⟨pk_in j 16 (by omega), ?_⟩) (fun h => absurd h (by omega)))
    rw [nI_clamp (by omega)]
    refine nm_e ?_
    exact br_f (by rw [h]; decide) (br_f (by rw [h]; decide) (br_f (by rw [h]; decide) (br_f (by rw [h]; decide) k)))
end
section
variable {N C : Nat} {nd vl : Int32} {wt lb kd fi se nc ne th ph ps ze oe ma ix po : Nat → Int32} {vn vd cu nx mt : Nat → Int64}
theorem my_app {post : Int32 → SY → Prop} {x y z a b : Int32} (hC : C < 16) (k : post (nI C) ((nI N), (nI (C + 1)), 0, wt, lb, (upd kd C x), (upd fi C y), (upd se C z), (upd nc C a), (upd ne C b), th, vn, vd, ph, ps, ze, oe, ma, cu, nx, ix, po, mt)) : (wpY_append post ((nI N), (nI C), vl, wt, lb, kd, fi, se, nc, ne, th, vn, vd, ph, ps, ze, oe, ma, cu, nx, ix, po, mt) x y z a b) := by
  unfold wpY_append
  have hin : vp_in (nI C) 16 := pk_in C 16 hC
  refine ⟨hin, ?_⟩
  rw [nI_clamp (by omega)]
  refine nm_e ⟨hin, nm_e ⟨hin, nm_e ⟨hin, nm_e ⟨hin, nm_e (nm_r (nI_1 C) ?_)⟩⟩⟩⟩
  rw [nI_pred]
  exact k
end
section
variable {N C : Nat} {nd vl : Int32} {wt lb kd fi se nc ne th ph ps ze oe ma ix po : Nat → Int32} {vn vd cu nx mt : Nat → Int64}
theorem my_ur_t {post : Int32 → Prop} {j s : Nat} (hC : C ≤ 16) (hN : N ≤ 12) (hv : ¬ vl = 0) (hj : j < C) (hk : kd j = 4) (hs : s < N) (k : post 1) : (wpY_untilReady post ((nI N), (nI C), vl, wt, lb, kd, fi, se, nc, ne, th, vn, vd, ph, ps, ze, oe, ma, cu, nx, ix, po, mt) (nI j) (nI s)) := by
  unfold wpY_untilReady
  refine br_f hv (br_f (nI_pos (by omega)) (pk_le C j (fun h => absurd h (by omega)) (fun _ => ⟨pk_in j 16 (by omega), ?_⟩)))
  rw [nI_clamp (by omega)]
  exact br_t hk (my_ir_t hN hs (br_f (by decide) k))
theorem my_ur_f {post : Int32 → Prop} {x y : Int32} (hC : C ≤ 16) (hN : N ≤ 12) (h : vl = 0 ∨ (x < 0 ∨ nI C ≤ x ∨ ∃ j, j < C ∧ x = nI j ∧ ¬ kd j = 4) ∨ (y < 0 ∨ nI N ≤ y)) (k : post 0) : (wpY_untilReady post ((nI N), (nI C), vl, wt, lb, kd, fi, se, nc, ne, th, vn, vd, ph, ps, ze, oe, ma, cu, nx, ix, po, mt) x y) := by
  unfold wpY_untilReady
  by_cases hv : vl = 0
  · exact br_t hv k
  · refine br_f hv ?_
    rcases pk_ix x (n := C) (by omega) with z | z | ⟨j, hj, rfl⟩
    · exact br_t z k
    · by_cases z0 : x < 0
      · exact br_t z0 k
      · exact br_f z0 (br_t z k)
    · refine br_f (nI_pos (by omega)) (pk_le C j (fun h => absurd h (by omega)) (fun _ => ⟨pk_in j 16 (by omega), ?_⟩))
      rw [nI_clamp (by omega)]
      by_cases h4 : kd j = 4
      · refine br_t h4 (my_ir_f ?_ (br_t rfl k))
        rcases h with h | (h | h | ⟨l, hl, e, h⟩) | h
        · exact absurd h hv
        · exact absurd h (nI_pos (by omega))
        · exact absurd h (nI_ge hj (by omega))
        · have := (nI_eq (by omega) (by omega)).mp e
          rw [this] at h4
          exact absurd h4 h
        · exact h
      · exact br_f h4 k
end
