/-! the component: ranges and kinds -/
section
variable {N C : Nat} {nd vl : Int32} {wt lb kd fi se bo tn td tr un : Nat → Int32} {vn vd pa np mx : Nat → Int64}
theorem mx_is_t {post : Int32 → Prop} {j : Nat} (hN : N ≤ 12) (hj : j < N) (k : post 1) : (wpX_isState post ((nI N), nd, vl, wt, lb, kd, fi, se, bo, tn, td, tr, vn, vd, pa, np, un, mx) (nI j)) := by
  unfold wpX_isState
  exact br_f (nI_pos (by omega)) (pk_le N j (fun h => absurd h (by omega)) (fun _ => k))
theorem mx_is_f {post : Int32 → Prop} {x : Int32} (h : x < 0 ∨ nI N ≤ x) (k : post 0) : (wpX_isState post ((nI N), nd, vl, wt, lb, kd, fi, se, bo, tn, td, tr, vn, vd, pa, np, un, mx) x) := by
  unfold wpX_isState
  by_cases h0 : x < 0
  · exact br_t h0 k
  · rcases h with h | h
    · exact absurd h h0
    · exact br_f h0 (br_t h k)
theorem mx_in_t {post : Int32 → Prop} {j : Nat} (hC : C ≤ 16) (hj : j < C) (k : post 1) : (wpX_isNode post ((nI N), (nI C), vl, wt, lb, kd, fi, se, bo, tn, td, tr, vn, vd, pa, np, un, mx) (nI j)) := by
  unfold wpX_isNode
  exact br_f (nI_pos (by omega)) (pk_le C j (fun h => absurd h (by omega)) (fun _ => k))
theorem mx_in_f {post : Int32 → Prop} {x : Int32} (h : x < 0 ∨ nI C ≤ x) (k : post 0) : (wpX_isNode post ((nI N), (nI C), vl, wt, lb, kd, fi, se, bo, tn, td, tr, vn, vd, pa, np, un, mx) x) := by
  unfold wpX_isNode
  by_cases h0 : x < 0
  · exact br_t h0 k
  · rcases h with h | h
    · exact absurd h h0
    · exact br_f h0 (br_t h k)
theorem mx_sn_t {post : Int32 → Prop} {j : Nat} (hC : C ≤ 16) (hj : j < C) (hk : ¬ kd j = 4) (k : post 1) : (wpX_isStateNode post ((nI N), (nI C), vl, wt, lb, kd, fi, se, bo, tn, td, tr, vn, vd, pa, np, un, mx) (nI j)) := by
  unfold wpX_isStateNode
  refine mx_in_t hC hj (br_f (by decide) ⟨pk_in j 16 (by omega), ?_⟩)
  rw [nI_clamp (by omega)]
  exact br_f hk k
theorem mx_sn_f {post : Int32 → Prop} {x : Int32} (hC : C ≤ 16) (h : x < 0 ∨ nI C ≤ x ∨ ∃ j, j < C ∧ x = nI j ∧ kd j = 4) (k : post 0) : (wpX_isStateNode post ((nI N), (nI C), vl, wt, lb, kd, fi, se, bo, tn, td, tr, vn, vd, pa, np, un, mx) x) := by
  unfold wpX_isStateNode
  rcases h with h | h | ⟨j, hj, rfl, h⟩
  · exact mx_in_f (Or.inl h) (br_t rfl k)
  · exact mx_in_f (Or.inr h) (br_t rfl k)
  · refine mx_in_t hC hj (br_f (by decide) ⟨pk_in j 16 (by omega), ?_⟩)
    rw [nI_clamp (by omega)]
    exact br_t h k
theorem mx_un_t {post : Int32 → Prop} {j : Nat} (hC : C ≤ 16) (hj : j < C) (hk : kd j = 4) (k : post 1) : (wpX_isUntilNode post ((nI N), (nI C), vl, wt, lb, kd, fi, se, bo, tn, td, tr, vn, vd, pa, np, un, mx) (nI j)) := by
  unfold wpX_isUntilNode
  refine mx_in_t hC hj (br_f (by decide) ⟨pk_in j 16 (by omega), ?_⟩)
  rw [nI_clamp (by omega)]
  exact br_t hk k
theorem mx_un_f {post : Int32 → Prop} {x : Int32} (hC : C ≤ 16) (h : x < 0 ∨ nI C ≤ x ∨ ∃ j, j < C ∧ x = nI j ∧ ¬ kd j = 4) (k : post 0) : (wpX_isUntilNode post ((nI N), (nI C), vl, wt, lb, kd, fi, se, bo, tn, td, tr, vn, vd, pa, np, un, mx) x) := by
  unfold wpX_isUntilNode
  rcases h with h | h | ⟨j, hj, rfl, h⟩
  · exact mx_in_f (Or.inl h) (br_t rfl k)
  · exact mx_in_f (Or.inr h) (br_t rfl k)
  · refine mx_in_t hC hj (br_f (by decide) ⟨pk_in j 16 (by omega), ?_⟩)
    rw [nI_clamp (by omega)]
    exact br_f h k
end
section
variable {N C : Nat} {nd vl : Int32} {wt lb kd fi se bo tn td tr un : Nat → Int32} {vn vd pa np mx : Nat → Int64}
theorem mx_app {post : Int32 → St2 → Prop} {x y z : Int32} (hC : C < 16) (k : post (nI C) ((nI N), (nI (C + 1)), 0, wt, lb, (upd kd C x), (upd fi C y), (upd se C z), bo, tn, td, tr, vn, vd, pa, np, un, mx)) : (wpX_append post ((nI N), (nI C), vl, wt, lb, kd, fi, se, bo, tn, td, tr, vn, vd, pa, np, un, mx) x y z) := by
  unfold wpX_append
  have hin : vp_in (nI C) 16 := pk_in C 16 hC
  refine ⟨hin, ?_⟩
  rw [nI_clamp (by omega)]
  exact nm_e ⟨hin, nm_e ⟨hin, nm_e (nm_r (nI_1 C) k)⟩⟩
end
