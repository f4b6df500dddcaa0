/-! the relation -/
def mk_Inv (N C : Nat) (vl : Int32) (wt kd fi se bo tn td tr nc ne th : Nat → Int32) : Prop :=
  2 ≤ N ∧ N ≤ 12 ∧ C ≤ 16 ∧ (vl = 0 ∨ vl = 1) ∧ mk_W wt N ∧ (∀ i, i < C → mk_Nd kd fi se bo i ∧ (kd i = 4 → nc i = bo i) ∧ (kd i = 5 → nc i = tn i ∧ ne i = td i)) ∧ mk_tr N tr th
def i_Rel (k : Nat) (u : SX) (v : SY) : Prop := ∃ (N C : Nat) (vl : Int32) (wt lb kd fi se bo tn td tr un : Nat → Int32) (vn vd pa np mx : Nat → Int64) (nc ne th ph ps ze oe ma ix po : Nat → Int32) (cu nx mt : Nat → Int64), u = ((nI N), (nI C), vl, wt, lb, kd, fi, se, bo, tn, td, tr, vn, vd, pa, np, un, mx) ∧ v = ((nI N), (nI C), vl, wt, lb, kd, fi, se, nc, ne, th, vn, vd, ph, ps, ze, oe, ma, cu, nx, ix, po, mt) ∧ mk_Inv N C vl wt kd fi se bo tn td tr nc ne th
theorem mk_rel {k N C : Nat} {vl : Int32} {wt lb kd fi se bo tn td tr un : Nat → Int32} {vn vd pa np mx : Nat → Int64} {nc ne th ph ps ze oe ma ix po : Nat → Int32} {cu nx mt : Nat → Int64} (J : mk_Inv N C vl wt kd fi se bo tn td tr nc ne th) : i_Rel k ((nI N), (nI C), vl, wt, lb, kd, fi, se, bo, tn, td, tr, vn, vd, pa, np, un, mx) ((nI N), (nI C), vl, wt, lb, kd, fi, se, nc, ne, th, vn, vd, ph, ps, ze, oe, ma, cu, nx, ix, po, mt) := by
  unfold i_Rel
  exact ⟨N, C, vl, wt, lb, kd, fi, se, bo, tn, td, tr, un, vn, vd, pa, np, mx, nc, ne, th, ph, ps, ze, oe, ma, ix, po, cu, nx, mt, rfl, rfl, J⟩
