/-! the law's numbers: its picks, its common divisors, its packed children -/
section
variable {L : Nat} {xs : Nat → Int32}
theorem mL_cell {post : Int32 → Prop} {p : Nat} (hL : L ≤ 260) (hp : p < 2 ^ 31) (k : ∀ r, post r) : wpL_cell post L xs () (nI p) := by
  unfold wpL_cell
  exact pk_le L p (fun _ => k 0) (fun h => ⟨pk_in p L h, k _⟩)
theorem mL_pick {post : Int32 → Prop} {p : Nat} (m : Nat) (hL : L ≤ 260) (hp : p < 2 ^ 31) (h0 : 0 < m) (hm : m < 2 ^ 31) (k : ∀ j, j < m → post (nI j)) : wpL_pick post L xs () (nI p) (nI m) := by
  unfold wpL_pick
  refine mL_cell hL hp (fun r => ⟨nI_ne0 h0 hm, ?_⟩)
  have e : r &&& 2147483647 = nI (r.toBitVec.toNat % 2 ^ 31) := pk_and r 31 (by decide)
  rw [e, pk_rem (Nat.mod_lt _ (by decide)) h0 hm]
  exact k _ (Nat.mod_lt _ h0)
end
theorem mL_gcd_l {post : Int64 → Prop} : ∀ (f n a b : Nat), f ≤ 200 → f < n → a < 2 ^ 62 → b < 2 ^ 62 → post (lN (mk_e f a b)) → wL_gcd_21 post n (lN a) (lN b) (nI (200 - f)) := by
  intro f
  induction f with
  | zero =>
    intro n a b _ hn _ _ k
    obtain ⟨n, rfl⟩ : ∃ m, n = m + 1 := ⟨n - 1, by omega⟩
    exact pk_le 200 200 (fun _ => k) (fun h => absurd h (by omega))
  | succ f ih =>
    intro n a b hf hn ha hb k
    obtain ⟨n, rfl⟩ : ∃ m, n = m + 1 := ⟨n - 1, by omega⟩
    refine pk_le 200 (200 - (f + 1)) (fun h => absurd h (by omega)) (fun _ => ?_)
    by_cases e : b = 0
    · subst e
      rw [mk_e_0] at k
      exact br_t rfl k
    · have hne : ¬ lN b = 0 := fun z => e ((pk_lEQ (b := 0) (by omega) (by omega)).mp z)
      rw [mk_e_s _ _ e] at k
      have hm := Nat.mod_lt a (show 0 < b by omega)
      refine br_f hne ⟨hne, nm_r (pk_lRem (by omega) (by omega) (by omega)) ?_⟩
      refine nm_r (e' := nI (200 - f)) ?_ (ih n b (a % b) (by omega) (by omega) hb (by omega) k)
      rw [nI_1]; congr 1; omega
theorem mL_gcd {post : Int64 → Prop} {a b : Nat} (ha : a < 2 ^ 62) (hb : b < 2 ^ 62) (k : post (lN (Nat.gcd a b))) : wpL_gcd post () (lN a) (lN b) := by
  have h := mL_gcd_l (post := post) 200 201 a b (by omega) (by omega) ha hb (by rw [mk_e_gcd 62 a b 200 hb (by omega)]; exact k)
  rw [Nat.sub_self] at h
  have z1 : (0 : Int64) ≤ lN a := (pk_lLE (a := 0) (by omega) (by omega)).mpr (Nat.zero_le _)
  have z2 : (0 : Int64) ≤ lN b := (pk_lLE (a := 0) (by omega) (by omega)).mpr (Nat.zero_le _)
  exact br_t z1 (br_t z2 ⟨201, h⟩)
/-! longs by their bits -/
def mk_bL (x : Int64) (i : Nat) : Bool := x.toBitVec.getLsbD i
theorem mk_L_ext {x y : Int64} (h : ∀ i, i < 64 → mk_bL x i = mk_bL y i) : x = y := Int64.toBitVec_inj.mp (BitVec.eq_of_getLsbD_eq (fun i hi => h i hi))
theorem mk_L_or (x y : Int64) (i : Nat) : mk_bL (x ||| y) i = (mk_bL x i || mk_bL y i) := by unfold mk_bL; rw [Int64.toBitVec_or, BitVec.getLsbD_or]
theorem mk_L_and (x y : Int64) (i : Nat) : mk_bL (x &&& y) i = (mk_bL x i && mk_bL y i) := by unfold mk_bL; rw [Int64.toBitVec_and, BitVec.getLsbD_and]
theorem mk_L_0 (i : Nat) : mk_bL 0 i = false := BitVec.getLsbD_zero
theorem mk_L_c : ∀ k, k < 64 → (((nI k).toInt64 &&& 63).toBitVec.smod 64).toNat = k := by decide +kernel
theorem mk_L_15 : ∀ i, i < 64 → mk_bL 15 i = decide (i < 4) := by decide +kernel
theorem mk_L_N (k p : Nat) (hp : p < 64) : mk_bL (lN k) p = k.testBit p := by
  show (BitVec.ofNat 64 k).getLsbD p = _
  rw [BitVec.getLsbD_ofNat, decide_eq_true hp, Bool.true_and]
theorem mk_L_shl (n : Nat) (hn : n < 64) (x : Int64) {i : Nat} (hi : i < 64) : mk_bL (x <<< ((nI n).toInt64 &&& 63)) i = (decide (n ≤ i) && mk_bL x (i - n)) := by
  unfold mk_bL
  rw [Int64.toBitVec_shiftLeft]
  show (x.toBitVec <<< (((nI n).toInt64 &&& 63).toBitVec.smod 64).toNat).getLsbD i = _
  rw [mk_L_c n hn, BitVec.getLsbD_shiftLeft]
  rcases Nat.lt_or_ge i n with h | h
  · simp [h, Nat.not_le.mpr h]
  · simp [hi, h, Nat.not_lt.mpr h]
theorem mk_L_shr (n : Nat) (hn : n < 64) (x : Int64) {i : Nat} (hi : i < 64) : mk_bL (x >>> ((nI n).toInt64 &&& 63)) i = if n + i < 64 then mk_bL x (n + i) else mk_bL x 63 := by
  unfold mk_bL
  rw [Int64.toBitVec_shiftRight]
  show (x.toBitVec.sshiftRight (((nI n).toInt64 &&& 63).toBitVec.smod 64).toNat).getLsbD i = _
  rw [mk_L_c n hn, BitVec.getLsbD_sshiftRight, BitVec.msb_eq_getLsbD_last]
  simp [hi]
theorem mk_4 (i : Nat) : (4 : Int32) * nI i = nI (4 * i) := by
  rw [show (4 : Int32) = nI 4 from rfl, pk_mul]
theorem mk_tb {k p : Nat} (hk : k < 16) (hp : 4 ≤ p) : k.testBit p = false := by
  apply Nat.testBit_lt_two_pow
  have : 2 ^ 4 ≤ 2 ^ p := Nat.pow_le_pow_right (by omega) hp
  omega
theorem mk_nib {x : Int64} {i k : Nat} (hi : i < 16) (hk : k < 16) (h : ∀ p, p < 4 → mk_bL x (4 * i + p) = k.testBit p) : ((x >>> ((4 * nI i).toInt64 &&& 63)) &&& 15).toInt32 = nI k := by
  have e : (x >>> ((nI (4 * i)).toInt64 &&& 63)) &&& 15 = lN k := by
    apply mk_L_ext
    intro p hp
    rw [mk_L_and, mk_L_shr (4 * i) (by omega) x hp, mk_L_15 p hp, mk_L_N k p hp]
    by_cases g : p < 4
    · rw [if_pos (by omega), h p g, decide_eq_true g, Bool.and_true]
    · rw [decide_eq_false g, Bool.and_false, mk_tb hk (by omega)]
  rw [mk_4, e, lN_i]
def mk_UB (C : Nat) (kd fi se bo : Nat → Int32) (b : Int32) (x y : Int64) : Prop := ∀ i, i < 16 →
  (bt b i = true → i < C ∧ kd i = 4 ∧ bo i = -1 ∧ ∃ j l, j < 16 ∧ l < 16 ∧ fi i = nI j ∧ se i = nI l ∧ ∀ p, p < 4 → mk_bL x (4 * i + p) = j.testBit p ∧ mk_bL y (4 * i + p) = l.testBit p) ∧
  (bt b i = false → ∀ p, p < 4 → mk_bL x (4 * i + p) = false ∧ mk_bL y (4 * i + p) = false)
theorem mk_UB_0 {C : Nat} {kd fi se bo : Nat → Int32} : mk_UB C kd fi se bo 0 0 0 := by
  intro i hi
  refine ⟨fun z => ?_, fun _ p _ => ⟨mk_L_0 _, mk_L_0 _⟩⟩
  rw [b_0] at z
  exact absurd z (by decide)
theorem mk_UB_keep {C : Nat} {kd fi se bo bo' : Nat → Int32} {b : Int32} {x y : Int64} {a c d : Int32} (h : mk_UB C kd fi se bo b x y) (hbo : ∀ i, i < C → bo' i = bo i) : mk_UB (C + 1) (upd kd C a) (upd fi C c) (upd se C d) bo' b x y := by
  intro i hi
  refine ⟨fun z => ?_, (h i hi).2⟩
  obtain ⟨g1, g2, g3, g4⟩ := (h i hi).1 z
  have hne : i ≠ C := by omega
  rw [pk_un hne, pk_un hne, pk_un hne, hbo i g1]
  exact ⟨by omega, g2, g3, g4⟩
theorem mk_UB_new {C j l : Nat} {kd fi se bo : Nat → Int32} {b : Int32} {x y : Int64} (h : mk_UB C kd fi se bo b x y) (hC : C < 16) (hj : j < 16) (hl : l < 16) : mk_UB (C + 1) (upd kd C 4) (upd fi C (nI j)) (upd se C (nI l)) (upd bo C (-1)) (b ||| ((1 : Int32) <<< (nI C &&& 31))) (x ||| ((nI j).toInt64 <<< ((4 * nI C).toInt64 &&& 63))) (y ||| ((nI l).toInt64 <<< ((4 * nI C).toInt64 &&& 63))) := by
  have hb : ∀ i, i < 16 → bt (b ||| ((1 : Int32) <<< (nI C &&& 31))) i = (bt b i || decide (i = C)) := by
    intro i hi
    rw [b_or, mk_bone (show C < 32 by omega) (show i < 32 by omega)]
  have hx : ∀ (x : Int64) (k : Nat), k < 16 → ∀ i p, i < 16 → p < 4 → mk_bL (x ||| ((nI k).toInt64 <<< ((4 * nI C).toInt64 &&& 63))) (4 * i + p) = (mk_bL x (4 * i + p) || (decide (i = C) && k.testBit p)) := by
    intro x k hk i p hi hp
    rw [mk_L_or, mk_4, mk_L_shl (4 * C) (by omega) _ (by omega), nI_l (by omega), mk_L_N k _ (by omega)]
    by_cases e : i = C
    · rw [e, decide_eq_true (show 4 * C ≤ 4 * C + p by omega), decide_eq_true rfl, Nat.add_sub_cancel_left]
    · rw [decide_eq_false e, Bool.false_and]
      by_cases g : 4 * C ≤ 4 * i + p
      · rw [mk_tb hk (show 4 ≤ 4 * i + p - 4 * C by omega), Bool.and_false]
      · rw [decide_eq_false g, Bool.false_and]
  intro i hi
  rw [hb i hi]
  by_cases e : i = C
  · subst e
    have hf : bt b i = false := by
      cases z : bt b i with
      | false => rfl
      | true =>
        have := ((h i hi).1 z).1
        omega
    refine ⟨fun _ => ?_, fun z => ?_⟩
    · rw [pk_us, pk_us, pk_us, pk_us]
      refine ⟨by omega, rfl, rfl, j, l, hj, hl, rfl, rfl, fun p hp => ?_⟩
      obtain ⟨g1, g2⟩ := (h i hi).2 hf p hp
      rw [hx x j hj i p hi hp, hx y l hl i p hi hp, g1, g2, decide_eq_true rfl, Bool.true_and, Bool.true_and, Bool.false_or, Bool.false_or]
      exact ⟨rfl, rfl⟩
    · rw [decide_eq_true rfl, Bool.or_true] at z
      exact absurd z (by decide)
  · rw [decide_eq_false e, Bool.or_false, pk_un e, pk_un e, pk_un e, pk_un e]
    refine ⟨fun z => ?_, fun z p hp => ?_⟩
    · obtain ⟨g1, g2, g3, j', l', a1, a2, a3, a4, a5⟩ := (h i hi).1 z
      refine ⟨by omega, g2, g3, j', l', a1, a2, a3, a4, fun p hp => ?_⟩
      rw [hx x j hj i p hi hp, hx y l hl i p hi hp, decide_eq_false e, Bool.false_and, Bool.false_and, Bool.or_false, Bool.or_false]
      exact a5 p hp
    · rw [hx x j hj i p hi hp, hx y l hl i p hi hp, decide_eq_false e, Bool.false_and, Bool.false_and, Bool.or_false, Bool.or_false]
      exact (h i hi).2 z p hp
