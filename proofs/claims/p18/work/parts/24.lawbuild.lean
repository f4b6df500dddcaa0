/-! the law's rounds, its formulas -/
section
variable {L : Nat} {xs : Nat → Int32} {kc ks : Nat} {post : Int32 → Prop} {x5 : Int32} {x6 x8 : Int64}
variable {N C : Nat} {nd vl : Int32} {wt lb kd fi se bo tn td tr un : Nat → Int32} {vn vd pa np mx : Nat → Int64}
theorem mL_707 {J679 : (Int32 → Int32 → Int32 → Int32 → Int32 → (Nat → Int32) → (Nat → Int32) → (Nat → Int32) → (Nat → Int32) → (Nat → Int32) → (Nat → Int32) → (Nat → Int32) → (Nat → Int32) → (Nat → Int32) → (Nat → Int64) → (Nat → Int64) → (Nat → Int64) → (Nat → Int64) → (Nat → Int32) → (Nat → Int64) → Prop)} {x11 x12 : Int32} {M P : Nat} (hL : L ≤ 260) (hM : M ≤ 3) (hP : P ≤ 100000) (k : ∀ (p : Nat) (vl : Int32) (wt lb : Nat → Int32), p ≤ P + 10 * M → mk_K N C vl wt kd fi se bo tr vn vd → (wL_law_813 post L xs J679 (nI p) (nI N) x5 x6 x8 x11 x12 kc ks (nI N) (nI C) vl wt lb kd fi se bo tn td tr vn vd pa np un mx)) : ∀ (n i p : Nat) (vl : Int32) (wt lb : Nat → Int32), i ≤ M → M < n + i → p ≤ P + 10 * i → mk_K N C vl wt kd fi se bo tr vn vd → (wL_law_707 post L xs J679 (nI N) x5 x6 x8 x11 x12 (nI M) kc ks n (nI p) (nI i) (nI N) (nI C) vl wt lb kd fi se bo tn td tr vn vd pa np un mx) := by
  intro n
  induction n with
  | zero => intro i p vl wt lb h1 h2; omega
  | succ n ih =>
    intro i p vl wt lb h1 h2 hp K
    obtain ⟨hN2, hN, _⟩ := id K
    refine pk_le M i (fun h => ?_) (fun h => ?_)
    · obtain rfl : i = M := by omega
      exact k p vl wt lb hp K
    · refine nm_r (nI_1 p) (mL_pick N hL (by omega) (by omega) (by omega) (fun s _ => ?_))
      refine nm_r (nI_1 _) (mL_pick 2 hL (by omega) (by omega) (by omega) (fun b _ => ?_))
      refine br_c (fun _ => ?_) (fun _ => ?_)
      · refine nm_r (nI_1 _) (mL_pick N hL (by omega) (by omega) (by omega) (fun t _ => ?_))
        refine nm_r (nI_1 _) (mL_pick 3 hL (by omega) (by omega) (by omega) (fun w _ => ?_))
        refine mx_sw K (fun r vl' wt' K' => ?_)
        exact nm_r (nI_1 i) (ih (i + 1) _ vl' wt' lb (by omega) (by omega) (by omega) K')
      · refine nm_r (nI_1 _) (mL_pick 4 hL (by omega) (by omega) (by omega) (fun a _ => ?_))
        refine nm_r (nI_1 _) (mL_pick 2 hL (by omega) (by omega) (by omega) (fun o _ => ?_))
        refine br_c (fun _ => ?_) (fun _ => ?_)
        · refine mx_sl K (fun r vl' lb' K' => ?_)
          exact nm_r (nI_1 i) (ih (i + 1) _ vl' wt lb' (by omega) (by omega) (by omega) K')
        · refine mx_sl K (fun r vl' lb' K' => ?_)
          exact nm_r (nI_1 i) (ih (i + 1) _ vl' wt lb' (by omega) (by omega) (by omega) K')
theorem mL_679 {R : Nat} (hL : L ≤ 260) (hR : R ≤ 3) (kp : post 1) (hub : mk_UB C kd fi se bo x5 x6 x8) : ∀ (n rd p : Nat) (vl : Int32) (wt lb tr un : Nat → Int32) (vn vd pa np mx : Nat → Int64), rd ≤ R → R < n + rd → p ≤ 5000 + 100 * rd → mk_K N C vl wt kd fi se bo tr vn vd → (wL_law_679 post L xs (nI N) x5 x6 x8 (nI R) kc ks n (nI p) (nI rd) (nI N) (nI C) vl wt lb kd fi se bo tn td tr vn vd pa np un mx) := by
  intro n
  induction n with
  | zero => intro rd p vl wt lb tr un vn vd pa np mx h1 h2; omega
  | succ n ih =>
    intro rd p vl wt lb tr un vn vd pa np mx h1 h2 hp K
    refine pk_le R rd (fun h => kp) (fun h => ?_)
    refine pk_le rd 0 (fun h0 => ?_) (fun h0 => ?_)
    · refine mL_813 K hub (fun vl' tr' un' vn' vd' pa' np' mx' K' => ?_)
      rw [nI_1]
      exact ih (rd + 1) p vl' wt lb tr' un' vn' vd' pa' np' mx' (by omega) (by omega) (by omega) K'
    · refine nm_r (nI_1 p) (mL_pick 3 hL (by omega) (by omega) (by omega) (fun j hj => ?_))
      refine nm_r (e' := nI (1 + j)) (nI_add 1 j) ⟨(1 + j) + 1, mL_707 (P := p + 1) hL (by omega) (by omega) (fun p' vl' wt' lb' hp' K' => ?_) ((1 + j) + 1) 0 (p + 1) vl wt lb (by omega) (by omega) (by omega) K⟩
      refine mL_813 K' hub (fun vl2 tr' un' vn' vd' pa' np' mx' K2 => ?_)
      rw [nI_1]
      exact ih (rd + 1) p' vl2 wt' lb' tr' un' vn' vd' pa' np' mx' (by omega) (by omega) (by omega) K2
end
section
variable {L : Nat} {xs : Nat → Int32} {kc ks : Nat} {post : Int32 → Prop} {J269 : (Int32 → Int32 → Int32 → Int64 → Int64 → Int32 → Int32 → Int32 → Int32 → (Nat → Int32) → (Nat → Int32) → (Nat → Int32) → (Nat → Int32) → (Nat → Int32) → (Nat → Int32) → (Nat → Int32) → (Nat → Int32) → (Nat → Int32) → (Nat → Int64) → (Nat → Int64) → (Nat → Int64) → (Nat → Int64) → (Nat → Int32) → (Nat → Int64) → Prop)} {x1 x3 x4 x5 x10 x11 : Int32} {x6 x8 : Int64}
variable {N C : Nat} {nd vl : Int32} {wt lb kd fi se bo tn td tr un : Nat → Int32} {vn vd pa np mx : Nat → Int64}
theorem mL_639f {r : Int32} (hr : r < 0) (h : (J269 x1 x4 x5 x6 x8 (x11 + 1) (nI N) nd vl wt lb kd fi se bo tn td tr vn vd pa np un mx)) : (wL_law_639 post L xs J269 x1 x3 x4 x5 x6 x8 x10 x11 r kc ks (nI N) nd vl wt lb kd fi se bo tn td tr vn vd pa np un mx) := br_t hr (nm_e h)
theorem mL_639s {c : Nat} (hc : c < 16) (h : (J269 x1 (nI (c + 1)) x5 x6 x8 (x11 + 1) (nI N) nd vl wt lb kd fi se bo tn td tr vn vd pa np un mx)) : (wL_law_639 post L xs J269 x1 x3 x4 x5 x6 x8 x10 x11 (nI c) kc ks (nI N) nd vl wt lb kd fi se bo tn td tr vn vd pa np un mx) :=
  br_f (nI_pos (by omega)) (br_f (nI_ge (b := 16) hc (by decide)) (nm_r (nI_1 c) (nm_e h)))
/-- what each kind of formula comes to -/
def mL_H (J269 : (Int32 → Int32 → Int32 → Int64 → Int64 → Int32 → Int32 → Int32 → Int32 → (Nat → Int32) → (Nat → Int32) → (Nat → Int32) → (Nat → Int32) → (Nat → Int32) → (Nat → Int32) → (Nat → Int32) → (Nat → Int32) → (Nat → Int32) → (Nat → Int64) → (Nat → Int64) → (Nat → Int64) → (Nat → Int64) → (Nat → Int32) → (Nat → Int64) → Prop)) (N P : Nat) (o : Int32) (wt lb tr un : Nat → Int32) (vn vd pa np mx : Nat → Int64) : Prop :=
  ∀ (p C : Nat) (vl b : Int32) (x y : Int64) (kd fi se bo tn td : Nat → Int32), p ≤ P → 2 ≤ C → mk_K N C vl wt kd fi se bo tr vn vd → mk_UB C kd fi se bo b x y → (J269 (nI p) (nI C) b x y (o + 1) (nI N) (nI C) vl wt lb kd fi se bo tn td tr vn vd pa np un mx)
theorem mL_572 {x13 x14 z : Int32} {p P : Nat} (hC2 : 2 ≤ C) (K : mk_K N C vl wt kd fi se bo tr vn vd) (hub : mk_UB C kd fi se bo x5 x6 x8) (H : mL_H J269 N P x11 wt lb tr un vn vd pa np mx) (hp : p ≤ P) : (wL_law_572 post L xs J269 (nI p) x3 (nI C) x5 x6 x8 x10 x11 x13 x14 z kc ks (nI N) (nI C) vl wt lb kd fi se bo tn td tr vn vd pa np un mx) := by
  refine mx_a4 K (fun r hr => ?_) (fun hC j l hj hl ej el K' => ?_)
  · exact br_t hr (mL_639f hr (H p C vl x5 x6 x8 kd fi se bo tn td hp hC2 K hub))
  · refine br_f (nI_pos (by omega)) (br_f (nI_ge (b := 16) hC (by decide)) ?_)
    by_cases hz : z = -1
    · subst hz ej el
      refine br_t rfl (nm_e (nm_e (nm_e (mL_639s hC ?_))))
      exact H p (C + 1) 0 _ _ _ _ _ _ _ _ _ hp (by omega) K' (mk_UB_new hub hC (by omega) (by omega))
    · refine br_f hz (mL_639s hC ?_)
      exact H p (C + 1) 0 _ _ _ _ _ _ _ _ _ hp (by omega) K' (mk_UB_keep hub (fun i hi => pk_un (by omega)))
theorem mL_498 {x16 : Int32} {p P : Nat} (hL : L ≤ 260) (hC2 : 2 ≤ C) (K : mk_K N C vl wt kd fi se bo tr vn vd) (hub : mk_UB C kd fi se bo x5 x6 x8) (H : mL_H J269 N P x11 wt lb tr un vn vd pa np mx) (hp : p + 3 ≤ P) (hP : P ≤ 100000) : (wL_law_498 post L xs J269 (nI p) x3 (nI C) x5 x6 x8 x10 x11 x16 kc ks (nI N) (nI C) vl wt lb kd fi se bo tn td tr vn vd pa np un mx) := by
  refine nm_r (nI_1 p) (mL_pick 8 hL (by omega) (by omega) (by omega) (fun d hd => ?_))
  refine nm_r (e' := nI (1 + d)) (nI_add 1 d) ?_
  refine nm_r (nI_1 _) (mL_pick 4 hL (by omega) (by omega) (by omega) (fun op _ => ?_))
  rw [nI_1 (1 + d)]
  refine nm_r (nI_1 _) (mL_pick (1 + d + 1) hL (by omega) (by omega) (by omega) (fun nm _ => ?_))
  refine mx_a5 K (fun r hr => ?_) (fun hC b c q q' K' => ?_)
  · exact mL_639f hr (H _ C vl x5 x6 x8 kd fi se bo tn td (by omega) hC2 K hub)
  · refine mL_639s hC ?_
    exact H _ (C + 1) 0 _ _ _ _ _ _ _ _ _ (by omega) (by omega) K' (mk_UB_keep hub (fun i hi => rfl))
theorem mL_466 {p P : Nat} (hL : L ≤ 260) (hC2 : 2 ≤ C) (K : mk_K N C vl wt kd fi se bo tr vn vd) (hub : mk_UB C kd fi se bo x5 x6 x8) (H : mL_H J269 N P x11 wt lb tr un vn vd pa np mx) (hp : p + 3 ≤ P) (hP : P ≤ 100000) : ∀ (n i : Nat) (x16 : Int32), i ≤ 16 → 16 < n + i → (wL_law_466 post L xs J269 (nI p) x3 (nI C) x5 x6 x8 x10 x11 kc ks (nI N) (nI C) vl wt lb kd fi se bo tn td tr vn vd pa np un mx n x16 (nI i)) := by
  obtain ⟨_, _, hC, _⟩ := id K
  intro n
  induction n with
  | zero => intro i x16 h1 h2; omega
  | succ n ih =>
    intro i x16 h1 h2
    refine pk_le 16 i (fun h => mL_498 hL hC2 K hub H hp hP) (fun h => mx_nk hC (fun r _ => ?_))
    refine br_c (fun _ => mL_498 hL hC2 K hub H hp hP) (fun _ => ⟨nI_ne0 (by omega) (by omega), nm_e (nm_r (nI_1 i) (ih (i + 1) _ (by omega) (by omega)))⟩)
theorem mL_386 {x12 x13 x14 : Int32} {p P : Nat} (hL : L ≤ 260) (hC2 : 2 ≤ C) (K : mk_K N C vl wt kd fi se bo tr vn vd) (hub : mk_UB C kd fi se bo x5 x6 x8) (H : mL_H J269 N P x11 wt lb tr un vn vd pa np mx) (hp : p + 4 ≤ P) (hP : P ≤ 100000) : (wL_law_386 post L xs J269 (nI p) x3 (nI C) x5 x6 x8 x10 x11 x12 x13 x14 kc ks (nI N) (nI C) vl wt lb kd fi se bo tn td tr vn vd pa np un mx) := by
  obtain ⟨_, _, hC, _⟩ := id K
  refine br_c (fun _ => ?_) (fun _ => br_c (fun _ => ?_) (fun _ => br_c (fun _ => ?_) (fun _ => br_c (fun _ => ?_) (fun _ => br_c (fun _ => ?_) (fun _ => ?_)))))
  · refine nm_r (nI_1 p) (mL_pick 5 hL (by omega) (by omega) (by omega) (fun a _ => ?_))
    refine mx_a1 K (fun r hr => ?_) (fun hC b c K' => ?_)
    · exact mL_639f hr (H _ C vl x5 x6 x8 kd fi se bo tn td (by omega) hC2 K hub)
    · exact mL_639s hC (H _ (C + 1) 0 _ _ _ _ _ _ _ _ _ (by omega) (by omega) K' (mk_UB_keep hub (fun i hi => rfl)))
  · refine mx_a2 K (fun r hr => ?_) (fun hC b c K' => ?_)
    · exact mL_639f hr (H _ C vl x5 x6 x8 kd fi se bo tn td (by omega) hC2 K hub)
    · exact mL_639s hC (H _ (C + 1) 0 _ _ _ _ _ _ _ _ _ (by omega) (by omega) K' (mk_UB_keep hub (fun i hi => rfl)))
  · refine mx_a3 K (fun r hr => ?_) (fun hC b c K' => ?_)
    · exact mL_639f hr (H _ C vl x5 x6 x8 kd fi se bo tn td (by omega) hC2 K hub)
    · exact mL_639s hC (H _ (C + 1) 0 _ _ _ _ _ _ _ _ _ (by omega) (by omega) K' (mk_UB_keep hub (fun i hi => rfl)))
  · refine nm_r (nI_1 p) (mL_pick C hL (by omega) (by omega) (by omega) (fun u _ => ?_))
    exact ⟨17, mL_466 hL hC2 K hub H (by omega) hP 17 0 _ (by omega) (by omega)⟩
  · exact mL_572 hC2 K hub H (by omega)
  · refine nm_r (nI_1 p) (mL_pick 10 hL (by omega) (by omega) (by omega) (fun u _ => ?_))
    exact mL_572 hC2 K hub H (by omega)
theorem mL_isSt {q : Int32 → Prop} {x : Int32} (k0 : q 0) (k1 : q 1) : wpL_isState q () x := by
  unfold wpL_isState
  exact br_c (fun _ => k1) (fun _ => br_c (fun _ => k1) (fun _ => br_c (fun _ => k1) (fun _ => br_c (fun _ => k1) (fun _ => k0))))
theorem mL_352 {x12 x13 : Int32} {p P : Nat} (hL : L ≤ 260) (hC2 : 2 ≤ C) (K : mk_K N C vl wt kd fi se bo tr vn vd) (hub : mk_UB C kd fi se bo x5 x6 x8) (H : mL_H J269 N P x11 wt lb tr un vn vd pa np mx) (hp : p + 4 ≤ P) (hP : P ≤ 100000) : ∀ (n i : Nat) (x14 : Int32), i ≤ 16 → 16 < n + i → (wL_law_352 post L xs J269 (nI p) x3 (nI C) x5 x6 x8 x10 x11 x12 x13 kc ks (nI N) (nI C) vl wt lb kd fi se bo tn td tr vn vd pa np un mx n x14 (nI i)) := by
  obtain ⟨_, _, hC, _⟩ := id K
  intro n
  induction n with
  | zero => intro i x14 h1 h2; omega
  | succ n ih =>
    intro i x14 h1 h2
    refine pk_le 16 i (fun h => mL_386 hL hC2 K hub H hp hP) (fun h => mx_nk hC (fun r _ => mL_isSt ?_ ?_))
    · exact br_t rfl ⟨nI_ne0 (by omega) (by omega), nm_e (nm_r (nI_1 i) (ih (i + 1) _ (by omega) (by omega)))⟩
    · exact br_f (by decide) (mL_386 hL hC2 K hub H hp hP)
theorem mL_315 {x12 x14 : Int32} {p P : Nat} (hL : L ≤ 260) (hC2 : 2 ≤ C) (K : mk_K N C vl wt kd fi se bo tr vn vd) (hub : mk_UB C kd fi se bo x5 x6 x8) (H : mL_H J269 N P x11 wt lb tr un vn vd pa np mx) (hp : p + 4 ≤ P) (hP : P ≤ 100000) : ∀ (n i : Nat) (x13 : Int32), i ≤ 16 → 16 < n + i → (wL_law_315 post L xs J269 (nI p) x3 (nI C) x5 x6 x8 x10 x11 x12 x14 kc ks (nI N) (nI C) vl wt lb kd fi se bo tn td tr vn vd pa np un mx n x13 (nI i)) := by
  obtain ⟨_, _, hC, _⟩ := id K
  intro n
  induction n with
  | zero => intro i x13 h1 h2; omega
  | succ n ih =>
    intro i x13 h1 h2
    refine pk_le 16 i (fun h => ⟨17, mL_352 hL hC2 K hub H hp hP 17 0 _ (by omega) (by omega)⟩) (fun h => mx_nk hC (fun r _ => mL_isSt ?_ ?_))
    · exact br_t rfl ⟨nI_ne0 (by omega) (by omega), nm_e (nm_r (nI_1 i) (ih (i + 1) _ (by omega) (by omega)))⟩
    · exact br_f (by decide) ⟨17, mL_352 hL hC2 K hub H hp hP 17 0 _ (by omega) (by omega)⟩
end
section
variable {L : Nat} {xs : Nat → Int32} {kc ks : Nat} {post : Int32 → Prop}
variable {N : Nat} {wt lb tr un : Nat → Int32} {vn vd pa np mx : Nat → Int64}
theorem mL_269 {Q : Nat} (hL : L ≤ 260) (hQ : Q ≤ 12) (kp : post 1) : ∀ (n o p C : Nat) (vl x5 : Int32) (x6 x8 : Int64) (kd fi se bo tn td : Nat → Int32), o ≤ Q → Q < n + o → p ≤ 1000 + 10 * o → 2 ≤ C → mk_K N C vl wt kd fi se bo tr vn vd → mk_UB C kd fi se bo x5 x6 x8 → (wL_law_269 post L xs (nI N) (nI Q) kc ks n (nI p) (nI C) x5 x6 x8 (nI o) (nI N) (nI C) vl wt lb kd fi se bo tn td tr vn vd pa np un mx) := by
  intro n
  induction n with
  | zero => intro o p C vl x5 x6 x8 kd fi se bo tn td h1 h2; omega
  | succ n ih =>
    intro o p C vl x5 x6 x8 kd fi se bo tn td h1 h2 hp hC2 K hub
    obtain ⟨_, _, hC, _⟩ := id K
    refine pk_le Q o (fun h => ?_) (fun h => ?_)
    · refine nm_r (nI_1 p) (mL_pick 3 hL (by omega) (by omega) (by omega) (fun j hj => ?_))
      refine nm_r (e' := nI (1 + j)) (nI_add 1 j) ⟨(1 + j) + 1, mL_679 hL (by omega) kp hub ((1 + j) + 1) 0 (p + 1) vl wt lb tr un vn vd pa np mx (by omega) (by omega) (by omega) K⟩
    · refine nm_r (nI_1 p) (mL_pick 6 hL (by omega) (by omega) (by omega) (fun kind _ => ?_))
      refine nm_r (nI_1 _) (mL_pick C hL (by omega) (by omega) (by omega) (fun x _ => ?_))
      refine nm_r (nI_1 _) (mL_pick C hL (by omega) (by omega) (by omega) (fun y _ => ?_))
      refine ⟨17, mL_315 (P := 1000 + 10 * (o + 1)) hL hC2 K hub ?_ (by omega) (by omega) 17 0 _ (by omega) (by omega)⟩
      intro p' C' vl' b' x' y' kd' fi' se' bo' tn' td' hp' hC' K' hub'
      rw [nI_1]
      exact ih (o + 1) p' C' vl' b' x' y' kd' fi' se' bo' tn' td' (by omega) (by omega) hp' hC' K' hub'
end
