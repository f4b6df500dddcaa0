/-! the law's chain, its first formulas, its top -/
def mk_dg : Nat → Nat → Int32
  | 0 => fun _ => 0
  | s + 1 => upd (mk_dg s) (s * 12 + s) 1
theorem mk_dg_at (n : Nat) : ∀ s t, s < 12 → t < 12 → mk_dg n (s * 12 + t) = nI (if s = t ∧ s < n then 1 else 0) := by
  induction n with
  | zero => intro s t _ _; rw [if_neg (by omega)]; rfl
  | succ n ih =>
    intro s t hs ht
    show upd (mk_dg n) (n * 12 + n) 1 (s * 12 + t) = _
    by_cases e : s * 12 + t = n * 12 + n
    · by_cases hn : n < 12
      · rw [e, pk_us, if_pos (by omega)]; rfl
      · omega
    · rw [pk_un e, ih s t hs ht]
      by_cases g : s = t ∧ s < n
      · rw [if_pos g, if_pos (by omega)]
      · rw [if_neg g, if_neg (by omega)]
theorem mk_t_one (f : Nat → Nat) (s : Nat) (h : ∀ t, f t ≤ if s = t then 1 else 0) (n : Nat) : mk_t f n ≤ if s < n then 1 else 0 := by
  induction n with
  | zero => exact Nat.zero_le _
  | succ n ih =>
    have h1 := h n
    show mk_t f n + f n ≤ _
    by_cases e : s = n
    · rw [if_pos e] at h1
      rw [if_neg (by omega)] at ih
      rw [if_pos (by omega)]; omega
    · rw [if_neg e] at h1
      by_cases g : s < n
      · rw [if_pos g] at ih
        rw [if_pos (by omega)]; omega
      · rw [if_neg g] at ih
        rw [if_neg (by omega)]; omega
theorem mk_dg_W {N : Nat} (hN : N ≤ 12) : mk_W (mk_dg N) N := by
  intro s hs
  have hw : ∀ t, t < N → mk_w (mk_dg N) s t = if s = t ∧ s < N then 1 else 0 := by
    intro t ht
    show (mk_dg N (s * 12 + t)).toNatClampNeg = _
    rw [mk_dg_at N s t (by omega) (by omega), nI_clamp]
    by_cases g : s = t ∧ s < N
    · rw [if_pos g]; decide
    · rw [if_neg g]; decide
  refine ⟨fun t ht => ?_, ?_⟩
  · rw [hw t ht]; exact mk_dg_at N s t (by omega) (by omega)
  · have h1 : mk_t (mk_w (mk_dg N) s) N = mk_t (fun t => if s = t then 1 else 0) N := by
      apply mk_t_congr
      intro t ht
      rw [hw t ht]
      by_cases g : s = t
      · rw [if_pos ⟨g, hs⟩, if_pos g]
      · rw [if_neg (fun z => g z.1), if_neg g]
    have h2 := mk_t_one (fun t => if s = t then 1 else 0) s (fun t => Nat.le_refl _) N
    rw [if_pos hs] at h2
    rw [h1]; omega
theorem mk_K_beg {N : Nat} (h2 : 2 ≤ N) (hN : N ≤ 12) {kd fi se bo : Nat → Int32} {vn vd : Nat → Int64} : mk_K N 0 0 (mk_dg N) kd fi se bo (fun _ => 0) vn vd := by
  refine ⟨h2, hN, by omega, mk_dg_W hN, fun i h => by omega, fun j _ i _ => ?_, Or.inl rfl⟩
  rw [b_0, Bool.and_false]
section
variable {L : Nat} {xs : Nat → Int32} {kc ks : Nat} {post : Int32 → Prop}
variable {N C : Nat} {nd vl : Int32} {wt lb kd fi se bo tn td tr un : Nat → Int32} {vn vd pa np mx : Nat → Int64}
theorem mx_a1s {po : Int32 → St2 → Prop} {a : Nat} (K : mk_K N C vl wt kd fi se bo tr vn vd) (h : C < 16) (ha : a ≤ 4) (k : ∀ b c : Int32, mk_K N (C + 1) 0 wt (upd kd C 1) (upd fi C b) (upd se C c) bo tr vn vd → po (nI C) ((nI N), (nI (C + 1)), 0, wt, lb, (upd kd C 1), (upd fi C b), (upd se C c), bo, tn, td, tr, vn, vd, pa, np, un, mx)) : (wpX_addAtom po ((nI N), (nI C), vl, wt, lb, kd, fi, se, bo, tn, td, tr, vn, vd, pa, np, un, mx) (nI a)) := by
  unfold wpX_addAtom
  refine br_t (nI_lt (b := 16) h (by decide)) (br_f (nI_pos (by omega)) (br_t (nI_le (b := 4) ha (by decide)) (mx_app h (k _ _ (mk_K_a K h (fun _ _ => rfl) ?_ (fun z => absurd z (by decide)))))))
  exact Or.inl ⟨pk_us, a, ha, pk_us⟩
/-- what a state's turn comes to -/
def mL_G (J30 : (Int32 → Int32 → Int32 → Int32 → Int32 → (Nat → Int32) → (Nat → Int32) → (Nat → Int32) → (Nat → Int32) → (Nat → Int32) → (Nat → Int32) → (Nat → Int32) → (Nat → Int32) → (Nat → Int32) → (Nat → Int64) → (Nat → Int64) → (Nat → Int64) → (Nat → Int64) → (Nat → Int32) → (Nat → Int64) → Prop)) (N P : Nat) (s : Int32) (nd : Int32) (C : Nat) (kd fi se bo tn td tr un : Nat → Int32) (vn vd pa np mx : Nat → Int64) : Prop :=
  ∀ (p : Nat) (vl : Int32) (wt lb : Nat → Int32), p ≤ P → mk_K N C vl wt kd fi se bo tr vn vd → (J30 (nI p) (s + 1) (nI N) (nI C) vl wt lb kd fi se bo tn td tr vn vd pa np un mx)
theorem mL_170 {J30 : (Int32 → Int32 → Int32 → Int32 → Int32 → (Nat → Int32) → (Nat → Int32) → (Nat → Int32) → (Nat → Int32) → (Nat → Int32) → (Nat → Int32) → (Nat → Int32) → (Nat → Int32) → (Nat → Int32) → (Nat → Int64) → (Nat → Int64) → (Nat → Int64) → (Nat → Int64) → (Nat → Int32) → (Nat → Int64) → Prop)} {x4 x6 : Int32} {p P : Nat} (G : mL_G J30 N P x4 nd C kd fi se bo tn td tr un vn vd pa np mx) (hp : p ≤ P) : ∀ (n a : Nat) (vl : Int32) (lb : Nat → Int32), a ≤ 4 → 4 < n + a → mk_K N C vl wt kd fi se bo tr vn vd → (wL_law_170 post L xs J30 (nI p) (nI N) x4 x6 kc ks n (nI a) (nI N) (nI C) vl wt lb kd fi se bo tn td tr vn vd pa np un mx) := by
  intro n
  induction n with
  | zero => intro a vl lb h1 h2; omega
  | succ n ih =>
    intro a vl lb h1 h2 K
    refine pk_le 4 a (fun h => nm_e (G p vl wt lb hp K)) (fun h => br_c (fun _ => ?_) (fun _ => ?_))
    · refine mx_sl K (fun r vl' lb' K' => ?_)
      exact nm_r (nI_1 a) (ih (a + 1) vl' lb' (by omega) (by omega) K')
    · refine mx_sl K (fun r vl' lb' K' => ?_)
      exact nm_r (nI_1 a) (ih (a + 1) vl' lb' (by omega) (by omega) K')
theorem mL_155 {J30 : (Int32 → Int32 → Int32 → Int32 → Int32 → (Nat → Int32) → (Nat → Int32) → (Nat → Int32) → (Nat → Int32) → (Nat → Int32) → (Nat → Int32) → (Nat → Int32) → (Nat → Int32) → (Nat → Int32) → (Nat → Int64) → (Nat → Int64) → (Nat → Int64) → (Nat → Int64) → (Nat → Int32) → (Nat → Int64) → Prop)} {x4 : Int32} {p P : Nat} (hL : L ≤ 260) (hP : P ≤ 100000) (G : mL_G J30 N P x4 nd C kd fi se bo tn td tr un vn vd pa np mx) (hp : p + 1 ≤ P) (K : mk_K N C vl wt kd fi se bo tr vn vd) : (wL_law_155 post L xs J30 (nI p) (nI N) x4 kc ks (nI N) (nI C) vl wt lb kd fi se bo tn td tr vn vd pa np un mx) := by
  refine nm_r (nI_1 p) (mL_pick 16 hL (by omega) (by omega) (by omega) (fun b _ => ?_))
  exact ⟨5, mL_170 G hp 5 0 vl lb (by omega) (by omega) K⟩
theorem mL_108 {J30 : (Int32 → Int32 → Int32 → Int32 → Int32 → (Nat → Int32) → (Nat → Int32) → (Nat → Int32) → (Nat → Int32) → (Nat → Int32) → (Nat → Int32) → (Nat → Int32) → (Nat → Int32) → (Nat → Int32) → (Nat → Int64) → (Nat → Int64) → (Nat → Int64) → (Nat → Int64) → (Nat → Int32) → (Nat → Int64) → Prop)} {s p P : Nat} (hL : L ≤ 260) (hP : P ≤ 100000) (hs : s < N) (G : mL_G J30 N P (nI s) nd C kd fi se bo tn td tr un vn vd pa np mx) (hp : p + 2 ≤ P) (K : mk_K N C vl wt kd fi se bo tr vn vd) : ∀ (n t : Nat) (x5 : Int32), t ≤ N → N < n + t → (wL_law_108 post L xs J30 (nI p) (nI N) (nI s) kc ks (nI N) (nI C) vl wt lb kd fi se bo tn td tr vn vd pa np un mx n x5 (nI t)) := by
  obtain ⟨hN2, hN, hC, hW, _⟩ := id K
  intro n
  induction n with
  | zero => intro t x5 h1 h2; omega
  | succ n ih =>
    intro t x5 h1 h2
    refine pk_le N t (fun h => br_c (fun _ => ?_) (fun _ => mL_155 hL hP G (by omega) K)) (fun h => ?_)
    · refine nm_r (nI_1 p) (mL_pick N hL (by omega) (by omega) (by omega) (fun t' _ => ?_))
      refine mx_sw K (fun r vl' wt' K' => ?_)
      exact mL_155 hL hP G (by omega) K'
    · refine mx_gw hN hW hs h ?_
      exact nm_e (nm_r (nI_1 t) (ih (t + 1) _ (by omega) (by omega)))
theorem mL_57 {J30 : (Int32 → Int32 → Int32 → Int32 → Int32 → (Nat → Int32) → (Nat → Int32) → (Nat → Int32) → (Nat → Int32) → (Nat → Int32) → (Nat → Int32) → (Nat → Int32) → (Nat → Int32) → (Nat → Int32) → (Nat → Int64) → (Nat → Int64) → (Nat → Int64) → (Nat → Int64) → (Nat → Int32) → (Nat → Int64) → Prop)} {s P : Nat} (hL : L ≤ 260) (hP : P ≤ 100000) (hs : s < N) (G : mL_G J30 N P (nI s) nd C kd fi se bo tn td tr un vn vd pa np mx) : ∀ (n i p : Nat) (vl : Int32) (wt lb : Nat → Int32), i ≤ 3 → 3 < n + i → p + 8 ≤ P + 2 * i → mk_K N C vl wt kd fi se bo tr vn vd → (wL_law_57 post L xs J30 (nI N) (nI s) kc ks n (nI p) (nI i) (nI N) (nI C) vl wt lb kd fi se bo tn td tr vn vd pa np un mx) := by
  intro n
  induction n with
  | zero => intro i p vl wt lb h1 h2; omega
  | succ n ih =>
    intro i p vl wt lb h1 h2 hp K
    obtain ⟨hN2, hN, _⟩ := id K
    refine pk_le 3 i (fun h => ?_) (fun h => ?_)
    · exact ⟨N + 1, mL_108 hL hP hs G (by omega) K (N + 1) 0 0 (by omega) (by omega)⟩
    · refine nm_r (nI_1 p) (mL_pick N hL (by omega) (by omega) (by omega) (fun t _ => ?_))
      refine nm_r (nI_1 _) (mL_pick 3 hL (by omega) (by omega) (by omega) (fun w _ => ?_))
      refine mx_sw K (fun r vl' wt' K' => ?_)
      exact nm_r (nI_1 i) (ih (i + 1) _ vl' wt' lb (by omega) (by omega) (by omega) K')
theorem mL_30 (hL : L ≤ 260) (kp : post 1) : ∀ (n s p : Nat) (vl : Int32) (wt lb : Nat → Int32), s ≤ N → N < n + s → p ≤ 1 + 20 * s → mk_K N 0 vl wt kd fi se bo tr vn vd → (wL_law_30 post L xs (nI N) kc ks n (nI p) (nI s) (nI N) (nI 0) vl wt lb kd fi se bo tn td tr vn vd pa np un mx) := by
  intro n
  induction n with
  | zero => intro s p vl wt lb h1 h2; omega
  | succ n ih =>
    intro s p vl wt lb h1 h2 hp K
    obtain ⟨hN2, hN, _⟩ := id K
    refine pk_le N s (fun h => ?_) (fun h => ?_)
    · refine nm_r (nI_1 p) (mL_pick 5 hL (by omega) (by omega) (by omega) (fun a ha => ?_))
      refine mx_a1s K (by omega) (by omega) (fun b c K1 => ?_)
      refine nm_r (nI_1 _) (mL_pick 5 hL (by omega) (by omega) (by omega) (fun a' ha' => ?_))
      refine mx_a1s K1 (by omega) (by omega) (fun b' c' K2 => ?_)
      refine nm_r (nI_1 _) (mL_pick 10 hL (by omega) (by omega) (by omega) (fun q hq => ?_))
      refine nm_r (e' := nI (3 + q)) (nI_add 3 q) ⟨(3 + q) + 1, mL_269 hL (by omega) kp ((3 + q) + 1) 0 (p + 1 + 1 + 1) 2 0 0 0 0 _ _ _ _ _ _ (by omega) (by omega) (by omega) (by omega) K2 mk_UB_0⟩
    · refine nm_r (nI_1 p) (mL_pick 2 hL (by omega) (by omega) (by omega) (fun b _ => ?_))
      refine mx_sw K (fun r vl' wt' K' => ?_)
      refine ⟨4, mL_57 (nd := 0) (P := p + 10) hL (by omega) h ?_ 4 0 (p + 1) vl' wt' lb (by omega) (by omega) (by omega) K'⟩
      intro p' vl2 wt2 lb2 hp' K2
      rw [nI_1]
      exact ih (s + 1) p' vl2 wt2 lb2 (by omega) (by omega) (by omega) K2
theorem mx_ini {po : St2 → Prop} {mc ms : Nat} (hN : N ≤ 12) (k : po ((nI N), nd, vl, (mk_dg N), lb, kd, fi, se, bo, tn, td, tr, vn, vd, pa, np, un, mx)) : ∀ n s : Nat, s ≤ N → N < n + s → (wX_init_153 po mc ms (nI N) kc ks (nI N) nd vl n (nI s) (mk_dg s) lb kd fi se bo tn td tr vn vd pa np un mx) := by
  intro n
  induction n with
  | zero => intro s h1 h2; omega
  | succ n ih =>
    intro s h1 h2
    refine pk_le N s (fun h => ?_) (fun h => ⟨pk_in (s * 12 + s) 144 (by omega) (mk_i12 s s), ?_⟩)
    · obtain rfl : s = N := by omega
      exact k
    · rw [mk_i12, nI_clamp (by omega)]
      exact nm_e (nm_r (nI_1 s) (ih (s + 1) (by omega) (by omega)))
end
theorem i_vc (xs : Nat → Int32) (L : Nat) (hL : L ≤ 260) : wpL_law (fun r => r = 1) L xs := by
  unfold wpL_law
  refine nm_r (e' := nI 1) rfl (mL_pick (p := 0) 11 hL (by omega) (by omega) (by omega) (fun j hj => ?_))
  refine ⟨15, 844, by omega, by omega, ?_⟩
  rw [show (2 : Int32) + nI j = nI (2 + j) from nI_add 2 j]
  unfold wpX_init
  refine ⟨by omega, by omega, by omega, by omega, by omega, by omega, by omega, by omega, by omega, by omega, by omega, by omega, by omega, by omega, by omega, by omega, by omega, by omega, by omega, by omega, by omega, by omega, by omega, by omega, by omega, by omega, by omega, by omega, by omega, by omega, ?_⟩
  refine br_t (nI_le (a := 2) (by omega) (by omega)) (br_t (nI_le (b := 12) (by omega) (by decide)) ⟨(2 + j) + 1, mx_ini (by omega) ?_ ((2 + j) + 1) 0 (by omega) (by omega)⟩)
  exact ⟨(2 + j) + 1, mL_30 (post := fun r => r = 1) (N := 2 + j) hL rfl ((2 + j) + 1) 0 1 0 _ _ (by omega) (by omega) (by omega) (mk_K_beg (by omega) (by omega))⟩
