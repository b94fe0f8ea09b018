/-! repeats -/
theorem RS.copy {cnt P T1 T2 : Nat} {N L N' L' : sk_N} {M : sk_M} (h : RS cnt P T1 T2 N L M) (g : AG N N') (gl : AL L L') : RS cnt P T1 T2 N' L' M := by
  obtain ⟨h1, h2, nl, h3, h4⟩ := h
  exact ⟨h1.copy g (fun _ _ => rfl), h2.copy g (fun _ _ => rfl), nl, h3.copy gl, h4⟩
theorem RS.lg {cnt P T1 T2 : Nat} {N L : sk_N} {M : sk_M} (h : RS cnt P T1 T2 N L M) : ∃ nl, LG nl L := ⟨_, h.2.2.choose_spec.1⟩
theorem p_pass {cnt P T H i n : Nat} {N L : sk_N} {K : Nat → sk_M} (hK : TRJ cnt P T H K) (hi : i + n ≤ H) (hn : n ≤ 400) (h : RS cnt P (T + i) (T + i) N L (K i)) : ∃ r N' L', m_X1_passTicks N L (nI n) = some (r, N', L') ∧ RS cnt P (T + (i + n)) (T + (i + n)) N' L' (K (i + n)) := by
  obtain ⟨hb, hA, hB⟩ := hK
  refine lp_F (step := m_X1_passTicks_4_step (nI n)) (fun y => ∃ r N' L', y = some (r, N', L') ∧ RS cnt P (T + (i + n)) (T + (i + n)) N' L' (K (i + n))) (fun j s => s.2.2.2 = nI j ∧ RS cnt P (T + (i + j)) (T + (i + j)) s.1 s.2.1 (K (i + j))) n (by omega) (N, L, 0, 0) ⟨rfl, h⟩ ?_
  rintro k j ⟨A, La, x, y⟩ hj ⟨rfl, hR⟩
  dsimp only at hR ⊢
  rw [p_step]
  by_cases hjc : j = n
  · subst hjc
    simp (disch := omega) only [pu_lit, pu_let, pu_some, pu_xb, pu_xe, pu_hb, pu_he, nI_add, pk_mul, pk_sub, nI_clamp, pu_inT, nI_leI, nI_ltI, nI_eq, if_pos, if_neg, ↓reduceIte, true_and, and_true, and_self, not_true_eq_false, not_false_eq_true, reduceCtorEq]
    exact Or.inl ⟨_, A, La, rfl, hR⟩
  · right
    refine ⟨by omega, ?_⟩
    obtain ⟨r2, N', L', M', b1, b2, b3, b4, b5, b6, b7⟩ := t_step hR (by omega) (by omega)
    obtain ⟨r3, t3⟩ := hB (i + j) (by omega)
    rw [t3] at b5
    simp only [Option.some.injEq, Prod.mk.injEq] at b5
    rw [← b5.2] at b6
    simp (disch := omega) only [pu_lit, pu_let, pu_some, pu_xb, pu_xe, pu_hb, pu_he, nI_add, pk_mul, pk_sub, nI_clamp, pu_inT, nI_leI, nI_ltI, nI_eq, if_pos, if_neg, ↓reduceIte, true_and, and_true, and_self, not_true_eq_false, not_false_eq_true, reduceCtorEq, b2, b3, b4]
    exact ⟨_, rfl, rfl, b6⟩
theorem r_len {cnt P T H lim : Nat} {A0 AL0 N L B0 BL0 : sk_N} {K : Nat → sk_M} (hK : TRJ cnt P T H K) (hH : 800 ≤ H) (hl : lim ≤ 400) (h : RS cnt P T T N L (K 0)) :
    ∃ r A AL B BL, m_X4_lengthOfCycle A0 AL0 N L B0 BL0 (nI lim) = some (r, A, AL, B, BL) ∧ (∃ nl, LG nl AL) ∧ (∃ nl, LG nl BL) ∧ ((r = -1 ∧ ∀ n, 1 ≤ n → n ≤ lim → ¬ AK cnt K (lim + n) lim) ∨ ∃ n : Nat, 1 ≤ n ∧ n ≤ lim ∧ r = nI n ∧ AK cnt K (lim + n) lim ∧ ∀ n', 1 ≤ n' → n' < n → ¬ AK cnt K (lim + n') lim) := by
  unfold m_X4_lengthOfCycle
  obtain ⟨N1, L1, c1, c2, c3⟩ := c_copy A0 AL0 N L
  obtain ⟨r, N2, L2, d1, d2⟩ := p_pass hK (i := 0) (n := lim) (by omega) hl (h.copy c2 c3)
  obtain ⟨N3, L3, e1, e2, e3⟩ := c_copy B0 BL0 N2 L2
  rw [c1, pu_some, d1, pu_some, e1, pu_some]
  rw [Nat.zero_add] at d2
  refine lp_F (step := m_X4_lengthOfCycle_33_step N L (nI lim)) (fun y => ∃ r A AL B BL, y = some (r, A, AL, B, BL) ∧ (∃ nl, LG nl AL) ∧ (∃ nl, LG nl BL) ∧ ((r = -1 ∧ ∀ n, 1 ≤ n → n ≤ lim → ¬ AK cnt K (lim + n) lim) ∨ ∃ n : Nat, 1 ≤ n ∧ n ≤ lim ∧ r = nI n ∧ AK cnt K (lim + n) lim ∧ ∀ n', 1 ≤ n' → n' < n → ¬ AK cnt K (lim + n') lim)) (fun j s => s.1 = N2 ∧ s.2.1 = L2 ∧ s.2.2.2.2 = nI (j + 1) ∧ RS cnt P (T + (lim + j)) (T + (lim + j)) s.2.2.1 s.2.2.2.1 (K (lim + j)) ∧ ∀ n', 1 ≤ n' → n' ≤ j → ¬ AK cnt K (lim + n') lim) lim (by omega) _ ⟨rfl, rfl, rfl, d2.copy e2 e3, fun n' a b => absurd a (by omega)⟩ ?_
  rintro k j ⟨A, La, B, Lb, x⟩ hj ⟨rfl, rfl, rfl, hR, hno⟩
  dsimp only at hR ⊢
  unfold m_X4_lengthOfCycle_33_step
  dsimp only
  by_cases hjc : j = lim
  · subst hjc
    left
    refine ⟨-1, A, La, B, Lb, ?_, d2.lg, hR.lg, Or.inl ⟨rfl, hno⟩⟩
    simp (disch := omega) only [pu_lit, pu_let, pu_some, pu_xb, pu_xe, pu_hb, pu_he, nI_add, pk_mul, pk_sub, nI_clamp, pu_inT, nI_leI, nI_ltI, nI_eq, if_pos, if_neg, ↓reduceIte, true_and, and_true, and_self, not_true_eq_false, not_false_eq_true, reduceCtorEq]
  · obtain ⟨r', N4, L4, f1, f2⟩ := p_pass hK (i := lim + j) (n := 1) (by omega) (by omega) hR
    rcases q_alike hK (i := lim + j + 1) (j := lim) (by omega) (by omega) f2 d2 with ⟨g1, g2⟩ | ⟨g1, g2⟩
    · left
      refine ⟨nI (j + 1), A, La, N4, L4, ?_, d2.lg, f2.lg, Or.inr ⟨j + 1, by omega, by omega, rfl, g2, fun n' a b => hno n' a (by omega)⟩⟩
      simp (disch := omega) only [pu_lit, pu_let, pu_some, pu_xb, pu_xe, pu_hb, pu_he, nI_add, pk_mul, pk_sub, nI_clamp, pu_inT, nI_leI, nI_ltI, nI_eq, if_pos, if_neg, ↓reduceIte, true_and, and_true, and_self, not_true_eq_false, not_false_eq_true, reduceCtorEq, f1, g1]
    · right
      refine ⟨by omega, ?_⟩
      simp (disch := omega) only [pu_lit, pu_let, pu_some, pu_xb, pu_xe, pu_hb, pu_he, nI_add, pk_mul, pk_sub, nI_clamp, pu_inT, nI_leI, nI_ltI, nI_eq, if_pos, if_neg, ↓reduceIte, true_and, and_true, and_self, not_true_eq_false, not_false_eq_true, reduceCtorEq, f1, g1]
      refine ⟨_, rfl, rfl, rfl, rfl, f2, fun n' a b => ?_⟩
      by_cases e : n' = j + 1
      · subst e; exact g2
      · exact hno n' a (by omega)
theorem r_start {cnt P T H lim ell : Nat} {A0 AL0 N L B0 BL0 : sk_N} {K : Nat → sk_M} (hK : TRJ cnt P T H K) (hH : 801 ≤ H) (hl : lim ≤ 400) (h1 : 1 ≤ ell) (h2 : ell ≤ lim) (h : RS cnt P T T N L (K 0)) :
    ∃ r A AL B BL, m_X4_startOfCycle A0 AL0 N L B0 BL0 (nI ell) (nI lim) = some (r, A, AL, B, BL) ∧ (∃ nl, LG nl AL) ∧ (∃ nl, LG nl BL) ∧ ((r = -1 ∧ ∀ n, n + ell ≤ lim → ¬ AK cnt K n (n + ell)) ∨ ∃ n : Nat, n + ell ≤ lim ∧ r = nI n ∧ AK cnt K n (n + ell) ∧ ∀ n', n' < n → ¬ AK cnt K n' (n' + ell)) := by
  unfold m_X4_startOfCycle
  obtain ⟨N1, L1, c1, c2, c3⟩ := c_copy B0 BL0 N L
  obtain ⟨N3, L3, e1, e2, e3⟩ := c_copy A0 AL0 N L
  obtain ⟨r, N2, L2, d1, d2⟩ := p_pass hK (i := 0) (n := ell) (by omega) (by omega) (h.copy e2 e3)
  rw [c1, pu_some, e1, pu_some, d1, pu_some]
  rw [Nat.zero_add] at d2
  refine lp_F (step := m_X4_startOfCycle_33_step N L (nI ell) (nI lim)) (fun y => ∃ r A AL B BL, y = some (r, A, AL, B, BL) ∧ (∃ nl, LG nl AL) ∧ (∃ nl, LG nl BL) ∧ ((r = -1 ∧ ∀ n, n + ell ≤ lim → ¬ AK cnt K n (n + ell)) ∨ ∃ n : Nat, n + ell ≤ lim ∧ r = nI n ∧ AK cnt K n (n + ell) ∧ ∀ n', n' < n → ¬ AK cnt K n' (n' + ell))) (fun j s => s.2.2.2.2 = nI j ∧ RS cnt P (T + (j + ell)) (T + (j + ell)) s.1 s.2.1 (K (j + ell)) ∧ RS cnt P (T + j) (T + j) s.2.2.1 s.2.2.2.1 (K j) ∧ ∀ n', n' < j → ¬ AK cnt K n' (n' + ell)) (lim - ell + 1) (by omega) _ ⟨rfl, by rw [Nat.zero_add]; exact d2, h.copy c2 c3, fun n' a => absurd a (by omega)⟩ ?_
  rintro k j ⟨A, La, B, Lb, x⟩ hj ⟨rfl, hA, hB, hno⟩
  dsimp only at hA hB ⊢
  unfold m_X4_startOfCycle_33_step
  dsimp only
  by_cases hjc : j = lim - ell + 1
  · left
    refine ⟨-1, A, La, B, Lb, ?_, hA.lg, hB.lg, Or.inl ⟨rfl, fun n hn => hno n (by omega)⟩⟩
    simp (disch := omega) only [pu_lit, pu_let, pu_some, pu_xb, pu_xe, pu_hb, pu_he, nI_add, pk_mul, pk_sub, nI_clamp, pu_inT, nI_leI, nI_ltI, nI_eq, if_pos, if_neg, ↓reduceIte, true_and, and_true, and_self, not_true_eq_false, not_false_eq_true, reduceCtorEq]
  · rcases q_alike hK (i := j) (j := j + ell) (by omega) (by omega) hB hA with ⟨g1, g2⟩ | ⟨g1, g2⟩
    · left
      refine ⟨nI j, A, La, B, Lb, ?_, hA.lg, hB.lg, Or.inr ⟨j, by omega, rfl, g2, hno⟩⟩
      simp (disch := omega) only [pu_lit, pu_let, pu_some, pu_xb, pu_xe, pu_hb, pu_he, nI_add, pk_mul, pk_sub, nI_clamp, pu_inT, nI_leI, nI_ltI, nI_eq, if_pos, if_neg, ↓reduceIte, true_and, and_true, and_self, not_true_eq_false, not_false_eq_true, reduceCtorEq, g1]
    · right
      refine ⟨by omega, ?_⟩
      obtain ⟨r1, N4, L4, f1, f2⟩ := p_pass hK (i := j) (n := 1) (by omega) (by omega) hB
      obtain ⟨r2, N5, L5, f3, f4⟩ := p_pass hK (i := j + ell) (n := 1) (by omega) (by omega) hA
      simp (disch := omega) only [pu_lit, pu_let, pu_some, pu_xb, pu_xe, pu_hb, pu_he, nI_add, pk_mul, pk_sub, nI_clamp, pu_inT, nI_leI, nI_ltI, nI_eq, if_pos, if_neg, ↓reduceIte, true_and, and_true, and_self, not_true_eq_false, not_false_eq_true, reduceCtorEq, g1, f1, f3]
      refine ⟨_, rfl, rfl, ?_, f2, fun n' a => ?_⟩
      · rw [show j + 1 + ell = j + ell + 1 by omega]; exact f4
      · by_cases e : n' = j
        · subst e; exact g2
        · exact hno n' (by omega)
/-! the model's rows of situations -/
def byc (cnt : Nat) (w : Nat → Int32) (c : Nat) : Int32 := if c < cnt then (if w (28 + c) = nI 1 then w (38 + c) else if w (18 + c) = nI 0 then nI 1 else w (18 + c)) else nI 1
def EN (cnt T n : Nat) (w : Nat → Int32) (R : Nat → Int32) : Prop := (∀ c, c < 10 → R (120 * n + c) = (if c < cnt then w (8 + c) else nI 0) ∧ R (120 * n + 10 + c) = sk_rem (nI T) (byc cnt w c)) ∧ ∀ k, k < 100 → R (120 * n + 20 + k) = w (158 + k)
theorem byc_ok {cnt P c : Nat} {N : sk_N} {w : Nat → Int32} (h : ST cnt P N w) : byc cnt w c ≠ 0 ∧ -99 ≤ (byc cnt w c).toInt ∧ (byc cnt w c).toInt ≤ 99 := by
  unfold byc
  have one : nI 1 ≠ 0 ∧ -99 ≤ (nI 1).toInt ∧ (nI 1).toInt ≤ 99 := by decide
  by_cases hc : c < cnt
  · rw [if_pos hc]
    obtain ⟨g1, g2, g3, g4⟩ := h.2.2.2.2.1.1 c hc
    rcases g4 with ⟨g5, g6⟩ | ⟨R, O, r1, r2, r3, r4, r5, r6, -⟩
    · rw [if_neg (by rw [g6]; decide)]
      by_cases hz : w (18 + c) = nI 0
      · rw [if_pos hz]; exact one
      · rw [if_neg hz]
        exact ⟨hz, by rw [← g1]; omega, by rw [← g1]; omega⟩
    · rw [if_pos (show w (28 + c) = nI 1 from r5), r6]
      have := nI_toInt (n := R) (by omega)
      exact ⟨nI_ne0 (by omega) (by omega), by omega, by omega⟩
  · rw [if_neg hc]; exact one
theorem k_keep {cnt P T n : Nat} {N : sk_N} {M : sk_M} (h : ST cnt P N (M.1 1)) (hT : M.1 1 4 = nI T) (hn : n ≤ 400) : ∃ M', m_X5_keepsSituation M (nI n) = some M' ∧ EN cnt T n (M.1 1) (M'.1 7) ∧ (∀ x, x < 120 * n → M'.1 7 x = M.1 7 x) ∧ (∀ j, j ≠ 7 → M'.1 j = M.1 j) ∧ M'.2 = M.2 := by
  obtain ⟨h10, hP1, hP2, e0, e5, -⟩ := h.ex
  have second : ∀ A : sk_M, (∀ j, j ≠ 7 → A.1 j = M.1 j) → ∃ M', m_X5_keepsSituation_137 (nI n) (A, 0) = some M' ∧ (∀ k, k < 100 → M'.1 7 (120 * n + 20 + k) = M.1 1 (158 + k)) ∧ (∀ x, x < 120 * n + 20 → M'.1 7 x = A.1 7 x) ∧ (∀ j, j ≠ 7 → M'.1 j = M.1 j) ∧ M'.2 = A.2 := by
    intro A hA
    refine lp_F (step := m_X5_keepsSituation_137_step (nI n)) (fun y => ∃ M', y = some M' ∧ (∀ k, k < 100 → M'.1 7 (120 * n + 20 + k) = M.1 1 (158 + k)) ∧ (∀ x, x < 120 * n + 20 → M'.1 7 x = A.1 7 x) ∧ (∀ j, j ≠ 7 → M'.1 j = M.1 j) ∧ M'.2 = A.2) (fun i s => s.2 = nI i ∧ (∀ k, k < i → s.1.1 7 (120 * n + 20 + k) = M.1 1 (158 + k)) ∧ (∀ x, x < 120 * n + 20 → s.1.1 7 x = A.1 7 x) ∧ (∀ j, j ≠ 7 → s.1.1 j = M.1 j) ∧ s.1.2 = A.2) 100 (by omega) (A, 0) ⟨rfl, fun k hk => absurd hk (by omega), fun _ _ => rfl, hA, rfl⟩ ?_
    rintro k i ⟨B, x⟩ hi ⟨rfl, b1, b2, b3, b4⟩
    dsimp only at b1 b2 b3 b4 ⊢
    unfold m_X5_keepsSituation_137_step
    dsimp only
    by_cases hic : i = 100
    · subst hic
      left
      rw [if_pos (show (100 : Int32) ≤ nI 100 by decide)]
      exact ⟨B, rfl, b1, b2, b3, b4⟩
    · right
      refine ⟨by omega, ?_⟩
      simp (disch := omega) only [pu_lit, pu_let, pu_some, pu_xb, pu_xe, pu_hb, pu_he, nI_add, pk_mul, pk_sub, nI_clamp, pu_inT, nI_leI, nI_ltI, nI_eq, if_pos, if_neg, ↓reduceIte, true_and, and_true, and_self, not_true_eq_false, not_false_eq_true, reduceCtorEq]
      refine ⟨_, rfl, rfl, ?_⟩
      dsimp only
      refine ⟨fun k hk => ?_, fun x hx => by rw [pu_m, if_neg (by omega)]; exact b2 x hx, fun j hj => by rw [pu_mrow hj]; exact b3 j hj, b4⟩
      rw [pu_m]
      by_cases e : k = i
      · subst e; rw [if_pos ⟨rfl, rfl⟩, b3 1 (by omega)]
      · rw [if_neg (by omega)]; exact b1 k (by omega)
  have first : ∃ A, m_X5_keepsSituation M (nI n) = m_X5_keepsSituation_137 (nI n) (A, 0) ∧ (∀ c, c < 10 → A.1 7 (120 * n + c) = (if c < cnt then M.1 1 (8 + c) else nI 0) ∧ A.1 7 (120 * n + 10 + c) = sk_rem (nI T) (byc cnt (M.1 1) c)) ∧ (∀ x, x < 120 * n → A.1 7 x = M.1 7 x) ∧ (∀ j, j ≠ 7 → A.1 j = M.1 j) ∧ A.2 = M.2 := by
    refine lp_F (step := m_X5_keepsSituation_2_step (nI n)) (fun y => ∃ A, y = m_X5_keepsSituation_137 (nI n) (A, 0) ∧ (∀ c, c < 10 → A.1 7 (120 * n + c) = (if c < cnt then M.1 1 (8 + c) else nI 0) ∧ A.1 7 (120 * n + 10 + c) = sk_rem (nI T) (byc cnt (M.1 1) c)) ∧ (∀ x, x < 120 * n → A.1 7 x = M.1 7 x) ∧ (∀ j, j ≠ 7 → A.1 j = M.1 j) ∧ A.2 = M.2) (fun i s => s.2 = nI i ∧ (∀ c, c < i → s.1.1 7 (120 * n + c) = (if c < cnt then M.1 1 (8 + c) else nI 0) ∧ s.1.1 7 (120 * n + 10 + c) = sk_rem (nI T) (byc cnt (M.1 1) c)) ∧ (∀ x, x < 120 * n → s.1.1 7 x = M.1 7 x) ∧ (∀ j, j ≠ 7 → s.1.1 j = M.1 j) ∧ s.1.2 = M.2) 10 (by omega) (M, 0) ⟨rfl, fun k hk => absurd hk (by omega), fun _ _ => rfl, fun _ _ => rfl, rfl⟩ ?_
    rintro k i ⟨B, x⟩ hi ⟨rfl, b1, b2, b3, b4⟩
    dsimp only at b1 b2 b3 b4 ⊢
    by_cases hic : i = 10
    · subst hic
      left
      unfold m_X5_keepsSituation_2_step
      dsimp only
      rw [if_pos (show (10 : Int32) ≤ nI 10 by decide)]
      exact ⟨B, rfl, b1, b2, b3, b4⟩
    · right
      refine ⟨by omega, ?_⟩
      have f5 : B.1 1 5 = nI cnt := by rw [b3 1 (by omega)]; exact e5
      have row : ∀ x, B.1 1 x = M.1 1 x := fun x => by rw [b3 1 (by omega)]
      obtain ⟨y1, y2, y3⟩ := byc_ok (c := i) h
      have y1' : ¬ byc cnt (M.1 1) i = nI 0 := y1
      have t106 : ∀ v, m_X5_keepsSituation_106 (nI n) k (B, nI i, byc cnt (M.1 1) i, nI (120 * n + i), v) = k (md_up (md_up B 7 (120 * n + i) v) 7 (120 * n + 10 + i) (sk_rem (nI T) (byc cnt (M.1 1) i)), nI (i + 1)) := by
        intro v
        unfold m_X5_keepsSituation_106
        have g4 : (md_up B 7 (120 * n + i) v).1 1 4 = nI T := by rw [pu_mrow (by omega), row]; exact hT
        simp (disch := omega) only [pu_lit, pu_let, pu_some, pu_xb, pu_xe, pu_hb, pu_he, nI_add, pk_mul, pk_sub, nI_clamp, pu_inT, nI_leI, nI_ltI, nI_eq, if_pos, if_neg, ↓reduceIte, true_and, and_true, and_self, not_true_eq_false, not_false_eq_true, reduceCtorEq, g4, y1']
      have t72 : m_X5_keepsSituation_72 (nI n) k (B, nI i, byc cnt (M.1 1) i) = k (md_up (md_up B 7 (120 * n + i) (if i < cnt then M.1 1 (8 + i) else nI 0)) 7 (120 * n + 10 + i) (sk_rem (nI T) (byc cnt (M.1 1) i)), nI (i + 1)) := by
        unfold m_X5_keepsSituation_72
        by_cases hc : i < cnt
        · rw [if_pos hc]
          have := t106 (M.1 1 (8 + i))
          simp (disch := omega) only [pu_lit, pu_let, pu_some, pu_xb, pu_xe, pu_hb, pu_he, nI_add, pk_mul, pk_sub, nI_clamp, pu_inT, nI_leI, nI_ltI, nI_eq, if_pos, if_neg, ↓reduceIte, true_and, and_true, and_self, not_true_eq_false, not_false_eq_true, reduceCtorEq, f5, row, this]
        · rw [if_neg hc]
          have := t106 (nI 0)
          simp (disch := omega) only [pu_lit, pu_let, pu_some, pu_xb, pu_xe, pu_hb, pu_he, nI_add, pk_mul, pk_sub, nI_clamp, pu_inT, nI_leI, nI_ltI, nI_eq, if_pos, if_neg, ↓reduceIte, true_and, and_true, and_self, not_true_eq_false, not_false_eq_true, reduceCtorEq, f5, this]
      have st : m_X5_keepsSituation_2_step (nI n) k (B, nI i) = m_X5_keepsSituation_72 (nI n) k (B, nI i, byc cnt (M.1 1) i) := by
        unfold m_X5_keepsSituation_2_step byc
        by_cases hc : i < cnt
        · by_cases h28 : M.1 1 (28 + i) = nI 1
          · simp (disch := omega) only [pu_lit, pu_let, pu_some, pu_xb, pu_xe, pu_hb, pu_he, nI_add, pk_mul, pk_sub, nI_clamp, pu_inT, nI_leI, nI_ltI, nI_eq, if_pos, if_neg, ↓reduceIte, true_and, and_true, and_self, not_true_eq_false, not_false_eq_true, reduceCtorEq, f5, row, h28]
          · by_cases h18 : M.1 1 (18 + i) = nI 0
            · simp (disch := omega) only [pu_lit, pu_let, pu_some, pu_xb, pu_xe, pu_hb, pu_he, nI_add, pk_mul, pk_sub, nI_clamp, pu_inT, nI_leI, nI_ltI, nI_eq, if_pos, if_neg, ↓reduceIte, true_and, and_true, and_self, not_true_eq_false, not_false_eq_true, reduceCtorEq, f5, row, h28, h18]
            · simp (disch := omega) only [pu_lit, pu_let, pu_some, pu_xb, pu_xe, pu_hb, pu_he, nI_add, pk_mul, pk_sub, nI_clamp, pu_inT, nI_leI, nI_ltI, nI_eq, if_pos, if_neg, ↓reduceIte, true_and, and_true, and_self, not_true_eq_false, not_false_eq_true, reduceCtorEq, f5, row, h28, h18]
        · simp (disch := omega) only [pu_lit, pu_let, pu_some, pu_xb, pu_xe, pu_hb, pu_he, nI_add, pk_mul, pk_sub, nI_clamp, pu_inT, nI_leI, nI_ltI, nI_eq, if_pos, if_neg, ↓reduceIte, true_and, and_true, and_self, not_true_eq_false, not_false_eq_true, reduceCtorEq, f5]
      rw [st, t72]
      refine ⟨_, rfl, rfl, ?_⟩
      dsimp only
      refine ⟨fun c hc => ?_, fun x hx => by rw [pu_m, if_neg (by omega), pu_m, if_neg (by omega)]; exact b2 x hx, fun j hj => by rw [pu_mrow hj, pu_mrow hj]; exact b3 j hj, b4⟩
      by_cases e : c = i
      · subst e
        exact ⟨by rw [pu_m, if_neg (show ¬ (7 = 7 ∧ 120 * n + c = 120 * n + 10 + c) by omega), pu_m, if_pos (show 7 = 7 ∧ 120 * n + c = 120 * n + c from ⟨rfl, rfl⟩)], by rw [pu_m, if_pos (show 7 = 7 ∧ 120 * n + 10 + c = 120 * n + 10 + c from ⟨rfl, rfl⟩)]⟩
      · exact ⟨by rw [pu_m, if_neg (show ¬ (7 = 7 ∧ 120 * n + c = 120 * n + 10 + i) by omega), pu_m, if_neg (show ¬ (7 = 7 ∧ 120 * n + c = 120 * n + i) by omega)]; exact (b1 c (by omega)).1, by rw [pu_m, if_neg (show ¬ (7 = 7 ∧ 120 * n + 10 + c = 120 * n + 10 + i) by omega), pu_m, if_neg (show ¬ (7 = 7 ∧ 120 * n + 10 + c = 120 * n + i) by omega)]; exact (b1 c (by omega)).2⟩
  obtain ⟨A, a1, a2, a3, a4, a5⟩ := first
  obtain ⟨M', c1, c2, c3, c4, c5⟩ := second A a4
  refine ⟨M', by rw [a1, c1], ⟨fun c hc => ?_, c2⟩, fun x hx => by rw [c3 x (by omega)]; exact a3 x hx, c4, c5.trans a5⟩
  rw [c3 _ (by omega), c3 _ (by omega)]
  exact a2 c hc
theorem k_alike {m n : Nat} {M : sk_M} (hm : m ≤ 400) (hn : n ≤ 400) : (m_X5_areAlike M (nI m) (nI n) = some (nI 1) ∧ ∀ k, k < 120 → M.1 7 (120 * m + k) = M.1 7 (120 * n + k)) ∨ (m_X5_areAlike M (nI m) (nI n) = some (nI 0) ∧ ¬ ∀ k, k < 120 → M.1 7 (120 * m + k) = M.1 7 (120 * n + k)) := by
  have b1 : sk_bl (nI 1) = true := by decide
  have b0 : sk_bl (nI 0) = true := by decide
  refine lp_F (step := m_X5_areAlike_5_step M (nI m) (nI n)) (fun y => (y = some (nI 1) ∧ ∀ k, k < 120 → M.1 7 (120 * m + k) = M.1 7 (120 * n + k)) ∨ (y = some (nI 0) ∧ ¬ ∀ k, k < 120 → M.1 7 (120 * m + k) = M.1 7 (120 * n + k))) (fun j s => (s = (nI 1, nI j) ∧ ∀ k, k < j → M.1 7 (120 * m + k) = M.1 7 (120 * n + k)) ∨ (s = (nI 0, nI j) ∧ ¬ ∀ k, k < 120 → M.1 7 (120 * m + k) = M.1 7 (120 * n + k))) 120 (by omega) (1, 0) (Or.inl ⟨rfl, fun k hk => absurd hk (by omega)⟩) ?_
  rintro k j s hj (⟨rfl, hI⟩ | ⟨rfl, hI⟩)
  · unfold m_X5_areAlike_5_step
    dsimp only
    by_cases hjc : j = 120
    · left; left
      subst hjc
      refine ⟨?_, hI⟩
      simp (disch := omega) only [pu_lit, pu_let, pu_some, pu_xb, pu_xe, pu_hb, pu_he, nI_add, pk_mul, pk_sub, nI_clamp, pu_inT, nI_leI, nI_ltI, nI_eq, if_pos, if_neg, ↓reduceIte, true_and, and_true, and_self, not_true_eq_false, not_false_eq_true, reduceCtorEq, b1]
    · right
      refine ⟨by omega, ?_⟩
      by_cases he : M.1 7 (120 * m + j) = M.1 7 (120 * n + j)
      · simp (disch := omega) only [pu_lit, pu_let, pu_some, pu_xb, pu_xe, pu_hb, pu_he, nI_add, pk_mul, pk_sub, nI_clamp, pu_inT, nI_leI, nI_ltI, nI_eq, if_pos, if_neg, ↓reduceIte, true_and, and_true, and_self, not_true_eq_false, not_false_eq_true, reduceCtorEq, he]
        refine ⟨_, rfl, Or.inl ⟨rfl, fun k' hk' => ?_⟩⟩
        by_cases e : k' = j
        · subst e; exact he
        · exact hI k' (by omega)
      · simp (disch := omega) only [pu_lit, pu_let, pu_some, pu_xb, pu_xe, pu_hb, pu_he, nI_add, pk_mul, pk_sub, nI_clamp, pu_inT, nI_leI, nI_ltI, nI_eq, if_pos, if_neg, ↓reduceIte, true_and, and_true, and_self, not_true_eq_false, not_false_eq_true, reduceCtorEq, he]
        exact ⟨_, rfl, Or.inr ⟨rfl, fun hall => he (hall j (by omega))⟩⟩
  · left; right
    refine ⟨?_, hI⟩
    unfold m_X5_areAlike_5_step
    dsimp only
    by_cases hjc : j = 120
    · simp (disch := omega) only [pu_lit, pu_let, pu_some, pu_xb, pu_xe, pu_hb, pu_he, nI_add, pk_mul, pk_sub, nI_clamp, pu_inT, nI_leI, nI_ltI, nI_eq, if_pos, if_neg, ↓reduceIte, true_and, and_true, and_self, not_true_eq_false, not_false_eq_true, reduceCtorEq, b0]
    · simp (disch := omega) only [pu_lit, pu_let, pu_some, pu_xb, pu_xe, pu_hb, pu_he, nI_add, pk_mul, pk_sub, nI_clamp, pu_inT, nI_leI, nI_ltI, nI_eq, if_pos, if_neg, ↓reduceIte, true_and, and_true, and_self, not_true_eq_false, not_false_eq_true, reduceCtorEq, b0]
