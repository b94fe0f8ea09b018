/-! copies -/
def AG (N N' : sk_N) : Prop := (∀ k, k = 0 ∨ k = 1 ∨ k = 3 ∨ k = 4 → N' 0 k = N 0 k) ∧ (∀ i, i < 3 → N' 1 i = N 1 i) ∧ (∀ r i, 2 ≤ r → r ≤ 5 → i < 10 → N' r i = N r i) ∧ (∀ i, i < 100 → N' 6 i = N 6 i) ∧ (∀ i, i < 160 → N' 7 i = N 7 i)
def AL (L L' : sk_N) : Prop := L' 0 2 = L 0 2 ∧ L' 0 3 = L 0 3 ∧ (∀ i, i < 60 → L' 1 i = L 1 i) ∧ (∀ i, i < 60 → L' 2 i = L 2 i)
theorem c_copy (S0 S1 S2 S3 : sk_N) : ∃ N' L', m_X1_copyFrom S0 S1 S2 S3 = some (N', L') ∧ AG S2 N' ∧ AL S3 L' := by
  unfold m_X1_copyFrom m_X0_copyNotes
  simp only [pu_let, pu_some]
  refine ⟨_, _, rfl, ⟨fun k hk => ?_, fun i hi => ?_, fun r i h2 h5 hi => ?_, fun i hi => ?_, fun i hi => ?_⟩, ?_, ?_, fun i hi => ?_, fun i hi => ?_⟩
  · rcases hk with rfl | rfl | rfl | rfl <;> simp (disch := omega) only [pu_vup, pu_sup, if_pos, if_neg, ↓reduceIte, and_self, pk_cpy_in, Nat.zero_add, Nat.sub_zero]
  · simp (disch := omega) only [pu_vup, pu_sup, if_pos, if_neg, ↓reduceIte, and_self, pk_cpy_in, Nat.zero_add, Nat.sub_zero]
  · have hr : r = 2 ∨ r = 3 ∨ r = 4 ∨ r = 5 := by omega
    rcases hr with rfl | rfl | rfl | rfl <;> simp (disch := omega) only [pu_vup, pu_sup, if_pos, if_neg, ↓reduceIte, and_self, pk_cpy_in, Nat.zero_add, Nat.sub_zero]
  · simp (disch := omega) only [pu_vup, pu_sup, if_pos, if_neg, ↓reduceIte, and_self, pk_cpy_in, Nat.zero_add, Nat.sub_zero]
  · simp (disch := omega) only [pu_vup, pu_sup, if_pos, if_neg, ↓reduceIte, and_self, pk_cpy_in, Nat.zero_add, Nat.sub_zero]
  · simp (disch := omega) only [pu_vup, pu_sup, if_pos, if_neg, ↓reduceIte, and_self, pk_cpy_in, Nat.zero_add, Nat.sub_zero]
  · simp (disch := omega) only [pu_vup, pu_sup, if_pos, if_neg, ↓reduceIte, and_self, pk_cpy_in, Nat.zero_add, Nat.sub_zero]
  · simp (disch := omega) only [pu_vup, pu_sup, if_pos, if_neg, ↓reduceIte, and_self, pk_cpy_in, Nat.zero_add, Nat.sub_zero]
  · simp (disch := omega) only [pu_vup, pu_sup, if_pos, if_neg, ↓reduceIte, and_self, pk_cpy_in, Nat.zero_add, Nat.sub_zero]
theorem RX.copy {cnt P T1 T2 : Nat} {N N' : sk_N} {w w' : Nat → Int32} (h : RX cnt P T1 T2 N w) (g : AG N N') (hw : ∀ x, x < 378 → w' x = w x) : RX cnt P T1 T2 N' w' := by
  obtain ⟨⟨a, b, c, ⟨r, k, d, d1, d2, d3, d4, d5, d6, d7, d8, d9⟩, ⟨e1, e2⟩, f⟩, ⟨t1, t2, t3, t4⟩, hph, ⟨u1, u2⟩, hrt⟩ := h
  obtain ⟨g0, g1, g2, g6, g7⟩ := g
  have h10 : cnt ≤ 10 := a.1
  have hdd : ∀ s b, s < 16 → b < 10 → dd N' s b = dd N s b := fun s b hs hb => by unfold dd; rw [g7 _ (by omega)]
  refine ⟨⟨a, ⟨by rw [g0 0 (by omega)]; exact b.1, by rw [hw 5 (by omega)]; exact b.2⟩, ⟨by rw [g0 1 (by omega)]; exact c.1, by rw [hw 0 (by omega)]; exact c.2⟩, ⟨r, k, d, d1, d2, d3, by rw [g1 0 (by omega)]; exact d4, by rw [hw 1 (by omega)]; exact d5, by rw [g1 1 (by omega)]; exact d6, by rw [hw 2 (by omega)]; exact d7, by rw [g1 2 (by omega)]; exact d8, by rw [hw 3 (by omega)]; exact d9⟩, ⟨fun c hc => ?_, fun c hc hc2 => by rw [g2 3 c (by omega) (by omega) hc2, g2 4 c (by omega) (by omega) hc2]; exact e2 c hc hc2⟩, fun a b ha hb => ?_⟩, ⟨t1, t2, by rw [g0 3 (by omega)]; exact t3, by rw [hw 4 (by omega)]; exact t4⟩, fun c hc => ?_, ⟨fun s b hs hb => ?_, fun a b ha hb => ?_⟩, fun c hc => ?_⟩
  · rw [g2 3 c (by omega) (by omega) (by omega), g2 4 c (by omega) (by omega) (by omega), g2 5 c (by omega) (by omega) (by omega), hw (18 + c) (by omega), hw (28 + c) (by omega), hw (38 + c) (by omega), hw (48 + c) (by omega)]
    exact e1 c hc
  · rw [g6 _ (show 10 * a + b < 100 by omega), g6 _ (show 10 * b + a < 100 by omega), g6 _ (show 10 * a + a < 100 by omega), hw (58 + (10 * a + b)) (by omega)]
    exact f a b ha hb
  · obtain ⟨p, p1, p2, p3⟩ := hph c hc
    exact ⟨p, p1, by rw [g2 2 c (by omega) (by omega) (by omega)]; exact p2, by rw [hw _ (by omega)]; exact p3⟩
  · rw [hdd s b hs hb, g7 _ (by omega)]
    exact u1 s b hs hb
  · obtain ⟨q, q1, q2, q3, q4, q5, q6⟩ := u2 a b ha hb
    exact ⟨q, q1, by rw [hw _ (by omega)]; exact q2, q3, q4, q5, fun d hd => by rw [hdd _ _ (Nat.mod_lt _ (by omega)) hb]; exact q6 d hd⟩
  · rw [g2 3 c (by omega) (by omega) (by omega), g2 4 c (by omega) (by omega) (by omega)]
    exact hrt c hc
theorem AG.rf {N : sk_N} : AG N N := ⟨fun _ _ => rfl, fun _ _ => rfl, fun _ _ _ _ _ => rfl, fun _ _ => rfl, fun _ _ => rfl⟩
theorem AL.rf {N : sk_N} : AL N N := ⟨rfl, rfl, fun _ _ => rfl, fun _ _ => rfl⟩
theorem FQ.copy {N N' : sk_N} {w w' : Nat → Int32} (h : FQ N w) (g : AG N N') (hw : ∀ x, x < 378 → w' x = w x) : FQ N' w' := by
  obtain ⟨F, f1, f2, f3⟩ := h
  exact ⟨F, f1, by rw [g.1 4 (by omega)]; exact f2, by rw [hw 6 (by omega)]; exact f3⟩
theorem LG.copy {nl : List (Nat × Nat)} {L L' : sk_N} (h : LG nl L) (g : AL L L') : LG nl L' := by
  obtain ⟨h1, h2, nx, h3, h4, h5⟩ := h
  refine ⟨h1, by rw [g.2.1]; exact h2, nx, h3, by rw [g.1]; exact h4, fun k x hk hx => ?_⟩
  rw [g.2.2.1 _ (Nat.mod_lt _ (by omega)), g.2.2.2 _ (Nat.mod_lt _ (by omega))]
  exact h5 k x hk hx
theorem NT.copy {nl : List (Nat × Nat)} {w w' : Nat → Int32} (h : NT nl w) (hw : ∀ x, x < 378 → w' x = w x) : NT nl w' := by
  obtain ⟨h1, h2, h3⟩ := h
  refine ⟨h1, by rw [hw 7 (by omega)]; exact h2, fun k x hk => ?_⟩
  have hk60 : k < nl.length := (List.getElem?_eq_some_iff.mp hk).1
  rw [hw _ (by omega), hw _ (by omega)]
  exact h3 k x hk
/-- a whole state, as it may be saved -/
def RW (b : Nat) (N L : sk_N) (w : Nat → Int32) : Prop := ∃ (cnt P T : Nat) (nl : List (Nat × Nat)), T ≤ b ∧ RX cnt P T T N w ∧ FQ N w ∧ LG nl L ∧ NT nl w
theorem RW.copy {b b' : Nat} {N L N' L' : sk_N} {w w' : Nat → Int32} (h : RW b N L w) (hb : b ≤ b') (g : AG N N') (gl : AL L L') (hw : ∀ x, x < 378 → w' x = w x) : RW b' N' L' w' := by
  obtain ⟨cnt, P, T, nl, h1, h2, h3, h4, h5⟩ := h
  exact ⟨cnt, P, T, nl, by omega, h2.copy g hw, h3.copy g hw, h4.copy gl, h5.copy hw⟩
/-! the model's copies -/
theorem d_leaves (M : sk_M) : ∃ M', m_X5_leaves M = some M' ∧ (∀ x, x < 378 → M'.1 3 x = M.1 1 x) ∧ (∀ j, j ≠ 3 → j ≠ 0 → M'.1 j = M.1 j) ∧ (∀ k, k ≠ 10 → M'.1 0 k = M.1 0 k) ∧ M'.1 0 10 = 1 ∧ M'.2 = M.2 := by
  refine lp_F (step := m_X5_leaves_2_step) (fun y => ∃ M', y = some M' ∧ (∀ x, x < 378 → M'.1 3 x = M.1 1 x) ∧ (∀ j, j ≠ 3 → j ≠ 0 → M'.1 j = M.1 j) ∧ (∀ k, k ≠ 10 → M'.1 0 k = M.1 0 k) ∧ M'.1 0 10 = 1 ∧ M'.2 = M.2)
    (fun i s => s.2 = nI i ∧ (∀ x, x < i → s.1.1 3 x = M.1 1 x) ∧ (∀ j, j ≠ 3 → s.1.1 j = M.1 j) ∧ s.1.2 = M.2) 378 (by omega) (M, 0) ⟨rfl, fun x hx => absurd hx (by omega), fun _ _ => rfl, rfl⟩ ?_
  rintro k i ⟨A, x⟩ hi ⟨rfl, h1, h2, h3⟩
  dsimp only at h1 h2 h3 ⊢
  unfold m_X5_leaves_2_step
  dsimp only
  by_cases hic : i = 378
  · subst hic
    left
    rw [if_pos (show (378 : Int32) ≤ nI 378 by decide), pu_let]
    exact ⟨_, rfl, fun x hx => by rw [pu_mrow (by omega)]; exact h1 x hx, fun j a b => by rw [pu_mrow b]; exact h2 j a, fun k hk => by rw [pu_m, if_neg (by omega), h2 0 (by omega)], by rw [pu_m, if_pos ⟨rfl, rfl⟩], h3⟩
  · right
    refine ⟨by omega, ?_⟩
    simp (disch := omega) only [pu_lit, pu_let, pu_some, pu_xb, pu_xe, pu_hb, pu_he, nI_add, pk_mul, pk_sub, nI_clamp, pu_inT, nI_leI, nI_ltI, nI_eq, if_pos, if_neg, ↓reduceIte, true_and, and_true, and_self, not_true_eq_false, not_false_eq_true, reduceCtorEq]
    refine ⟨_, rfl, rfl, fun x hx => ?_, fun j a => by rw [pu_mrow a]; exact h2 j a, h3⟩
    rw [pu_m]
    by_cases e : x = i
    · subst e; rw [if_pos ⟨rfl, rfl⟩, h2 1 (by omega)]
    · rw [if_neg (by omega)]; exact h1 x (by omega)
theorem d_back (M : sk_M) : ∃ M', m_X5_comesBack M = some M' ∧ (∀ x, x < 378 → M'.1 1 x = M.1 3 x) ∧ (∀ j, j ≠ 1 → j ≠ 0 → M'.1 j = M.1 j) ∧ (∀ k, k ≠ 10 → M'.1 0 k = M.1 0 k) ∧ M'.1 0 10 = 0 ∧ M'.2 = M.2 := by
  refine lp_F (step := m_X5_comesBack_2_step) (fun y => ∃ M', y = some M' ∧ (∀ x, x < 378 → M'.1 1 x = M.1 3 x) ∧ (∀ j, j ≠ 1 → j ≠ 0 → M'.1 j = M.1 j) ∧ (∀ k, k ≠ 10 → M'.1 0 k = M.1 0 k) ∧ M'.1 0 10 = 0 ∧ M'.2 = M.2)
    (fun i s => s.2 = nI i ∧ (∀ x, x < i → s.1.1 1 x = M.1 3 x) ∧ (∀ j, j ≠ 1 → s.1.1 j = M.1 j) ∧ s.1.2 = M.2) 378 (by omega) (M, 0) ⟨rfl, fun x hx => absurd hx (by omega), fun _ _ => rfl, rfl⟩ ?_
  rintro k i ⟨A, x⟩ hi ⟨rfl, h1, h2, h3⟩
  dsimp only at h1 h2 h3 ⊢
  unfold m_X5_comesBack_2_step
  dsimp only
  by_cases hic : i = 378
  · subst hic
    left
    rw [if_pos (show (378 : Int32) ≤ nI 378 by decide), pu_let]
    exact ⟨_, rfl, fun x hx => by rw [pu_mrow (by omega)]; exact h1 x hx, fun j a b => by rw [pu_mrow b]; exact h2 j a, fun k hk => by rw [pu_m, if_neg (by omega), h2 0 (by omega)], by rw [pu_m, if_pos ⟨rfl, rfl⟩], h3⟩
  · right
    refine ⟨by omega, ?_⟩
    simp (disch := omega) only [pu_lit, pu_let, pu_some, pu_xb, pu_xe, pu_hb, pu_he, nI_add, pk_mul, pk_sub, nI_clamp, pu_inT, nI_leI, nI_ltI, nI_eq, if_pos, if_neg, ↓reduceIte, true_and, and_true, and_self, not_true_eq_false, not_false_eq_true, reduceCtorEq]
    refine ⟨_, rfl, rfl, fun x hx => ?_, fun j a => by rw [pu_mrow a]; exact h2 j a, h3⟩
    rw [pu_m]
    by_cases e : x = i
    · subst e; rw [if_pos ⟨rfl, rfl⟩, h2 3 (by omega)]
    · rw [if_neg (by omega)]; exact h1 x (by omega)
theorem d_save51 {M : sk_M} {cn : Nat} (hc : cn < 4) (h : M.1 0 3 = nI cn) : ∃ M', m_X5_saves_51 (M, 0) = some M' ∧ M'.1 0 3 = nI (cn + 1) ∧ (∀ x, x < 378 → M'.1 2 (378 * cn + x) = M.1 1 x) ∧ (∀ x, x < 378 * cn → M'.1 2 x = M.1 2 x) ∧ (∀ j, j ≠ 0 → j ≠ 2 → M'.1 j = M.1 j) ∧ (∀ k, k ≠ 3 → M'.1 0 k = M.1 0 k) ∧ M'.2 = M.2 := by
  refine lp_F (step := m_X5_saves_51_step) (fun y => ∃ M', y = some M' ∧ M'.1 0 3 = nI (cn + 1) ∧ (∀ x, x < 378 → M'.1 2 (378 * cn + x) = M.1 1 x) ∧ (∀ x, x < 378 * cn → M'.1 2 x = M.1 2 x) ∧ (∀ j, j ≠ 0 → j ≠ 2 → M'.1 j = M.1 j) ∧ (∀ k, k ≠ 3 → M'.1 0 k = M.1 0 k) ∧ M'.2 = M.2)
    (fun i s => s.2 = nI i ∧ (∀ x, x < i → s.1.1 2 (378 * cn + x) = M.1 1 x) ∧ (∀ x, x < 378 * cn → s.1.1 2 x = M.1 2 x) ∧ (∀ j, j ≠ 2 → s.1.1 j = M.1 j) ∧ s.1.2 = M.2) 378 (by omega) (M, 0) ⟨rfl, fun x hx => absurd hx (by omega), fun _ _ => rfl, fun _ _ => rfl, rfl⟩ ?_
  rintro k i ⟨A, x⟩ hi ⟨rfl, h1, h4, h2, h3⟩
  dsimp only at h1 h2 h3 h4 ⊢
  have e3 : A.1 0 3 = nI cn := by rw [h2 0 (by omega)]; exact h
  unfold m_X5_saves_51_step
  dsimp only
  by_cases hic : i = 378
  · subst hic
    left
    rw [if_pos (show (378 : Int32) ≤ nI 378 by decide), pu_let]
    exact ⟨_, rfl, by rw [pu_m, if_pos ⟨rfl, rfl⟩, e3, nI_1], fun x hx => by rw [pu_mrow (by omega)]; exact h1 x hx, fun x hx => by rw [pu_mrow (by omega)]; exact h4 x hx, fun j a b => by rw [pu_mrow a]; exact h2 j b, fun k hk => by rw [pu_m, if_neg (by omega), h2 0 (by omega)], h3⟩
  · right
    refine ⟨by omega, ?_⟩
    simp (disch := omega) only [pu_lit, pu_let, pu_some, pu_xb, pu_xe, pu_hb, pu_he, nI_add, pk_mul, pk_sub, nI_clamp, pu_inT, nI_leI, nI_ltI, nI_eq, if_pos, if_neg, ↓reduceIte, true_and, and_true, and_self, not_true_eq_false, not_false_eq_true, reduceCtorEq, e3]
    refine ⟨_, rfl, rfl, fun x hx => ?_, fun x hx => ?_, fun j a => by rw [pu_mrow a]; exact h2 j a, h3⟩
    · rw [pu_m]
      by_cases e : x = i
      · subst e; rw [if_pos ⟨rfl, rfl⟩, h2 1 (by omega)]
      · rw [if_neg (by omega)]; exact h1 x (by omega)
    · rw [pu_m, if_neg (by omega)]
      exact h4 x hx
theorem d_save10 {M : sk_M} (h : M.1 0 3 = nI 4) : ∃ M', m_X5_saves_10 (M, 0) = m_X5_saves_51 (M', 0) ∧ M'.1 0 3 = nI 3 ∧ (∀ x, x < 1134 → M'.1 2 x = M.1 2 (x + 378)) ∧ (∀ j, j ≠ 0 → j ≠ 2 → M'.1 j = M.1 j) ∧ (∀ k, k ≠ 3 → M'.1 0 k = M.1 0 k) ∧ M'.2 = M.2 := by
  refine lp_F (step := m_X5_saves_10_step) (fun y => ∃ M', y = m_X5_saves_51 (M', 0) ∧ M'.1 0 3 = nI 3 ∧ (∀ x, x < 1134 → M'.1 2 x = M.1 2 (x + 378)) ∧ (∀ j, j ≠ 0 → j ≠ 2 → M'.1 j = M.1 j) ∧ (∀ k, k ≠ 3 → M'.1 0 k = M.1 0 k) ∧ M'.2 = M.2)
    (fun i s => s.2 = nI i ∧ (∀ x, x < i → s.1.1 2 x = M.1 2 (x + 378)) ∧ (∀ x, i ≤ x → s.1.1 2 x = M.1 2 x) ∧ (∀ j, j ≠ 2 → s.1.1 j = M.1 j) ∧ s.1.2 = M.2) 1134 (by omega) (M, 0) ⟨rfl, fun x hx => absurd hx (by omega), fun _ _ => rfl, fun _ _ => rfl, rfl⟩ ?_
  rintro k i ⟨A, x⟩ hi ⟨rfl, h1, h4, h2, h3⟩
  dsimp only at h1 h2 h3 h4 ⊢
  have e3 : A.1 0 3 = nI 4 := by rw [h2 0 (by omega)]; exact h
  unfold m_X5_saves_10_step
  dsimp only
  by_cases hic : i = 1134
  · subst hic
    left
    rw [if_pos (show (1134 : Int32) ≤ nI 1134 by decide), pu_let]
    exact ⟨_, rfl, by rw [pu_m, if_pos ⟨rfl, rfl⟩, e3]; rfl, fun x hx => by rw [pu_mrow (by omega)]; exact h1 x hx, fun j a b => by rw [pu_mrow a]; exact h2 j b, fun k hk => by rw [pu_m, if_neg (by omega), h2 0 (by omega)], h3⟩
  · right
    refine ⟨by omega, ?_⟩
    simp (disch := omega) only [pu_lit, pu_let, pu_some, pu_xb, pu_xe, pu_hb, pu_he, nI_add, pk_mul, pk_sub, nI_clamp, pu_inT, nI_leI, nI_ltI, nI_eq, if_pos, if_neg, ↓reduceIte, true_and, and_true, and_self, not_true_eq_false, not_false_eq_true, reduceCtorEq]
    refine ⟨_, rfl, rfl, fun x hx => ?_, fun x hx => ?_, fun j a => by rw [pu_mrow a]; exact h2 j a, h3⟩
    · rw [pu_m]
      by_cases e : x = i
      · subst e; rw [if_pos ⟨rfl, rfl⟩]; exact h4 _ (by omega)
      · rw [if_neg (by omega)]; exact h1 x (by omega)
    · rw [pu_m, if_neg (by omega)]
      exact h4 x (by omega)
/-- the model saves -/
theorem d_saves {M : sk_M} {cn : Nat} (hc : cn ≤ 4) (h : M.1 0 3 = nI cn) : ∃ M' c', m_X5_saves M = some M' ∧ c' = (if cn = 4 then 3 else cn) ∧ M'.1 0 3 = nI (c' + 1) ∧ (∀ x, x < 378 → M'.1 2 (378 * c' + x) = M.1 1 x) ∧ (∀ x, x < 378 * c' → M'.1 2 x = M.1 2 (if cn = 4 then x + 378 else x)) ∧ (∀ j, j ≠ 0 → j ≠ 2 → M'.1 j = M.1 j) ∧ (∀ k, k ≠ 3 → M'.1 0 k = M.1 0 k) ∧ M'.2 = M.2 := by
  unfold m_X5_saves
  by_cases h4 : cn = 4
  · subst h4
    obtain ⟨M1, a1, a2, a3, a4, a5, a6⟩ := d_save10 h
    obtain ⟨M2, b1, b2, b3, b4, b5, b6, b7⟩ := d_save51 (cn := 3) (by omega) a2
    rw [if_pos (show M.1 0 3 = 4 from h), a1, b1]
    refine ⟨M2, 3, rfl, rfl, b2, fun x hx => by rw [b3 x hx, a4 1 (by omega) (by omega)], fun x hx => ?_, fun j p q => (b5 j p q).trans (a4 j p q), fun k p => (b6 k p).trans (a5 k p), b7.trans a6⟩
    rw [if_pos rfl, b4 x (by omega)]
    exact a3 x (by omega)
  · obtain ⟨M2, b1, b2, b3, b4, b5, b6, b7⟩ := d_save51 (cn := cn) (by omega) h
    have hne : ¬ M.1 0 3 = 4 := by rw [h]; exact fun e => h4 ((nI_eq (b := 4) (by omega) (by omega)).mp e)
    rw [if_neg hne, b1]
    exact ⟨M2, cn, rfl, by rw [if_neg h4], b2, b3, fun x hx => by rw [if_neg h4]; exact b4 x hx, b5, b6, b7⟩
theorem d_undo33 {M : sk_M} {cn : Nat} (hc : cn < 4) (h : M.1 0 3 = nI cn) : ∃ M', m_X5_undo_33 (M, 0) = some (nI cn, M') ∧ (∀ x, x < 378 → M'.1 1 x = M.1 2 (378 * cn + x)) ∧ (∀ j, j ≠ 1 → M'.1 j = M.1 j) ∧ M'.2 = M.2 := by
  refine lp_F (step := m_X5_undo_33_step) (fun y => ∃ M', y = some (nI cn, M') ∧ (∀ x, x < 378 → M'.1 1 x = M.1 2 (378 * cn + x)) ∧ (∀ j, j ≠ 1 → M'.1 j = M.1 j) ∧ M'.2 = M.2)
    (fun i s => s.2 = nI i ∧ (∀ x, x < i → s.1.1 1 x = M.1 2 (378 * cn + x)) ∧ (∀ j, j ≠ 1 → s.1.1 j = M.1 j) ∧ s.1.2 = M.2) 378 (by omega) (M, 0) ⟨rfl, fun x hx => absurd hx (by omega), fun _ _ => rfl, rfl⟩ ?_
  rintro k i ⟨A, x⟩ hi ⟨rfl, h1, h2, h3⟩
  dsimp only at h1 h2 h3 ⊢
  have e3 : A.1 0 3 = nI cn := by rw [h2 0 (by omega)]; exact h
  unfold m_X5_undo_33_step
  dsimp only
  by_cases hic : i = 378
  · subst hic
    left
    rw [if_pos (show (378 : Int32) ≤ nI 378 by decide), e3]
    exact ⟨_, rfl, h1, h2, h3⟩
  · right
    refine ⟨by omega, ?_⟩
    simp (disch := omega) only [pu_lit, pu_let, pu_some, pu_xb, pu_xe, pu_hb, pu_he, nI_add, pk_mul, pk_sub, nI_clamp, pu_inT, nI_leI, nI_ltI, nI_eq, if_pos, if_neg, ↓reduceIte, true_and, and_true, and_self, not_true_eq_false, not_false_eq_true, reduceCtorEq, e3]
    refine ⟨_, rfl, rfl, fun x hx => ?_, fun j a => by rw [pu_mrow a]; exact h2 j a, h3⟩
    rw [pu_m]
    by_cases e : x = i
    · subst e; rw [if_pos ⟨rfl, rfl⟩, h2 2 (by omega)]
    · rw [if_neg (by omega)]; exact h1 x (by omega)
/-! the savings -/
def nts (a b c d e f g h : sk_N) (i : Nat) : sk_N × sk_N := if i = 0 then (a, b) else if i = 1 then (c, d) else if i = 2 then (e, f) else (g, h)
theorem v_save {nx cn : Nat} {S a b c d e f g h N L : sk_N} (hx : nx < 4) (hc : cn ≤ 4) (h1 : S 0 1 = nI nx) (h2 : S 0 2 = nI cn) : ∃ S' a' b' c' d' e' f' g' h', m_X2_save S a b c d e f g h N L = some (S', a', b', c', d', e', f', g', h') ∧ S' 0 1 = nI ((nx + 1) % 4) ∧ S' 0 2 = nI (if cn = 4 then 4 else cn + 1) ∧
    (∀ i, i < 4 → i ≠ nx → nts a' b' c' d' e' f' g' h' i = nts a b c d e f g h i) ∧ AG N (nts a' b' c' d' e' f' g' h' nx).1 ∧ AL L (nts a' b' c' d' e' f' g' h' nx).2 := by
  have h34 : ∀ v a b c d e f g h, v = (nx + 1) % 4 → ∃ S', m_X2_save_34 N L (S, a, b, c, d, e, f, g, h, nI v) = some (S', a, b, c, d, e, f, g, h) ∧ S' 0 1 = nI ((nx + 1) % 4) ∧ S' 0 2 = nI (if cn = 4 then 4 else cn + 1) := by
    intro v a b c d e f g h hv
    unfold m_X2_save_34
    have e2 : sk_up S 0 1 (nI v) 0 2 = nI cn := by rw [pu_sup, if_neg (by omega)]; exact h2
    by_cases h4 : cn = 4
    · refine ⟨sk_up S 0 1 (nI v), ?_, by rw [pu_sup, if_pos ⟨rfl, rfl⟩, hv], by rw [e2, if_pos h4, h4]⟩
      simp (disch := omega) only [pu_lit, pu_let, pu_some, pu_xb, pu_xe, pu_hb, pu_he, nI_add, pk_mul, pk_sub, nI_clamp, pu_inT, nI_leI, nI_ltI, nI_eq, if_pos, if_neg, ↓reduceIte, true_and, and_true, and_self, not_true_eq_false, not_false_eq_true, reduceCtorEq, e2]
    · refine ⟨sk_up (sk_up S 0 1 (nI v)) 0 2 (nI (cn + 1)), ?_, by rw [pu_sup, if_neg (by omega), pu_sup, if_pos ⟨rfl, rfl⟩, hv], by rw [pu_sup, if_pos ⟨rfl, rfl⟩, if_neg h4]⟩
      simp (disch := omega) only [pu_lit, pu_let, pu_some, pu_xb, pu_xe, pu_hb, pu_he, nI_add, pk_mul, pk_sub, nI_clamp, pu_inT, nI_leI, nI_ltI, nI_eq, if_pos, if_neg, ↓reduceIte, true_and, and_true, and_self, not_true_eq_false, not_false_eq_true, reduceCtorEq, e2]
  unfold m_X2_save
  have hnx : nx = 0 ∨ nx = 1 ∨ nx = 2 ∨ nx = 3 := by omega
  rcases hnx with rfl | rfl | rfl | rfl
  · obtain ⟨N', L', c1, c2, c3⟩ := c_copy a b N L
    obtain ⟨S', s1, s2, s3⟩ := h34 1 N' L' c d e f g h rfl
    simp (disch := omega) only [pu_lit, pu_let, pu_some, pu_xb, pu_xe, pu_hb, pu_he, nI_add, pk_mul, pk_sub, nI_clamp, pu_inT, nI_leI, nI_ltI, nI_eq, if_pos, if_neg, ↓reduceIte, true_and, and_true, and_self, not_true_eq_false, not_false_eq_true, reduceCtorEq, h1, c1]
    exact ⟨S', _, _, _, _, _, _, _, _, s1, s2, s3, fun i hi hne => by unfold nts; rw [if_neg hne, if_neg hne], c2, c3⟩
  · obtain ⟨N', L', c1, c2, c3⟩ := c_copy c d N L
    obtain ⟨S', s1, s2, s3⟩ := h34 2 a b N' L' e f g h rfl
    simp (disch := omega) only [pu_lit, pu_let, pu_some, pu_xb, pu_xe, pu_hb, pu_he, nI_add, pk_mul, pk_sub, nI_clamp, pu_inT, nI_leI, nI_ltI, nI_eq, if_pos, if_neg, ↓reduceIte, true_and, and_true, and_self, not_true_eq_false, not_false_eq_true, reduceCtorEq, h1, c1]
    exact ⟨S', _, _, _, _, _, _, _, _, s1, s2, s3, fun i hi hne => by unfold nts; rw [if_neg hne, if_neg hne], c2, c3⟩
  · obtain ⟨N', L', c1, c2, c3⟩ := c_copy e f N L
    obtain ⟨S', s1, s2, s3⟩ := h34 3 a b c d N' L' g h rfl
    simp (disch := omega) only [pu_lit, pu_let, pu_some, pu_xb, pu_xe, pu_hb, pu_he, nI_add, pk_mul, pk_sub, nI_clamp, pu_inT, nI_leI, nI_ltI, nI_eq, if_pos, if_neg, ↓reduceIte, true_and, and_true, and_self, not_true_eq_false, not_false_eq_true, reduceCtorEq, h1, c1]
    exact ⟨S', _, _, _, _, _, _, _, _, s1, s2, s3, fun i hi hne => by unfold nts; rw [if_neg hne, if_neg hne], c2, c3⟩
  · obtain ⟨N', L', c1, c2, c3⟩ := c_copy g h N L
    obtain ⟨S', s1, s2, s3⟩ := h34 0 a b c d e f N' L' rfl
    simp (disch := omega) only [pu_lit, pu_let, pu_some, pu_xb, pu_xe, pu_hb, pu_he, nI_add, pk_mul, pk_sub, nI_clamp, pu_inT, nI_leI, nI_ltI, nI_eq, if_pos, if_neg, ↓reduceIte, true_and, and_true, and_self, not_true_eq_false, not_false_eq_true, reduceCtorEq, h1, c1]
    refine ⟨S', _, _, _, _, _, _, _, _, s1, s2, s3, fun i hi hne => ?_, c2, c3⟩
    have : i = 0 ∨ i = 1 ∨ i = 2 := by omega
    rcases this with rfl | rfl | rfl <;> rfl
theorem v_restore {nx cn : Nat} {S a b c d e f g h N L : sk_N} (hx : nx < 4) (hc : cn < 4) (h1 : S 0 1 = nI nx) (h2 : S 0 2 = nI (cn + 1)) : ∃ S' N' L', m_X2_restore S a b c d e f g h N L = some (S', N', L') ∧ S' 0 1 = nI ((nx + 3) % 4) ∧ S' 0 2 = nI cn ∧ AG (nts a b c d e f g h ((nx + 3) % 4)).1 N' ∧ AL (nts a b c d e f g h ((nx + 3) % 4)).2 L' := by
  have h18 : ∀ v, v = (nx + 3) % 4 → ∃ S' N' L', m_X2_restore_18 a b c d e f g h (S, N, L, nI v) = some (S', N', L') ∧ S' 0 1 = nI ((nx + 3) % 4) ∧ S' 0 2 = nI cn ∧ AG (nts a b c d e f g h ((nx + 3) % 4)).1 N' ∧ AL (nts a b c d e f g h ((nx + 3) % 4)).2 L' := by
    intro v hv
    rw [← hv]
    unfold m_X2_restore_18
    have e1 : sk_up S 0 1 (nI v) 0 1 = nI v := by rw [pu_sup, if_pos ⟨rfl, rfl⟩]
    have e2 : sk_up S 0 1 (nI v) 0 2 = nI (cn + 1) := by rw [pu_sup, if_neg (by omega)]; exact h2
    have fin : (sk_up (sk_up S 0 1 (nI v)) 0 2 (nI cn)) 0 1 = nI v ∧ (sk_up (sk_up S 0 1 (nI v)) 0 2 (nI cn)) 0 2 = nI cn := ⟨by rw [pu_sup, if_neg (by omega)]; exact e1, by rw [pu_sup, if_pos ⟨rfl, rfl⟩]⟩
    have ec : cn + 1 - 1 = cn := by omega
    have hnx : v = 0 ∨ v = 1 ∨ v = 2 ∨ v = 3 := by omega
    rcases hnx with rfl | rfl | rfl | rfl
    · obtain ⟨N', L', c1, c2, c3⟩ := c_copy N L a b
      simp (disch := omega) only [pu_lit, pu_let, pu_some, pu_xb, pu_xe, pu_hb, pu_he, nI_add, pk_mul, pk_sub, nI_clamp, pu_inT, nI_leI, nI_ltI, nI_eq, if_pos, if_neg, ↓reduceIte, true_and, and_true, and_self, not_true_eq_false, not_false_eq_true, reduceCtorEq, e1, e2, c1, ec]
      exact ⟨_, _, _, rfl, fin.1, fin.2, c2, c3⟩
    · obtain ⟨N', L', c1, c2, c3⟩ := c_copy N L c d
      simp (disch := omega) only [pu_lit, pu_let, pu_some, pu_xb, pu_xe, pu_hb, pu_he, nI_add, pk_mul, pk_sub, nI_clamp, pu_inT, nI_leI, nI_ltI, nI_eq, if_pos, if_neg, ↓reduceIte, true_and, and_true, and_self, not_true_eq_false, not_false_eq_true, reduceCtorEq, e1, e2, c1, ec]
      exact ⟨_, _, _, rfl, fin.1, fin.2, c2, c3⟩
    · obtain ⟨N', L', c1, c2, c3⟩ := c_copy N L e f
      simp (disch := omega) only [pu_lit, pu_let, pu_some, pu_xb, pu_xe, pu_hb, pu_he, nI_add, pk_mul, pk_sub, nI_clamp, pu_inT, nI_leI, nI_ltI, nI_eq, if_pos, if_neg, ↓reduceIte, true_and, and_true, and_self, not_true_eq_false, not_false_eq_true, reduceCtorEq, e1, e2, c1, ec]
      exact ⟨_, _, _, rfl, fin.1, fin.2, c2, c3⟩
    · obtain ⟨N', L', c1, c2, c3⟩ := c_copy N L g h
      simp (disch := omega) only [pu_lit, pu_let, pu_some, pu_xb, pu_xe, pu_hb, pu_he, nI_add, pk_mul, pk_sub, nI_clamp, pu_inT, nI_leI, nI_ltI, nI_eq, if_pos, if_neg, ↓reduceIte, true_and, and_true, and_self, not_true_eq_false, not_false_eq_true, reduceCtorEq, e1, e2, c1, ec]
      exact ⟨_, _, _, rfl, fin.1, fin.2, c2, c3⟩
  unfold m_X2_restore
  by_cases h0 : nx = 0
  · subst h0
    simp (disch := omega) only [pu_lit, pu_let, pu_some, pu_xb, pu_xe, pu_hb, pu_he, nI_add, pk_mul, pk_sub, nI_clamp, pu_inT, nI_leI, nI_ltI, nI_eq, if_pos, if_neg, ↓reduceIte, true_and, and_true, and_self, not_true_eq_false, not_false_eq_true, reduceCtorEq, h1]
    exact h18 3 rfl
  · simp (disch := omega) only [pu_lit, pu_let, pu_some, pu_xb, pu_xe, pu_hb, pu_he, nI_add, pk_mul, pk_sub, nI_clamp, pu_inT, nI_leI, nI_ltI, nI_eq, if_pos, if_neg, ↓reduceIte, true_and, and_true, and_self, not_true_eq_false, not_false_eq_true, reduceCtorEq, h1]
    exact h18 (nx - 1) (by omega)
