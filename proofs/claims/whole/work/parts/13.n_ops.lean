/-! changes -/
theorem ST.ex {cnt P : Nat} {N : sk_N} {w : Nat → Int32} (h : ST cnt P N w) : cnt ≤ 10 ∧ 10 ≤ P ∧ P ≤ 100 ∧ N 0 0 = nI cnt ∧ w 5 = nI cnt ∧ N 0 1 = nI P ∧ w 0 = nI P := ⟨h.1.1, h.1.2.1, h.1.2.2, h.2.1.1, h.2.1.2, h.2.2.1.1, h.2.2.1.2⟩
theorem o_phase {cnt P T c p : Nat} {N : sk_N} {M : sk_M} (h : RX cnt P T T N (M.1 1)) (hc : c < cnt) (hp : p < P) : ∃ r, m_X1_changePhase N (nI c) (nI p) = some (r, sk_up N 2 c (nI p)) ∧ M.1 1 (8 + c) = r ∧ RX cnt P T T (sk_up N 2 c (nI p)) ((md_up M 1 (8 + c) (nI p)).1 1) := by
  obtain ⟨hst, htk, hph, hpu, -⟩ := h
  obtain ⟨h10, -⟩ := hst.ex
  obtain ⟨q, q1, q2, q3⟩ := hph c hc
  refine ⟨nI q, ?_, q3, hst.keep (by rw [pu_row (by omega)]) (by rw [pu_row (by omega)]) (pu_row (by omega)) (pu_row (by omega)) (pu_row (by omega)) (pu_row (by omega)) (pu_row (by omega)) (fun x hx => by rw [pu_m, if_neg (by omega)]), htk.keep (by rw [pu_row (by omega)]) (by rw [pu_m, if_neg (by omega)]), fun x hx => ?_, hpu.keep (pu_row (by omega)) (fun x a b => by rw [pu_m, if_neg (by omega)]), RT.same⟩
  · unfold m_X1_changePhase
    simp (disch := omega) only [pu_lit, pu_let, pu_some, pu_xb, pu_xe, pu_hb, pu_he, nI_add, pk_mul, pk_sub, nI_clamp, pu_inT, nI_leI, nI_ltI, nI_eq, if_pos, if_neg, ↓reduceIte, true_and, and_true, and_self, not_true_eq_false, not_false_eq_true, reduceCtorEq, q2]
  · by_cases e : x = c
    · subst e
      exact ⟨p, hp, by rw [pu_sup, if_pos ⟨rfl, rfl⟩], by rw [pu_m, if_pos ⟨rfl, rfl⟩]⟩
    · obtain ⟨p', g1, g2, g3⟩ := hph x hx
      exact ⟨p', g1, by rw [pu_sup, if_neg (by omega)]; exact g2, by rw [pu_m, if_neg (by omega)]; exact g3⟩
theorem o_add {cnt P T p : Nat} {N : sk_N} {M : sk_M} (h : RX cnt P T T N (M.1 1)) (hc : cnt < 10) (hp : p < P) : ∃ N' M', m_X1_addClock N (nI p) = some (nI cnt, N') ∧ m_X5_doAdd M (nI p) = some (nI cnt, M') ∧ RX (cnt + 1) P T T N' (M'.1 1) ∧ N' 0 4 = N 0 4 ∧ (∀ x, x = 6 ∨ x = 7 ∨ 258 ≤ x → M'.1 1 x = M.1 1 x) ∧ (∀ j, j ≠ 1 → M'.1 j = M.1 j) ∧ M'.2 = M.2 := by
  obtain ⟨hst, htk, hph, hpu, -⟩ := h
  obtain ⟨h10, hP1, hP2, e0, e5, eP, eP'⟩ := hst.ex
  have a0 : sk_up N 2 cnt (nI p) 0 0 = nI cnt := by rw [pu_row (by omega)]; exact e0
  refine ⟨sk_up (sk_up N 2 cnt (nI p)) 0 0 (nI (cnt + 1)), md_up (md_up (md_up (md_up M 1 5 (nI (cnt + 1))) 1 (8 + cnt) (nI p)) 1 (18 + cnt) (nI 0)) 1 (28 + cnt) (nI 0), ?_, ?_, ?_, ?_, ?_, ?_, rfl⟩
  · unfold m_X1_addClock
    simp (disch := omega) only [pu_lit, pu_let, pu_some, pu_xb, pu_xe, pu_hb, pu_he, nI_add, pk_mul, pk_sub, nI_clamp, pu_inT, nI_leI, nI_ltI, nI_eq, if_pos, if_neg, ↓reduceIte, true_and, and_true, and_self, not_true_eq_false, not_false_eq_true, reduceCtorEq, e0, a0]
  · unfold m_X5_doAdd
    simp (disch := omega) only [pu_lit, pu_let, pu_some, pu_xb, pu_xe, pu_hb, pu_he, nI_add, pk_mul, pk_sub, nI_clamp, pu_inT, nI_leI, nI_ltI, nI_eq, if_pos, if_neg, ↓reduceIte, true_and, and_true, and_self, not_true_eq_false, not_false_eq_true, reduceCtorEq, e5]
  · have r : ∀ j, j ≠ 0 → j ≠ 2 → sk_up (sk_up N 2 cnt (nI p)) 0 0 (nI (cnt + 1)) j = N j := fun j a b => by rw [pu_row a, pu_row b]
    have r0 : ∀ k, k ≠ 0 → sk_up (sk_up N 2 cnt (nI p)) 0 0 (nI (cnt + 1)) 0 k = N 0 k := fun k a => by rw [pu_sup, if_neg (by omega), pu_row (by omega)]
    have s1 : ∀ x, x ≠ 5 → x ≠ 8 + cnt → x ≠ 18 + cnt → x ≠ 28 + cnt → (md_up (md_up (md_up (md_up M 1 5 (nI (cnt + 1))) 1 (8 + cnt) (nI p)) 1 (18 + cnt) (nI 0)) 1 (28 + cnt) (nI 0)).1 1 x = M.1 1 x := fun x a b c d => by rw [pu_m, if_neg (by omega), pu_m, if_neg (by omega), pu_m, if_neg (by omega), pu_m, if_neg (by omega)]
    obtain ⟨a, b, c, ⟨rr, k, d, d1, d2, d3, d4, d5, d6, d7, d8, d9⟩, ⟨g1, g2⟩, f⟩ := hst
    refine ⟨⟨⟨by omega, hP1, hP2⟩, ⟨by rw [pu_sup, if_pos ⟨rfl, rfl⟩], ?_⟩, ⟨by rw [r0 1 (by omega)]; exact eP, by rw [s1 0 (by omega) (by omega) (by omega) (by omega)]; exact eP'⟩, ⟨rr, k, d, d1, d2, d3, by rw [r 1 (by omega) (by omega)]; exact d4, by rw [s1 1 (by omega) (by omega) (by omega) (by omega)]; exact d5, by rw [r 1 (by omega) (by omega)]; exact d6, by rw [s1 2 (by omega) (by omega) (by omega) (by omega)]; exact d7, by rw [r 1 (by omega) (by omega)]; exact d8, by rw [s1 3 (by omega) (by omega) (by omega) (by omega)]; exact d9⟩, ⟨fun c hc' => ?_, fun c hc' hc2 => by rw [r 3 (by omega) (by omega), r 4 (by omega) (by omega)]; exact g2 c (by omega) hc2⟩, fun a b ha hb => ?_⟩, ⟨htk.1, htk.2.1, by rw [r0 3 (by omega)]; exact htk.2.2.1, by rw [s1 4 (by omega) (by omega) (by omega) (by omega)]; exact htk.2.2.2⟩, fun x hx => ?_, ?_, RT.same⟩
    · rw [pu_m, if_neg (by omega), pu_m, if_neg (by omega), pu_m, if_neg (by omega), pu_m, if_pos ⟨rfl, rfl⟩]
    · rw [r 3 (by omega) (by omega), r 4 (by omega) (by omega), r 5 (by omega) (by omega)]
      by_cases e : c = cnt
      · subst e
        obtain ⟨z1, z2⟩ := g2 c (Nat.le_refl _) hc
        rw [z1, z2]
        refine ⟨?_, by decide, by decide, Or.inl ⟨rfl, ?_⟩⟩
        · rw [pu_m, if_neg (by omega), pu_m, if_pos ⟨rfl, rfl⟩]; rfl
        · rw [pu_m, if_pos ⟨rfl, rfl⟩]; rfl
      · rw [s1 (18 + c) (by omega) (by omega) (by omega) (by omega), s1 (28 + c) (by omega) (by omega) (by omega) (by omega), s1 (38 + c) (by omega) (by omega) (by omega) (by omega), s1 (48 + c) (by omega) (by omega) (by omega) (by omega)]
        exact g1 c (by omega)
    · rw [r 6 (by omega) (by omega), s1 (58 + (10 * a + b)) (by omega) (by omega) (by omega) (by omega)]
      obtain ⟨f1, f2, f3, f4, f5⟩ := f a b ha hb
      exact ⟨f1, f2, f3, f4, fun hh => f5 (by omega)⟩
    · by_cases e : x = cnt
      · subst e
        exact ⟨p, hp, by rw [pu_row (by omega), pu_sup, if_pos ⟨rfl, rfl⟩], by rw [pu_m, if_neg (by omega), pu_m, if_neg (by omega), pu_m, if_pos ⟨rfl, rfl⟩]⟩
      · obtain ⟨q, q1, q2, q3⟩ := hph x (by omega)
        exact ⟨q, q1, by rw [pu_row (by omega), pu_sup, if_neg (by omega)]; exact q2, by rw [s1 _ (by omega) (by omega) (by omega) (by omega)]; exact q3⟩
    · have hk := hpu.keep (N' := sk_up (sk_up N 2 cnt (nI p)) 0 0 (nI (cnt + 1))) (w' := (md_up (md_up (md_up (md_up M 1 5 (nI (cnt + 1))) 1 (8 + cnt) (nI p)) 1 (18 + cnt) (nI 0)) 1 (28 + cnt) (nI 0)).1 1) (r 7 (by omega) (by omega)) (fun x a b => s1 x (by omega) (by omega) (by omega) (by omega))
      refine ⟨hk.1, fun a b ha hb => ?_⟩
      obtain ⟨q, q1, q2, q3, q4, q5, q6⟩ := hk.2 a b ha hb
      exact ⟨q, q1, q2, q3, fun e => by have := q4 e; omega, fun e => by have := q5 e; omega, q6⟩
  · rw [pu_sup, if_neg (by omega), pu_row (by omega)]
  · intro x hx
    rw [pu_m, if_neg (by omega), pu_m, if_neg (by omega), pu_m, if_neg (by omega), pu_m, if_neg (by omega)]
  · intro j hj
    rw [pu_mrow hj, pu_mrow hj, pu_mrow hj, pu_mrow hj]
/-- the rows of a clock's own change -/
theorem RX.clk {cnt P T c : Nat} {N N' : sk_N} {w w' : Nat → Int32} (h : RX cnt P T T N w) (hc : c < cnt)
    (h0 : N' 0 = N 0) (h1 : N' 1 = N 1) (h2 : N' 2 = N 2) (h6 : N' 6 = N 6) (h7 : N' 7 = N 7) (hr : ∀ r x, 3 ≤ r → r ≤ 5 → x ≠ c → N' r x = N r x)
    (hw : ∀ x, x < 378 → x ≠ 18 + c → x ≠ 28 + c → x ≠ 38 + c → x ≠ 48 + c → w' x = w x)
    (hk : N' 3 c = w' (18 + c) ∧ -9 ≤ (N' 3 c).toInt ∧ (N' 3 c).toInt ≤ 9 ∧ ((N' 4 c = 0 ∧ w' (28 + c) = 0) ∨ ∃ R O : Nat, 1 ≤ R ∧ R ≤ 99 ∧ O ≤ 98 ∧ N' 4 c = nI R ∧ w' (28 + c) = 1 ∧ w' (38 + c) = nI R ∧ N' 5 c = nI O ∧ w' (48 + c) = nI O)) : RX cnt P T T N' w' := by
  obtain ⟨⟨a, b, cc, ⟨rr, k, d, d1, d2, d3, d4, d5, d6, d7, d8, d9⟩, ⟨g1, g2⟩, f⟩, htk, hph, hpu, -⟩ := h
  have h10 : cnt ≤ 10 := a.1
  refine ⟨⟨a, ⟨by rw [h0]; exact b.1, by rw [hw 5 (by omega) (by omega) (by omega) (by omega) (by omega)]; exact b.2⟩, ⟨by rw [h0]; exact cc.1, by rw [hw 0 (by omega) (by omega) (by omega) (by omega) (by omega)]; exact cc.2⟩, ⟨rr, k, d, d1, d2, d3, by rw [h1]; exact d4, by rw [hw 1 (by omega) (by omega) (by omega) (by omega) (by omega)]; exact d5, by rw [h1]; exact d6, by rw [hw 2 (by omega) (by omega) (by omega) (by omega) (by omega)]; exact d7, by rw [h1]; exact d8, by rw [hw 3 (by omega) (by omega) (by omega) (by omega) (by omega)]; exact d9⟩, ⟨fun x hx => ?_, fun x hx hx2 => by rw [hr 3 x (by omega) (by omega) (by omega), hr 4 x (by omega) (by omega) (by omega)]; exact g2 x hx hx2⟩, fun p q hp hq => ?_⟩, htk.keep (by rw [h0]) (hw 4 (by omega) (by omega) (by omega) (by omega) (by omega)), hph.keep h10 h2 (fun x a b => hw x (by omega) (by omega) (by omega) (by omega) (by omega)) (fun _ _ => Nat.le_refl _), hpu.keep h7 (fun x a b => hw x (by omega) (by omega) (by omega) (by omega) (by omega)), RT.same⟩
  · by_cases e : x = c
    · subst e; exact hk
    · rw [hr 3 x (by omega) (by omega) e, hr 4 x (by omega) (by omega) e, hr 5 x (by omega) (by omega) e, hw (18 + x) (by omega) (by omega) (by omega) (by omega) (by omega), hw (28 + x) (by omega) (by omega) (by omega) (by omega) (by omega), hw (38 + x) (by omega) (by omega) (by omega) (by omega) (by omega), hw (48 + x) (by omega) (by omega) (by omega) (by omega) (by omega)]
      exact g1 x hx
  · rw [h6, hw (58 + (10 * p + q)) (by omega) (by omega) (by omega) (by omega) (by omega)]
    exact f p q hp hq
theorem o_drift {cnt P T c : Nat} {d : Int32} {N : sk_N} {M : sk_M} (h : RX cnt P T T N (M.1 1)) (hc : c < cnt) (h1 : -9 ≤ d.toInt) (h2 : d.toInt ≤ 9) : ∃ r, m_X1_changeDrift N (nI c) d = some (r, sk_up N 3 c d) ∧ M.1 1 (18 + c) = r ∧ RX cnt P T T (sk_up N 3 c d) ((md_up M 1 (18 + c) d).1 1) := by
  obtain ⟨h10, -⟩ := h.1.ex
  obtain ⟨g1, g2, g3, g4⟩ := h.1.2.2.2.2.1.1 c hc
  refine ⟨N 3 c, ?_, g1.symm, h.clk hc (pu_row (by omega)) (pu_row (by omega)) (pu_row (by omega)) (pu_row (by omega)) (pu_row (by omega)) (fun r x a b e => by rw [pu_sup, if_neg (by omega)]) (fun x a b c d e => by rw [pu_m, if_neg (by omega)]) ?_⟩
  · unfold m_X1_changeDrift
    simp (disch := omega) only [pu_lit, pu_let, pu_some, pu_xb, pu_xe, pu_hb, pu_he, nI_add, pk_mul, pk_sub, nI_clamp, pu_inT, nI_leI, nI_ltI, nI_eq, if_pos, if_neg, ↓reduceIte, true_and, and_true, and_self, not_true_eq_false, not_false_eq_true, reduceCtorEq]
  · rw [pu_sup, if_pos ⟨rfl, rfl⟩, pu_m, if_pos ⟨rfl, rfl⟩, pu_row (by omega), pu_row (by omega), pu_m, if_neg (by omega), pu_m, if_neg (by omega), pu_m, if_neg (by omega)]
    exact ⟨rfl, h1, h2, g4⟩
theorem o_blink {cnt P T c R O : Nat} {N : sk_N} {M : sk_M} (h : RX cnt P T T N (M.1 1)) (hc : c < cnt) (h1 : 1 ≤ R) (h2 : R ≤ 99) (h3 : O ≤ 98) : m_X1_makeBlinker N (nI c) (nI R) (nI O) = some (sk_up (sk_up N 4 c (nI R)) 5 c (nI O)) ∧ m_X5_doBlink M (nI c) (nI R) (nI O) = (m_X5_blinkers (md_up (md_up (md_up M 1 (28 + c) (nI 1)) 1 (38 + c) (nI R)) 1 (48 + c) (nI O))).bind (fun r => some (r, md_up (md_up (md_up M 1 (28 + c) (nI 1)) 1 (38 + c) (nI R)) 1 (48 + c) (nI O))) ∧ RX cnt P T T (sk_up (sk_up N 4 c (nI R)) 5 c (nI O)) ((md_up (md_up (md_up M 1 (28 + c) (nI 1)) 1 (38 + c) (nI R)) 1 (48 + c) (nI O)).1 1) := by
  obtain ⟨h10, -⟩ := h.1.ex
  obtain ⟨g1, g2, g3, g4⟩ := h.1.2.2.2.2.1.1 c hc
  refine ⟨?_, ?_, h.clk hc (by rw [pu_row (by omega), pu_row (by omega)]) (by rw [pu_row (by omega), pu_row (by omega)]) (by rw [pu_row (by omega), pu_row (by omega)]) (by rw [pu_row (by omega), pu_row (by omega)]) (by rw [pu_row (by omega), pu_row (by omega)]) (fun r x a b e => by rw [pu_sup, if_neg (by omega), pu_sup, if_neg (by omega)]) (fun x a b c d e => by rw [pu_m, if_neg (by omega), pu_m, if_neg (by omega), pu_m, if_neg (by omega)]) ?_⟩
  · unfold m_X1_makeBlinker
    simp (disch := omega) only [pu_lit, pu_let, pu_some, pu_xb, pu_xe, pu_hb, pu_he, nI_add, pk_mul, pk_sub, nI_clamp, pu_inT, nI_leI, nI_ltI, nI_eq, if_pos, if_neg, ↓reduceIte, true_and, and_true, and_self, not_true_eq_false, not_false_eq_true, reduceCtorEq]
  · unfold m_X5_doBlink
    simp (disch := omega) only [pu_lit, pu_let, pu_some, pu_xb, pu_xe, pu_hb, pu_he, nI_add, pk_mul, pk_sub, nI_clamp, pu_inT, nI_leI, nI_ltI, nI_eq, if_pos, if_neg, ↓reduceIte, true_and, and_true, and_self, not_true_eq_false, not_false_eq_true, reduceCtorEq]
  · refine ⟨?_, ?_, ?_, Or.inr ⟨R, O, h1, h2, h3, ?_, ?_, ?_, ?_, ?_⟩⟩
    · rw [pu_row (by omega), pu_row (by omega), pu_m, if_neg (by omega), pu_m, if_neg (by omega), pu_m, if_neg (by omega)]; exact g1
    · rw [pu_row (by omega), pu_row (by omega)]; exact g2
    · rw [pu_row (by omega), pu_row (by omega)]; exact g3
    · rw [pu_row (by omega), pu_sup, if_pos ⟨rfl, rfl⟩]
    · rw [pu_m, if_neg (by omega), pu_m, if_neg (by omega), pu_m, if_pos ⟨rfl, rfl⟩]; rfl
    · rw [pu_m, if_neg (by omega), pu_m, if_pos ⟨rfl, rfl⟩]
    · rw [pu_sup, if_pos ⟨rfl, rfl⟩]
    · rw [pu_m, if_pos ⟨rfl, rfl⟩]
theorem o_mend {cnt P T c : Nat} {N : sk_N} {M : sk_M} (h : RX cnt P T T N (M.1 1)) (hc : c < cnt) : m_X1_makeGood N (nI c) = some (sk_up (sk_up N 4 c 0) 5 c 0) ∧ RX cnt P T T (sk_up (sk_up N 4 c 0) 5 c 0) ((md_up M 1 (28 + c) 0).1 1) := by
  obtain ⟨h10, -⟩ := h.1.ex
  obtain ⟨g1, g2, g3, g4⟩ := h.1.2.2.2.2.1.1 c hc
  refine ⟨?_, h.clk hc (by rw [pu_row (by omega), pu_row (by omega)]) (by rw [pu_row (by omega), pu_row (by omega)]) (by rw [pu_row (by omega), pu_row (by omega)]) (by rw [pu_row (by omega), pu_row (by omega)]) (by rw [pu_row (by omega), pu_row (by omega)]) (fun r x a b e => by rw [pu_sup, if_neg (by omega), pu_sup, if_neg (by omega)]) (fun x a b c d e => by rw [pu_m, if_neg (by omega)]) ?_⟩
  · unfold m_X1_makeGood
    simp (disch := omega) only [pu_lit, pu_let, pu_some, pu_xb, pu_xe, pu_hb, pu_he, nI_add, pk_mul, pk_sub, nI_clamp, pu_inT, nI_leI, nI_ltI, nI_eq, if_pos, if_neg, ↓reduceIte, true_and, and_true, and_self, not_true_eq_false, not_false_eq_true, reduceCtorEq]
  · refine ⟨?_, ?_, ?_, Or.inl ⟨?_, ?_⟩⟩
    · rw [pu_row (by omega), pu_row (by omega), pu_m, if_neg (by omega)]; exact g1
    · rw [pu_row (by omega), pu_row (by omega)]; exact g2
    · rw [pu_row (by omega), pu_row (by omega)]; exact g3
    · rw [pu_row (by omega), pu_sup, if_pos ⟨rfl, rfl⟩]
    · rw [pu_m, if_pos ⟨rfl, rfl⟩]
theorem q_blinkers {cnt P : Nat} {N : sk_N} {M : sk_M} (h : QR cnt P N (M.1 1)) : ∃ r, m_X1_blinkerCount N = some r ∧ m_X5_blinkers M = some r := by
  obtain ⟨h10, hP1, hP2, e0, e5, -⟩ := h.1.ex
  refine lp_LF (step := m_X1_blinkerCount_4_step N) (step' := m_X5_blinkers_4_step M) (fun y y' => ∃ r, y = some r ∧ y' = some r) (fun j s s' => s = s' ∧ s.2 = nI j ∧ ∃ r : Nat, r ≤ j ∧ s.1 = nI r) cnt (by omega) (0, 0) (0, 0) ⟨rfl, rfl, 0, by omega, rfl⟩ ?_
  rintro k k' j ⟨x, y⟩ s' hj ⟨rfl, rfl, r, r1, rfl⟩
  unfold m_X1_blinkerCount_4_step m_X5_blinkers_4_step
  dsimp only
  by_cases hjc : j = cnt
  · subst hjc
    simp (disch := omega) only [pu_lit, pu_let, pu_some, pu_xb, pu_xe, pu_hb, pu_he, nI_add, pk_mul, pk_sub, nI_clamp, pu_inT, nI_leI, nI_ltI, nI_eq, if_pos, if_neg, ↓reduceIte, true_and, and_true, and_self, not_true_eq_false, not_false_eq_true, reduceCtorEq, e0, e5]
    first | exact Or.inl ⟨_, rfl, rfl⟩ | exact Or.inl ⟨_, rfl⟩
  · right
    have hlt : j < cnt := by omega
    refine ⟨hlt, ?_⟩
    have b28 := h.b28 hlt
    by_cases hg : gb N j = true
    · rw [if_pos hg] at b28
      simp (disch := omega) only [pu_lit, pu_let, pu_some, pu_xb, pu_xe, pu_hb, pu_he, nI_add, pk_mul, pk_sub, nI_clamp, pu_inT, nI_leI, nI_ltI, nI_eq, if_pos, if_neg, ↓reduceIte, true_and, and_true, and_self, not_true_eq_false, not_false_eq_true, reduceCtorEq, e0, e5, v_good', hg, b28, Nat.add_zero]
      exact ⟨_, _, rfl, rfl, rfl, rfl, r, by omega, rfl⟩
    · rw [if_neg hg] at b28
      simp (disch := omega) only [pu_lit, pu_let, pu_some, pu_xb, pu_xe, pu_hb, pu_he, nI_add, pk_mul, pk_sub, nI_clamp, pu_inT, nI_leI, nI_ltI, nI_eq, if_pos, if_neg, ↓reduceIte, true_and, and_true, and_self, not_true_eq_false, not_false_eq_true, reduceCtorEq, e0, e5, v_good', hg, b28]
      exact ⟨_, _, rfl, rfl, rfl, rfl, r + 1, by omega, rfl⟩
theorem o_drop {f t : Nat} {N : sk_N} (hf : f < 10) (ht : t < 10) (h : ∀ s b, s < 16 → b < 10 → N 7 (s * 10 + b) = nI (dd N s b) ∧ dd N s b < 1024) : ∃ N', m_X1_dropPulses N (nI f) (nI t) = some N' ∧ (∀ j, j ≠ 7 → N' j = N j) ∧ ∀ s b, s < 16 → b < 10 → N' 7 (s * 10 + b) = nI (if b = t then dd N s b &&& (1023 ^^^ 2 ^ f) else dd N s b) := by
  refine lp_F (step := m_X1_dropPulses_2_step (nI f) (nI t)) (fun y => ∃ N', y = some N' ∧ (∀ j, j ≠ 7 → N' j = N j) ∧ ∀ s b, s < 16 → b < 10 → N' 7 (s * 10 + b) = nI (if b = t then dd N s b &&& (1023 ^^^ 2 ^ f) else dd N s b))
    (fun i s => s.2 = nI i ∧ (∀ j, j ≠ 7 → s.1 j = N j) ∧ ∀ u b, u < 16 → b < 10 → s.1 7 (u * 10 + b) = nI (if b = t ∧ u < i then dd N u b &&& (1023 ^^^ 2 ^ f) else dd N u b)) 16 (by omega) (N, 0) ⟨rfl, fun _ _ => rfl, fun u b hu hb => by rw [if_neg (by omega)]; exact (h u b hu hb).1⟩ ?_
  rintro k i ⟨A, x⟩ hi ⟨rfl, h1, h2⟩
  dsimp only at h1 h2 ⊢
  unfold m_X1_dropPulses_2_step
  dsimp only
  by_cases hic : i = 16
  · subst hic
    left
    rw [if_pos (show (16 : Int32) ≤ nI 16 by decide)]
    exact ⟨A, rfl, h1, fun u b hu hb => by rw [h2 u b hu hb]; congr 1; simp [hu]⟩
  · right
    refine ⟨by omega, ?_⟩
    have e7 : A 7 (i * 10 + t) = nI (dd N i t) := by rw [h2 i t (by omega) ht, if_neg (by omega)]
    have hd := (h i t (by omega) ht).2
    have hm1 : -nI 1 = (-1 : Int32) := by decide
    simp (disch := omega) only [pu_lit, pu_let, pu_some, pu_xb, pu_xe, pu_hb, pu_he, nI_add, pk_mul, pk_sub, nI_clamp, pu_inT, nI_leI, nI_ltI, nI_eq, if_pos, if_neg, ↓reduceIte, true_and, and_true, and_self, not_true_eq_false, not_false_eq_true, reduceCtorEq, e7, pu_shl', hm1]
    rw [pu_not hd hf]
    refine ⟨_, rfl, rfl, ?_⟩
    dsimp only
    refine ⟨fun j hj => by rw [pu_row hj]; exact h1 j hj, fun u b hu hb => ?_⟩
    rw [pu_sup]
    by_cases e : u = i ∧ b = t
    · obtain ⟨rfl, rfl⟩ := e
      rw [if_pos ⟨rfl, rfl⟩, if_pos ⟨rfl, by omega⟩]
    · rw [if_neg (by omega), h2 u b hu hb]
      congr 1
      by_cases h3 : b = t ∧ u < i
      · rw [if_pos h3, if_pos (by omega)]
      · rw [if_neg h3, if_neg (by omega)]
/-- laying a link, or taking it away -/
theorem o_link {cnt P T a b : Nat} {dl : Int32} {N : sk_N} {M : sk_M} (h : RX cnt P T T N (M.1 1)) (ha : a < cnt) (hb : b < cnt) (hab : a ≠ b) (hd : dl = -1 ∨ ∃ d : Nat, d ≤ 9 ∧ dl = nI d) : ∃ r N' M', m_X1_changeLink N (nI a) (nI b) dl = some (r, N') ∧ m_X5_delay M (nI a) (nI b) = some r ∧ m_X5_lays M (nI a) (nI b) dl = some M' ∧ RX cnt P T T N' (M'.1 1) ∧ N' 0 = N 0 ∧ (∀ x, x < 58 ∨ 258 ≤ x → M'.1 1 x = M.1 1 x) ∧ (∀ j, j ≠ 1 → M'.1 j = M.1 j) ∧ M'.2 = M.2 := by
  obtain ⟨h10, -⟩ := h.1.ex
  obtain ⟨r1, r2, r3, r4, r5⟩ := h.1.2.2.2.2.2 a b (by omega) (by omega)
  unfold m_X1_changeLink m_X5_lays
  rw [v_delayBetween (by omega) (by omega), v_delay (by omega) (by omega), ← r1]
  simp only [pu_some]
  by_cases he : N 6 (10 * a + b) = dl
  · rw [if_pos he, if_pos he]
    exact ⟨_, N, M, rfl, rfl, rfl, h, rfl, fun _ _ => rfl, fun _ _ => rfl, rfl⟩
  · obtain ⟨hst, htk, hph, hpu, -⟩ := id h
    obtain ⟨N1, a1, a2, a3⟩ := o_drop (f := a) (t := b) (by omega) (by omega) hpu.1
    have hand : ∀ s u v, dd N s u &&& v < 2 ^ 31 ∨ True := fun _ _ _ => Or.inr trivial
    have hd1 : ∀ s u, s < 16 → u < 10 → dd N1 s u = (if u = b then dd N s u &&& (1023 ^^^ 2 ^ a) else dd N s u) ∧ dd N1 s u < 1024 := fun s u hs hu => by
      have hl := (hpu.1 s u hs hu).2
      have e : dd N1 s u = (if u = b then dd N s u &&& (1023 ^^^ 2 ^ a) else dd N s u) := by
        unfold dd at hl ⊢
        rw [a3 s u hs hu]
        unfold dd
        split
        · rw [nI_clamp (by have := pu_and_lt (b := 1023 ^^^ 2 ^ a) hl; omega)]
        · rw [nI_clamp (by omega)]
      refine ⟨e, ?_⟩
      rw [e]
      split
      · exact pu_and_lt hl
      · exact hl
    obtain ⟨N2, b1, b2, b3⟩ := o_drop (N := N1) (f := b) (t := a) (by omega) (by omega) (fun s u hs hu => ⟨by rw [a3 s u hs hu, (hd1 s u hs hu).1], (hd1 s u hs hu).2⟩)
    have e1 : nI a * (10 : Int32) + nI b = nI (10 * a + b) := by rw [show (10 : Int32) = nI 10 from rfl, pk_mul, nI_add, Nat.mul_comm]
    have e2 : nI b * (10 : Int32) + nI a = nI (10 * b + a) := by rw [show (10 : Int32) = nI 10 from rfl, pk_mul, nI_add, Nat.mul_comm]
    have e3 : ∀ x y : Nat, ((58 : Int32) + (10 : Int32) * nI x) + nI y = nI (58 + (10 * x + y)) := fun x y => by rw [show (58 : Int32) = nI 58 from rfl, show (10 : Int32) = nI 10 from rfl, pk_mul, nI_add, nI_add, Nat.add_assoc]
    have e4 : ∀ x y : Nat, ((158 : Int32) + (10 : Int32) * nI x) + nI y = nI (158 + (10 * x + y)) := fun x y => by rw [show (158 : Int32) = nI 158 from rfl, show (10 : Int32) = nI 10 from rfl, pk_mul, nI_add, nI_add, Nat.add_assoc]
    rw [if_neg he, if_neg he, a1]
    simp only [pu_some]
    rw [b1]
    simp only [pu_some]
    rw [e1, e2, e3, e3, e4, e4, if_pos (pu_inT (by omega) (by omega)), if_pos (pu_inT (show 58 + (10 * a + b) < 378 by omega) (by omega)), nI_clamp (by omega), nI_clamp (by omega), nI_clamp (by omega), nI_clamp (by omega), nI_clamp (by omega), nI_clamp (by omega)]
    simp only [pu_let]
    rw [if_pos (pu_inT (show 10 * b + a < 100 by omega) (by omega)), if_pos (pu_inT (show 58 + (10 * b + a) < 378 by omega) (by omega)), if_pos (pu_inT (show 158 + (10 * a + b) < 378 by omega) (by omega)), if_pos (pu_inT (show 158 + (10 * b + a) < 378 by omega) (by omega))]
    generalize hM5 : md_up (md_up (md_up (md_up M 1 (58 + (10 * a + b)) dl) 1 (58 + (10 * b + a)) dl) 1 (158 + (10 * a + b)) 0) 1 (158 + (10 * b + a)) 0 = M5
    generalize hN5 : sk_up (sk_up N2 6 (10 * a + b) dl) 6 (10 * b + a) dl = N5
    have nr : ∀ j, j ≠ 6 → j ≠ 7 → N5 j = N j := fun j p q => by rw [← hN5, pu_row p, pu_row p, b2 j q, a2 j q]
    have n6 : ∀ x, N5 6 x = if x = 10 * a + b ∨ x = 10 * b + a then dl else N 6 x := fun x => by
      rw [← hN5, pu_sup, pu_sup, b2 6 (by omega), a2 6 (by omega)]
      by_cases q1 : x = 10 * b + a
      · rw [if_pos ⟨rfl, q1⟩, if_pos (Or.inr q1)]
      · rw [if_neg (by omega)]
        by_cases q2 : x = 10 * a + b
        · rw [if_pos ⟨rfl, q2⟩, if_pos (Or.inl q2)]
        · rw [if_neg (by omega), if_neg (by omega)]
    have n7 : ∀ s u, s < 16 → u < 10 → N5 7 (s * 10 + u) = nI (dd N5 s u) ∧ dd N5 s u < 1024 ∧ ∀ i, (dd N5 s u).testBit i = ((dd N s u).testBit i && !(decide (u = b ∧ i = a)) && !(decide (u = a ∧ i = b))) := fun s u hs hu => by
      have q := b3 s u hs hu
      have z1 := hd1 s u hs hu
      have z := (hpu.1 s u hs hu).2
      have hlt : (if u = a then dd N1 s u &&& (1023 ^^^ 2 ^ b) else dd N1 s u) < 1024 := by
        split
        · exact pu_and_lt z1.2
        · exact z1.2
      have hrow : N5 7 = N2 7 := by rw [← hN5, pu_row (by omega), pu_row (by omega)]
      have e : dd N5 s u = (if u = a then dd N1 s u &&& (1023 ^^^ 2 ^ b) else dd N1 s u) := by
        show (N5 7 (s * 10 + u)).toNatClampNeg = _
        rw [hrow, q, nI_clamp (by omega)]
      rw [e, hrow, q]
      refine ⟨rfl, hlt, fun i => ?_⟩
      have bi : (dd N1 s u).testBit i = ((dd N s u).testBit i && !(decide (u = b ∧ i = a))) := by
        rw [z1.1]
        by_cases ub : u = b
        · rw [if_pos ub, pu_not_bit z]
          by_cases ia : i = a
          · subst ia; simp [ub]
          · have : ¬ a = i := fun e => ia e.symm
            simp [ub, ia, this]
        · rw [if_neg ub]; simp [ub]
      by_cases ua : u = a
      · rw [if_pos ua, pu_not_bit z1.2, bi]
        by_cases ib : i = b
        · subst ib; simp [ua]
        · have : ¬ b = i := fun e => ib e.symm
          simp [ua, ib, this]
      · rw [if_neg ua, bi]; simp [ua]
    have w1 : ∀ x, M5.1 1 x = if x = 158 + (10 * b + a) ∨ x = 158 + (10 * a + b) then 0 else if x = 58 + (10 * b + a) ∨ x = 58 + (10 * a + b) then dl else M.1 1 x := fun x => by
      rw [← hM5, pu_m, pu_m, pu_m, pu_m]
      repeat' split
      all_goals first | rfl | (exfalso; omega)
    have wl : ∀ x, x < 58 ∨ 258 ≤ x → M5.1 1 x = M.1 1 x := fun x hx => by rw [w1, if_neg (by omega), if_neg (by omega)]
    refine ⟨_, N5, M5, rfl, rfl, rfl, ⟨?_, htk.keep (by rw [nr 0 (by omega) (by omega)]) (wl 4 (by omega)), hph.keep h10 (nr 2 (by omega) (by omega)) (fun x p q => wl x (by omega)) (fun _ _ => Nat.le_refl _), ?_, RT.same⟩, nr 0 (by omega) (by omega), wl, fun j hj => by rw [← hM5, pu_mrow hj, pu_mrow hj, pu_mrow hj, pu_mrow hj], by rw [← hM5]; rfl⟩
    · obtain ⟨s1, s2, s3, ⟨rr, k, d, d1, d2, d3, d4, d5, d6, d7, d8, d9⟩, ⟨g1, g2⟩, f⟩ := hst
      refine ⟨s1, ⟨by rw [nr 0 (by omega) (by omega)]; exact s2.1, by rw [wl 5 (by omega)]; exact s2.2⟩, ⟨by rw [nr 0 (by omega) (by omega)]; exact s3.1, by rw [wl 0 (by omega)]; exact s3.2⟩, ⟨rr, k, d, d1, d2, d3, by rw [nr 1 (by omega) (by omega)]; exact d4, by rw [wl 1 (by omega)]; exact d5, by rw [nr 1 (by omega) (by omega)]; exact d6, by rw [wl 2 (by omega)]; exact d7, by rw [nr 1 (by omega) (by omega)]; exact d8, by rw [wl 3 (by omega)]; exact d9⟩, ⟨fun c hc => ?_, fun c hc hc2 => by rw [nr 3 (by omega) (by omega), nr 4 (by omega) (by omega)]; exact g2 c hc hc2⟩, fun p q hp hq => ?_⟩
      · rw [nr 3 (by omega) (by omega), nr 4 (by omega) (by omega), nr 5 (by omega) (by omega), wl (18 + c) (by omega), wl (28 + c) (by omega), wl (38 + c) (by omega), wl (48 + c) (by omega)]
        exact g1 c hc
      · obtain ⟨f1, f2, f3, f4, f5⟩ := f p q hp hq
        rw [n6, n6, n6, w1, if_neg (show ¬ (58 + (10 * p + q) = 158 + (10 * b + a) ∨ 58 + (10 * p + q) = 158 + (10 * a + b)) by omega), if_neg (show ¬ (10 * p + p = 10 * a + b ∨ 10 * p + p = 10 * b + a) by omega)]
        by_cases hh : 10 * p + q = 10 * a + b ∨ 10 * p + q = 10 * b + a
        · rw [if_pos hh, if_pos (show 10 * q + p = 10 * a + b ∨ 10 * q + p = 10 * b + a by omega), if_pos (by omega)]
          exact ⟨rfl, hd, rfl, f4, fun e => absurd e (by omega)⟩
        · rw [if_neg hh, if_neg (show ¬ (10 * q + p = 10 * a + b ∨ 10 * q + p = 10 * b + a) by omega), if_neg (by omega)]
          exact ⟨f1, f2, f3, f4, f5⟩
    · refine ⟨fun s u hs hu => ⟨(n7 s u hs hu).1, (n7 s u hs hu).2.1⟩, fun p q hp hq => ?_⟩
      obtain ⟨v, v1, v2, v3, v4, v5, v6⟩ := hpu.2 p q hp hq
      by_cases hh : 10 * p + q = 10 * a + b ∨ 10 * p + q = 10 * b + a
      · refine ⟨0, by omega, ?_, by simp, fun e => absurd rfl e, v5, fun d hd' => ?_⟩
        · rw [w1, if_pos (by omega)]; rfl
        · rw [(n7 _ q (Nat.mod_lt _ (by omega)) hq).2.2 p]
          have : (decide (q = b ∧ p = a)) = true ∨ (decide (q = a ∧ p = b)) = true := by
            rcases hh with hh | hh
            · left; apply decide_eq_true; omega
            · right; apply decide_eq_true; omega
          rcases this with t | t <;> rw [t] <;> simp
      · refine ⟨v, v1, ?_, v3, v4, v5, fun d hd' => ?_⟩
        · rw [w1, if_neg (by omega), if_neg (by omega)]; exact v2
        · rw [(n7 _ q (Nat.mod_lt _ (by omega)) hq).2.2 p, v6 d hd', decide_eq_false (show ¬ (q = b ∧ p = a) by omega), decide_eq_false (show ¬ (q = a ∧ p = b) by omega)]
          simp
