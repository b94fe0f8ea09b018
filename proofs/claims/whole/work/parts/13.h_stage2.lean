theorem pu_b28 {cnt P : Nat} {N : sk_N} {w : Nat → Int32} {c : Nat} (h : ST cnt P N w) (hc : c < cnt) : (N 4 c = 0 ∧ w (28 + c) = nI 0) ∨ (¬ N 4 c = nI 0 ∧ w (28 + c) = nI 1) := by
  obtain ⟨-, -, -, g4⟩ := h.2.2.2.2.1.1 c hc
  rcases g4 with ⟨g5, g6⟩ | ⟨R, O, r1, r2, r3, r4, r5, -⟩
  · exact Or.inl ⟨g5, g6⟩
  · exact Or.inr ⟨by rw [r4]; exact nI_ne0 (by omega) (by omega), r5⟩
theorem s_ripe {cnt P T1 T2 : Nat} {nl : List (Nat × Nat)} {ar : Nat → Nat → Bool} {N : sk_N} {M : sk_M} (h : TM cnt P T1 T2 0 [] ar (fun c => if gb N c = true then P + 2 else P) N M) (hn : NS T2 nl [] M) :
    ∃ N' M', m_X1_fireRipeClocks N = some N' ∧ m_X5_ticks_127 (M, 0) = m_X5_ticks_180 (M', 0) ∧ (∃ F ol, TM cnt P T1 T2 F ol ar (fun _ => P) N' M' ∧ NS T2 nl ol M' ∧ ∀ i, F.testBit i = true → gb N i = true) ∧ TQ N M N' M' := by
  have h10 : cnt ≤ 10 := h.1.1.1
  refine lp_LF (step := m_X1_fireRipeClocks_2_step) (step' := m_X5_ticks_127_step) (fun y y' => ∃ N' M', y = some N' ∧ y' = m_X5_ticks_180 (M', 0) ∧ (∃ F ol, TM cnt P T1 T2 F ol ar (fun _ => P) N' M' ∧ NS T2 nl ol M' ∧ ∀ i, F.testBit i = true → gb N i = true) ∧ TQ N M N' M')
    (fun j s s' => s.2 = nI j ∧ s'.2 = nI j ∧ (∃ F ol, TM cnt P T1 T2 F ol ar (fun c => if gb N c = true ∧ j ≤ c then P + 2 else P) s.1 s'.1 ∧ NS T2 nl ol s'.1 ∧ ∀ i, F.testBit i = true → gb N i = true ∧ i < j) ∧ TQ N M s.1 s'.1) cnt (by omega) _ _ ⟨rfl, rfl, ⟨0, [], by simpa using h, hn, by simp⟩, TQ.rf⟩ ?_
  rintro k k' j ⟨A, x⟩ ⟨B, y⟩ hj ⟨rfl, rfl, ⟨F, ol, hT, hN, hF⟩, hQ⟩
  dsimp only at hT hN hQ ⊢
  have hst := hT.1
  have hph := hT.2.2.1
  have e5 : B.1 1 5 = nI cnt := hst.2.1.2
  have e0 : A 0 0 = nI cnt := hst.2.1.1
  have eP : A 0 1 = nI P := hst.2.2.1.1
  have eP' : B.1 1 0 = nI P := hst.2.2.1.2
  have hP := hst.1.2.2
  unfold m_X1_fireRipeClocks_2_step m_X5_ticks_127_step
  dsimp only
  by_cases hjc : j = cnt
  · subst hjc
    simp (disch := omega) only [pu_lit, pu_let, pu_some, pu_xb, pu_xe, pu_hb, pu_he, nI_add, pk_mul, pk_sub, nI_clamp, pu_inT, nI_leI, nI_ltI, nI_eq, if_pos, if_neg, ↓reduceIte, true_and, and_true, and_self, not_true_eq_false, not_false_eq_true, reduceCtorEq, e5, e0]
    refine Or.inl ⟨A, B, rfl, rfl, ⟨F, ol, ⟨hT.1, hT.2.1, ?_, hT.2.2.2⟩, hN, fun i hi => (hF i hi).1⟩, hQ⟩
    intro c hc
    obtain ⟨p, p1, p2⟩ := hph c hc
    refine ⟨p, ?_, p2⟩
    dsimp only at p1 ⊢
    rw [if_neg (by omega)] at p1
    exact p1
  · have hlt : j < cnt := by omega
    right
    refine ⟨hlt, ?_⟩
    obtain ⟨p, p1, p2, p3⟩ := hph j hlt
    have p1 : p < P + 2 := Nat.lt_of_lt_of_le p1 (by dsimp only; split <;> omega)
    have a4 : A 4 j = N 4 j := by rw [hQ.2.2]
    have mono : ∀ c, c ≠ j → (if gb N c = true ∧ j ≤ c then P + 2 else P) ≤ (if gb N c = true ∧ j + 1 ≤ c then P + 2 else P) := fun c hc => by
      by_cases hh : gb N c = true ∧ j ≤ c
      · rw [if_pos hh, if_pos ⟨hh.1, by omega⟩]; exact Nat.le_refl _
      · rw [if_neg hh]; split <;> omega
    have weak : p < P ∨ gb N j = false → TM cnt P T1 T2 F ol ar (fun c => if gb N c = true ∧ j + 1 ≤ c then P + 2 else P) A B := fun hw => by
      refine ⟨hT.1, hT.2.1, ?_, hT.2.2.2⟩
      intro c hc
      obtain ⟨q, q1, q2, q3⟩ := hph c hc
      by_cases hcj : c = j
      · subst hcj
        rcases hw with hw | hw
        · refine ⟨p, ?_, p2, p3⟩
          dsimp only
          split <;> omega
        · refine ⟨q, ?_, q2, q3⟩
          dsimp only at q1 ⊢
          rw [hw] at q1 ⊢
          rw [if_neg (by simp)] at q1 ⊢
          exact q1
      · exact ⟨q, Nat.lt_of_lt_of_le q1 (mono c hcj), q2, q3⟩
    rw [v_isGood (by omega)]
    rcases pu_b28 hst hlt with ⟨g5, g6⟩ | ⟨g5, g6⟩
    · have hbt : F.testBit j = false := by
        rcases hb : F.testBit j with _ | _
        · rfl
        · exact absurd (hF j hb).2 (by omega)
      by_cases hp : p < P
      · simp (disch := omega) only [pu_lit, pu_let, pu_some, pu_xb, pu_xe, pu_hb, pu_he, nI_add, pk_mul, pk_sub, nI_clamp, pu_inT, nI_leI, nI_ltI, nI_eq, if_pos, if_neg, ↓reduceIte, true_and, and_true, and_self, not_true_eq_false, not_false_eq_true, reduceCtorEq, e5, e0, g5, g6, p2, p3, eP, eP']
        exact ⟨_, _, rfl, rfl, rfl, rfl, ⟨F, ol, weak (Or.inl hp), hN, fun i hi => ⟨(hF i hi).1, by have := (hF i hi).2; omega⟩⟩, hQ⟩
      · obtain ⟨N', M', a1, a2, a3, a4', a5, a6, a7⟩ := f_fire (bd' := fun c => if gb N c = true ∧ j + 1 ≤ c then P + 2 else P) hT hN hlt hbt mono (by have := hst.1.2.1; split <;> omega) (fun e => absurd g5 e)
        simp (disch := omega) only [pu_lit, pu_let, pu_some, pu_xb, pu_xe, pu_hb, pu_he, nI_add, pk_mul, pk_sub, nI_clamp, pu_inT, nI_leI, nI_ltI, nI_eq, if_pos, if_neg, ↓reduceIte, true_and, and_true, and_self, not_true_eq_false, not_false_eq_true, reduceCtorEq, e5, e0, g5, g6, p2, p3, eP, eP', a1, a2]
        refine ⟨_, _, rfl, rfl, rfl, rfl, ⟨_, _, a3, a4', fun i hi => ?_⟩, hQ.tr ⟨a5, a6, a7⟩⟩
        rw [pu_or_bit] at hi
        simp only [Bool.or_eq_true, decide_eq_true_eq] at hi
        rcases hi with hi | hi
        · exact ⟨(hF i hi).1, by have := (hF i hi).2; omega⟩
        · subst hi
          exact ⟨gb_t (by rw [← a4]; exact g5), by omega⟩
    · simp (disch := omega) only [pu_lit, pu_let, pu_some, pu_xb, pu_xe, pu_hb, pu_he, nI_add, pk_mul, pk_sub, nI_clamp, pu_inT, nI_leI, nI_ltI, nI_eq, if_pos, if_neg, ↓reduceIte, true_and, and_true, and_self, not_true_eq_false, not_false_eq_true, reduceCtorEq, e5, e0, g5, g6]
      exact ⟨_, _, rfl, rfl, rfl, rfl, ⟨F, ol, weak (Or.inr (gb_f (by rw [← a4]; exact g5))), hN, fun i hi => ⟨(hF i hi).1, by have := (hF i hi).2; omega⟩⟩, hQ⟩
theorem s_blink {cnt P T1 T2 F : Nat} {ol : List Nat} {nl : List (Nat × Nat)} {ar : Nat → Nat → Bool} {N : sk_N} {M : sk_M} (h : TM cnt P T1 T2 F ol ar (fun _ => P) N M) (hn : NS T2 nl ol M) (hF0 : ∀ i, F.testBit i = true → gb N i = true) (hr : RT cnt T1 T2 N) (hb1 : T1 < 2 ^ 29) (hb2 : T2 < 2 ^ 29) :
    ∃ N' M', m_X1_fireBlinkers N = some N' ∧ m_X5_ticks_180 (M, 0) = m_X5_ticks_245 (M', 0) ∧ TX 0 cnt P T1 T2 nl ar (fun _ => P) N' M' ∧ TQ N M N' M' := by
  have h10 : cnt ≤ 10 := h.1.1.1
  refine lp_LF (step := m_X1_fireBlinkers_2_step) (step' := m_X5_ticks_180_step) (fun y y' => ∃ N' M', y = some N' ∧ y' = m_X5_ticks_245 (M', 0) ∧ TX 0 cnt P T1 T2 nl ar (fun _ => P) N' M' ∧ TQ N M N' M')
    (fun j s s' => s.2 = nI j ∧ s'.2 = nI j ∧ (∃ F ol, TM cnt P T1 T2 F ol ar (fun _ => P) s.1 s'.1 ∧ NS T2 nl ol s'.1 ∧ ∀ i, F.testBit i = true → gb N i = true ∨ i < j) ∧ TQ N M s.1 s'.1) cnt (by omega) _ _ ⟨rfl, rfl, ⟨F, ol, h, hn, fun i hi => Or.inl (hF0 i hi)⟩, TQ.rf⟩ ?_
  rintro k k' j ⟨A, x⟩ ⟨B, y⟩ hj ⟨rfl, rfl, ⟨F, ol, hT, hN, hF⟩, hQ⟩
  dsimp only at hT hN hQ ⊢
  have hst := hT.1
  have e5 : B.1 1 5 = nI cnt := hst.2.1.2
  have e0 : A 0 0 = nI cnt := hst.2.1.1
  have eT : A 0 3 = nI T1 := hT.2.1.2.2.1
  have eT' : B.1 1 4 = nI T2 := hT.2.1.2.2.2
  have hP := hst.1.2.1
  unfold m_X1_fireBlinkers_2_step m_X5_ticks_180_step
  dsimp only
  by_cases hjc : j = cnt
  · subst hjc
    simp (disch := omega) only [pu_lit, pu_let, pu_some, pu_xb, pu_xe, pu_hb, pu_he, nI_add, pk_mul, pk_sub, nI_clamp, pu_inT, nI_leI, nI_ltI, nI_eq, if_pos, if_neg, ↓reduceIte, true_and, and_true, and_self, not_true_eq_false, not_false_eq_true, reduceCtorEq, e5, e0]
    exact Or.inl ⟨A, B, rfl, rfl, ⟨F, ol, hT, hN, Nat.zero_le _⟩, hQ⟩
  · have hlt : j < cnt := by omega
    right
    refine ⟨hlt, ?_⟩
    have a4 : A 4 j = N 4 j := by rw [hQ.2.2]
    have keepF : ∀ i, F.testBit i = true → gb N i = true ∨ i < j + 1 := fun i hi => by rcases hF i hi with h | h <;> first | exact Or.inl h | (right; omega)
    obtain ⟨-, -, -, g4⟩ := hst.2.2.2.2.1.1 j hlt
    rcases g4 with ⟨g5, g6⟩ | ⟨R, O, r1, r2, r3, r4, r5, r6, r7, r8⟩
    · have g5' : A 4 j = nI 0 := g5
      have g6' : B.1 1 (28 + j) = nI 0 := g6
      simp (disch := omega) only [pu_lit, pu_let, pu_some, pu_xb, pu_xe, pu_hb, pu_he, nI_add, pk_mul, pk_sub, nI_clamp, pu_inT, nI_leI, nI_ltI, nI_eq, if_pos, if_neg, ↓reduceIte, true_and, and_true, and_self, not_true_eq_false, not_false_eq_true, reduceCtorEq, e5, e0, g5', g6']
      exact ⟨_, _, rfl, rfl, rfl, rfl, ⟨F, ol, hT, hN, keepF⟩, hQ⟩
    · have r5' : B.1 1 (28 + j) = nI 1 := r5
      have hne : ¬ A 4 j = 0 := by rw [r4]; exact nI_ne0 (by omega) (by omega)
      have hne2 : ¬ nI R = 0 := nI_ne0 (by omega) (by omega)
      have hbt : F.testBit j = false := by
        rcases hb : F.testBit j with _ | _
        · rfl
        · rcases hF j hb with hh | hh
          · rw [gb_f (by rw [← a4]; exact hne)] at hh; exact absurd hh (by decide)
          · omega
      have hd : (nI R).toInt ∣ (((T1 + O : Nat) : Int) - ((T2 + O : Nat) : Int)) := by
        have := (hr.keep hQ.2.1 hQ.2.2 j hlt).2 hne
        rw [r4] at this
        rwa [show (((T1 + O : Nat) : Int) - ((T2 + O : Nat) : Int)) = (T1 : Int) - T2 by omega]
      have hRi : (nI R).toInt = (R : Int) := nI_toInt (by omega)
      have key := st_alike (T1 := T1 + O) (T2 := T2 + O) (d := nI R) (by omega) (by omega) hne2 (by omega) (by omega) hd
      by_cases hz : sk_rem (nI (T1 + O)) (nI R) = 0
      · have hz1 : sk_rem (nI (T1 + O)) (nI R) = nI 0 := hz
        have hz2 : sk_rem (nI (T2 + O)) (nI R) = nI 0 := key.mp hz
        obtain ⟨N', M', a1, a2, a3, a4', a5, a6, a7⟩ := f_fire (bd' := fun _ => P) hT hN hlt hbt (fun _ _ => Nat.le_refl _) (by omega) (fun _ => Nat.le_refl _)
        simp (disch := omega) only [pu_lit, pu_let, pu_some, pu_xb, pu_xe, pu_hb, pu_he, nI_add, pk_mul, pk_sub, nI_clamp, pu_inT, nI_leI, nI_ltI, nI_eq, if_pos, if_neg, ↓reduceIte, true_and, and_true, and_self, not_true_eq_false, not_false_eq_true, reduceCtorEq, e5, e0, r4, r5', r6, r7, r8, eT, eT', hz1, hz2, a1, a2]
        refine ⟨_, _, rfl, rfl, rfl, rfl, ⟨_, _, a3, a4', fun i hi => ?_⟩, hQ.tr ⟨a5, a6, a7⟩⟩
        rw [pu_or_bit] at hi
        simp only [Bool.or_eq_true, decide_eq_true_eq] at hi
        rcases hi with hi | hi
        · exact keepF i hi
        · right; omega
      · have hz1 : ¬ sk_rem (nI (T1 + O)) (nI R) = nI 0 := hz
        have hz2 : ¬ sk_rem (nI (T2 + O)) (nI R) = nI 0 := fun e => hz (key.mpr e)
        simp (disch := omega) only [pu_lit, pu_let, pu_some, pu_xb, pu_xe, pu_hb, pu_he, nI_add, pk_mul, pk_sub, nI_clamp, pu_inT, nI_leI, nI_ltI, nI_eq, if_pos, if_neg, ↓reduceIte, true_and, and_true, and_self, not_true_eq_false, not_false_eq_true, reduceCtorEq, e5, e0, r4, r5', r6, r7, r8, eT, eT', hz1, hz2]
        exact ⟨_, _, rfl, rfl, rfl, rfl, ⟨F, ol, hT, hN, keepF⟩, hQ⟩
