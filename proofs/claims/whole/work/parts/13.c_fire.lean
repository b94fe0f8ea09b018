/-! small values -/
theorem pu_inT {a n : Nat} (h : a < n) (hn : n < 2 ^ 31) : sk_in (nI a) n = true := by rw [pu_in (by omega)]; exact decide_eq_true h
theorem v_isGood {N : sk_N} {c : Nat} (hc : c < 10) : m_X1_isGood N (nI c) = some (if N 4 c = 0 then 1 else 0) := by
  unfold m_X1_isGood
  rw [if_pos (pu_inT hc (by omega)), nI_clamp (by omega)]
  by_cases h : N 4 c = 0 <;> simp [h]
theorem pu_and2 {F c : Nat} : (F &&& 2 ^ c = 0) ↔ F.testBit c = false := by
  constructor
  · intro h
    have h1 := congrArg (fun x => Nat.testBit x c) h
    simpa [Nat.testBit_and, Nat.testBit_two_pow] using h1
  · intro h
    apply Nat.eq_of_testBit_eq
    intro i
    rw [Nat.testBit_and, Nat.testBit_two_pow, Nat.zero_testBit]
    by_cases e : c = i
    · subst e; simp [h]
    · simp [e]
theorem v_hasFired {N : sk_N} {c F : Nat} (hF : F < 1024) (h : N 0 4 = nI F) (hc : c < 10) : m_X1_hasFired N (nI c) = some (if F.testBit c then 1 else 0) := by
  unfold m_X1_hasFired
  have h2 : (2 : Nat) ^ c < 2 ^ 10 := Nat.pow_lt_pow_right (by omega) hc
  rw [h, pu_shl (by omega), pu_and (by omega) (by omega)]
  have h3 : F &&& 2 ^ c < 1024 := pu_and_lt hF
  by_cases hb : F.testBit c = false
  · rw [pu_and2.mpr hb, if_pos nI_0, hb]; rfl
  · have : F &&& 2 ^ c ≠ 0 := fun e => hb (pu_and2.mp e)
    rw [if_neg (nI_ne0 (by omega) (by omega))]
    simp at hb
    rw [hb]; rfl
theorem v_delayBetween {N : sk_N} {a b : Nat} (ha : a < 10) (hb : b < 10) : m_X1_delayBetween N (nI a) (nI b) = some (N 6 (10 * a + b)) := by
  unfold m_X1_delayBetween
  have e : (nI a * (10 : Int32)) + nI b = nI (10 * a + b) := by
    rw [show (10 : Int32) = nI 10 from rfl, pk_mul, nI_add, Nat.mul_comm]
  rw [e, if_pos (pu_inT (by omega) (by omega)), nI_clamp (by omega)]
theorem v_slotOf {T : Nat} (hT : T < 2 ^ 31) : m_X1_slotOf (nI T) = some (nI (T % 16 * 10)) := by
  unfold m_X1_slotOf
  rw [show (15 : Int32) = nI 15 from rfl, pu_and hT (by omega), show (10 : Int32) = nI 10 from rfl, pk_mul]
  rw [show (15 : Nat) = 2 ^ 4 - 1 from rfl, Nat.and_two_pow_sub_one_eq_mod]
theorem v_delay {M : sk_M} {a b : Nat} (ha : a < 10) (hb : b < 10) : m_X5_delay M (nI a) (nI b) = some (M.1 1 (58 + (10 * a + b))) := by
  unfold m_X5_delay
  have e : ((58 : Int32) + ((10 : Int32) * nI a)) + nI b = nI (58 + (10 * a + b)) := by
    rw [show (58 : Int32) = nI 58 from rfl, show (10 : Int32) = nI 10 from rfl, pk_mul, nI_add, nI_add, Nat.add_assoc]
  rw [e, if_pos (pu_inT (by omega) (by omega)), nI_clamp (by omega)]
/-! firing: the loops over the other clocks -/
theorem pu_m {M : sk_M} {j k a b : Nat} {v : Int32} : (md_up M j k v).1 a b = if a = j ∧ b = k then v else M.1 a b := pu_sup
theorem pu_row {N : sk_N} {j k a : Nat} {v : Int32} (h : a ≠ j) : sk_up N j k v a = N a := by unfold sk_up va_up; rw [if_neg h]
theorem pu_mrow {M : sk_M} {j k a : Nat} {v : Int32} (h : a ≠ j) : (md_up M j k v).1 a = M.1 a := pu_row h
theorem pu_row1 {M : sk_M} {k : Nat} {v : Int32} : (md_up M 1 k v).1 1 = upd (M.1 1) k v := by
  show va_up M.1 1 (upd (M.1 1) k v) 1 = _
  rw [pu_vup, if_pos rfl]
theorem f_loop {cnt P T1 T2 F c : Nat} {ol : List Nat} {ar : Nat → Nat → Bool} {bd : Nat → Nat} {N : sk_N} {M : sk_M} (h : TM cnt P T1 T2 F ol ar bd N M) (hc : c < cnt) :
    ∃ (N' : sk_N) (M' : sk_M), m_X1_fire_70 (nI c) (N, 0) = some N' ∧ m_X5_fires_70 (nI c) (M, 0) = (m_X5_notes M' (nI c)).bind (fun r => some r) ∧ TM cnt P T1 T2 F ol ar bd N' M' ∧ FM M M' ∧ (∀ x, x < 158 ∨ 258 ≤ x → M'.1 1 x = M.1 1 x) ∧ M'.1 5 = M.1 5 ∧ (∀ k, M'.1 0 k = M.1 0 k) ∧ N' 3 = N 3 ∧ N' 4 = N 4 := by
  have h10 : cnt ≤ 10 := h.1.1.1
  refine lp_LF (step := m_X1_fire_70_step (nI c)) (step' := m_X5_fires_70_step (nI c)) (fun y y' => ∃ (N' : sk_N) (M' : sk_M), y = some N' ∧ y' = (m_X5_notes M' (nI c)).bind (fun r => some r) ∧ TM cnt P T1 T2 F ol ar bd N' M' ∧ FM M M' ∧ (∀ x, x < 158 ∨ 258 ≤ x → M'.1 1 x = M.1 1 x) ∧ M'.1 5 = M.1 5 ∧ (∀ k, M'.1 0 k = M.1 0 k) ∧ N' 3 = N 3 ∧ N' 4 = N 4)
    (fun j s s' => s.2 = nI j ∧ s'.2 = nI j ∧ TM cnt P T1 T2 F ol ar bd s.1 s'.1 ∧ FM M s'.1 ∧ (∀ x, x < 158 ∨ 258 ≤ x → s'.1.1 1 x = M.1 1 x) ∧ s'.1.1 5 = M.1 5 ∧ (∀ k, s'.1.1 0 k = M.1 0 k) ∧ s.1 3 = N 3 ∧ s.1 4 = N 4) cnt (by omega) _ _ ⟨rfl, rfl, h, FM.rf, fun _ _ => rfl, rfl, fun _ => rfl, rfl, rfl⟩ ?_
  rintro k k' j ⟨A, x⟩ ⟨B, y⟩ hj ⟨rfl, rfl, hT, hF, hK, hO, hZ, hY, hX⟩
  dsimp only at hT hF hK hO hZ hY hX ⊢
  obtain ⟨hst, htk, hph, hfd, hpu⟩ := id hT
  have e5 : B.1 1 5 = nI cnt := hst.2.1.2
  have e0 : A 0 0 = nI cnt := hst.2.1.1
  unfold m_X1_fire_70_step m_X5_fires_70_step
  dsimp only
  rw [if_pos (show sk_in (5 : Int32) 378 = true by decide), show ((5 : Int32)).toNatClampNeg = 5 from rfl]
  have c5 : B.1 1 5 ≤ nI j ↔ cnt ≤ j := by rw [e5]; exact nI_leI (by omega) (by omega)
  have c0 : A 0 0 ≤ nI j ↔ cnt ≤ j := by rw [e0]; exact nI_leI (by omega) (by omega)
  by_cases hjc : j = cnt
  · subst hjc
    rw [if_pos (c0.mpr (Nat.le_refl _)), if_pos (c5.mpr (Nat.le_refl _))]
    exact Or.inl ⟨A, B, rfl, rfl, hT, hF, hK, hO, hZ, hY, hX⟩
  · have hlt : j < cnt := by omega
    right
    refine ⟨hlt, ?_⟩
    rw [if_neg (fun e => absurd (c0.mp e) (by omega)), if_neg (fun e => absurd (c5.mp e) (by omega)), v_delayBetween (by omega) (by omega), v_delay (by omega) (by omega)]
    simp only [pu_some]
    obtain ⟨r1, r2, r3, r4, r5⟩ := hst.2.2.2.2.2 c j (by omega) (by omega)
    rw [← r1]
    by_cases hd : A 6 (10 * c + j) ≤ 0
    · rw [if_pos hd, if_pos hd]
      exact ⟨_, _, rfl, rfl, nI_1 j, nI_1 j, hT, hF, hK, hO, hZ, hY, hX⟩
    · rw [if_neg hd, if_neg hd]
      rcases r2 with r2 | ⟨d, hd9, r2⟩
      · exact absurd (by rw [r2]; decide) hd
      · have hd1 : 1 ≤ d := by
          rcases Nat.eq_zero_or_pos d with h0 | h0
          · subst h0
            exact absurd (by rw [r2]; decide) hd
          · exact h0
        have eT : A 0 3 = nI T1 := htk.2.2.1
        have hT1 := htk.1
        rw [r2, eT, nI_add, v_slotOf (by omega)]
        simp only [pu_some]
        have hm : (T1 + d) % 16 < 16 := Nat.mod_lt _ (by omega)
        have e6 : ((158 : Int32) + ((10 : Int32) * nI c)) + nI j = nI (158 + (10 * c + j)) := by
          rw [show (158 : Int32) = nI 158 from rfl, show (10 : Int32) = nI 10 from rfl, pk_mul, nI_add, nI_add, Nat.add_assoc]
        rw [nI_add, e6]
        rw [if_pos (pu_inT (show (T1 + d) % 16 * 10 + j < 160 by omega) (by omega)), if_pos (pu_inT (show (T1 + d) % 16 * 10 + j < 160 by omega) (by omega)), if_pos (pu_inT (show 158 + (10 * c + j) < 378 by omega) (by omega)), if_pos (pu_inT (show 158 + (10 * c + j) < 378 by omega) (by omega)), nI_clamp (by omega), nI_clamp (by omega), pu_shl (show c < 30 by omega), pu_shl (show d < 30 by omega)]
        simp only [pu_let]
        refine ⟨_, _, rfl, rfl, nI_1 j, nI_1 j, ?_⟩
        dsimp only
        refine ⟨⟨?_, ?_, ?_, ?_, ?_⟩, ?_, ?_, ?_, ?_, by rw [pu_row (by omega)]; exact hY, by rw [pu_row (by omega)]; exact hX⟩
        · exact hst.keep (by rw [pu_row (by omega)]) (by rw [pu_row (by omega)]) (pu_row (by omega)) (pu_row (by omega)) (pu_row (by omega)) (pu_row (by omega)) (pu_row (by omega)) (fun x hx => by rw [pu_m, if_neg (by omega)])
        · exact htk.keep (by rw [pu_row (by omega)]) (by rw [pu_m, if_neg (by omega)])
        · exact hph.keep h10 (pu_row (by omega)) (fun x h1 h2 => by rw [pu_m, if_neg (by omega)]) (fun _ _ => Nat.le_refl _)
        · obtain ⟨f1, f2, f3, f4, f5, f6, f7, f8⟩ := hfd
          refine ⟨f1, by rw [pu_row (by omega)]; exact f2, by rw [pu_m, if_neg (by omega)]; exact f3, by rw [pu_row (by omega)]; exact f4, by rw [pu_mrow (by omega)]; exact f5, f6, f7, fun k o hk => ?_⟩
          rw [pu_row (by omega), pu_mrow (by omega)]
          exact f8 k o hk
        · rw [pu_row1]
          exact hpu.put hc hlt h10 hd1 hd9
        · exact hF.tr ⟨fun j h0 h1 h5 => pu_mrow h1, fun k hk => by rw [pu_mrow (by omega)], rfl, fun x hx => by rw [pu_m, if_neg (by omega)]⟩
        · intro x hx
          rw [pu_m, if_neg (by omega)]
          exact hK x hx
        · rw [pu_mrow (by omega)]; exact hO
        · intro k
          rw [pu_mrow (by omega)]; exact hZ k
