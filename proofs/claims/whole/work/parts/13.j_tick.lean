/-! a tick -/
theorem pu_m2 {x : Nat} (h : x < 1024) : nI x &&& (-nI 2) = nI (x &&& 1022) := by
  have : ∀ x : Fin 1024, nI x.val &&& (-nI 2) = nI (x.val &&& 1022) := by decide +kernel
  exact this ⟨x, h⟩
theorem pu_m1 {x : Nat} (h : x < 1024) : nI x &&& nI 1 = nI (x % 2) := by
  rw [pu_and (by omega) (by omega), Nat.and_one_is_mod]
theorem pu_hb1 {q d : Nat} (hq : q < 1024) : (q / 2 &&& 1022).testBit d = if d = 0 then false else q.testBit (d + 1) := by
  rw [Nat.testBit_and]
  have e : (q / 2).testBit d = q.testBit (d + 1) := by
    rw [Nat.testBit_eq_decide_div_mod_eq, Nat.testBit_eq_decide_div_mod_eq, Nat.div_div_eq_div_mul, Nat.pow_succ, Nat.mul_comm]
  rw [e]
  by_cases h0 : d = 0
  · subst h0; rw [if_pos rfl]; simp
  · rw [if_neg h0]
    by_cases h10 : d < 10
    · have : ∀ d : Fin 10, d.val ≠ 0 → (1022 : Nat).testBit d.val = true := by decide
      rw [this ⟨d, h10⟩ h0]; simp
    · have : q.testBit (d + 1) = false := Nat.testBit_lt_two_pow (Nat.lt_of_lt_of_le hq (Nat.pow_le_pow_right (n := 2) (by omega) (show 10 ≤ d + 1 by omega)))
      rw [this]; rfl
theorem s_shift {w0 : Nat → Nat} {M : sk_M} (h : ∀ k, k < 100 → w0 k < 1024 ∧ M.1 1 (158 + k) = nI (w0 k)) :
    ∃ M', m_X5_ticks_25 (M, 0) = m_X5_ticks_75 (M', 0) ∧ (∀ k, k < 100 → M'.1 1 (158 + k) = nI (w0 k / 2 &&& 1022) ∧ M'.1 6 k = nI (w0 k / 2 % 2)) ∧ (∀ x, x < 158 ∨ 258 ≤ x → M'.1 1 x = M.1 1 x) ∧ (∀ j, j ≠ 1 → j ≠ 6 → M'.1 j = M.1 j) ∧ M'.2 = M.2 := by
  refine lp_F (step := m_X5_ticks_25_step) (fun y => ∃ M', y = m_X5_ticks_75 (M', 0) ∧ (∀ k, k < 100 → M'.1 1 (158 + k) = nI (w0 k / 2 &&& 1022) ∧ M'.1 6 k = nI (w0 k / 2 % 2)) ∧ (∀ x, x < 158 ∨ 258 ≤ x → M'.1 1 x = M.1 1 x) ∧ (∀ j, j ≠ 1 → j ≠ 6 → M'.1 j = M.1 j) ∧ M'.2 = M.2)
    (fun i s => s.2 = nI i ∧ (∀ k, k < i → s.1.1 1 (158 + k) = nI (w0 k / 2 &&& 1022) ∧ s.1.1 6 k = nI (w0 k / 2 % 2)) ∧ (∀ x, x < 158 ∨ 158 + i ≤ x → s.1.1 1 x = M.1 1 x) ∧ (∀ j, j ≠ 1 → j ≠ 6 → s.1.1 j = M.1 j) ∧ s.1.2 = M.2) 100 (by omega) (M, 0) ⟨rfl, fun k hk => absurd hk (by omega), fun _ _ => rfl, fun _ _ _ => rfl, rfl⟩ ?_
  rintro k i ⟨A, x⟩ hi ⟨rfl, h1, h2, h3, h4⟩
  dsimp only at h1 h2 h3 h4 ⊢
  unfold m_X5_ticks_25_step
  dsimp only
  by_cases hic : i = 100
  · subst hic
    left
    rw [if_pos (show (100 : Int32) ≤ nI 100 by decide)]
    exact ⟨A, rfl, h1, fun x hx => h2 x (by omega), h3, h4⟩
  · right
    refine ⟨by omega, ?_⟩
    obtain ⟨g1, g2⟩ := h i (by omega)
    have e1 : A.1 1 (158 + i) = nI (w0 i) := by rw [h2 _ (by omega)]; exact g2
    have sh : sk_shr (nI (w0 i)) (nI 1) = nI (w0 i / 2) := by rw [pu_shr (by omega) (by omega)]
    simp (disch := omega) only [pu_lit, pu_let, pu_some, pu_xb, pu_xe, pu_hb, pu_he, nI_add, pk_mul, pk_sub, nI_clamp, pu_inT, nI_leI, nI_ltI, nI_eq, if_pos, if_neg, ↓reduceIte, true_and, and_true, and_self, not_true_eq_false, not_false_eq_true, reduceCtorEq, e1, sh, pu_m1, pu_m2]
    refine ⟨_, rfl, rfl, ?_⟩
    dsimp only
    refine ⟨fun k hk => ?_, fun x hx => ?_, fun j a b => by rw [pu_mrow a, pu_mrow b]; exact h3 j a b, h4⟩
    · rw [pu_m, pu_mrow (by omega), pu_mrow (by omega), pu_m]
      by_cases e : k = i
      · subst e
        rw [if_pos ⟨rfl, rfl⟩, if_pos ⟨rfl, rfl⟩]
        exact ⟨rfl, rfl⟩
      · rw [if_neg (by omega), if_neg (by omega)]
        exact h1 k (by omega)
    · rw [pu_m, if_neg (by omega), pu_mrow (by omega)]
      exact h2 x (by omega)
/-- the pulses, one tick later -/
theorem PU.shift {cnt T : Nat} {N : sk_N} {M : sk_M} (h : PU cnt T (fun _ _ => false) N (M.1 1)) : ∃ (ar : Nat → Nat → Bool) (M' : sk_M), m_X5_ticks_25 (M, 0) = m_X5_ticks_75 (M', 0) ∧ PU cnt (T + 1) ar N (M'.1 1) ∧ AR ar M' ∧ (∀ a b, ar a b = true → a < 10) ∧ (∀ x, x < 158 ∨ 258 ≤ x → M'.1 1 x = M.1 1 x) ∧ (∀ j, j ≠ 1 → j ≠ 6 → M'.1 j = M.1 j) ∧ M'.2 = M.2 := by
  obtain ⟨ha, hb⟩ := h
  have hw : ∀ k, k < 100 → (M.1 1 (158 + k)).toNatClampNeg < 1024 ∧ M.1 1 (158 + k) = nI (M.1 1 (158 + k)).toNatClampNeg := fun k hk => by
    obtain ⟨q, q1, q2, -⟩ := hb (k / 10) (k % 10) (by omega) (by omega)
    rw [show 10 * (k / 10) + k % 10 = k by omega] at q2
    rw [q2, nI_clamp (by omega)]
    exact ⟨q1, rfl⟩
  obtain ⟨M', m1, m2, m3, m4, m5⟩ := s_shift hw
  refine ⟨fun a b => decide (a < 10) && (M.1 1 (158 + (10 * a + b))).toNatClampNeg.testBit 1, M', m1, ⟨ha, fun a b ha' hb' => ?_⟩, fun a b ha' hb' => ?_, fun a b e => by simp at e; exact e.1, m3, m4, m5⟩
  · obtain ⟨q, q1, q2, q3, q4, q5, q6⟩ := hb a b ha' hb'
    obtain ⟨g1, g2⟩ := m2 (10 * a + b) (by omega)
    rw [q2, nI_clamp (by omega)] at g1
    have hq2 : q / 2 &&& 1022 < 1024 := Nat.lt_of_le_of_lt Nat.and_le_right (by omega)
    refine ⟨q / 2 &&& 1022, hq2, g1, by rw [pu_hb1 q1, if_pos rfl], fun hne => q4 (fun e => hne (by rw [e]; rfl)), fun e => q4 (fun e0 => ?_), fun d hd => ?_⟩
    · dsimp only at e
      rw [q2, nI_clamp (by omega), e0] at e
      simp at e
    · dsimp only
      rw [q2, nI_clamp (by omega), pu_hb1 q1]
      by_cases h15 : d = 15
      · subst h15
        have := q6 0 (by omega)
        rw [if_pos rfl] at this
        rw [show (T + 1 + 15) % 16 = (T + 0) % 16 by omega, this, if_neg (by omega), if_neg (by omega)]
        exact (Nat.testBit_lt_two_pow (Nat.lt_of_lt_of_le q1 (Nat.pow_le_pow_right (n := 2) (by omega) (show 10 ≤ 15 + 1 by omega)))).symm
      · have := q6 (d + 1) (by omega)
        rw [if_neg (by omega)] at this
        rw [show T + 1 + d = T + (d + 1) by omega, this]
        by_cases h0 : d = 0
        · subst h0; simp [ha']
        · rw [if_neg h0, if_neg h0]
  · obtain ⟨q, q1, q2, -⟩ := hb a b ha' hb'
    rw [(m2 (10 * a + b) (by omega)).2]
    have e : (M.1 1 (158 + (10 * a + b))).toNatClampNeg = q := by rw [q2, nI_clamp (by omega)]
    show nI _ = nI (if (decide (a < 10) && (M.1 1 (158 + (10 * a + b))).toNatClampNeg.testBit 1) = true then 1 else 0)
    rw [e]
    have : q.testBit 1 = decide (q / 2 % 2 = 1) := by rw [Nat.testBit_eq_decide_div_mod_eq]
    rcases Nat.mod_two_eq_zero_or_one (q / 2) with h2 | h2 <;> simp [h2, this, ha']
/-- at rest -/
def RX (cnt P T1 T2 : Nat) (N : sk_N) (w : Nat → Int32) : Prop := ST cnt P N w ∧ TK T1 T2 N w ∧ PH cnt (fun _ => P) N w ∧ PU cnt T1 (fun _ _ => false) N w ∧ RT cnt T1 T2 N
/-- what of the model a whole tick leaves alone -/
def FT (M M' : sk_M) : Prop := (∀ j, j ≠ 0 → j ≠ 1 → j ≠ 5 → j ≠ 6 → M'.1 j = M.1 j) ∧ (∀ k, k ≠ 8 → M'.1 0 k = M.1 0 k) ∧ M'.2 = M.2 ∧ ∀ x, x < 4 ∨ x = 5 ∨ (18 ≤ x ∧ x < 158) → M'.1 1 x = M.1 1 x
theorem FT.rf {M : sk_M} : FT M M := ⟨fun _ _ _ _ _ => rfl, fun _ _ => rfl, rfl, fun _ _ => rfl⟩
theorem FT.tr {A B C : sk_M} (h : FT A B) (g : FT B C) : FT A C := ⟨fun j a b c d => (g.1 j a b c d).trans (h.1 j a b c d), fun k a => (g.2.1 k a).trans (h.2.1 k a), g.2.2.1.trans h.2.2.1, fun x hx => (g.2.2.2 x hx).trans (h.2.2.2 x hx)⟩
theorem FM.ft {M M' : sk_M} (h : FM M M') : FT M M' := ⟨fun j a b c _ => h.1 j a b c, h.2.1, h.2.2⟩
/-- one tick of the class, without its notes -/
def tkN (N : sk_N) : Option sk_N := (m_X1_advancePhases (sk_up (sk_up (sk_up N 0 3 (N 0 3 + 1)) 0 4 0) 0 13 0)).bind (fun r => (m_X1_fireRipeClocks r).bind (fun r => (m_X1_fireBlinkers r).bind (fun r => (m_X1_deliverDelayedPulses r).bind (fun r => m_X1_deliverPulsesAtOnce r))))
theorem m_ticks_eq (M : sk_M) : m_X5_ticks M = m_X5_ticks_25 (md_up (md_up (md_up M 1 4 (M.1 1 4 + 1)) 1 6 0) 0 8 0, 0) := by
  unfold m_X5_ticks
  rw [if_pos (show sk_in (4 : Int32) 378 = true by decide), if_pos (show sk_in (4 : Int32) 378 = true by decide)]
  simp only [pu_let]
  rw [if_pos (show sk_in (6 : Int32) 378 = true by decide), pu_lit4, pu_lit6]
theorem t_tick0 {cnt P T1 T2 : Nat} {nl : List (Nat × Nat)} {N : sk_N} {M : sk_M} (h : RX cnt P T1 T2 N (M.1 1)) (hn : NS (T2 + 1) nl [] M) (hb1 : T1 + 1 < 2 ^ 29) (hb2 : T2 + 1 < 2 ^ 29) :
    ∃ ar N0 M1, sk_up (sk_up (sk_up N 0 3 (N 0 3 + 1)) 0 4 0) 0 13 0 = N0 ∧ m_X5_ticks M = m_X5_ticks_75 (M1, 0) ∧ TM cnt P (T1 + 1) (T2 + 1) 0 [] ar (fun _ => P) N0 M1 ∧ NS (T2 + 1) nl [] M1 ∧ RT cnt (T1 + 1) (T2 + 1) N0 ∧ AR ar M1 ∧ (∀ a b, ar a b = true → a < 10) ∧ FT M M1 := by
  obtain ⟨hst, htk, hph, hpu, hrt⟩ := h
  have h10 : cnt ≤ 10 := hst.1.1
  generalize hN0 : sk_up (sk_up (sk_up N 0 3 (N 0 3 + 1)) 0 4 0) 0 13 0 = N0
  generalize hM0 : md_up (md_up (md_up M 1 4 (M.1 1 4 + 1)) 1 6 0) 0 8 0 = M0
  have n1 : ∀ j, j ≠ 0 → N0 j = N j := fun j h0 => by rw [← hN0, pu_row h0, pu_row h0, pu_row h0]
  have n0 : ∀ k, k ≠ 3 → k ≠ 4 → k ≠ 13 → N0 0 k = N 0 k := fun k a b c => by rw [← hN0, pu_sup, if_neg (by omega), pu_sup, if_neg (by omega), pu_sup, if_neg (by omega)]
  have n3 : N0 0 3 = nI (T1 + 1) := by rw [← hN0, pu_sup, if_neg (by omega), pu_sup, if_neg (by omega), pu_sup, if_pos ⟨rfl, rfl⟩, htk.2.2.1, nI_1]
  have n4 : N0 0 4 = nI 0 := by rw [← hN0, pu_sup, if_neg (by omega), pu_sup, if_pos ⟨rfl, rfl⟩]; rfl
  have n13 : N0 0 13 = nI 0 := by rw [← hN0, pu_sup, if_pos ⟨rfl, rfl⟩]; rfl
  have k1 : ∀ x, x ≠ 4 → x ≠ 6 → M0.1 1 x = M.1 1 x := fun x a b => by rw [← hM0, pu_mrow (by omega), pu_m, if_neg (by omega), pu_m, if_neg (by omega)]
  have k4 : M0.1 1 4 = nI (T2 + 1) := by rw [← hM0, pu_mrow (by omega), pu_m, if_neg (by omega), pu_m, if_pos ⟨rfl, rfl⟩, htk.2.2.2, nI_1]
  have k6 : M0.1 1 6 = nI 0 := by rw [← hM0, pu_mrow (by omega), pu_m, if_pos ⟨rfl, rfl⟩]; rfl
  have k8 : M0.1 0 8 = nI 0 := by rw [← hM0, pu_m, if_pos ⟨rfl, rfl⟩]; rfl
  have k0 : ∀ k, k ≠ 8 → M0.1 0 k = M.1 0 k := fun k a => by rw [← hM0, pu_m, if_neg (by omega), pu_mrow (by omega), pu_mrow (by omega)]
  have kj : ∀ j, j ≠ 0 → j ≠ 1 → M0.1 j = M.1 j := fun j a b => by rw [← hM0, pu_mrow a, pu_mrow b, pu_mrow b]
  have kh : M0.2 = M.2 := by rw [← hM0]; rfl
  have hpu0 : PU cnt T1 (fun _ _ => false) N0 (M0.1 1) := hpu.keep (n1 7 (by omega)) (fun x a b => k1 x (by omega) (by omega))
  obtain ⟨ar, M1, s1, s2, s3, s4, s5, s6, s7⟩ := hpu0.shift
  have hT : TM cnt P (T1 + 1) (T2 + 1) 0 [] ar (fun _ => P) N0 M1 := by
    refine ⟨hst.keep (n0 0 (by omega) (by omega) (by omega)) (n0 1 (by omega) (by omega) (by omega)) (n1 1 (by omega)) (n1 3 (by omega)) (n1 4 (by omega)) (n1 5 (by omega)) (n1 6 (by omega)) (fun x hx => by rw [s5 x (by omega)]; exact k1 x (by omega) (by omega)), ⟨by omega, by omega, n3, by rw [s5 4 (by omega)]; exact k4⟩, hph.keep h10 (n1 2 (by omega)) (fun x a b => by rw [s5 x (by omega)]; exact k1 x (by omega) (by omega)) (fun _ _ => Nat.le_refl _), ⟨by omega, n4, by rw [s5 6 (by omega)]; exact k6, n13, by rw [s6 0 (by omega) (by omega)]; exact k8, by decide, fun i hi => by simp at hi, fun k o hk => by simp at hk⟩, s2⟩
  have hn1 : NS (T2 + 1) nl [] M1 := hn.keep (by rw [s6 0 (by omega) (by omega)]; exact k0 10 (by omega)) (fun x hx => by rw [s5 x (by omega)]; exact k1 x (by omega) (by omega))
  have hrt' : RT cnt (T1 + 1) (T2 + 1) N0 := by
    intro c hc
    have := hrt c hc
    rw [n1 3 (by omega), n1 4 (by omega), show (((T1 + 1 : Nat) : Int) - ((T2 + 1 : Nat) : Int)) = (T1 : Int) - T2 by omega]
    exact this
  refine ⟨ar, N0, M1, rfl, ?_, hT, hn1, hrt', s3, s4, ?_⟩
  · rw [m_ticks_eq, hM0, s1]
  · exact ⟨fun j a b c d => by rw [s6 j b d]; exact kj j a b, fun k a => by rw [s6 0 (by omega) (by omega)]; exact k0 k a, s7.trans kh, fun x hx => by rw [s5 x (by omega)]; exact k1 x (by omega) (by omega)⟩
theorem t_tick {cnt P T1 T2 : Nat} {nl : List (Nat × Nat)} {N : sk_N} {M : sk_M} (h : RX cnt P T1 T2 N (M.1 1)) (hn : NS (T2 + 1) nl [] M) (hb1 : T1 + 1 < 2 ^ 29) (hb2 : T2 + 1 < 2 ^ 29) :
    ∃ N' M' F ol, tkN N = some N' ∧ m_X5_ticks M = some (nI ol.length, M') ∧ RX cnt P (T1 + 1) (T2 + 1) N' (M'.1 1) ∧ FD cnt F ol N' M' ∧ NS (T2 + 1) nl ol M' ∧ FT M M' := by
  obtain ⟨ar, N0, M1, hN0, s1, hT, hn1, hrt', s3, s4, f1⟩ := t_tick0 h hn hb1 hb2
  obtain ⟨N2, M2, a1, a2, a3, a4, a5⟩ := s_adv hT hn1 hrt'
  have a3' : TM cnt P (T1 + 1) (T2 + 1) 0 [] ar (fun c => if gb N2 c = true then P + 2 else P) N2 M2 := by rw [gb_4 a5.2.2]; exact a3
  obtain ⟨N3, M3, b1, b2, ⟨F3, ol3, b3, b4, b5⟩, b6⟩ := s_ripe a3' a4
  have q3 := a5.tr b6
  obtain ⟨N4, M4, c1, c2, c3, c4⟩ := s_blink b3 b4 (fun i hi => by rw [gb_4 b6.2.2]; exact b5 i hi) (hrt'.keep q3.2.1 q3.2.2) hb1 hb2
  have q4 := q3.tr c4
  obtain ⟨N5, M5, d1, d2, d3, d4⟩ := s_late c3 (fun a b ha hb => by rw [q4.1.1 6 (by omega) (by omega) (by omega)]; exact s3 a b ha hb) s4
  have q5 := q4.tr d4
  obtain ⟨N6, M6, e1, e2, ⟨F6, ol6, e3, e4, -⟩, e5⟩ := s_once d3
  have q6 := q5.tr e5
  refine ⟨N6, M6, F6, ol6, ?_, ?_, ⟨e3.1, e3.2.1, e3.2.2.1, e3.2.2.2.2, hrt'.keep q6.2.1 q6.2.2⟩, e3.2.2.2.1, e4, f1.tr q6.1.ft⟩
  · unfold tkN
    rw [hN0, a1, pu_some, b1, pu_some, c1, pu_some, d1, pu_some, e1]
  · rw [s1, a2, b2, c2, d2, e2, e3.2.2.2.1.2.2.2.2.1]
