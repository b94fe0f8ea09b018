/-! the stages of a tick -/
theorem srem_toInt {T : Nat} {d : Int32} (hT : T < 2 ^ 30) (h0 : d.toInt ≠ 0) (h1 : -99 ≤ d.toInt) (h2 : d.toInt ≤ 99) : (sk_rem (nI T) d).toInt = (T : Int).tmod d.toInt := by
  have e0 : (nI T).toInt = (T : Int) := nI_toInt (by omega)
  unfold sk_rem
  have e1 : (nI T / d).toInt = ((T : Int).tdiv d.toInt).bmod (2 ^ 32) := by rw [Int32.toInt_div, e0]
  rw [Int32.toInt_sub, Int32.toInt_mul, e1, e0]
  have e3 : ((T : Int).tdiv d.toInt).natAbs ≤ T := by
    rw [Int.natAbs_tdiv]
    exact Nat.div_le_self _ _
  have e4 : ((T : Int).tdiv d.toInt).bmod (2 ^ 32) = (T : Int).tdiv d.toInt := by
    apply Int.bmod_eq_of_le <;> omega
  have e5 : (T : Int) = (T : Int).tdiv d.toInt * d.toInt + (T : Int).tmod d.toInt := (Int.tdiv_mul_add_tmod _ _).symm
  have e6 : ((T : Int).tmod d.toInt).natAbs < d.toInt.natAbs := by
    rw [Int.natAbs_tmod]
    exact Nat.mod_lt _ (by omega)
  have e7 : 0 ≤ (T : Int).tmod d.toInt := Int.tmod_nonneg _ (by omega)
  rw [e4]
  have e8 : ((T : Int).tdiv d.toInt * d.toInt).bmod (2 ^ 32) = (T : Int).tdiv d.toInt * d.toInt := by
    apply Int.bmod_eq_of_le <;> omega
  rw [e8]
  have e9 : (T : Int) - (T : Int).tdiv d.toInt * d.toInt = (T : Int).tmod d.toInt := by omega
  rw [e9]
  apply Int.bmod_eq_of_le <;> omega
theorem srem_zero {T : Nat} {d : Int32} (hT : T < 2 ^ 30) (h0 : d.toInt ≠ 0) (h1 : -99 ≤ d.toInt) (h2 : d.toInt ≤ 99) : sk_rem (nI T) d = 0 ↔ d.toInt ∣ (T : Int) := by
  rw [← Int32.toInt_inj, srem_toInt hT h0 h1 h2, Int32.toInt_zero]
  exact Int.dvd_iff_tmod_eq_zero.symm
/-- the times are alike, as far as a clock sees them -/
def RT (cnt T1 T2 : Nat) (N : sk_N) : Prop := ∀ c, c < cnt → (N 4 c = 0 → N 3 c = 0 ∨ (N 3 c).toInt ∣ ((T1 : Int) - (T2 : Int))) ∧ (N 4 c ≠ 0 → (N 4 c).toInt ∣ ((T1 : Int) - (T2 : Int)))
theorem RT.keep {cnt T1 T2 : Nat} {N N' : sk_N} (h : RT cnt T1 T2 N) (h3 : N' 3 = N 3) (h4 : N' 4 = N 4) : RT cnt T1 T2 N' := fun c hc => by rw [h3, h4]; exact h c hc
theorem RT.same {cnt T : Nat} {N : sk_N} : RT cnt T T N := fun c _ => by simp
def TQ (N : sk_N) (M : sk_M) (N' : sk_N) (M' : sk_M) : Prop := FM M M' ∧ N' 3 = N 3 ∧ N' 4 = N 4
theorem TQ.rf {N : sk_N} {M : sk_M} : TQ N M N M := ⟨FM.rf, rfl, rfl⟩
theorem TQ.tr {A B C : sk_N} {K L M : sk_M} (h : TQ A K B L) (g : TQ B L C M) : TQ A K C M := ⟨h.1.tr g.1, g.2.1.trans h.2.1, g.2.2.trans h.2.2⟩
theorem sne_toInt {x : Int32} (h : x ≠ 0) : x.toInt ≠ 0 := fun e => h (Int32.toInt_inj.mp (by rw [e]; rfl))
theorem st_alike {T1 T2 : Nat} {d : Int32} (hT1 : T1 < 2 ^ 30) (hT2 : T2 < 2 ^ 30) (h0 : d ≠ 0) (h1 : -99 ≤ d.toInt) (h2 : d.toInt ≤ 99) (h : d.toInt ∣ ((T1 : Int) - (T2 : Int))) : sk_rem (nI T1) d = 0 ↔ sk_rem (nI T2) d = 0 := by
  rw [srem_zero hT1 (sne_toInt h0) h1 h2, srem_zero hT2 (sne_toInt h0) h1 h2]
  constructor
  · intro g
    have := Int.dvd_sub g h
    rwa [show (T1 : Int) - ((T1 : Int) - T2) = T2 by omega] at this
  · intro g
    have := Int.dvd_add h g
    rwa [show (T1 : Int) - T2 + T2 = T1 by omega] at this
theorem v_stepOf {cnt P T1 T2 c : Nat} {N : sk_N} {M : sk_M} (hs : ST cnt P N (M.1 1)) (hk : TK T1 T2 N (M.1 1)) (hr : RT cnt T1 T2 N) (hc : c < cnt) (h4 : N 4 c = 0) : ∃ x : Nat, x ≤ 2 ∧ m_X1_stepOf N (nI c) = some (nI x) ∧ m_X5_stepOf M (nI c) = some (nI x) := by
  have h10 : cnt ≤ 10 := hs.1.1
  obtain ⟨g1, g2, g3, -⟩ := hs.2.2.2.2.1.1 c hc
  obtain ⟨k1, k2, k3, k4⟩ := hk
  have e3 : sk_in (nI c) 10 = true := pu_inT (by omega) (by omega)
  have e18 : (18 : Int32) + nI c = nI (18 + c) := by rw [show (18 : Int32) = nI 18 from rfl, nI_add]
  have i18 : sk_in (nI (18 + c)) 378 = true := pu_inT (by omega) (by omega)
  unfold m_X1_stepOf m_X5_stepOf
  rw [if_pos e3, e18, if_pos i18, nI_clamp (by omega), nI_clamp (by omega), ← g1]
  simp only [pu_let]
  rw [if_pos (show sk_in (4 : Int32) 378 = true by decide), pu_lit4, k3, k4]
  unfold m_X5_stepOf_29 m_X5_stepOf_30
  by_cases h0 : N 3 c = 0
  · rw [if_pos h0, if_pos h0]
    exact ⟨1, by omega, rfl, rfl⟩
  · rw [if_neg h0, if_neg h0, if_neg h0, if_neg h0]
    have hd : (N 3 c).toInt ∣ ((T1 : Int) - (T2 : Int)) := by
      rcases (hr c hc).1 h4 with h | h
      · exact absurd h h0
      · exact h
    have key := st_alike k1 k2 h0 (by omega) (by omega) hd
    by_cases hz : sk_rem (nI T1) (N 3 c) = 0
    · rw [if_pos hz, if_pos (key.mp hz)]
      dsimp only
      rw [if_neg (show ¬ (1 : Int32) = 0 by decide)]
      by_cases hp : N 3 c ≤ 0
      · rw [if_pos hp]
        exact ⟨0, by omega, rfl, rfl⟩
      · rw [if_neg hp]
        exact ⟨2, by omega, rfl, rfl⟩
    · rw [if_neg hz, if_neg (fun e => hz (key.mpr e))]
      exact ⟨1, by omega, rfl, rfl⟩
/-- a good clock -/
def gb (N : sk_N) (c : Nat) : Bool := decide (N 4 c = 0)
theorem gb_t {N : sk_N} {c : Nat} (h : N 4 c = 0) : gb N c = true := decide_eq_true h
theorem gb_f {N : sk_N} {c : Nat} (h : ¬ N 4 c = 0) : gb N c = false := decide_eq_false h
theorem gb_4 {N N' : sk_N} (h : N' 4 = N 4) : gb N' = gb N := by funext c; unfold gb; rw [h]
theorem s_adv {cnt P T1 T2 F : Nat} {ol : List Nat} {nl : List (Nat × Nat)} {ar : Nat → Nat → Bool} {N : sk_N} {M : sk_M} (h : TM cnt P T1 T2 F ol ar (fun _ => P) N M) (hn : NS T2 nl ol M) (hr : RT cnt T1 T2 N) :
    ∃ N' M', m_X1_advancePhases N = some N' ∧ m_X5_ticks_75 (M, 0) = m_X5_ticks_127 (M', 0) ∧ TM cnt P T1 T2 F ol ar (fun c => if gb N c = true then P + 2 else P) N' M' ∧ NS T2 nl ol M' ∧ TQ N M N' M' := by
  have h10 : cnt ≤ 10 := h.1.1.1
  refine lp_LF (step := m_X1_advancePhases_2_step) (step' := m_X5_ticks_75_step) (fun y y' => ∃ N' M', y = some N' ∧ y' = m_X5_ticks_127 (M', 0) ∧ TM cnt P T1 T2 F ol ar (fun c => if gb N c = true then P + 2 else P) N' M' ∧ NS T2 nl ol M' ∧ TQ N M N' M')
    (fun j s s' => s.2 = nI j ∧ s'.2 = nI j ∧ TM cnt P T1 T2 F ol ar (fun c => if gb N c = true ∧ c < j then P + 2 else P) s.1 s'.1 ∧ NS T2 nl ol s'.1 ∧ TQ N M s.1 s'.1) cnt (by omega) _ _ ⟨rfl, rfl, by simpa using h, hn, TQ.rf⟩ ?_
  rintro k k' j ⟨A, x⟩ ⟨B, y⟩ hj ⟨rfl, rfl, hT, hN, hQ⟩
  dsimp only at hT hN hQ ⊢
  have hst := hT.1
  have htk := hT.2.1
  have hph := hT.2.2.1
  have e5 : B.1 1 5 = nI cnt := hst.2.1.2
  have e0 : A 0 0 = nI cnt := hst.2.1.1
  unfold m_X1_advancePhases_2_step m_X5_ticks_75_step
  dsimp only
  by_cases hjc : j = cnt
  · subst hjc
    simp (disch := omega) only [pu_lit, pu_let, pu_some, pu_xb, pu_xe, pu_hb, pu_he, nI_add, pk_mul, pk_sub, nI_clamp, pu_inT, nI_leI, nI_ltI, nI_eq, if_pos, if_neg, ↓reduceIte, true_and, and_true, and_self, not_true_eq_false, not_false_eq_true, reduceCtorEq, e5, e0]
    refine Or.inl ⟨A, B, rfl, rfl, ⟨hT.1, hT.2.1, ?_, hT.2.2.2⟩, hN, hQ⟩
    intro c hc
    obtain ⟨p, p1, p2⟩ := hph c hc
    refine ⟨p, ?_, p2⟩
    simpa [hc] using p1
  · have hlt : j < cnt := by omega
    right
    refine ⟨hlt, ?_⟩
    obtain ⟨p, p1, p2, p3⟩ := hph j hlt
    have p1 : p < P := by simpa using p1
    have hP := hst.1.2.2
    obtain ⟨g1, g2, g3, g4⟩ := hst.2.2.2.2.1.1 j hlt
    have a4 : A 4 j = N 4 j := by rw [hQ.2.2]
    rw [v_isGood (by omega)]
    rcases g4 with ⟨g5, g6⟩ | ⟨R, O, r1, r2, r3, r4, r5, -⟩
    · obtain ⟨x, x1, x2, x3⟩ := v_stepOf hst htk (hr.keep hQ.2.1 hQ.2.2) hlt g5
      have g6' : B.1 1 (28 + j) = nI 0 := g6
      simp (disch := omega) only [pu_lit, pu_let, pu_some, pu_xb, pu_xe, pu_hb, pu_he, nI_add, pk_mul, pk_sub, nI_clamp, pu_inT, nI_leI, nI_ltI, nI_eq, if_pos, if_neg, ↓reduceIte, true_and, and_true, and_self, not_true_eq_false, not_false_eq_true, reduceCtorEq, e5, e0, g5, g6', p2, p3, x2, x3, m_X5_ticks_117]
      refine ⟨_, _, rfl, rfl, rfl, rfl, ?_⟩
      dsimp only
      rcases hT.ph (q := p + x) (c := j) (bd' := fun c => if gb N c = true ∧ c < j + 1 then P + 2 else P) (fun c _ hc => by
        by_cases hh : gb N c = true ∧ c < j
        · rw [if_pos hh, if_pos ⟨hh.1, by omega⟩]; exact Nat.le_refl _
        · rw [if_neg hh]; split <;> omega) (by rw [if_pos ⟨gb_t (by rw [← a4]; exact g5), by omega⟩]; omega) with hh | hh
      · exact ⟨hh, hN.keep (by rw [pu_mrow (by omega)]) (fun x hx => by rw [pu_m, if_neg (by omega)]), hQ.tr ⟨⟨fun i _ h1 _ => pu_mrow h1, fun k _ => by rw [pu_mrow (by omega)], rfl, fun x hx => by rw [pu_m, if_neg (by omega)]⟩, pu_row (by omega), pu_row (by omega)⟩⟩
      · omega
    · have g6' : B.1 1 (28 + j) = nI 1 := r5
      have g5 : ¬ A 4 j = nI 0 := by rw [r4]; exact nI_ne0 (by omega) (by omega)
      simp (disch := omega) only [pu_lit, pu_let, pu_some, pu_xb, pu_xe, pu_hb, pu_he, nI_add, pk_mul, pk_sub, nI_clamp, pu_inT, nI_leI, nI_ltI, nI_eq, if_pos, if_neg, ↓reduceIte, true_and, and_true, and_self, not_true_eq_false, not_false_eq_true, reduceCtorEq, e5, e0, g5, g6', p3, m_X5_ticks_117]
      refine ⟨_, _, rfl, rfl, rfl, rfl, ?_⟩
      dsimp only
      rcases hT.ph (q := p) (c := j) (bd' := fun c => if gb N c = true ∧ c < j + 1 then P + 2 else P) (fun c _ hc => by
        by_cases hh : gb N c = true ∧ c < j
        · rw [if_pos hh, if_pos ⟨hh.1, by omega⟩]; exact Nat.le_refl _
        · rw [if_neg hh]; split <;> omega) (by split <;> omega) with hh | hh
      · have same : sk_up A 2 j (nI p) = A := by
          funext a b
          rw [pu_sup]
          by_cases q : a = 2 ∧ b = j
          · obtain ⟨rfl, rfl⟩ := q
            rw [if_pos ⟨rfl, rfl⟩, p2]
          · rw [if_neg q]
        rw [same] at hh
        exact ⟨hh, hN.keep (by rw [pu_mrow (by omega)]) (fun x hx => by rw [pu_m, if_neg (by omega)]), hQ.tr ⟨⟨fun i _ h1 _ => pu_mrow h1, fun k _ => by rw [pu_mrow (by omega)], rfl, fun x hx => by rw [pu_m, if_neg (by omega)]⟩, rfl, rfl⟩⟩
      · omega
