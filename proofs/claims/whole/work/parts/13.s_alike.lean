/-! alike situations -/
theorem srem_toInt' {x d : Int32} (hx : -(2 ^ 30) < x.toInt) (hx2 : x.toInt < 2 ^ 30) (h0 : d.toInt ≠ 0) (h1 : -99 ≤ d.toInt) (h2 : d.toInt ≤ 99) : (sk_rem x d).toInt = x.toInt.tmod d.toInt := by
  unfold sk_rem
  generalize hT : x.toInt = T at hx hx2
  have e1 : (x / d).toInt = (T.tdiv d.toInt).bmod (2 ^ 32) := by rw [Int32.toInt_div, hT]
  rw [Int32.toInt_sub, Int32.toInt_mul, e1, hT]
  have e3 : (T.tdiv d.toInt).natAbs ≤ T.natAbs := by
    rw [Int.natAbs_tdiv]
    exact Nat.div_le_self _ _
  have e4 : (T.tdiv d.toInt).bmod (2 ^ 32) = T.tdiv d.toInt := by
    apply Int.bmod_eq_of_le <;> omega
  have e5 : T = T.tdiv d.toInt * d.toInt + T.tmod d.toInt := (Int.tdiv_mul_add_tmod _ _).symm
  have e6 : (T.tmod d.toInt).natAbs < d.toInt.natAbs := by
    rw [Int.natAbs_tmod]
    exact Nat.mod_lt _ (by omega)
  rw [e4]
  have e8 : (T.tdiv d.toInt * d.toInt).bmod (2 ^ 32) = T.tdiv d.toInt * d.toInt := by
    apply Int.bmod_eq_of_le <;> omega
  rw [e8]
  have e9 : T - T.tdiv d.toInt * d.toInt = T.tmod d.toInt := by omega
  rw [e9]
  apply Int.bmod_eq_of_le <;> omega
theorem srem_zero' {x d : Int32} (hx : -(2 ^ 30) < x.toInt) (hx2 : x.toInt < 2 ^ 30) (h0 : d ≠ 0) (h1 : -99 ≤ d.toInt) (h2 : d.toInt ≤ 99) : sk_rem x d = 0 ↔ d.toInt ∣ x.toInt := by
  rw [← Int32.toInt_inj, srem_toInt' hx hx2 (sne_toInt h0) h1 h2, Int32.toInt_zero]
  exact Int.dvd_iff_tmod_eq_zero.symm
theorem srem_eq {T1 T2 : Nat} {d : Int32} (hT1 : T1 < 2 ^ 30) (hT2 : T2 < 2 ^ 30) (h0 : d ≠ 0) (h1 : -99 ≤ d.toInt) (h2 : d.toInt ≤ 99) : sk_rem (nI T1) d = sk_rem (nI T2) d ↔ d.toInt ∣ ((T1 : Int) - (T2 : Int)) := by
  rw [← Int32.toInt_inj, srem_toInt hT1 (sne_toInt h0) h1 h2, srem_toInt hT2 (sne_toInt h0) h1 h2, Int.tmod_eq_emod_of_nonneg (by omega), Int.tmod_eq_emod_of_nonneg (by omega), Int.emod_eq_emod_iff_emod_sub_eq_zero, Int.dvd_iff_emod_eq_zero]
def sx (x : Nat) : Prop := x < 4 ∨ x = 5 ∨ (18 ≤ x ∧ x < 158)
/-- how a clock sees the time -/
def CY (cnt : Nat) (w : Nat → Int32) (D : Int) : Prop := ∀ c, c < cnt → (w (28 + c) = 0 → w (18 + c) = 0 ∨ (w (18 + c)).toInt ∣ D) ∧ (w (28 + c) ≠ 0 → (w (38 + c)).toInt ∣ D)
theorem RT_CY {cnt P T1 T2 : Nat} {N : sk_N} {w : Nat → Int32} (h : ST cnt P N w) : RT cnt T1 T2 N ↔ CY cnt w ((T1 : Int) - T2) := by
  have key : ∀ c, c < cnt → (((N 4 c = 0 → N 3 c = 0 ∨ (N 3 c).toInt ∣ ((T1 : Int) - (T2 : Int))) ∧ (N 4 c ≠ 0 → (N 4 c).toInt ∣ ((T1 : Int) - (T2 : Int)))) ↔ ((w (28 + c) = 0 → w (18 + c) = 0 ∨ (w (18 + c)).toInt ∣ ((T1 : Int) - (T2 : Int))) ∧ (w (28 + c) ≠ 0 → (w (38 + c)).toInt ∣ ((T1 : Int) - (T2 : Int))))) := by
    intro c hc
    obtain ⟨g1, g2, g3, g4⟩ := h.2.2.2.2.1.1 c hc
    rw [← g1]
    rcases g4 with ⟨g5, g6⟩ | ⟨R, O, r1, r2, r3, r4, r5, r6, -⟩
    · rw [g5, g6]; simp
    · have n4 : ¬ N 4 c = 0 := by rw [r4]; exact nI_ne0 (by omega) (by omega)
      have n28 : ¬ w (28 + c) = 0 := by rw [r5]; decide
      rw [r6, ← r4]
      simp [n4, n28]
  exact ⟨fun hh c hc => (key c hc).mp (hh c hc), fun hh c hc => (key c hc).mpr (hh c hc)⟩
theorem CY.congr {cnt : Nat} {w w' : Nat → Int32} {D : Int} (hc : cnt ≤ 10) (h : CY cnt w D) (hw : ∀ x, sx x → w' x = w x) : CY cnt w' D := fun c hc' => by
  rw [hw (28 + c) (by unfold sx; omega), hw (18 + c) (by unfold sx; omega), hw (38 + c) (by unfold sx; omega)]
  exact h c hc'
theorem PU.uniq {cnt T : Nat} {ar ar' : Nat → Nat → Bool} {N : sk_N} {w w' : Nat → Int32} (h : PU cnt T ar N w) (h' : PU cnt T ar' N w') : ∀ k, k < 100 → w (158 + k) = w' (158 + k) := fun k hk => by
  obtain ⟨q, q1, q2, q3, q4, q5, q6⟩ := h.2 (k / 10) (k % 10) (by omega) (by omega)
  obtain ⟨p, p1, p2, p3, p4, p5, p6⟩ := h'.2 (k / 10) (k % 10) (by omega) (by omega)
  rw [show 10 * (k / 10) + k % 10 = k by omega] at q2 p2
  rw [q2, p2]
  congr 1
  apply Nat.eq_of_testBit_eq
  intro d
  by_cases h0 : d = 0
  · subst h0; rw [q3, p3]
  · by_cases h16 : d < 16
    · have a := q6 d h16
      have b := p6 d h16
      rw [if_neg h0] at a b
      rw [← a, ← b]
    · rw [Nat.testBit_lt_two_pow (Nat.lt_of_lt_of_le q1 (Nat.pow_le_pow_right (n := 2) (by omega) (show 10 ≤ d by omega))), Nat.testBit_lt_two_pow (Nat.lt_of_lt_of_le p1 (Nat.pow_le_pow_right (n := 2) (by omega) (show 10 ≤ d by omega)))]
theorem PH.uniq {cnt : Nat} {bd bd' : Nat → Nat} {N : sk_N} {w w' : Nat → Int32} (h : PH cnt bd N w) (h' : PH cnt bd' N w') : ∀ c, c < cnt → w (8 + c) = w' (8 + c) := fun c hc => by
  obtain ⟨p, -, p1, p2⟩ := h c hc
  obtain ⟨q, -, q1, q2⟩ := h' c hc
  rw [p2, q2, ← p1, ← q1]
/-- the model's way in thought -/
def TRJ (cnt P T H : Nat) (K : Nat → sk_M) : Prop := T + H < 2 ^ 29 ∧ (∀ i, i ≤ H → (K i).1 0 10 = 1 ∧ (∃ N L, RS cnt P (T + i) (T + i) N L (K i)) ∧ ∀ x, sx x → (K i).1 1 x = (K 0).1 1 x) ∧ ∀ i, i < H → ∃ r : Nat, m_X5_ticks (K i) = some (nI r, K (i + 1))
theorem trj_mk {cnt P T H : Nat} {N L : sk_N} {M : sk_M} (h : RS cnt P T T N L M) (h1 : M.1 0 10 = 1) (hb : T + H < 2 ^ 29) : ∃ K, K 0 = M ∧ TRJ cnt P T H K := by
  refine ⟨fun i => Nat.rec M (fun _ m => ((m_X5_ticks m).getD (0, M)).2) i, rfl, hb, ?_, ?_⟩
  all_goals
    have key : ∀ i, i ≤ H → ((Nat.rec M (fun _ m => ((m_X5_ticks m).getD (0, M)).2) i : sk_M).1 0 10 = 1 ∧ (∃ N L, RS cnt P (T + i) (T + i) N L (Nat.rec M (fun _ m => ((m_X5_ticks m).getD (0, M)).2) i : sk_M)) ∧ ∀ x, sx x → (Nat.rec M (fun _ m => ((m_X5_ticks m).getD (0, M)).2) i : sk_M).1 1 x = M.1 1 x) ∧ (i < H → ∃ r : Nat, m_X5_ticks (Nat.rec M (fun _ m => ((m_X5_ticks m).getD (0, M)).2) i : sk_M) = some (nI r, (Nat.rec M (fun _ m => ((m_X5_ticks m).getD (0, M)).2) (i + 1) : sk_M))) := by
      intro i
      induction i with
      | zero =>
        intro _
        refine ⟨⟨h1, ⟨N, L, h⟩, fun _ _ => rfl⟩, fun _ => ?_⟩
        obtain ⟨r, N', L', M', a1, a2, a3, a4⟩ := t_one h (by omega) (by omega)
        exact ⟨r, by show m_X5_ticks M = some (nI r, ((m_X5_ticks M).getD (0, M)).2); rw [a2]; rfl⟩
      | succ i ih =>
        intro hi
        obtain ⟨⟨b1, ⟨N1, L1, b2⟩, b3⟩, b4⟩ := ih (by omega)
        obtain ⟨r, N', L', M', a1, a2, a3, a4⟩ := t_one b2 (by omega) (by omega)
        have e : (Nat.rec M (fun _ m => ((m_X5_ticks m).getD (0, M)).2) (i + 1) : sk_M) = M' := by
          show ((m_X5_ticks (Nat.rec M (fun _ m => ((m_X5_ticks m).getD (0, M)).2) i : sk_M)).getD (0, M)).2 = M'
          rw [a2]; rfl
        refine ⟨⟨by rw [e, a4.2.1 10 (by omega)]; exact b1, ⟨N', L', by rw [e]; exact a3⟩, fun x hx => by rw [e, a4.2.2.2 x hx]; exact b3 x hx⟩, fun hlt => ?_⟩
        obtain ⟨r', N2, L2, M2, c1, c2, c3, c4⟩ := t_one a3 (by omega) (by omega)
        refine ⟨r', ?_⟩
        rw [show (Nat.rec M (fun _ m => ((m_X5_ticks m).getD (0, M)).2) (i + 1 + 1) : sk_M) = ((m_X5_ticks (Nat.rec M (fun _ m => ((m_X5_ticks m).getD (0, M)).2) (i + 1) : sk_M)).getD (0, M)).2 from rfl, e, c2]
        rfl
  · exact fun i hi => (key i hi).1
  · exact fun i hi => (key i (by omega)).2 hi
def AK (cnt : Nat) (K : Nat → sk_M) (i j : Nat) : Prop := (∀ c, c < cnt → (K i).1 1 (8 + c) = (K j).1 1 (8 + c)) ∧ (∀ k, k < 100 → (K i).1 1 (158 + k) = (K j).1 1 (158 + k)) ∧ CY cnt ((K 0).1 1) ((i : Int) - j)
theorem AK.rf {cnt : Nat} {K : Nat → sk_M} {i : Nat} : AK cnt K i i := ⟨fun _ _ => rfl, fun _ _ => rfl, fun c _ => by simp⟩
theorem AK.sy {cnt : Nat} {K : Nat → sk_M} {i j : Nat} (h : AK cnt K i j) : AK cnt K j i := ⟨fun c hc => (h.1 c hc).symm, fun k hk => (h.2.1 k hk).symm, fun c hc => by
  have e : (j : Int) - i = -((i : Int) - j) := by omega
  rw [e, Int.dvd_neg, Int.dvd_neg]
  exact h.2.2 c hc⟩
theorem AK.tr {cnt : Nat} {K : Nat → sk_M} {i j k : Nat} (h : AK cnt K i j) (g : AK cnt K j k) : AK cnt K i k := ⟨fun c hc => (h.1 c hc).trans (g.1 c hc), fun k hk => (h.2.1 k hk).trans (g.2.1 k hk), fun c hc => by
  have e : (i : Int) - k = ((i : Int) - j) + ((j : Int) - k) := by omega
  obtain ⟨a1, a2⟩ := h.2.2 c hc
  obtain ⟨b1, b2⟩ := g.2.2 c hc
  rw [e]
  refine ⟨fun z => ?_, fun z => Int.dvd_add (a2 z) (b2 z)⟩
  rcases a1 z with a | a
  · exact Or.inl a
  · rcases b1 z with b | b
    · exact Or.inl b
    · exact Or.inr (Int.dvd_add a b)⟩
theorem AK.nx {cnt P T H i j : Nat} {K : Nat → sk_M} (hK : TRJ cnt P T H K) (hi : i < H) (hj : j < H) (h : AK cnt K i j) : AK cnt K (i + 1) (j + 1) := by
  obtain ⟨hb, hA, hB⟩ := hK
  obtain ⟨i1, ⟨N, L, i2⟩, i3⟩ := hA i (by omega)
  obtain ⟨j1, ⟨N', L', j2⟩, j3⟩ := hA j (by omega)
  obtain ⟨si1, -, si3⟩ := hA (i + 1) (by omega)
  obtain ⟨ri, ti⟩ := hB i hi
  obtain ⟨rj, tj⟩ := hB j hj
  have X := i2.1
  have h10 : cnt ≤ 10 := X.1.1.1
  have sxw : ∀ x, sx x → (K j).1 1 x = (K i).1 1 x := fun x hx => by rw [i3 x hx, j3 x hx]
  have hst : ST cnt P N ((K j).1 1) := X.1.keep rfl rfl rfl rfl rfl rfl rfl (fun x hx => sxw x hx)
  have Y : RX cnt P (T + i) (T + j) N ((K j).1 1) := by
    refine ⟨hst, ⟨X.2.1.1, j2.1.2.1.2.1, X.2.1.2.2.1, j2.1.2.1.2.2.2⟩, fun c hc => ?_, X.2.2.2.1.keep rfl (fun x a b => ?_), ?_⟩
    · obtain ⟨p, p1, p2, p3⟩ := X.2.2.1 c hc
      exact ⟨p, p1, p2, by rw [← h.1 c hc]; exact p3⟩
    · have := h.2.1 (x - 158) (by omega)
      rw [show 158 + (x - 158) = x by omega] at this
      exact this.symm
    · rw [RT_CY hst, show (((T + i : Nat) : Int) - ((T + j : Nat) : Int)) = (i : Int) - j by omega]
      exact h.2.2.congr h10 j3
  obtain ⟨N1, M1, F1, o1, a1, a2, a3, -⟩ := t_tick (nl := []) X (Or.inr i1) (by omega) (by omega)
  obtain ⟨N2, M2, F2, o2, b1, b2, b3, -⟩ := t_tick (nl := []) Y (Or.inr j1) (by omega) (by omega)
  rw [a1] at b1
  cases b1
  rw [ti] at a2
  rw [tj] at b2
  simp only [Option.some.injEq, Prod.mk.injEq] at a2 b2
  rw [← a2.2] at a3
  rw [← b2.2] at b3
  refine ⟨a3.2.2.1.uniq b3.2.2.1, a3.2.2.2.1.uniq b3.2.2.2.1, ?_⟩
  rw [show (((i + 1 : Nat) : Int) - ((j + 1 : Nat) : Int)) = (i : Int) - j by omega]
  exact h.2.2
/-! the class's test -/
theorem dd_uniq {cnt T1 T2 : Nat} {N N' : sk_N} {w w' : Nat → Int32} (h : PU cnt T1 (fun _ _ => false) N w) (h' : PU cnt T2 (fun _ _ => false) N' w') : (∀ k, k < 100 → w (158 + k) = w' (158 + k)) ↔ ∀ d b, 1 ≤ d → d ≤ 9 → b < cnt → b < 10 → dd N ((T1 + d) % 16) b = dd N' ((T2 + d) % 16) b := by
  constructor
  · intro hw d b h1 h9 hb hb10
    have l1 := (h.1 ((T1 + d) % 16) b (Nat.mod_lt _ (by omega)) hb10).2
    have l2 := (h'.1 ((T2 + d) % 16) b (Nat.mod_lt _ (by omega)) hb10).2
    apply Nat.eq_of_testBit_eq
    intro a
    by_cases ha : a < 10
    · obtain ⟨q, q1, q2, q3, q4, q5, q6⟩ := h.2 a b ha hb10
      obtain ⟨p, p1, p2, p3, p4, p5, p6⟩ := h'.2 a b ha hb10
      rw [hw _ (by omega), p2] at q2
      have e : p = q := (nI_eq (by omega) (by omega)).mp q2
      rw [q6 d (by omega), p6 d (by omega), e]
    · rw [Nat.testBit_lt_two_pow (Nat.lt_of_lt_of_le l1 (Nat.pow_le_pow_right (n := 2) (by omega) (show 10 ≤ a by omega))), Nat.testBit_lt_two_pow (Nat.lt_of_lt_of_le l2 (Nat.pow_le_pow_right (n := 2) (by omega) (show 10 ≤ a by omega)))]
  · intro hd k hk
    obtain ⟨q, q1, q2, q3, q4, q5, q6⟩ := h.2 (k / 10) (k % 10) (by omega) (by omega)
    obtain ⟨p, p1, p2, p3, p4, p5, p6⟩ := h'.2 (k / 10) (k % 10) (by omega) (by omega)
    rw [show 10 * (k / 10) + k % 10 = k by omega] at q2 p2
    rw [q2, p2]
    congr 1
    by_cases hb : k % 10 < cnt
    · apply Nat.eq_of_testBit_eq
      intro d
      by_cases h0 : d = 0
      · subst h0; rw [q3, p3]
      · by_cases h9 : d ≤ 9
        · have a := q6 d (by omega)
          have b := p6 d (by omega)
          rw [if_neg h0] at a b
          rw [← a, ← b, hd d (k % 10) (by omega) h9 hb (by omega)]
        · rw [Nat.testBit_lt_two_pow (Nat.lt_of_lt_of_le q1 (Nat.pow_le_pow_right (n := 2) (by omega) (show 10 ≤ d by omega))), Nat.testBit_lt_two_pow (Nat.lt_of_lt_of_le p1 (Nat.pow_le_pow_right (n := 2) (by omega) (show 10 ≤ d by omega)))]
    · have e1 : q = 0 := by
        rcases Nat.eq_zero_or_pos q with hh | hh
        · exact hh
        · exact absurd (q4 (by omega)).2 hb
      have e2 : p = 0 := by
        rcases Nat.eq_zero_or_pos p with hh | hh
        · exact hh
        · exact absurd (p4 (by omega)).2 hb
      rw [e1, e2]
theorem q_same {cnt P T1 T2 : Nat} {N N' : sk_N} {w w' : Nat → Int32} (h : RX cnt P T1 T1 N w) (h' : RX cnt P T2 T2 N' w') (hb1 : T1 < 2 ^ 29) (hb2 : T2 < 2 ^ 29) : (m_X1_hasSamePulses N N' = some (nI 1) ∧ ∀ k, k < 100 → w (158 + k) = w' (158 + k)) ∨ (m_X1_hasSamePulses N N' = some (nI 0) ∧ ¬ ∀ k, k < 100 → w (158 + k) = w' (158 + k)) := by
  rw [dd_uniq h.2.2.2.1 h'.2.2.2.1]
  obtain ⟨h10, hP1, hP2, e0, e5, -⟩ := h.1.ex
  have eT := h.2.1.2.2.1
  have eT' := h'.2.1.2.2.1
  have hp := h.2.2.2.1.1
  have hp' := h'.2.2.2.1.1
  refine lp_F (step := m_X1_hasSamePulses_2_step N N') (fun y => (y = some (nI 1) ∧ ∀ d b, 1 ≤ d → d ≤ 9 → b < cnt → b < 10 → dd N ((T1 + d) % 16) b = dd N' ((T2 + d) % 16) b) ∨ (y = some (nI 0) ∧ ¬ ∀ d b, 1 ≤ d → d ≤ 9 → b < cnt → b < 10 → dd N ((T1 + d) % 16) b = dd N' ((T2 + d) % 16) b)) (fun j s => s = nI (j + 1) ∧ ∀ d b, 1 ≤ d → d ≤ j → b < cnt → b < 10 → dd N ((T1 + d) % 16) b = dd N' ((T2 + d) % 16) b) 9 (by omega) 1 ⟨rfl, fun d b a1 a2 => absurd a1 (by omega)⟩ ?_
  rintro k j s hj ⟨rfl, hI⟩
  unfold m_X1_hasSamePulses_2_step
  by_cases hj9 : j = 9
  · left; left
    subst hj9
    refine ⟨?_, hI⟩
    simp (disch := omega) only [pu_lit, pu_let, pu_some, pu_xb, pu_xe, pu_hb, pu_he, nI_add, pk_mul, pk_sub, nI_clamp, pu_inT, nI_leI, nI_ltI, nI_eq, if_pos, if_neg, ↓reduceIte, true_and, and_true, and_self, not_true_eq_false, not_false_eq_true, reduceCtorEq]
  · have hm1 : (T1 + (j + 1)) % 16 < 16 := Nat.mod_lt _ (by omega)
    have hm2 : (T2 + (j + 1)) % 16 < 16 := Nat.mod_lt _ (by omega)
    have inner : (m_X1_hasSamePulses_32 N N' k (nI (j + 1), nI ((T1 + (j + 1)) % 16 * 10), nI ((T2 + (j + 1)) % 16 * 10), 0) = k (nI (j + 1 + 1)) ∧ ∀ b, b < cnt → dd N ((T1 + (j + 1)) % 16) b = dd N' ((T2 + (j + 1)) % 16) b) ∨ (m_X1_hasSamePulses_32 N N' k (nI (j + 1), nI ((T1 + (j + 1)) % 16 * 10), nI ((T2 + (j + 1)) % 16 * 10), 0) = some (nI 0) ∧ ¬ ∀ b, b < cnt → dd N ((T1 + (j + 1)) % 16) b = dd N' ((T2 + (j + 1)) % 16) b) := by
      refine lp_F (step := m_X1_hasSamePulses_32_step N N' k) (fun y => (y = k (nI (j + 1 + 1)) ∧ ∀ b, b < cnt → dd N ((T1 + (j + 1)) % 16) b = dd N' ((T2 + (j + 1)) % 16) b) ∨ (y = some (nI 0) ∧ ¬ ∀ b, b < cnt → dd N ((T1 + (j + 1)) % 16) b = dd N' ((T2 + (j + 1)) % 16) b)) (fun b s => s = (nI (j + 1), nI ((T1 + (j + 1)) % 16 * 10), nI ((T2 + (j + 1)) % 16 * 10), nI b) ∧ ∀ b', b' < b → dd N ((T1 + (j + 1)) % 16) b' = dd N' ((T2 + (j + 1)) % 16) b') cnt (by omega) _ ⟨rfl, fun b hb => absurd hb (by omega)⟩ ?_
      rintro kk b s hb ⟨rfl, hB⟩
      unfold m_X1_hasSamePulses_32_step
      dsimp only
      by_cases hbc : b = cnt
      · left; left
        subst hbc
        refine ⟨?_, hB⟩
        simp (disch := omega) only [pu_lit, pu_let, pu_some, pu_xb, pu_xe, pu_hb, pu_he, nI_add, pk_mul, pk_sub, nI_clamp, pu_inT, nI_leI, nI_ltI, nI_eq, if_pos, if_neg, ↓reduceIte, true_and, and_true, and_self, not_true_eq_false, not_false_eq_true, reduceCtorEq, e0]
      · obtain ⟨v1, v2⟩ := hp ((T1 + (j + 1)) % 16) b hm1 (by omega)
        obtain ⟨u1, u2⟩ := hp' ((T2 + (j + 1)) % 16) b hm2 (by omega)
        by_cases he : dd N ((T1 + (j + 1)) % 16) b = dd N' ((T2 + (j + 1)) % 16) b
        · right
          refine ⟨by omega, ?_⟩
          simp (disch := omega) only [pu_lit, pu_let, pu_some, pu_xb, pu_xe, pu_hb, pu_he, nI_add, pk_mul, pk_sub, nI_clamp, pu_inT, nI_leI, nI_ltI, nI_eq, if_pos, if_neg, ↓reduceIte, true_and, and_true, and_self, not_true_eq_false, not_false_eq_true, reduceCtorEq, e0, v1, u1, he]
          exact ⟨_, rfl, rfl, fun b' hb' => by
            by_cases e : b' = b
            · subst e; exact he
            · exact hB b' (by omega)⟩
        · left; right
          refine ⟨?_, fun hall => he (hall b (by omega))⟩
          simp (disch := omega) only [pu_lit, pu_let, pu_some, pu_xb, pu_xe, pu_hb, pu_he, nI_add, pk_mul, pk_sub, nI_clamp, pu_inT, nI_leI, nI_ltI, nI_eq, if_pos, if_neg, ↓reduceIte, true_and, and_true, and_self, not_true_eq_false, not_false_eq_true, reduceCtorEq, e0, v1, u1, he]
    have z0 : nI 0 = (0 : Int32) := rfl
    have st : (if (9 : Int32) < nI (j + 1) then (some (1 : Int32)) else (m_X1_slotOf ((N 0 3) + nI (j + 1))).bind (fun r14 => (m_X1_slotOf ((N' 0 3) + nI (j + 1))).bind (fun r24 => (m_X1_hasSamePulses_32 N N' k (nI (j + 1), r14, r24, (0 : Int32)))))) = m_X1_hasSamePulses_32 N N' k (nI (j + 1), nI ((T1 + (j + 1)) % 16 * 10), nI ((T2 + (j + 1)) % 16 * 10), 0) := by
      simp (disch := omega) only [pu_lit, pu_let, pu_some, pu_xb, pu_xe, pu_hb, pu_he, nI_add, pk_mul, pk_sub, nI_clamp, pu_inT, nI_leI, nI_ltI, nI_eq, if_pos, if_neg, ↓reduceIte, true_and, and_true, and_self, not_true_eq_false, not_false_eq_true, reduceCtorEq, eT, eT', v_slotOf]
    rw [st]
    rcases inner with ⟨i1, i2⟩ | ⟨i1, i2⟩
    · right
      rw [i1]
      refine ⟨by omega, _, rfl, rfl, fun d b a1 a2 a3 a4 => ?_⟩
      by_cases e : d = j + 1
      · subst e; exact i2 b a3
      · exact hI d b a1 (by omega) a3 a4
    · left; right
      rw [i1]
      exact ⟨rfl, fun hall => i2 (fun b hb => hall (j + 1) b (by omega) (by omega) hb (by omega))⟩
theorem q_alike {cnt P T H i j : Nat} {N N' L L' : sk_N} {K : Nat → sk_M} (hK : TRJ cnt P T H K) (hi : i ≤ H) (hj : j ≤ H) (h : RS cnt P (T + i) (T + i) N L (K i)) (h' : RS cnt P (T + j) (T + j) N' L' (K j)) : (m_X1_isAlike N N' = some (nI 1) ∧ AK cnt K i j) ∨ (m_X1_isAlike N N' = some (nI 0) ∧ ¬ AK cnt K i j) := by
  obtain ⟨hb, hA, -⟩ := hK
  have X := h.1
  have X' := h'.1
  obtain ⟨h10, hP1, hP2, e0, e5, -⟩ := X.1.ex
  have eT := X.2.1.2.2.1
  have eT' := X'.2.1.2.2.1
  have s1 := (hA i hi).2.2
  unfold m_X1_isAlike
  rw [pu_let, eT, eT']
  have hap : (nI (T + i) - nI (T + j)).toInt = (i : Int) - j := by rw [pk_sub_toInt (by omega) (by omega)]; omega
  generalize hx : nI (T + i) - nI (T + j) = ap at hap
  have cyc : ∀ c, c < cnt → (gb N c = true ∧ (K 0).1 1 (28 + c) = 0 ∧ N 3 c = (K 0).1 1 (18 + c) ∧ -99 ≤ (N 3 c).toInt ∧ (N 3 c).toInt ≤ 99) ∨ (¬ gb N c = true ∧ (K 0).1 1 (28 + c) ≠ 0 ∧ N 4 c = (K 0).1 1 (38 + c) ∧ N 4 c ≠ 0 ∧ -99 ≤ (N 4 c).toInt ∧ (N 4 c).toInt ≤ 99) := by
    intro c hc
    obtain ⟨g1, g2, g3, g4⟩ := X.1.2.2.2.2.1.1 c hc
    rw [← s1 (28 + c) (by unfold sx; omega), ← s1 (18 + c) (by unfold sx; omega), ← s1 (38 + c) (by unfold sx; omega)]
    rcases g4 with ⟨g5, g6⟩ | ⟨R, O, r1, r2, r3, r4, r5, r6, -⟩
    · exact Or.inl ⟨gb_t g5, g6, g1, by omega, by omega⟩
    · have n4 : ¬ N 4 c = 0 := by rw [r4]; exact nI_ne0 (by omega) (by omega)
      have hR : (N 4 c).toInt = (R : Int) := by rw [r4]; exact nI_toInt (by omega)
      exact Or.inr ⟨by rw [gb_f n4]; decide, by rw [r5]; decide, by rw [r4, r6], n4, by omega, by omega⟩
  refine lp_F (step := m_X1_isAlike_12_step N N') (fun y => (y = some (nI 1) ∧ AK cnt K i j) ∨ (y = some (nI 0) ∧ ¬ AK cnt K i j)) (fun c s => s = (ap, nI c) ∧ ∀ c', c' < c → (K i).1 1 (8 + c') = (K j).1 1 (8 + c') ∧ ((K 0).1 1 (28 + c') = 0 → (K 0).1 1 (18 + c') = 0 ∨ ((K 0).1 1 (18 + c')).toInt ∣ ((i : Int) - j)) ∧ ((K 0).1 1 (28 + c') ≠ 0 → ((K 0).1 1 (38 + c')).toInt ∣ ((i : Int) - j))) cnt (by omega) _ ⟨rfl, fun c hc => absurd hc (by omega)⟩ ?_
  rintro k c s hc ⟨rfl, hI⟩
  unfold m_X1_isAlike_12_step m_X1_isAlike_43
  dsimp only
  by_cases hcc : c = cnt
  · left
    subst hcc
    have b1 : sk_bl (nI 1) = true := by decide
    have b0 : sk_bl (nI 0) = true := by decide
    rcases q_same X X' (by omega) (by omega) with ⟨q1, q2⟩ | ⟨q1, q2⟩
    · left
      refine ⟨?_, fun c hc => (hI c hc).1, q2, fun c hc => (hI c hc).2⟩
      simp (disch := omega) only [pu_lit, pu_let, pu_some, pu_xb, pu_xe, pu_hb, pu_he, nI_add, pk_mul, pk_sub, nI_clamp, pu_inT, nI_leI, nI_ltI, nI_eq, if_pos, if_neg, ↓reduceIte, true_and, and_true, and_self, not_true_eq_false, not_false_eq_true, reduceCtorEq, e0, q1, b1]
    · right
      refine ⟨?_, fun hh => q2 hh.2.1⟩
      simp (disch := omega) only [pu_lit, pu_let, pu_some, pu_xb, pu_xe, pu_hb, pu_he, nI_add, pk_mul, pk_sub, nI_clamp, pu_inT, nI_leI, nI_ltI, nI_eq, if_pos, if_neg, ↓reduceIte, true_and, and_true, and_self, not_true_eq_false, not_false_eq_true, reduceCtorEq, e0, q1, b0]
  · have hclt : c < cnt := by omega
    obtain ⟨p1, p2, p3⟩ := X.qr.ph hclt
    obtain ⟨r1, r2, r3⟩ := X'.qr.ph hclt
    by_cases hph : phs N c = phs N' c
    · have ep : (K i).1 1 (8 + c) = (K j).1 1 (8 + c) := by rw [p3, r3, hph]
      rcases cyc c hclt with ⟨g1, g2, g3, g4, g5⟩ | ⟨g1, g2, g3, g3', g4, g5⟩
      · by_cases hz : N 3 c = nI 0
        · right
          refine ⟨hclt, ?_⟩
          simp (disch := omega) only [pu_lit, pu_let, pu_some, pu_xb, pu_xe, pu_hb, pu_he, nI_add, pk_mul, pk_sub, nI_clamp, pu_inT, nI_leI, nI_ltI, nI_eq, if_pos, if_neg, ↓reduceIte, true_and, and_true, and_self, not_true_eq_false, not_false_eq_true, reduceCtorEq, e0, v_good', g1, p2, r2, hph, hz]
          refine ⟨_, rfl, rfl, fun c' hc' => ?_⟩
          by_cases e : c' = c
          · subst e
            exact ⟨ep, fun _ => Or.inl (by rw [← g3]; exact hz), fun e => absurd g2 e⟩
          · exact hI c' (by omega)
        · have hrem := srem_zero' (x := ap) (d := N 3 c) (by omega) (by omega) hz g4 g5
          rw [hap] at hrem
          by_cases hd : (N 3 c).toInt ∣ ((i : Int) - j)
          · have hr : sk_rem ap (N 3 c) = nI 0 := hrem.mpr hd
            right
            refine ⟨hclt, ?_⟩
            simp (disch := omega) only [pu_lit, pu_let, pu_some, pu_xb, pu_xe, pu_hb, pu_he, nI_add, pk_mul, pk_sub, nI_clamp, pu_inT, nI_leI, nI_ltI, nI_eq, if_pos, if_neg, ↓reduceIte, true_and, and_true, and_self, not_true_eq_false, not_false_eq_true, reduceCtorEq, e0, v_good', g1, p2, r2, hph, hz, hr]
            refine ⟨_, rfl, rfl, fun c' hc' => ?_⟩
            by_cases e : c' = c
            · subst e
              exact ⟨ep, fun _ => Or.inr (by rw [← g3]; exact hd), fun e => absurd g2 e⟩
            · exact hI c' (by omega)
          · have hr : ¬ sk_rem ap (N 3 c) = nI 0 := fun e => hd (hrem.mp e)
            left; right
            refine ⟨?_, fun hh => ?_⟩
            · simp (disch := omega) only [pu_lit, pu_let, pu_some, pu_xb, pu_xe, pu_hb, pu_he, nI_add, pk_mul, pk_sub, nI_clamp, pu_inT, nI_leI, nI_ltI, nI_eq, if_pos, if_neg, ↓reduceIte, true_and, and_true, and_self, not_true_eq_false, not_false_eq_true, reduceCtorEq, e0, v_good', g1, p2, r2, hph, hz, hr]
            · rcases (hh.2.2 c hclt).1 g2 with q | q
              · exact hz (by rw [g3]; exact q)
              · exact hd (by rw [g3]; exact q)
      · have g3n : ¬ N 4 c = nI 0 := g3'
        have hrem := srem_zero' (x := ap) (d := N 4 c) (by omega) (by omega) g3' g4 g5
        rw [hap] at hrem
        by_cases hd : (N 4 c).toInt ∣ ((i : Int) - j)
        · have hr : sk_rem ap (N 4 c) = nI 0 := hrem.mpr hd
          right
          refine ⟨hclt, ?_⟩
          simp (disch := omega) only [pu_lit, pu_let, pu_some, pu_xb, pu_xe, pu_hb, pu_he, nI_add, pk_mul, pk_sub, nI_clamp, pu_inT, nI_leI, nI_ltI, nI_eq, if_pos, if_neg, ↓reduceIte, true_and, and_true, and_self, not_true_eq_false, not_false_eq_true, reduceCtorEq, e0, v_good', g1, p2, r2, hph, g3n, hr]
          refine ⟨_, rfl, rfl, fun c' hc' => ?_⟩
          by_cases e : c' = c
          · subst e
            exact ⟨ep, fun e => absurd e g2, fun _ => by rw [← g3]; exact hd⟩
          · exact hI c' (by omega)
        · have hr : ¬ sk_rem ap (N 4 c) = nI 0 := fun e => hd (hrem.mp e)
          left; right
          refine ⟨?_, fun hh => hd (by rw [g3]; exact (hh.2.2 c hclt).2 g2)⟩
          simp (disch := omega) only [pu_lit, pu_let, pu_some, pu_xb, pu_xe, pu_hb, pu_he, nI_add, pk_mul, pk_sub, nI_clamp, pu_inT, nI_leI, nI_ltI, nI_eq, if_pos, if_neg, ↓reduceIte, true_and, and_true, and_self, not_true_eq_false, not_false_eq_true, reduceCtorEq, e0, v_good', g1, p2, r2, hph, g3n, hr]
    · left; right
      refine ⟨?_, fun hh => hph ?_⟩
      · by_cases g : gb N c = true
        · simp (disch := omega) only [pu_lit, pu_let, pu_some, pu_xb, pu_xe, pu_hb, pu_he, nI_add, pk_mul, pk_sub, nI_clamp, pu_inT, nI_leI, nI_ltI, nI_eq, if_pos, if_neg, ↓reduceIte, true_and, and_true, and_self, not_true_eq_false, not_false_eq_true, reduceCtorEq, e0, v_good', g, p2, r2, hph]
        · simp (disch := omega) only [pu_lit, pu_let, pu_some, pu_xb, pu_xe, pu_hb, pu_he, nI_add, pk_mul, pk_sub, nI_clamp, pu_inT, nI_leI, nI_ltI, nI_eq, if_pos, if_neg, ↓reduceIte, true_and, and_true, and_self, not_true_eq_false, not_false_eq_true, reduceCtorEq, e0, v_good', g, p2, r2, hph]
      · have := hh.1 c hclt
        rw [p3, r3] at this
        exact (nI_eq (by omega) (by omega)).mp this
