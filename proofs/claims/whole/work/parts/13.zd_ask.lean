/-! the questions -/
def QU (M : sk_M) (C : Option (Int32 ⊕ Nat)) (D : Option (Int32 × sk_M)) (E : Nat → Int32 → Prop) : Prop :=
  (∃ e v, C = some (.inr e) ∧ D = some (0, md_up M 0 4 v) ∧ E e v) ∨ ∃ r, C = some (.inl r) ∧ D = some (r, md_up M 0 4 0)
theorem RX.u4 {cnt P T1 T2 : Nat} {N : sk_N} {M : sk_M} {v : Int32} (h : RX cnt P T1 T2 N (M.1 1)) : RX cnt P T1 T2 N ((md_up M 0 4 v).1 1) := by rw [up_row]; exact h
theorem g_clock {b : Nat} {S1 S2 : sk_N} {M : sk_M} (hR : RW b S1 S2 (M.1 1)) (x y : Int32) : QU M (m_X4_clock S1 x y) (m_X5_clock M x y) (fun e v => (e = 3 ∧ v = 1) ∨ (e = 1 ∧ v = 2)) := by
  obtain ⟨cnt, P, T, nl, a1, a2, a3, a4, a5⟩ := hR
  unfold m_X4_clock m_X5_clock m_X5_clock_28
  rcases a_clk a2.1 x with ⟨b1, b2, b3⟩ | ⟨c, hc, rfl, b1, b2, b3⟩
  · rw [b2, pu_xe, b3, pu_some, if_pos rfl, ref_1, pu_some, if_neg ne_10]
    exact Or.inl ⟨3, 1, rfl, rfl, Or.inl ⟨rfl, rfl⟩⟩
  · rcases a_rng (x := y) (a := 0) (b := 6) (by omega) (by omega) with ⟨d1, d2⟩ | ⟨v, v1, v2, rfl, d1, d2, d3, d4, d5⟩
    · have d1' : m_X5_within y 0 6 = some 0 := d1
      rw [b2, pu_xb, b3, pu_some, if_neg ne_10, d1', pu_some, if_pos rfl, ref_2, pu_some, if_neg ne_10]
      by_cases hy : y < (0 : Int32)
      · rw [if_pos hy]
        exact Or.inl ⟨1, 2, rfl, rfl, Or.inr ⟨rfl, rfl⟩⟩
      · have h2 : (6 : Int32) < y := d2.resolve_left hy
        have h3 : ¬ y ≤ (6 : Int32) := fun h => by
          have a := Int32.lt_iff_toInt_lt.mp h2
          have b := Int32.le_iff_toInt_le.mp h
          omega
        rw [if_neg hy, if_neg h3]
        exact Or.inl ⟨1, 2, rfl, rfl, Or.inr ⟨rfl, rfl⟩⟩
    · have d1' : m_X5_within (nI v) 0 6 = some 1 := d1
      have d4' : nI v ≤ (6 : Int32) := d4
      obtain ⟨r, r1, r2⟩ := q_about (M := md_up M 0 4 0) a2.u4 hc (x := v) (by omega)
      rw [b2, pu_xb, b3, pu_some, if_neg ne_10, d1', pu_some, if_neg ne_10, ref_0, pu_some, if_pos rfl, if_neg d5, if_pos d4', r1, pu_some, r2, pu_some]
      exact Or.inr ⟨r, rfl, rfl⟩
theorem g_linkOf {b : Nat} {S1 S2 : sk_N} {M : sk_M} (hR : RW b S1 S2 (M.1 1)) (x y : Int32) : QU M (m_X4_linkOf S1 x y) (m_X5_linkOf M x y) (fun e v => e = 3 ∧ v = 1) := by
  obtain ⟨cnt, P, T, nl, a1, a2, a3, a4, a5⟩ := hR
  have h10 := a2.1.1.1
  unfold m_X4_linkOf m_X5_linkOf m_X5_linkOf_22 m_X5_linkOf_23
  rcases a_clk a2.1 x with ⟨b1, b2, b3⟩ | ⟨a, ha, rfl, b1, b2, b3⟩
  · rw [b2, pu_xe, b3, pu_some, if_pos rfl, need_0, pu_some, ref_1, pu_some, if_neg ne_10]
    exact Or.inl ⟨3, 1, rfl, rfl, rfl, rfl⟩
  · rcases a_clk a2.1 y with ⟨d1, d2, d3⟩ | ⟨q, hq, rfl, d1, d2, d3⟩
    · rw [b2, pu_xb, d2, pu_xe, b3, pu_some, if_neg ne_10, d3, pu_some, if_pos rfl, need_0, pu_some, ref_1, pu_some, if_neg ne_10]
      exact Or.inl ⟨3, 1, rfl, rfl, rfl, rfl⟩
    · obtain ⟨g1, -⟩ := a2.1.2.2.2.2.2 a q (by omega) (by omega)
      rw [b2, pu_xb, d2, pu_xb, v_delayBetween (by omega) (by omega), pu_some, b3, pu_some, if_neg ne_10, d3, pu_some, if_neg ne_10, need_1, pu_some, ref_0, pu_some, if_pos rfl, v_delay (by omega) (by omega), pu_some, up_row, ← g1]
      exact Or.inr ⟨_, rfl, rfl⟩
theorem g_distance {b : Nat} {S1 S2 : sk_N} {M : sk_M} (hR : RW b S1 S2 (M.1 1)) (x y : Int32) : QU M (m_X4_distance S1 x y) (m_X5_distance M x y) (fun e v => e = 3 ∧ v = 1) := by
  obtain ⟨cnt, P, T, nl, a1, a2, a3, a4, a5⟩ := hR
  have h10 := a2.1.1.1
  unfold m_X4_distance m_X5_distance m_X5_distance_22 m_X5_distance_23
  rcases a_clk a2.1 x with ⟨b1, b2, b3⟩ | ⟨a, ha, rfl, b1, b2, b3⟩
  · rw [b2, pu_xe, b3, pu_some, if_pos rfl, need_0, pu_some, ref_1, pu_some, if_neg ne_10]
    exact Or.inl ⟨3, 1, rfl, rfl, rfl, rfl⟩
  · rcases a_clk a2.1 y with ⟨d1, d2, d3⟩ | ⟨q, hq, rfl, d1, d2, d3⟩
    · rw [b2, pu_xb, d2, pu_xe, b3, pu_some, if_neg ne_10, d3, pu_some, if_pos rfl, need_0, pu_some, ref_1, pu_some, if_neg ne_10]
      exact Or.inl ⟨3, 1, rfl, rfl, rfl, rfl⟩
    · obtain ⟨r, r1, r2⟩ := q_dist (M := md_up M 0 4 0) a2.u4.1 ha hq
      rw [b2, pu_xb, d2, pu_xb, r1, pu_some, b3, pu_some, if_neg ne_10, d3, pu_some, if_neg ne_10, need_1, pu_some, ref_0, pu_some, if_pos rfl, pu_shl (by omega), pu_let, r2]
      exact Or.inr ⟨_, rfl, rfl⟩
theorem g_isNeeded {b : Nat} {S1 S2 : sk_N} {M : sk_M} (hR : RW b S1 S2 (M.1 1)) (x : Int32) : (m_X4_isNeeded S1 x = some (.inr 3) ∧ m_X5_isNeeded M x = some (0, md_up M 0 4 1)) ∨ ∃ r, (r = 0 ∨ r = 1) ∧ m_X4_isNeeded S1 x = some (.inl r) ∧ m_X5_isNeeded M x = some (r, md_up M 0 4 0) := by
  obtain ⟨cnt, P, T, nl, a1, a2, a3, a4, a5⟩ := hR
  have h10 := a2.1.1.1
  unfold m_X4_isNeeded m_X5_isNeeded
  rcases a_clk a2.1 x with ⟨b1, b2, b3⟩ | ⟨a, ha, rfl, b1, b2, b3⟩
  · rw [b2, pu_xe, b3, pu_some, need_0, pu_some, ref_1, pu_some, if_neg ne_10]
    exact Or.inl ⟨rfl, rfl⟩
  · obtain ⟨q1, q2, q3⟩ := q_all (M := md_up M 0 4 0) a2.u4.1
    have h2a : 2 ^ a < 1024 := Nat.lt_of_lt_of_le (Nat.pow_lt_pow_right (by omega) (show a < 10 by omega)) (by decide)
    have en : nI (2 ^ cnt - 1) &&& (nI (2 ^ a) ^^^ (-1)) = nI ((2 ^ cnt - 1) &&& (1023 ^^^ 2 ^ a)) := pu_notA q3 h2a
    obtain ⟨r, r0, r1, r2⟩ := q_parts (I := (2 ^ cnt - 1) &&& (1023 ^^^ 2 ^ a)) (M := md_up M 0 4 0) a2.u4.1 (Nat.lt_of_le_of_lt Nat.and_le_left q3)
    obtain ⟨s, s0, s1, s2⟩ := q_parts (I := 2 ^ cnt - 1) (M := md_up M 0 4 0) a2.u4.1 q3
    rw [b2, pu_xb, q1, pu_some, pu_shl (by omega), en, r1, pu_some, s1, pu_some, b3, pu_some, need_1, pu_some, ref_0, pu_some, if_pos rfl, q2, pu_some, en, r2, pu_some, pu_some, s2, pu_some]
    by_cases h : nI r ≤ nI s
    · rw [if_pos h, if_pos h]
      exact Or.inr ⟨0, Or.inl rfl, rfl, rfl⟩
    · rw [if_neg h, if_neg h]
      exact Or.inr ⟨1, Or.inr rfl, rfl, rfl⟩
theorem g_group {b : Nat} {S1 S2 : sk_N} {M : sk_M} (hR : RW b S1 S2 (M.1 1)) (x y : Int32) : QU M (m_X4_group S1 x y) (m_X5_group M x y) (fun e v => e = 3 ∧ v = 1) := by
  obtain ⟨cnt, P, T, nl, a1, a2, a3, a4, a5⟩ := hR
  obtain ⟨h10, hP1, hP2, -⟩ := a2.1.ex
  have hct : ct (hg S1 cnt) P = ct (fg S1) cnt := a2.qr.ct
  have hle : ∀ (f : Nat → Bool) n, ct f n ≤ n := by
    intro f n
    induction n with
    | zero => exact Nat.le_refl _
    | succ n ih =>
      unfold ct
      split <;> omega
  have hle2 := hle (fg S1) cnt
  unfold m_X4_group m_X5_group
  rw [q_many a2.qr, pu_some]
  rcases a_in (n := ct (fg S1) cnt) (by omega) x with ⟨d1, d2⟩ | ⟨i, hi, rfl, d1⟩
  · rw [d1, pu_some, need_0, pu_some, ref_1, pu_some, if_neg ne_10]
    rcases q_phaseG (x := x) (M := M) a2.qr with ⟨p, p1, p2, p3, p4⟩ | ⟨p1, -⟩
    · exfalso
      have hlt : ct (hg S1 cnt) p < ct (fg S1) cnt := by
        rw [← hct]
        have mono : ∀ (f : Nat → Bool) m n, m < n → f m = true → ct f m < ct f n := by
          intro f m n hmn hf
          induction n with
          | zero => omega
          | succ n ih =>
            by_cases e : m = n
            · subst e
              rw [ct, if_pos hf]; omega
            · have := ih (by omega)
              rw [ct]
              split <;> omega
        exact mono _ _ _ p1 p2
      rw [p3] at d2
      rcases d2 with d2 | d2
      · exact nI_pos (by omega) d2
      · have := (nI_leI (by omega) (by omega)).mp d2; omega
    · rw [p1, pu_some, if_pos rfl]
      exact Or.inl ⟨3, 1, rfl, rfl, rfl, rfl⟩
  · obtain ⟨p, p1, p2, p3, p4⟩ := q_phaseM (M := md_up M 0 4 0) (i := i) a2.u4.qr (by rw [hct]; exact hi)
    rw [d1, pu_some, need_1, pu_some, ref_0, pu_some, if_pos rfl, p4, pu_some]
    rcases q_phaseG (x := nI i) (M := M) a2.qr with ⟨q, q1, q2, q3, q4⟩ | ⟨-, q2⟩
    · have hqc := hle (hg S1 cnt) q
      have e1 : i = ct (hg S1 cnt) q := (nI_eq (by omega) (by omega)).mp q3
      have e2 : q = p := ct_uniq q2 p2 (by rw [← e1, ← p3])
      subst e2
      rw [q4, pu_some, if_neg (nm_ne (by omega))]
      by_cases hy : y = 0
      · rw [if_pos hy, if_pos hy, (q_at a2.qr (by omega)).1, pu_some, (q_at (M := md_up M 0 4 0) a2.u4.qr (by omega)).2, pu_some]
        exact Or.inr ⟨_, rfl, rfl⟩
      · rw [if_neg hy, if_neg hy]
        exact Or.inr ⟨_, rfl, rfl⟩
    · exact absurd (by rw [p3]) (q2 p p1 p2)
theorem g_groupOf {b : Nat} {S1 S2 : sk_N} {M : sk_M} (hR : RW b S1 S2 (M.1 1)) (x : Int32) : QU M (m_X4_groupOf S1 x) (m_X5_groupOf M x) (fun e v => e = 3 ∧ v = 1) := by
  obtain ⟨cnt, P, T, nl, a1, a2, a3, a4, a5⟩ := hR
  unfold m_X4_groupOf m_X5_groupOf
  rcases a_clk a2.1 x with ⟨b1, b2, b3⟩ | ⟨a, ha, rfl, b1, b2, b3⟩
  · rw [b2, pu_xe, b3, pu_some, need_0, pu_some, ref_1, pu_some, if_neg ne_10]
    exact Or.inl ⟨3, 1, rfl, rfl, rfl, rfl⟩
  · obtain ⟨r, r1, r2⟩ := q_groupOf (M := md_up M 0 4 0) a2.u4.qr ha
    rw [b2, pu_xb, r1, pu_some, b3, pu_some, need_1, pu_some, ref_0, pu_some, if_pos rfl, r2]
    exact Or.inr ⟨_, rfl, rfl⟩
/-! questions that nothing refuses -/
theorem g_clocks {b : Nat} {S1 S2 : sk_N} {M : sk_M} (hR : RW b S1 S2 (M.1 1)) : ∃ r, m_X4_clocks S1 = some r ∧ m_X5_clocks M = some (r, md_up M 0 4 0) := by
  obtain ⟨cnt, P, T, nl, a1, a2, a3, a4, a5⟩ := hR
  obtain ⟨-, -, -, e0, e5, -⟩ := a2.1.ex
  unfold m_X4_clocks m_X5_clocks
  rw [pu_let, if_pos in_5, cl_5, up_row, e0, e5]
  exact ⟨_, rfl, rfl⟩
theorem g_now {b : Nat} {S1 S2 : sk_N} {M : sk_M} (hR : RW b S1 S2 (M.1 1)) : ∃ r, m_X4_now S1 = some r ∧ m_X5_now M = some (r, md_up M 0 4 0) := by
  obtain ⟨cnt, P, T, nl, a1, a2, a3, a4, a5⟩ := hR
  obtain ⟨-, -, k3, k4⟩ := a2.2.1
  unfold m_X4_now m_X5_now
  rw [pu_let, if_pos (by decide), show ((4 : Int32)).toNatClampNeg = 4 from rfl, up_row, k3, k4]
  exact ⟨_, rfl, rfl⟩
theorem g_fired {b : Nat} {S1 S2 : sk_N} {M : sk_M} (hR : RW b S1 S2 (M.1 1)) : ∃ r, m_X4_fired S1 = some r ∧ m_X5_fired M = some (r, md_up M 0 4 0) := by
  obtain ⟨cnt, P, T, nl, a1, a2, ⟨F, f1, f2, f3⟩, a4, a5⟩ := hR
  unfold m_X4_fired m_X5_fired
  rw [pu_let, if_pos (by decide), show ((6 : Int32)).toNatClampNeg = 6 from rfl, up_row, f2, f3]
  exact ⟨_, rfl, rfl⟩
theorem g_components {b : Nat} {S1 S2 : sk_N} {M : sk_M} (hR : RW b S1 S2 (M.1 1)) : ∃ r, m_X4_components S1 = some r ∧ m_X5_components M = some (r, md_up M 0 4 0) := by
  obtain ⟨cnt, P, T, nl, a1, a2, a3, a4, a5⟩ := hR
  obtain ⟨q1, q2, q3⟩ := q_all (M := md_up M 0 4 0) a2.u4.1
  obtain ⟨s, s0, s1, s2⟩ := q_parts (I := 2 ^ cnt - 1) (M := md_up M 0 4 0) a2.u4.1 q3
  unfold m_X4_components m_X5_components
  rw [pu_let, q1, q2, pu_some, pu_some, s1, s2, pu_some, pu_some]
  exact ⟨_, rfl, rfl⟩
theorem g_underWay {b : Nat} {S1 S2 : sk_N} {M : sk_M} (hR : RW b S1 S2 (M.1 1)) : ∃ r, m_X4_underWay S1 = some r ∧ m_X5_underWay M = some (r, md_up M 0 4 0) := by
  obtain ⟨cnt, P, T, nl, a1, a2, a3, a4, a5⟩ := hR
  obtain ⟨r, s1, s2⟩ := q_under (M := md_up M 0 4 0) a2.u4.1 a2.u4.2.2.2.1
  unfold m_X4_underWay m_X5_underWay
  rw [pu_let, s1, s2, pu_some, pu_some]
  exact ⟨_, rfl, rfl⟩
theorem g_groups {b : Nat} {S1 S2 : sk_N} {M : sk_M} (hR : RW b S1 S2 (M.1 1)) : ∃ r, m_X4_groups S1 = some r ∧ m_X5_groups M = some (r, md_up M 0 4 0) := by
  obtain ⟨cnt, P, T, nl, a1, a2, a3, a4, a5⟩ := hR
  have s1 : m_X1_groupCount S1 10 = some (nI (ct (fg S1) cnt)) := q_count10 a2.qr
  have s2 := q_many (M := md_up M 0 4 0) a2.u4.qr
  unfold m_X4_groups m_X5_groups
  rw [pu_let, s1, s2, pu_some, pu_some]
  exact ⟨_, rfl, rfl⟩
theorem g_spread {b : Nat} {S1 S2 : sk_N} {M : sk_M} (hR : RW b S1 S2 (M.1 1)) : ∃ r, m_X4_spread S1 = some r ∧ m_X5_spread M = some (r, md_up M 0 4 0) := by
  obtain ⟨cnt, P, T, nl, a1, a2, a3, a4, a5⟩ := hR
  obtain ⟨r, s1, s2⟩ := q_spread (M := md_up M 0 4 0) a2.u4.qr
  unfold m_X4_spread m_X5_spread
  rw [pu_let, s1, s2, pu_some, pu_some]
  exact ⟨_, rfl, rfl⟩
/-! the log -/
theorem pl_neg : ∀ m : Fin 60, nI m.1 - 60 < 0 := by decide
theorem v_place {nx n k : Nat} {L : sk_N} (hx : nx < 60) (hn : n ≤ 60) (hk : k < n) (h3 : L 0 3 = nI n) (h2 : L 0 2 = nI nx) : m_X0_placeOf L (nI k) = some (nI ((nx + 59 - k) % 60)) := by
  unfold m_X0_placeOf
  rw [if_neg (nI_pos (by omega)), h3, if_pos ((nI_ltI (by omega) (by omega)).mpr hk), pu_let, h2]
  by_cases h : k + 1 ≤ nx
  · have e : nI nx - 1 - nI k = nI (nx - 1 - k) := by rw [show (1 : Int32) = nI 1 from rfl, pk_sub (by omega), pk_sub (by omega)]
    rw [e, if_neg (nI_pos (by omega)), show (nx + 59 - k) % 60 = nx - 1 - k by omega]
  · have e0 : (1 : Int32).toBitVec.toNat = 1 := rfl
    have e60 : (60 : Int32).toBitVec.toNat = 60 := rfl
    have t1 : (nI nx).toBitVec.toNat = nx := pu_tn (by omega)
    have t2 : (nI k).toBitVec.toNat = k := pu_tn (by omega)
    have t3 : (nI (nx + 59 - k)).toBitVec.toNat = nx + 59 - k := pu_tn (by omega)
    have e : nI nx - 1 - nI k = nI (nx + 59 - k) - 60 := by
      apply pu_ext
      rw [Int32.toBitVec_sub, Int32.toBitVec_sub, Int32.toBitVec_sub, BitVec.toNat_sub, BitVec.toNat_sub, BitVec.toNat_sub, t1, t2, t3, e0, e60]
      omega
    have e' : nI (nx + 59 - k) - 60 + 60 = nI (nx + 59 - k) := by
      apply pu_ext
      rw [Int32.toBitVec_add, Int32.toBitVec_sub, BitVec.toNat_add, BitVec.toNat_sub, t3, e60]
      omega
    rw [e, if_pos (pl_neg ⟨nx + 59 - k, by omega⟩), e', show (nx + 59 - k) % 60 = nx + 59 - k by omega]
theorem g_noted {b : Nat} {S1 S2 : sk_N} {M : sk_M} (hR : RW b S1 S2 (M.1 1)) (x y : Int32) : ∃ r, m_X4_noted S1 S2 x y = some r ∧ m_X5_noted M x y = some (r, md_up M 0 4 0) := by
  obtain ⟨cnt, P, T, nl, a1, a2, a3, ⟨l1, l2, nx, l3, l4, l5⟩, n1, n2, n3⟩ := hR
  unfold m_X4_noted m_X5_noted m_X5_noted_54
  rw [pu_let, if_pos (show sk_in (7 : Int32) 378 = true by decide), show ((7 : Int32)).toNatClampNeg = 7 from rfl, up_row, n2]
  rcases a_in (n := nl.length) (by omega) x with ⟨d1, d2⟩ | ⟨k, hk, rfl, d1⟩
  · have e : m_X0_placeOf S2 x = some (-1) := by
      unfold m_X0_placeOf
      by_cases hx : x < 0
      · rw [if_pos hx]
      · have h2 := d2.resolve_left hx
        have h3 : ¬ x < nI nl.length := fun h => by
          have a := Int32.lt_iff_toInt_lt.mp h
          have b := Int32.le_iff_toInt_le.mp h2
          omega
        rw [if_neg hx, l2, if_neg h3]
    rw [d1, pu_some, if_pos rfl, e, pu_some, if_pos rfl]
    exact ⟨_, rfl, rfl⟩
  · have hlt : nl.length - 1 - k < nl.length := by omega
    obtain ⟨q, hq⟩ : ∃ q, nl[nl.length - 1 - k]? = some q := ⟨_, List.getElem?_eq_getElem hlt⟩
    obtain ⟨g1, g2⟩ := l5 k q hk hq
    obtain ⟨m1, m2⟩ := n3 _ q hq
    have hm : (nx + 59 - k) % 60 < 60 := Nat.mod_lt _ (by omega)
    have e : (258 : Int32) + (2 : Int32) * (nI nl.length - (1 : Int32) - nI k) = nI (258 + 2 * (nl.length - 1 - k)) := by
      rw [show (1 : Int32) = nI 1 from rfl, pk_sub (by omega), pk_sub (by omega), show (2 : Int32) = nI 2 from rfl, pk_mul, show (258 : Int32) = nI 258 from rfl, nI_add]
    rw [v_place l3 l1 hk l2 l4, pu_some, if_neg (nm_ne (by omega)), if_pos (pu_inT hm (by omega)), nI_clamp (by omega), d1, pu_some, if_neg ne_10, e, if_pos (show sk_in (7 : Int32) 378 = true by decide)]
    by_cases hy : y = 0
    · rw [if_pos hy, if_pos hy]
      dsimp only
      rw [nI_1, if_pos (pu_inT (by omega) (by omega)), nI_clamp (by omega), m2, g2]
      exact ⟨_, rfl, rfl⟩
    · rw [if_neg hy, if_neg hy]
      dsimp only
      rw [Int32.add_zero, if_pos (pu_inT hm (by omega)), nI_clamp (by omega), m1, g1, if_pos (pu_inT (show 258 + 2 * (nl.length - 1 - k) < 378 by omega) (by omega))]
      exact ⟨_, rfl, rfl⟩
