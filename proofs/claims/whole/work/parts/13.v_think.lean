/-! in thought -/
def FB (M M' : sk_M) : Prop := (∀ x, x < 378 → M'.1 1 x = M.1 1 x) ∧ M'.1 2 = M.1 2 ∧ M'.1 4 = M.1 4 ∧ (∀ k, k ≠ 8 → k ≠ 10 → M'.1 0 k = M.1 0 k) ∧ M'.1 0 10 = 0
theorem FB.rf {M : sk_M} (h : M.1 0 10 = 0) : FB M M := ⟨fun _ _ => rfl, rfl, rfl, fun _ _ _ => rfl, h⟩
theorem FB.tr {A B C : sk_M} (h : FB A B) (g : FB B C) : FB A C := ⟨fun x hx => (g.1 x hx).trans (h.1 x hx), g.2.1.trans h.2.1, g.2.2.1.trans h.2.2.1, fun k a b => (g.2.2.2.1 k a b).trans (h.2.2.2.1 k a b), g.2.2.2.2⟩
theorem b_think (M : sk_M) : ∃ M1, m_X5_leaves M = some M1 ∧ M1.1 1 = M.1 1 ∧ M1.1 0 10 = 1 ∧ ∀ M2, FH M1 M2 → ∃ M3, m_X5_comesBack M2 = some M3 ∧ FB M M3 := by
  obtain ⟨M1, a1, a2, a3, a4, a5, a6⟩ := d_leaves M
  refine ⟨M1, a1, a3 1 (by omega) (by omega), a5, fun M2 h => ?_⟩
  obtain ⟨M3, b1, b2, b3, b4, b5, b6⟩ := d_back M2
  refine ⟨M3, b1, fun x hx => by rw [b2 x hx, h.1, a2 x hx], ?_, ?_, fun k h8 h10 => by rw [b4 k h10, h.2.2.2 k h8, a4 k h10], b5⟩
  · rw [b3 2 (by omega) (by omega), h.2.1, a3 2 (by omega) (by omega)]
  · rw [b3 4 (by omega) (by omega), h.2.2.1, a3 4 (by omega) (by omega)]
theorem RW.th {b : Nat} {N L : sk_N} {M M1 : sk_M} (h : RW b N L (M.1 1)) (h1 : M1.1 1 = M.1 1) (h2 : M1.1 0 10 = 1) : ∃ cnt P T, T ≤ b ∧ RX cnt P T T N (M.1 1) ∧ RS cnt P T T N L M1 := by
  obtain ⟨cnt, P, T, nl, a1, a2, a3, a4, a5⟩ := h
  exact ⟨cnt, P, T, a1, a2, by rw [h1]; exact a2, by rw [h1]; exact a3, nl, a4, Or.inr h2⟩
def LX (L : sk_N) : Prop := ∃ nl, LG nl L
theorem le_1 {j : Nat} (hj : j < 2 ^ 31) (h : ¬ nI j < 1) : 1 ≤ j := by
  rcases Nat.eq_zero_or_pos j with e | e
  · subst e; exact absurd (by decide) h
  · exact e
theorem a_lim (x : Int32) : (m_X4_requireLimit x = some (.inr 1) ∧ m_X5_isLimit x = some 0) ∨ ∃ lim : Nat, 1 ≤ lim ∧ lim ≤ 400 ∧ x = nI lim ∧ m_X4_requireLimit x = some (.inl ()) ∧ m_X5_isLimit x = some 1 := by
  unfold m_X4_requireLimit m_X5_isLimit m_X5_within
  have b0 : sk_bl 0 = true := by decide
  have b1 : sk_bl 1 = true := by decide
  by_cases h1 : x < 1
  · left
    rw [if_pos h1, if_pos h1, pu_some, if_pos b0]
    exact ⟨rfl, rfl⟩
  · by_cases h2 : x ≤ 400
    · right
      have h0 : ¬ x < 0 := fun e => h1 (Int32.lt_trans e (by decide))
      obtain ⟨j, j1, j2⟩ := nI_of2 (M := 400) (n := 400) (by decide) h0 h2
      refine ⟨j, le_1 (by omega) (by rw [← j2]; exact h1), j1, j2, ?_, ?_⟩
      · rw [if_neg h1, if_pos h2]
      · rw [if_neg h1, if_neg (fun e => absurd h2 (Int32.not_le.mpr e)), pu_some, if_pos b1]
    · left
      rw [if_neg h1, if_neg h2, if_neg h1, if_pos (Int32.not_le.mp h2), pu_some, if_pos b0]
      exact ⟨rfl, rfl⟩
theorem a_in {n : Nat} (hn : n < 2 ^ 30) (x : Int32) : (m_X5_within x 0 (nI n - 1) = some 0 ∧ (x < 0 ∨ nI n ≤ x)) ∨ ∃ j : Nat, j < n ∧ x = nI j ∧ m_X5_within x 0 (nI n - 1) = some 1 := by
  unfold m_X5_within
  rcases pk_ix x (n := n) (by omega) with h | h | ⟨j, j1, j2⟩
  · left; rw [if_pos h]; exact ⟨rfl, Or.inl h⟩
  · left
    by_cases h0 : x < 0
    · rw [if_pos h0]; exact ⟨rfl, Or.inl h0⟩
    · have : nI n - 1 < x := by
        rw [Int32.lt_iff_toInt_lt, show (1 : Int32) = nI 1 from rfl, pk_sub_toInt hn (by omega)]
        have h' := Int32.le_iff_toInt_le.mp h
        rw [nI_toInt (by omega)] at h'
        omega
      rw [if_neg h0, if_pos this]; exact ⟨rfl, Or.inr h⟩
  · right
    refine ⟨j, j1, j2, ?_⟩
    subst j2
    rw [if_neg (nI_pos (by omega)), show (1 : Int32) = nI 1 from rfl, pk_sub (by omega), if_neg (nI_nlt (by omega) (by omega))]
theorem a_clk {cnt P : Nat} {N : sk_N} {M : sk_M} (h : ST cnt P N (M.1 1)) (x : Int32) : (m_X1_hasClock N x = some 0 ∧ m_X4_requireClock N x = some (.inr 3) ∧ m_X5_isClock M x = some 0) ∨ ∃ c : Nat, c < cnt ∧ x = nI c ∧ m_X1_hasClock N x = some 1 ∧ m_X4_requireClock N x = some (.inl ()) ∧ m_X5_isClock M x = some 1 := by
  obtain ⟨h10, hP1, hP2, e0, e5, eP, eP'⟩ := h.ex
  have b0 : sk_bl 0 = true := by decide
  have b1 : sk_bl 1 = true := by decide
  unfold m_X4_requireClock m_X5_isClock
  rw [if_pos (show sk_in (5 : Int32) 378 = true by decide), show ((5 : Int32)).toNatClampNeg = 5 from rfl, e5]
  rcases a_in (n := cnt) (by omega) x with ⟨a1, a2⟩ | ⟨j, j1, j2, j3⟩
  · left
    have hc : m_X1_hasClock N x = some 0 := by
      unfold m_X1_hasClock
      by_cases h0 : x < 0
      · rw [if_pos h0]
      · rw [if_neg h0, e0, if_pos (a2.resolve_left h0)]
    rw [hc, a1, pu_some, pu_some, if_pos b0, if_pos rfl]
    exact ⟨rfl, rfl, rfl⟩
  · right
    have hc : m_X1_hasClock N x = some 1 := by
      unfold m_X1_hasClock
      rw [j2, if_neg (nI_pos (by omega)), e0, if_neg (nI_ge j1 (by omega))]
    refine ⟨j, j1, j2, hc, ?_, ?_⟩
    · rw [hc, pu_some, if_neg (by decide)]
    · rw [j3, pu_some, if_pos b1]
theorem a_ph {cnt P : Nat} {N : sk_N} {M : sk_M} (h : ST cnt P N (M.1 1)) (x : Int32) : (m_X1_isPhase N x = some 0 ∧ m_X4_requirePhase N x = some (.inr 1) ∧ m_X5_within x 0 (M.1 1 0 - 1) = some 0) ∨ ∃ p : Nat, p < P ∧ x = nI p ∧ m_X1_isPhase N x = some 1 ∧ m_X4_requirePhase N x = some (.inl ()) ∧ m_X5_within x 0 (M.1 1 0 - 1) = some 1 := by
  obtain ⟨h10, hP1, hP2, e0, e5, eP, eP'⟩ := h.ex
  unfold m_X4_requirePhase
  rw [eP']
  rcases a_in (n := P) (by omega) x with ⟨a1, a2⟩ | ⟨j, j1, j2, j3⟩
  · left
    have hc : m_X1_isPhase N x = some 0 := by
      unfold m_X1_isPhase
      by_cases h0 : x < 0
      · rw [if_pos h0]
      · rw [if_neg h0, eP, if_pos (a2.resolve_left h0)]
    rw [hc, a1, pu_some, if_pos rfl]
    exact ⟨rfl, rfl, rfl⟩
  · right
    have hc : m_X1_isPhase N x = some 1 := by
      unfold m_X1_isPhase
      rw [j2, if_neg (nI_pos (by omega)), eP, if_neg (nI_ge j1 (by omega))]
    refine ⟨j, j1, j2, hc, ?_, j3⟩
    rw [hc, pu_some, if_neg (by decide)]
/-- within a range of numbers that are not negative -/
theorem a_rng {x : Int32} {a b : Nat} (hb : b < 2 ^ 31) (hab : a ≤ b) : (m_X5_within x (nI a) (nI b) = some 0 ∧ (x < nI a ∨ nI b < x)) ∨ ∃ j : Nat, a ≤ j ∧ j ≤ b ∧ x = nI j ∧ m_X5_within x (nI a) (nI b) = some 1 ∧ ¬ x < nI a ∧ ¬ nI b < x ∧ x ≤ nI b ∧ ¬ x < 0 := by
  unfold m_X5_within
  by_cases h1 : x < nI a
  · left; rw [if_pos h1]; exact ⟨rfl, Or.inl h1⟩
  · by_cases h2 : nI b < x
    · left; rw [if_neg h1, if_pos h2]; exact ⟨rfl, Or.inr h2⟩
    · right
      have h0 : ¬ x < 0 := fun e => h1 (Int32.lt_of_lt_of_le e (nI_pos' (by omega)))
      obtain ⟨j, j1, j2⟩ := nI_of2 (M := nI b) (n := b) (nI_toInt hb) h0 (Int32.not_lt.mp h2)
      refine ⟨j, ?_, j1, j2, by rw [if_neg h1, if_neg h2], h1, h2, Int32.not_lt.mp h2, h0⟩
      rw [j2] at h1
      exact Nat.le_of_not_lt (fun e => h1 (nI_lt e (by omega)))
theorem ref_0 (M : sk_M) : m_X5_refused M 0 = some (0, md_up M 0 4 0) := by unfold m_X5_refused; rw [pu_let, if_pos (by decide)]
theorem ref_1 (M : sk_M) : m_X5_refused M 1 = some (1, md_up M 0 4 1) := by unfold m_X5_refused; rw [pu_let, if_neg (by decide)]
theorem ref_2 (M : sk_M) : m_X5_refused M 2 = some (1, md_up M 0 4 2) := by unfold m_X5_refused; rw [pu_let, if_neg (by decide)]
theorem need_0 (M : sk_M) : m_X5_need M 0 = some 1 := by unfold m_X5_need; rw [if_pos rfl]
theorem need_1 (M : sk_M) : m_X5_need M 1 = some 0 := by unfold m_X5_need; rw [if_neg (by decide)]
theorem ne_10 : ¬ (1 : Int32) = 0 := by decide
theorem FB.up {M M' : sk_M} {v : Int32} (h : FB (md_up M 0 4 v) M') : M'.1 0 4 = v := by rw [h.2.2.2.1 4 (by omega) (by omega), pu_m, if_pos ⟨rfl, rfl⟩]
theorem RW.up {b : Nat} {N L : sk_N} {M : sk_M} {v : Int32} (h : RW b N L (M.1 1)) : RW b N L ((md_up M 0 4 v).1 1) := by rw [pu_mrow (by omega)]; exact h
theorem up_10 {M : sk_M} {v : Int32} (h : M.1 0 10 = 0) : (md_up M 0 4 v).1 0 10 = 0 := by rw [pu_m, if_neg (by omega)]; exact h
/-- one thought: until there are so few groups -/
theorem th_until {cnt P T g lim : Nat} {S3 S4 N L : sk_N} {M1 : sk_M} (h : RS cnt P T T N L M1) (hg : g ≤ 10) (hl : lim ≤ 400) (hb : T + 400 < 2 ^ 29) : ∃ (r : Int32) (N' L' : sk_N) (M' : sk_M), (r = -1 ∨ ∃ n : Nat, 1 ≤ n ∧ n ≤ 400 ∧ r = nI n) ∧ m_X1_passUntilGroups N L (nI g) (nI lim) = some (r, N', L') ∧ m_X5_until M1 (nI g) (nI lim) = some (r, M') ∧ LX L' ∧ FH M1 M' := by
  obtain ⟨r, N', L', M', a1, a2, a3, a4, a5⟩ := t_until h hg hl (by omega) (by omega)
  exact ⟨r, N', L', M', a1, a2, a3, a4, a5.fh⟩
theorem g_ticksUntil {b : Nat} {S3 S4 N L : sk_N} {M : sk_M} (hR : RW b N L (M.1 1)) (hb : b < 2 ^ 28) (x y : Int32) : (m_X4_ticksUntil N L S3 S4 x y = some (.inr 1) ∧ m_X5_ticksUntil M x y = some (0, md_up M 0 4 1)) ∨ ∃ r S3' S4' M', m_X4_ticksUntil N L S3 S4 x y = some (.inl (r, S3', S4')) ∧ m_X5_ticksUntil M x y = some (r, M') ∧ LX S4' ∧ FB (md_up M 0 4 0) M' := by
  have no : (m_X5_ticksUntil_24 x y (M, 0)) = some (0, md_up M 0 4 1) := by
    unfold m_X5_ticksUntil_24
    rw [need_0, pu_some, ref_1, pu_some, if_neg ne_10]
  unfold m_X4_ticksUntil m_X5_ticksUntil
  rcases (show (m_X5_within x 0 10 = some 0 ∧ (x < 0 ∨ 10 < x)) ∨ ∃ j : Nat, 0 ≤ j ∧ j ≤ 10 ∧ x = nI j ∧ m_X5_within x 0 10 = some 1 ∧ ¬ x < 0 ∧ ¬ 10 < x ∧ x ≤ 10 ∧ ¬ x < 0 from a_rng (x := x) (a := 0) (b := 10) (by omega) (by omega)) with ⟨c1, c2⟩ | ⟨g, g1, g2, rfl, g4, g5, g6, g7, g8⟩
  · left
    rw [c1, pu_some, if_pos rfl]
    refine ⟨?_, no⟩
    by_cases h1 : x < 0
    · rw [if_pos h1]
    · rw [if_neg h1, if_neg (Int32.not_le.mpr (c2.resolve_left h1))]
  · rw [g4, pu_some, if_neg g5, if_pos g7, if_neg ne_10]
    rcases a_lim y with ⟨d1, d2⟩ | ⟨lim, l1, l2, rfl, l4, l5⟩
    · left
      rw [d1, pu_xe, d2, pu_some, if_pos rfl]
      exact ⟨rfl, no⟩
    · right
      obtain ⟨M1, t1, t2, t3, t4⟩ := b_think (md_up M 0 4 0)
      obtain ⟨cnt, P, T, u1, u2, u3⟩ := (hR.up (v := 0)).th t2 t3
      obtain ⟨N1, L1, v1, v2, v3⟩ := c_copy S3 S4 N L
      obtain ⟨r, N2, L2, M2, w1, w2, w3, w4, w5⟩ := th_until (S3 := S3) (S4 := S4) (u3.copy v2 v3) g2 l2 (by omega)
      obtain ⟨M3, z1, z2⟩ := t4 M2 w5
      refine ⟨r, N2, L2, M3, ?_, ?_, w4, z2⟩
      · rw [l4, pu_xb, v1, pu_some, w2, pu_some]
      · rw [l5, pu_some, if_neg ne_10]
        unfold m_X5_ticksUntil_24
        rw [need_1, pu_some, ref_0, pu_some, if_pos rfl, t1, pu_some, w3, pu_some, z1, pu_some]
theorem g_groupsAfter {b : Nat} {S3 S4 N L : sk_N} {M : sk_M} (hR : RW b N L (M.1 1)) (hb : b < 2 ^ 28) (x : Int32) : (m_X4_groupsAfter N L S3 S4 x = some (.inr 1) ∧ m_X5_groupsAfter M x = some (0, md_up M 0 4 1)) ∨ ∃ r S3' S4' M', m_X4_groupsAfter N L S3 S4 x = some (.inl (r, S3', S4')) ∧ m_X5_groupsAfter M x = some (r, M') ∧ LX S4' ∧ FB (md_up M 0 4 0) M' := by
  unfold m_X4_groupsAfter m_X5_groupsAfter
  rcases a_lim x with ⟨d1, d2⟩ | ⟨lim, l1, l2, rfl, l4, l5⟩
  · left
    rw [d1, pu_xe, d2, pu_some, need_0, pu_some, ref_1, pu_some, if_neg ne_10]
    exact ⟨rfl, rfl⟩
  · right
    obtain ⟨M1, t1, t2, t3, t4⟩ := b_think (md_up M 0 4 0)
    obtain ⟨cnt, P, T, u1, u2, u3⟩ := (hR.up (v := 0)).th t2 t3
    obtain ⟨N1, L1, v1, v2, v3⟩ := c_copy S3 S4 N L
    obtain ⟨r, N2, L2, M2, w1, w2, w3, w4, w5⟩ := t_pass (u3.copy v2 v3) l2 (by omega) (by omega)
    obtain ⟨M3, z1, z2⟩ := t4 M2 w5.fh
    refine ⟨nI (ct (fg N2) cnt), N2, L2, M3, ?_, ?_, w4.lg, z2⟩
    · rw [l4, pu_xb, v1, pu_some, w2, pu_some, show (10 : Int32) = nI 10 from rfl, q_count10 w4.1.qr, pu_some]
    · rw [l5, pu_some, need_1, pu_some, ref_0, pu_some, if_pos rfl, t1, pu_some, w3, pu_some, q_many w4.1.qr, pu_some, z1, pu_some]
theorem g_firesIn {b : Nat} {S3 S4 N L : sk_N} {M : sk_M} (hR : RW b N L (M.1 1)) (hb : b < 2 ^ 28) (x y : Int32) : (m_X4_firesIn N L S3 S4 x y = some (.inr 3) ∧ m_X5_firesIn M x y = some (0, md_up M 0 4 1)) ∨ (m_X4_firesIn N L S3 S4 x y = some (.inr 1) ∧ m_X5_firesIn M x y = some (0, md_up M 0 4 2)) ∨ ∃ r S3' S4' M', m_X4_firesIn N L S3 S4 x y = some (.inl (r, S3', S4')) ∧ m_X5_firesIn M x y = some (r, M') ∧ LX S4' ∧ FB (md_up M 0 4 0) M' := by
  obtain ⟨M1, t1, t2, t3, t4⟩ := b_think (md_up M 0 4 0)
  obtain ⟨cnt, P, T, u1, u2, u3⟩ := (hR.up (v := 0)).th t2 t3
  rw [pu_mrow (by omega)] at u2
  unfold m_X4_firesIn m_X5_firesIn m_X5_firesIn_25
  rcases a_clk u2.1 x with ⟨-, c1, c2⟩ | ⟨c, hc, rfl, -, c1, c2⟩
  · left
    rw [c1, pu_xe, c2, pu_some, if_pos rfl, ref_1, pu_some, if_neg ne_10]
    exact ⟨rfl, rfl⟩
  · right
    rcases a_lim y with ⟨d1, d2⟩ | ⟨lim, l1, l2, rfl, l4, l5⟩
    · left
      rw [c1, pu_xb, c2, pu_some, if_neg ne_10, d1, pu_xe, d2, pu_some, if_pos rfl, ref_2, pu_some, if_neg ne_10]
      exact ⟨rfl, rfl⟩
    · right
      obtain ⟨N1, L1, v1, v2, v3⟩ := c_copy S3 S4 N L
      have h10 := u2.1.1.1
      rw [c1, pu_xb, c2, pu_some, if_neg ne_10, l4, pu_xb, l5, pu_some, if_neg ne_10, ref_0, pu_some, if_pos rfl, v1, pu_some, t1, pu_some]
      have nm : ∀ v : Nat, v < 402 → ¬ nI v = -1 := fun v hv => by
        have : ∀ v : Fin 402, ¬ nI v.val = -1 := by decide +kernel
        exact this ⟨v, hv⟩
      -- the class
      have key : ∃ r N2 L2 M2, m_X4_firesIn_22 N L (nI c) (nI lim) (N1, L1, 1) = some (.inl (r, N2, L2)) ∧ m_X5_firesIn_42 (nI c) (nI lim) (M1, -1, 1) = m_X5_firesIn_87 (nI c) (nI lim) (M2, r) ∧ LX L2 ∧ FH M1 M2 := by
        -- one turn of both
        have turn : ∀ (A La : sk_N) (B : sk_M) (j : Nat), j < lim → RS cnt P (T + j) (T + j) A La B → ∃ N' L' M' F, F < 1024 ∧ (∀ k, m_X4_firesIn_22_step N L (nI c) (nI lim) k (A, La, nI (j + 1)) = if F.testBit c = true then some (.inl (nI (j + 1), N', L')) else k (N', L', nI (j + 2))) ∧ (∀ k, m_X5_firesIn_42_step (nI c) (nI lim) k (B, -1, nI (j + 1)) = if F.testBit c = true then k (M', nI (j + 1), nI (j + 2)) else k (M', -1, nI (j + 2))) ∧ RS cnt P (T + (j + 1)) (T + (j + 1)) N' L' M' ∧ FH B M' := by
          intro A La B j hj hRS
          obtain ⟨r, N', L', M', a1, a2, a3, a4⟩ := t_one hRS (by omega) (by omega)
          obtain ⟨F, f1, f2, f3⟩ := a3.2.1
          refine ⟨N', L', M', F, f1, fun k => ?_, fun k => ?_, a3, a4.fh⟩
          · unfold m_X4_firesIn_22_step
            dsimp only
            have hf := v_hasFired f1 f2 (show c < 10 by omega)
            rw [if_neg (fun e => absurd ((nI_ltI (by omega) (by omega)).mp e) (by omega)), show (1 : Int32) = nI 1 from rfl, a1, pu_some, hf, pu_some, nI_add]
            by_cases hb : F.testBit c = true
            · rw [if_pos hb, if_pos hb, if_neg (by decide)]
            · rw [if_neg hb, if_neg hb, if_pos rfl]
          · unfold m_X5_firesIn_42_step
            dsimp only
            have sb := sh_bit (S := F) (j := c) (by omega) (by omega)
            rw [if_neg (fun e => absurd ((nI_ltI (by omega) (by omega)).mp e) (by omega)), if_pos rfl, a2, pu_some, if_pos (show sk_in (6 : Int32) 378 = true by decide), pu_lit6, f3, show (1 : Int32) = nI 1 from rfl, sb, nI_add]
            by_cases hb : F.testBit c = true
            · rw [if_pos hb, if_pos hb, if_pos rfl]
            · rw [if_neg hb, if_neg hb, if_neg (by decide)]
        have hm : ∀ (fuel fuel' j : Nat) (A La : sk_N) (B : sk_M), j ≤ lim → lim - j < fuel → lim - j + 1 < fuel' → RS cnt P (T + j) (T + j) A La B → FH M1 B → ∃ r N2 L2 M2, sk_lp (m_X4_firesIn_22_step N L (nI c) (nI lim)) fuel (A, La, nI (j + 1)) = some (.inl (r, N2, L2)) ∧ sk_lp (m_X5_firesIn_42_step (nI c) (nI lim)) fuel' (B, -1, nI (j + 1)) = m_X5_firesIn_87 (nI c) (nI lim) (M2, r) ∧ LX L2 ∧ FH M1 M2 := by
          intro fuel
          induction fuel with
          | zero => intro _ j _ _ _ _ h; exact absurd h (by omega)
          | succ fuel ih =>
            intro fuel' j A La B hj h1 h2 hRS hF
            rcases fuel' with _ | fuel'
            · omega
            by_cases hjl : j = lim
            · refine ⟨-1, A, La, B, ?_, ?_, hRS.lg, hF⟩
              · rw [sk_lp]
                unfold m_X4_firesIn_22_step
                dsimp only
                rw [if_pos (nI_lt (by omega) (by omega))]
              · rw [sk_lp]
                unfold m_X5_firesIn_42_step
                dsimp only
                rw [if_pos (nI_lt (by omega) (by omega))]
            · obtain ⟨N', L', M', F, f1, f2, f3, f4, f5⟩ := turn A La B j (by omega) hRS
              by_cases hb : F.testBit c = true
              · refine ⟨nI (j + 1), N', L', M', ?_, ?_, f4.lg, hF.tr f5⟩
                · rw [sk_lp, f2, if_pos hb]
                · rw [sk_lp, f3, if_pos hb]
                  rcases fuel' with _ | fuel'
                  · omega
                  rw [sk_lp]
                  unfold m_X5_firesIn_42_step
                  dsimp only
                  by_cases hx : nI lim < nI (j + 2)
                  · rw [if_pos hx]
                  · rw [if_neg hx, if_neg (nm (j + 1) (by omega))]
              · rw [sk_lp, f2, if_neg hb, sk_lp, f3, if_neg hb]
                exact ih fuel' (j + 1) N' L' M' (by omega) (by omega) (by omega) f4 (hF.tr f5)
        exact hm sk_fuel sk_fuel 0 N1 L1 M1 (by omega) (by unfold sk_fuel; omega) (by unfold sk_fuel; omega) (u3.copy v2 v3) FH.rf
      obtain ⟨r, N2, L2, M2, k1, k2, k3, k4⟩ := key
      obtain ⟨M3, z1, z2⟩ := t4 M2 k4
      refine ⟨r, N2, L2, M3, k1, ?_, k3, z2⟩
      rw [k2]
      unfold m_X5_firesIn_87
      rw [z1, pu_some]
