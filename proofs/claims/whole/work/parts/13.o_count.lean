/-! period, response, counts -/
theorem pu_rem {a d : Nat} (ha : a < 2 ^ 31) (h0 : 0 < d) (hd : d < 2 ^ 31) : sk_rem (nI a) (nI d) = nI (a % d) := pk_rem ha h0 hd
theorem o_period {cnt P T Q : Nat} {N : sk_N} {M : sk_M} (h : RX cnt P T T N (M.1 1)) (h1 : 10 ≤ Q) (h2 : Q ≤ 100) : ∃ N' M', m_X1_changePeriod N (nI Q) = some (nI P, N') ∧ M.1 1 0 = nI P ∧ m_X5_setPeriod_41 (nI Q) (md_up M 1 0 (nI Q), nI P, 0) = some (nI P, M') ∧ RX cnt Q T T N' (M'.1 1) ∧ N' 0 4 = N 0 4 ∧ (∀ x, 18 ≤ x ∨ x = 6 ∨ x = 7 → M'.1 1 x = M.1 1 x) ∧ (∀ j, j ≠ 1 → M'.1 j = M.1 j) ∧ M'.2 = M.2 := by
  obtain ⟨hst, htk, hph, hpu, -⟩ := h
  obtain ⟨h10, hP1, hP2, e0, e5, eP, eP'⟩ := hst.ex
  have key : ∃ N' M', m_X1_changePeriod_16 (nI Q) (sk_up N 0 1 (nI Q), nI P, 0) = some (nI P, N') ∧ m_X5_setPeriod_41 (nI Q) (md_up M 1 0 (nI Q), nI P, 0) = some (nI P, M') ∧ (∀ r, r ≠ 2 → N' r = sk_up N 0 1 (nI Q) r) ∧ (∀ x, x < 8 ∨ 18 ≤ x → M'.1 1 x = (md_up M 1 0 (nI Q)).1 1 x) ∧ (∀ j, j ≠ 1 → M'.1 j = M.1 j) ∧ M'.2 = M.2 ∧ ∀ c, c < cnt → ∃ q, q < Q ∧ N' 2 c = nI q ∧ M'.1 1 (8 + c) = nI q := by
    refine lp_LF (step := m_X1_changePeriod_16_step (nI Q)) (step' := m_X5_setPeriod_41_step (nI Q)) (fun y y' => ∃ N' M', y = some (nI P, N') ∧ y' = some (nI P, M') ∧ (∀ r, r ≠ 2 → N' r = sk_up N 0 1 (nI Q) r) ∧ (∀ x, x < 8 ∨ 18 ≤ x → M'.1 1 x = (md_up M 1 0 (nI Q)).1 1 x) ∧ (∀ j, j ≠ 1 → M'.1 j = M.1 j) ∧ M'.2 = M.2 ∧ ∀ c, c < cnt → ∃ q, q < Q ∧ N' 2 c = nI q ∧ M'.1 1 (8 + c) = nI q)
      (fun j s s' => s.2 = (nI P, nI j) ∧ s'.2 = (nI P, nI j) ∧ (∀ r, r ≠ 2 → s.1 r = sk_up N 0 1 (nI Q) r) ∧ (∀ x, x < 8 ∨ 18 ≤ x → s'.1.1 1 x = (md_up M 1 0 (nI Q)).1 1 x) ∧ (∀ j, j ≠ 1 → s'.1.1 j = M.1 j) ∧ s'.1.2 = M.2 ∧ ∀ c, c < cnt → ∃ q, q < 100 ∧ (c < j → q < Q) ∧ s.1 2 c = nI q ∧ s'.1.1 1 (8 + c) = nI q) cnt (by omega) _ _ ⟨rfl, rfl, fun _ _ => rfl, fun _ _ => rfl, fun j hj => pu_mrow hj, rfl, fun c hc => ?_⟩ ?_
    · obtain ⟨q, q1, q2, q3⟩ := hph c hc
      have q1 : q < P := q1
      dsimp only
      exact ⟨q, by omega, fun e => absurd e (by omega), by rw [pu_row (by omega)]; exact q2, by rw [pu_m, if_neg (by omega)]; exact q3⟩
    rintro k k' j ⟨A, x⟩ ⟨B, y⟩ hj ⟨rfl, rfl, a1, a2, a3, a4, a5⟩
    dsimp only at a1 a2 a3 a4 a5 ⊢
    have f0 : A 0 0 = nI cnt := by rw [a1 0 (by omega), pu_sup, if_neg (by omega)]; exact e0
    have f5 : B.1 1 5 = nI cnt := by rw [a2 5 (by omega), pu_m, if_neg (by omega)]; exact e5
    unfold m_X1_changePeriod_16_step m_X5_setPeriod_41_step
    dsimp only
    by_cases hjc : j = cnt
    · subst hjc
      simp (disch := omega) only [pu_lit, pu_let, pu_some, pu_xb, pu_xe, pu_hb, pu_he, nI_add, pk_mul, pk_sub, nI_clamp, pu_inT, nI_leI, nI_ltI, nI_eq, if_pos, if_neg, ↓reduceIte, true_and, and_true, and_self, not_true_eq_false, not_false_eq_true, reduceCtorEq, f0, f5]
      exact Or.inl ⟨A, B, rfl, rfl, a1, a2, a3, a4, fun c hc => by obtain ⟨q, q1, q2, q3, q4⟩ := a5 c hc; exact ⟨q, q2 hc, q3, q4⟩⟩
    · right
      have hlt : j < cnt := by omega
      refine ⟨hlt, ?_⟩
      obtain ⟨q, q1, q2, q3, q4⟩ := a5 j hlt
      simp (disch := omega) only [pu_lit, pu_let, pu_some, pu_xb, pu_xe, pu_hb, pu_he, nI_add, pk_mul, pk_sub, nI_clamp, pu_inT, nI_leI, nI_ltI, nI_eq, if_pos, if_neg, ↓reduceIte, true_and, and_true, and_self, not_true_eq_false, not_false_eq_true, reduceCtorEq, f0, f5, q3, q4, pu_rem]
      refine ⟨_, _, rfl, rfl, rfl, rfl, ?_⟩
      dsimp only
      refine ⟨fun r hr => by rw [pu_row hr]; exact a1 r hr, fun x hx => by rw [pu_m, if_neg (by omega)]; exact a2 x hx, fun i hi => by rw [pu_mrow hi]; exact a3 i hi, a4, fun c hc => ?_⟩
      have hm : q % Q < Q := Nat.mod_lt _ (by omega)
      by_cases e : c = j
      · subst e
        exact ⟨q % Q, by omega, fun _ => hm, by rw [pu_sup, if_pos ⟨rfl, rfl⟩], by rw [pu_m, if_pos ⟨rfl, rfl⟩]⟩
      · obtain ⟨u, u1, u2, u3, u4⟩ := a5 c hc
        exact ⟨u, u1, fun hh => u2 (by omega), by rw [pu_sup, if_neg (by omega)]; exact u3, by rw [pu_m, if_neg (by omega)]; exact u4⟩
  obtain ⟨N', M', k1, k2, k3, k4, k5, k6, k7⟩ := key
  have w1 : ∀ x, x ≠ 0 → x < 8 ∨ 18 ≤ x → M'.1 1 x = M.1 1 x := fun x a b => by rw [k4 x b, pu_m, if_neg (by omega)]
  have n0 : ∀ k, k ≠ 1 → N' 0 k = N 0 k := fun k a => by rw [k3 0 (by omega), pu_sup, if_neg (by omega)]
  have nr : ∀ r, r ≠ 0 → r ≠ 2 → N' r = N r := fun r a b => by rw [k3 r b, pu_row a]
  refine ⟨N', M', ?_, eP', k2, ⟨?_, htk.keep (n0 3 (by omega)) (w1 4 (by omega) (by omega)), k7, hpu.keep (nr 7 (by omega) (by omega)) (fun x a b => w1 x (by omega) (by omega)), RT.same⟩, n0 4 (by omega), fun x hx => w1 x (by omega) (by omega), k5, k6⟩
  · unfold m_X1_changePeriod
    have z0 : nI 0 = (0 : Int32) := rfl
    simp (disch := omega) only [pu_lit, pu_let, pu_some, pu_xb, pu_xe, pu_hb, pu_he, nI_add, pk_mul, pk_sub, nI_clamp, pu_inT, nI_leI, nI_ltI, nI_eq, if_pos, if_neg, ↓reduceIte, true_and, and_true, and_self, not_true_eq_false, not_false_eq_true, reduceCtorEq, eP]
    exact k1
  · obtain ⟨s1, s2, s3, ⟨rr, k, d, d1, d2, d3, d4, d5, d6, d7, d8, d9⟩, ⟨g1, g2⟩, f⟩ := hst
    refine ⟨⟨h10, h1, h2⟩, ⟨by rw [n0 0 (by omega)]; exact e0, by rw [w1 5 (by omega) (by omega)]; exact e5⟩, ⟨by rw [k3 0 (by omega), pu_sup, if_pos ⟨rfl, rfl⟩], by rw [k4 0 (by omega), pu_m, if_pos ⟨rfl, rfl⟩]⟩, ⟨rr, k, d, d1, d2, d3, by rw [nr 1 (by omega) (by omega)]; exact d4, by rw [w1 1 (by omega) (by omega)]; exact d5, by rw [nr 1 (by omega) (by omega)]; exact d6, by rw [w1 2 (by omega) (by omega)]; exact d7, by rw [nr 1 (by omega) (by omega)]; exact d8, by rw [w1 3 (by omega) (by omega)]; exact d9⟩, ⟨fun c hc => ?_, fun c hc hc2 => by rw [nr 3 (by omega) (by omega), nr 4 (by omega) (by omega)]; exact g2 c hc hc2⟩, fun p q hp hq => ?_⟩
    · rw [nr 3 (by omega) (by omega), nr 4 (by omega) (by omega), nr 5 (by omega) (by omega), w1 (18 + c) (by omega) (by omega), w1 (28 + c) (by omega) (by omega), w1 (38 + c) (by omega) (by omega), w1 (48 + c) (by omega) (by omega)]
      exact g1 c hc
    · rw [nr 6 (by omega) (by omega), w1 (58 + (10 * p + q)) (by omega) (by omega)]
      exact f p q hp hq
theorem o_resp {cnt P T1 T2 i v : Nat} {N : sk_N} {M : sk_M} (h : RX cnt P T1 T2 N (M.1 1)) (hi : i < 3) (hv : v ≤ (if i = 0 then 99 else if i = 1 then 32 else 2)) : ∃ r, m_X1_changeResponse N (nI i) (nI v) = some (r, sk_up N 1 i (nI v)) ∧ M.1 1 (1 + i) = r ∧ RX cnt P T1 T2 (sk_up N 1 i (nI v)) ((md_up M 1 (1 + i) (nI v)).1 1) := by
  obtain ⟨⟨s1, s2, s3, ⟨rr, k, d, d1, d2, d3, d4, d5, d6, d7, d8, d9⟩, ⟨g1, g2⟩, f⟩, htk, hph, hpu, hrt⟩ := h
  obtain ⟨h10, hP1, hP2⟩ := s1
  have hk : ST cnt P (sk_up N 1 i (nI v)) ((md_up M 1 (1 + i) (nI v)).1 1) → M.1 1 (1 + i) = N 1 i → ∃ r, m_X1_changeResponse N (nI i) (nI v) = some (r, sk_up N 1 i (nI v)) ∧ M.1 1 (1 + i) = r ∧ RX cnt P T1 T2 (sk_up N 1 i (nI v)) ((md_up M 1 (1 + i) (nI v)).1 1) := by
    intro hs he
    refine ⟨N 1 i, ?_, he, hs, htk.keep (by rw [pu_row (by omega)]) (by rw [pu_m, if_neg (by omega)]), hph.keep h10 (pu_row (by omega)) (fun x a b => by rw [pu_m, if_neg (by omega)]) (fun _ _ => Nat.le_refl _), hpu.keep (pu_row (by omega)) (fun x a b => by rw [pu_m, if_neg (by omega)]), hrt.keep (pu_row (by omega)) (pu_row (by omega))⟩
    unfold m_X1_changeResponse
    simp (disch := omega) only [pu_lit, pu_let, pu_some, pu_xb, pu_xe, pu_hb, pu_he, nI_add, pk_mul, pk_sub, nI_clamp, pu_inT, nI_leI, nI_ltI, nI_eq, if_pos, if_neg, ↓reduceIte, true_and, and_true, and_self, not_true_eq_false, not_false_eq_true, reduceCtorEq]
  have rest : ∀ RRN : RR (sk_up N 1 i (nI v)) ((md_up M 1 (1 + i) (nI v)).1 1), ST cnt P (sk_up N 1 i (nI v)) ((md_up M 1 (1 + i) (nI v)).1 1) := by
    intro hh
    refine ⟨⟨h10, hP1, hP2⟩, ⟨by rw [pu_row (by omega)]; exact s2.1, by rw [pu_m, if_neg (by omega)]; exact s2.2⟩, ⟨by rw [pu_row (by omega)]; exact s3.1, by rw [pu_m, if_neg (by omega)]; exact s3.2⟩, hh, ⟨fun c hc => ?_, fun c hc hc2 => by rw [pu_row (by omega), pu_row (by omega)]; exact g2 c hc hc2⟩, fun p q hp hq => ?_⟩
    · rw [pu_row (by omega), pu_row (by omega), pu_row (by omega), pu_m, if_neg (by omega), pu_m, if_neg (by omega), pu_m, if_neg (by omega), pu_m, if_neg (by omega)]
      exact g1 c hc
    · rw [pu_row (by omega), pu_m, if_neg (by omega)]
      exact f p q hp hq
  have hi3 : i = 0 ∨ i = 1 ∨ i = 2 := by omega
  rcases hi3 with rfl | rfl | rfl
  · exact hk (rest ⟨v, k, d, by simpa using hv, d2, d3, by rw [pu_sup, if_pos ⟨rfl, rfl⟩], by rw [pu_m, if_pos ⟨rfl, rfl⟩], by rw [pu_sup, if_neg (by omega)]; exact d6, by rw [pu_m, if_neg (by omega)]; exact d7, by rw [pu_sup, if_neg (by omega)]; exact d8, by rw [pu_m, if_neg (by omega)]; exact d9⟩) (by rw [d4]; exact d5)
  · exact hk (rest ⟨rr, v, d, d1, by simpa using hv, d3, by rw [pu_sup, if_neg (by omega)]; exact d4, by rw [pu_m, if_neg (by omega)]; exact d5, by rw [pu_sup, if_pos ⟨rfl, rfl⟩], by rw [pu_m, if_pos ⟨rfl, rfl⟩], by rw [pu_sup, if_neg (by omega)]; exact d8, by rw [pu_m, if_neg (by omega)]; exact d9⟩) (by rw [d6]; exact d7)
  · exact hk (rest ⟨rr, k, v, d1, d2, by simpa using hv, by rw [pu_sup, if_neg (by omega)]; exact d4, by rw [pu_m, if_neg (by omega)]; exact d5, by rw [pu_sup, if_neg (by omega)]; exact d6, by rw [pu_m, if_neg (by omega)]; exact d7, by rw [pu_sup, if_pos ⟨rfl, rfl⟩], by rw [pu_m, if_pos ⟨rfl, rfl⟩]⟩) (by rw [d8]; exact d9)
/-! links -/
def nbr (N : sk_N) (c o : Nat) : Bool := decide (¬ N 6 (10 * c + o) = -nI 1)
theorem ct_cut {f : Nat → Bool} {n : Nat} : ∀ k, ct (fun a => decide (a < n) && f a) (n + k) = ct f n := by
  have base : ∀ m, m ≤ n → ct (fun a => decide (a < n) && f a) m = ct f m := by
    intro m
    induction m with
    | zero => intro _; rfl
    | succ m ih =>
      intro hm
      rw [ct, ct, ih (by omega)]
      have : m < n := by omega
      simp [this]
  intro k
  induction k with
  | zero => exact base n (Nat.le_refl _)
  | succ k ih =>
    rw [← Nat.add_assoc, ct, ih]
    have : ¬ n + k < n := by omega
    simp [this]
theorem pc_bset {f : Nat → Bool} {n : Nat} (h : n ≤ 10) : pu_pc (bset f n) = ct f n := by
  rw [pu_pcE (f := fun a => decide (a < n) && f a) (fun a _ => bset_bit n a), ← ct_filter, show (10 : Nat) = n + (10 - n) by omega, ct_cut]
theorem q_nbr {cnt P c : Nat} {N : sk_N} {w : Nat → Int32} (h : ST cnt P N w) (hc : c < cnt) : m_X1_neighboursOf N (nI c) = some (nI (bset (nbr N c) cnt)) := by
  obtain ⟨h10, hP1, hP2, e0, e5, -⟩ := h.ex
  refine lp_F (step := m_X1_neighboursOf_4_step N (nI c)) (fun y => y = some (nI (bset (nbr N c) cnt))) (fun j s => s = (nI (bset (nbr N c) j), nI j)) cnt (by omega) (0, 0) rfl ?_
  rintro k j s hj rfl
  unfold m_X1_neighboursOf_4_step
  dsimp only
  by_cases hjc : j = cnt
  · subst hjc
    left
    simp (disch := omega) only [pu_lit, pu_let, pu_some, pu_xb, pu_xe, pu_hb, pu_he, nI_add, pk_mul, pk_sub, nI_clamp, pu_inT, nI_leI, nI_ltI, nI_eq, if_pos, if_neg, ↓reduceIte, true_and, and_true, and_self, not_true_eq_false, not_false_eq_true, reduceCtorEq, e0]
  · right
    have hlt : j < cnt := by omega
    refine ⟨hlt, ?_⟩
    have hbs : bset (nbr N c) j < 1024 := bset_1024 (by omega)
    have h2 := pow_1024 (show j < 10 by omega)
    by_cases hd : N 6 (10 * c + j) = -nI 1
    · have hs : bset (nbr N c) (j + 1) = bset (nbr N c) j := by rw [bset, if_neg (by unfold nbr; simp [hd]), Nat.or_zero]
      simp (disch := omega) only [pu_lit, pu_let, pu_some, pu_xb, pu_xe, pu_hb, pu_he, nI_add, pk_mul, pk_sub, nI_clamp, pu_inT, nI_leI, nI_ltI, nI_eq, if_pos, if_neg, ↓reduceIte, true_and, and_true, and_self, not_true_eq_false, not_false_eq_true, reduceCtorEq, e0, v_delayBetween, hd]
      exact ⟨_, rfl, by rw [hs]⟩
    · have hs : bset (nbr N c) (j + 1) = bset (nbr N c) j ||| 2 ^ j := by rw [bset, if_pos (by unfold nbr; simp [hd])]
      simp (disch := omega) only [pu_lit, pu_let, pu_some, pu_xb, pu_xe, pu_hb, pu_he, nI_add, pk_mul, pk_sub, nI_clamp, pu_inT, nI_leI, nI_ltI, nI_eq, if_pos, if_neg, ↓reduceIte, true_and, and_true, and_self, not_true_eq_false, not_false_eq_true, reduceCtorEq, e0, v_delayBetween, hd, pu_shl', pu_or]
      exact ⟨_, rfl, by rw [hs]⟩
theorem q_links {cnt P c : Nat} {N : sk_N} {M : sk_M} (h : ST cnt P N (M.1 1)) (hc : c < cnt) : m_X5_linksOf M (nI c) = some (nI (ct (nbr N c) cnt)) := by
  obtain ⟨h10, hP1, hP2, e0, e5, -⟩ := h.ex
  refine lp_F (step := m_X5_linksOf_4_step M (nI c)) (fun y => y = some (nI (ct (nbr N c) cnt))) (fun j s => s = (nI (ct (nbr N c) j), nI j)) cnt (by omega) (0, 0) rfl ?_
  rintro k j s hj rfl
  unfold m_X5_linksOf_4_step
  dsimp only
  by_cases hjc : j = cnt
  · subst hjc
    left
    simp (disch := omega) only [pu_lit, pu_let, pu_some, pu_xb, pu_xe, pu_hb, pu_he, nI_add, pk_mul, pk_sub, nI_clamp, pu_inT, nI_leI, nI_ltI, nI_eq, if_pos, if_neg, ↓reduceIte, true_and, and_true, and_self, not_true_eq_false, not_false_eq_true, reduceCtorEq, e5]
  · right
    have hlt : j < cnt := by omega
    refine ⟨hlt, ?_⟩
    obtain ⟨r1, -⟩ := h.2.2.2.2.2 c j (by omega) (by omega)
    by_cases hd : N 6 (10 * c + j) = -nI 1
    · have hs : ct (nbr N c) (j + 1) = ct (nbr N c) j := by rw [ct, if_neg (by unfold nbr; simp [hd])]; rfl
      simp (disch := omega) only [pu_lit, pu_let, pu_some, pu_xb, pu_xe, pu_hb, pu_he, nI_add, pk_mul, pk_sub, nI_clamp, pu_inT, nI_leI, nI_ltI, nI_eq, if_pos, if_neg, ↓reduceIte, true_and, and_true, and_self, not_true_eq_false, not_false_eq_true, reduceCtorEq, e5, v_delay, ← r1, hd, Nat.add_zero]
      exact ⟨_, rfl, by rw [hs]⟩
    · have hs : ct (nbr N c) (j + 1) = ct (nbr N c) j + 1 := by rw [ct, if_pos (by unfold nbr; simp [hd])]
      simp (disch := omega) only [pu_lit, pu_let, pu_some, pu_xb, pu_xe, pu_hb, pu_he, nI_add, pk_mul, pk_sub, nI_clamp, pu_inT, nI_leI, nI_ltI, nI_eq, if_pos, if_neg, ↓reduceIte, true_and, and_true, and_self, not_true_eq_false, not_false_eq_true, reduceCtorEq, e5, v_delay, ← r1, hd]
      exact ⟨_, rfl, by rw [hs]⟩
theorem q_nbrc {cnt P c : Nat} {N : sk_N} {w : Nat → Int32} (h : ST cnt P N w) (hc : c < cnt) : m_J6_bitCount_0f7a4 (nI (bset (nbr N c) cnt)) = some (nI (ct (nbr N c) cnt)) := by
  obtain ⟨h10, -⟩ := h.ex
  rw [pu_bitCount (bset_1024 h10), pc_bset h10]
theorem q_linkCount {cnt P : Nat} {a b : Int32} {N : sk_N} {M : sk_M} (h : ST cnt P N (M.1 1)) : ∃ r, m_X1_linkCount N = some r ∧ m_X5_unlink_71 a b (M, 0, 0) = some (r, M) := by
  obtain ⟨h10, hP1, hP2, e0, e5, -⟩ := h.ex
  refine lp_LF (step := m_X1_linkCount_4_step N) (step' := m_X5_unlink_71_step a b) (fun y y' => ∃ r, y = some r ∧ y' = some (r, M)) (fun j s s' => s'.1 = M ∧ s'.2 = s ∧ s.2 = nI j ∧ ∃ r : Nat, r ≤ 10 * j ∧ s.1 = nI r) cnt (by omega) (0, 0) (M, 0, 0) ⟨rfl, rfl, rfl, 0, by omega, rfl⟩ ?_
  rintro k k' j ⟨x, y⟩ ⟨B, z⟩ hj ⟨rfl, rfl, rfl, r, r1, rfl⟩
  dsimp only at *
  unfold m_X1_linkCount_4_step m_X5_unlink_71_step
  dsimp only
  have h20 : ¬ nI 2 = nI 0 := by decide
  by_cases hjc : j = cnt
  · subst hjc
    simp (disch := omega) only [pu_lit, pu_let, pu_some, pu_xb, pu_xe, pu_hb, pu_he, nI_add, pk_mul, pk_sub, nI_clamp, pu_inT, nI_leI, nI_ltI, nI_eq, if_pos, if_neg, ↓reduceIte, true_and, and_true, and_self, not_true_eq_false, not_false_eq_true, reduceCtorEq, e0, e5, h20]
    exact Or.inl ⟨_, rfl, rfl⟩
  · right
    have hlt : j < cnt := by omega
    refine ⟨hlt, ?_⟩
    have hle := ct_le (f := nbr N j) cnt
    simp (disch := omega) only [pu_lit, pu_let, pu_some, pu_xb, pu_xe, pu_hb, pu_he, nI_add, pk_mul, pk_sub, nI_clamp, pu_inT, nI_leI, nI_ltI, nI_eq, if_pos, if_neg, ↓reduceIte, true_and, and_true, and_self, not_true_eq_false, not_false_eq_true, reduceCtorEq, e0, e5, q_nbr h hlt, q_nbrc h hlt, q_links h hlt]
    exact ⟨_, _, rfl, rfl, rfl, rfl, rfl, r + ct (nbr N j) cnt, by omega, rfl⟩
/-! pulses under way -/
def sm (f : Nat → Nat) : Nat → Nat
  | 0 => 0
  | n + 1 => sm f n + f n
theorem sm_congr {f g : Nat → Nat} : ∀ n, (∀ i, i < n → f i = g i) → sm f n = sm g n
  | 0, _ => rfl
  | n + 1, h => by rw [sm, sm, sm_congr n (fun i hi => h i (by omega)), h n (by omega)]
theorem sm_add {f g : Nat → Nat} : ∀ n, sm (fun i => f i + g i) n = sm f n + sm g n
  | 0 => rfl
  | n + 1 => by rw [sm, sm, sm, sm_add n]; omega
theorem sm_zero : ∀ n, sm (fun _ => 0) n = 0
  | 0 => rfl
  | n + 1 => by rw [sm, sm_zero n]
theorem sm_swap {f : Nat → Nat → Nat} {m : Nat} : ∀ n, sm (fun i => sm (fun j => f i j) m) n = sm (fun j => sm (fun i => f i j) n) m
  | 0 => by
    show 0 = sm (fun _ => 0) m
    rw [sm_zero]
  | n + 1 => by
    rw [sm, sm_swap n, ← sm_add]
    rfl
theorem sm_ext {f : Nat → Nat} {n : Nat} : ∀ k, (∀ i, n ≤ i → i < n + k → f i = 0) → sm f (n + k) = sm f n
  | 0, _ => rfl
  | k + 1, h => by
    rw [← Nat.add_assoc, sm, sm_ext k (fun i a b => h i a (by omega)), h (n + k) (by omega) (by omega)]
    rfl
theorem sm_le {f : Nat → Nat} {b : Nat} : ∀ n, (∀ i, i < n → f i ≤ b) → sm f n ≤ b * n
  | 0, _ => by simp [sm]
  | n + 1, h => by
    have := sm_le (f := f) (b := b) n (fun i hi => h i (by omega))
    have := h n (by omega)
    rw [sm, Nat.mul_succ]; omega
theorem ct_sm {f : Nat → Bool} : ∀ n, ct f n = sm (fun i => if f i = true then 1 else 0) n
  | 0 => rfl
  | n + 1 => by rw [ct, sm, ct_sm n]
theorem sm_rot {h : Nat → Nat} {T : Nat} : sm (fun d => h ((T + d) % 16)) 16 = sm h 16 := by
  have e : ∀ d, (T + d) % 16 = (T % 16 + d) % 16 := fun d => by omega
  have hr : T % 16 < 16 := Nat.mod_lt _ (by omega)
  rw [sm_congr (g := fun d => h ((T % 16 + d) % 16)) 16 (fun d _ => by rw [e d])]
  generalize T % 16 = r at hr
  have hc : r = 0 ∨ r = 1 ∨ r = 2 ∨ r = 3 ∨ r = 4 ∨ r = 5 ∨ r = 6 ∨ r = 7 ∨ r = 8 ∨ r = 9 ∨ r = 10 ∨ r = 11 ∨ r = 12 ∨ r = 13 ∨ r = 14 ∨ r = 15 := by omega
  rcases hc with rfl | rfl | rfl | rfl | rfl | rfl | rfl | rfl | rfl | rfl | rfl | rfl | rfl | rfl | rfl | rfl <;> simp only [sm, Nat.reduceAdd, Nat.reduceMod] <;> omega
theorem q_bits {q : Nat} (hq : q < 1024) : m_X5_bits (nI q) = some (nI (ct q.testBit 12)) := by
  refine lp_F (step := m_X5_bits_4_step (nI q)) (fun y => y = some (nI (ct q.testBit 12))) (fun j s => s = (nI (ct q.testBit j), nI j)) 12 (by omega) (0, 0) rfl ?_
  rintro k j s hj rfl
  unfold m_X5_bits_4_step
  dsimp only
  by_cases hjc : j = 12
  · subst hjc
    left
    simp (disch := omega) only [pu_lit, pu_let, pu_some, pu_xb, pu_xe, pu_hb, pu_he, nI_add, pk_mul, pk_sub, nI_clamp, pu_inT, nI_leI, nI_ltI, nI_eq, if_pos, if_neg, ↓reduceIte, true_and, and_true, and_self, not_true_eq_false, not_false_eq_true, reduceCtorEq]
  · right
    refine ⟨by omega, ?_⟩
    have sh : (sk_shr (nI q) (nI j)) &&& nI 1 = nI (if q.testBit j then 1 else 0) := by
      rw [pu_shr (by omega) (by omega), pu_and (Nat.lt_of_le_of_lt (Nat.div_le_self _ _) (by omega)) (by omega), pu_bit]
    have hs : ct q.testBit (j + 1) = ct q.testBit j + (if q.testBit j then 1 else 0) := rfl
    simp (disch := omega) only [pu_lit, pu_let, pu_some, pu_xb, pu_xe, pu_hb, pu_he, nI_add, pk_mul, pk_sub, nI_clamp, pu_inT, nI_leI, nI_ltI, nI_eq, if_pos, if_neg, ↓reduceIte, true_and, and_true, and_self, not_true_eq_false, not_false_eq_true, reduceCtorEq, sh]
    exact ⟨_, rfl, by rw [hs]⟩
theorem q_pulses {cnt P T b : Nat} {N : sk_N} {M : sk_M} (h : ST cnt P N (M.1 1)) (hp : PU cnt T (fun _ _ => false) N (M.1 1)) (hb : b < cnt) : ∃ r : Nat, r ≤ 160 ∧ m_X1_pulsesTo N (nI b) = some (nI r) ∧ m_X5_comingTo M (nI b) = some (nI r) := by
  obtain ⟨h10, hP1, hP2, e0, e5, -⟩ := h.ex
  obtain ⟨u1, u2⟩ := hp
  have hcl : m_X1_pulsesTo N (nI b) = some (nI (sm (fun s => pu_pc (dd N s b)) 16)) := by
    refine lp_F (step := m_X1_pulsesTo_4_step N (nI b)) (fun y => y = some (nI (sm (fun s => pu_pc (dd N s b)) 16))) (fun j s => s = (nI (sm (fun s => pu_pc (dd N s b)) j), nI j)) 16 (by omega) (0, 0) rfl ?_
    rintro k j s hj rfl
    unfold m_X1_pulsesTo_4_step
    dsimp only
    by_cases hjc : j = 16
    · subst hjc
      left
      simp (disch := omega) only [pu_lit, pu_let, pu_some, pu_xb, pu_xe, pu_hb, pu_he, nI_add, pk_mul, pk_sub, nI_clamp, pu_inT, nI_leI, nI_ltI, nI_eq, if_pos, if_neg, ↓reduceIte, true_and, and_true, and_self, not_true_eq_false, not_false_eq_true, reduceCtorEq]
    · right
      refine ⟨by omega, ?_⟩
      obtain ⟨v1, v2⟩ := u1 j b (by omega) (by omega)
      simp (disch := omega) only [pu_lit, pu_let, pu_some, pu_xb, pu_xe, pu_hb, pu_he, nI_add, pk_mul, pk_sub, nI_clamp, pu_inT, nI_leI, nI_ltI, nI_eq, if_pos, if_neg, ↓reduceIte, true_and, and_true, and_self, not_true_eq_false, not_false_eq_true, reduceCtorEq, v1, pu_bitCount v2]
      exact ⟨_, rfl, rfl⟩
  have hq : ∀ a, a < cnt → ∃ q, q < 1024 ∧ M.1 1 (158 + (10 * a + b)) = nI q ∧ ct q.testBit 12 = sm (fun d => if (dd N ((T + d) % 16) b).testBit a = true then 1 else 0) 16 := by
    intro a ha
    obtain ⟨q, q1, q2, q3, q4, q5, q6⟩ := u2 a b (by omega) (by omega)
    refine ⟨q, q1, q2, ?_⟩
    have e : ∀ d, d < 16 → (dd N ((T + d) % 16) b).testBit a = q.testBit d := fun d hd => by
      rw [q6 d hd]
      by_cases h0 : d = 0
      · subst h0; rw [if_pos rfl, q3]
      · rw [if_neg h0]
    rw [sm_congr (g := fun d => if q.testBit d = true then 1 else 0) 16 (fun d hd => by rw [e d hd]), ct_sm]
    refine (sm_ext (n := 12) 4 (fun i a1 a2 => ?_)).symm
    have : q.testBit i = false := Nat.testBit_lt_two_pow (Nat.lt_of_lt_of_le q1 (Nat.pow_le_pow_right (n := 2) (by omega) (show 10 ≤ i by omega)))
    simp [this]
  have hmo : m_X5_comingTo M (nI b) = some (nI (sm (fun a => sm (fun d => if (dd N ((T + d) % 16) b).testBit a = true then 1 else 0) 16) cnt)) := by
    refine lp_F (step := m_X5_comingTo_4_step M (nI b)) (fun y => y = some (nI (sm (fun a => sm (fun d => if (dd N ((T + d) % 16) b).testBit a = true then 1 else 0) 16) cnt))) (fun j s => s = (nI (sm (fun a => sm (fun d => if (dd N ((T + d) % 16) b).testBit a = true then 1 else 0) 16) j), nI j)) cnt (by omega) (0, 0) rfl ?_
    rintro k j s hj rfl
    unfold m_X5_comingTo_4_step
    dsimp only
    by_cases hjc : j = cnt
    · subst hjc
      left
      simp (disch := omega) only [pu_lit, pu_let, pu_some, pu_xb, pu_xe, pu_hb, pu_he, nI_add, pk_mul, pk_sub, nI_clamp, pu_inT, nI_leI, nI_ltI, nI_eq, if_pos, if_neg, ↓reduceIte, true_and, and_true, and_self, not_true_eq_false, not_false_eq_true, reduceCtorEq, e5]
    · right
      refine ⟨by omega, ?_⟩
      obtain ⟨q, q1, q2, q3⟩ := hq j (by omega)
      have q2' : M.1 1 (158 + 10 * j + b) = nI q := by rw [Nat.add_assoc]; exact q2
      simp (disch := omega) only [pu_lit, pu_let, pu_some, pu_xb, pu_xe, pu_hb, pu_he, nI_add, pk_mul, pk_sub, nI_clamp, pu_inT, nI_leI, nI_ltI, nI_eq, if_pos, if_neg, ↓reduceIte, true_and, and_true, and_self, not_true_eq_false, not_false_eq_true, reduceCtorEq, e5, q2', q_bits q1]
      exact ⟨_, rfl, by rw [q3]; rfl⟩
  have same : sm (fun a => sm (fun d => if (dd N ((T + d) % 16) b).testBit a = true then 1 else 0) 16) cnt = sm (fun s => pu_pc (dd N s b)) 16 := by
    have e1 : sm (fun a => sm (fun d => if (dd N ((T + d) % 16) b).testBit a = true then 1 else 0) 16) 10 = sm (fun a => sm (fun d => if (dd N ((T + d) % 16) b).testBit a = true then 1 else 0) 16) cnt := by
      have := sm_ext (f := fun a => sm (fun d => if (dd N ((T + d) % 16) b).testBit a = true then 1 else 0) 16) (n := cnt) (10 - cnt) (fun a a1 a2 => by
        obtain ⟨q, q1, q2, q3, q4, q5, q6⟩ := u2 a b (by omega) (by omega)
        have hq0 : q = 0 := by
          rcases Nat.eq_zero_or_pos q with h | h
          · exact h
          · have := (q4 (by omega)).1; omega
        show sm (fun d => if (dd N ((T + d) % 16) b).testBit a = true then 1 else 0) 16 = 0
        rw [sm_congr (g := fun _ => 0) 16 (fun d hd => by
          rw [q6 d hd, hq0]
          by_cases h0 : d = 0 <;> simp [h0]), sm_zero])
      rwa [show cnt + (10 - cnt) = 10 by omega] at this
    rw [← e1, sm_swap]
    have e2 : ∀ s, s < 16 → pu_pc (dd N s b) = sm (fun a => if (dd N s b).testBit a = true then 1 else 0) 10 := fun s _ => by
      rw [← ct_sm, ct_filter]; rfl
    rw [sm_congr (g := fun s => sm (fun a => if (dd N s b).testBit a = true then 1 else 0) 10) 16 e2]
    exact sm_rot (h := fun s => sm (fun a => if (dd N s b).testBit a = true then 1 else 0) 10)
  rw [same] at hmo
  refine ⟨_, ?_, hcl, hmo⟩
  have := sm_le (f := fun s => pu_pc (dd N s b)) (b := 10) 16 (fun i _ => pu_pc_le)
  omega
theorem q_under {cnt P T : Nat} {N : sk_N} {M : sk_M} (h : ST cnt P N (M.1 1)) (hp : PU cnt T (fun _ _ => false) N (M.1 1)) : ∃ r, m_X1_pulseCount N = some r ∧ m_X5_pulses M = some r := by
  obtain ⟨h10, hP1, hP2, e0, e5, -⟩ := h.ex
  refine lp_LF (step := m_X1_pulseCount_4_step N) (step' := m_X5_pulses_4_step M) (fun y y' => ∃ r, y = some r ∧ y' = some r) (fun j s s' => s' = s ∧ s.2 = nI j) cnt (by omega) (0, 0) (0, 0) ⟨rfl, rfl⟩ ?_
  rintro k k' j ⟨x, y⟩ s' hj ⟨rfl, rfl⟩
  unfold m_X1_pulseCount_4_step m_X5_pulses_4_step
  dsimp only
  by_cases hjc : j = cnt
  · subst hjc
    simp (disch := omega) only [pu_lit, pu_let, pu_some, pu_xb, pu_xe, pu_hb, pu_he, nI_add, pk_mul, pk_sub, nI_clamp, pu_inT, nI_leI, nI_ltI, nI_eq, if_pos, if_neg, ↓reduceIte, true_and, and_true, and_self, not_true_eq_false, not_false_eq_true, reduceCtorEq, e0, e5]
    first | exact Or.inl ⟨_, rfl, rfl⟩ | exact Or.inl ⟨_, rfl⟩
  · right
    have hlt : j < cnt := by omega
    refine ⟨hlt, ?_⟩
    obtain ⟨r, r1, r2, r3⟩ := q_pulses h hp hlt
    simp (disch := omega) only [pu_lit, pu_let, pu_some, pu_xb, pu_xe, pu_hb, pu_he, nI_add, pk_mul, pk_sub, nI_clamp, pu_inT, nI_leI, nI_ltI, nI_eq, if_pos, if_neg, ↓reduceIte, true_and, and_true, and_self, not_true_eq_false, not_false_eq_true, reduceCtorEq, e0, e5, r2, r3]
    exact ⟨_, _, rfl, rfl, rfl, rfl⟩
/-- what a clock is asked about -/
theorem q_about {cnt P T1 T2 c x : Nat} {N : sk_N} {M : sk_M} (h : RX cnt P T1 T2 N (M.1 1)) (hc : c < cnt) (hx : x < 7) : ∃ r, m_X1_about N (nI c) (nI x) = some r ∧ m_X5_told M (nI c) (nI x) = some r := by
  obtain ⟨h10, hP1, hP2, e0, e5, -⟩ := h.1.ex
  obtain ⟨p1, p2, p3⟩ := h.qr.ph hc
  have b28 := h.qr.b28 hc
  obtain ⟨g1, g2, g3, g4⟩ := h.1.2.2.2.2.1.1 c hc
  obtain ⟨r, r1, r2, r3⟩ := q_pulses h.1 h.2.2.2.1 hc
  have n1 := q_nbr h.1 hc
  have n2 := q_nbrc h.1 hc
  have n3 := q_links h.1 hc
  unfold m_X1_about m_X5_told m_X5_told_18
  have hx7 : x = 0 ∨ x = 1 ∨ x = 2 ∨ x = 3 ∨ x = 4 ∨ x = 5 ∨ x = 6 := by omega
  rcases g4 with ⟨g5, g6⟩ | ⟨R, O, k1, k2, k3, k4, k5, k6, k7, k8⟩
  · have hg : gb N c = true := gb_t g5
    rw [if_pos hg] at b28
    rcases hx7 with rfl | rfl | rfl | rfl | rfl | rfl | rfl
    · simp (disch := omega) only [pu_lit, pu_let, pu_some, pu_xb, pu_xe, pu_hb, pu_he, nI_add, pk_mul, pk_sub, nI_clamp, pu_inT, nI_leI, nI_ltI, nI_eq, if_pos, if_neg, ↓reduceIte, true_and, and_true, and_self, not_true_eq_false, not_false_eq_true, reduceCtorEq, v_good', hg, b28, p2, p3]; first | exact ⟨_, rfl, rfl⟩ | exact ⟨_, rfl⟩
    · simp (disch := omega) only [pu_lit, pu_let, pu_some, pu_xb, pu_xe, pu_hb, pu_he, nI_add, pk_mul, pk_sub, nI_clamp, pu_inT, nI_leI, nI_ltI, nI_eq, if_pos, if_neg, ↓reduceIte, true_and, and_true, and_self, not_true_eq_false, not_false_eq_true, reduceCtorEq, v_good', hg, b28, ← g1]; first | exact ⟨_, rfl, rfl⟩ | exact ⟨_, rfl⟩
    · simp (disch := omega) only [pu_lit, pu_let, pu_some, pu_xb, pu_xe, pu_hb, pu_he, nI_add, pk_mul, pk_sub, nI_clamp, pu_inT, nI_leI, nI_ltI, nI_eq, if_pos, if_neg, ↓reduceIte, true_and, and_true, and_self, not_true_eq_false, not_false_eq_true, reduceCtorEq, v_good', hg, b28]; first | exact ⟨_, rfl, rfl⟩ | exact ⟨_, rfl⟩
    · simp (disch := omega) only [pu_lit, pu_let, pu_some, pu_xb, pu_xe, pu_hb, pu_he, nI_add, pk_mul, pk_sub, nI_clamp, pu_inT, nI_leI, nI_ltI, nI_eq, if_pos, if_neg, ↓reduceIte, true_and, and_true, and_self, not_true_eq_false, not_false_eq_true, reduceCtorEq, v_good', hg, b28]; first | exact ⟨_, rfl, rfl⟩ | exact ⟨_, rfl⟩
    · simp (disch := omega) only [pu_lit, pu_let, pu_some, pu_xb, pu_xe, pu_hb, pu_he, nI_add, pk_mul, pk_sub, nI_clamp, pu_inT, nI_leI, nI_ltI, nI_eq, if_pos, if_neg, ↓reduceIte, true_and, and_true, and_self, not_true_eq_false, not_false_eq_true, reduceCtorEq, v_good', hg, b28]; first | exact ⟨_, rfl, rfl⟩ | exact ⟨_, rfl⟩
    · simp (disch := omega) only [pu_lit, pu_let, pu_some, pu_xb, pu_xe, pu_hb, pu_he, nI_add, pk_mul, pk_sub, nI_clamp, pu_inT, nI_leI, nI_ltI, nI_eq, if_pos, if_neg, ↓reduceIte, true_and, and_true, and_self, not_true_eq_false, not_false_eq_true, reduceCtorEq, v_good', hg, b28, n1, n2, n3]; first | exact ⟨_, rfl, rfl⟩ | exact ⟨_, rfl⟩
    · simp (disch := omega) only [pu_lit, pu_let, pu_some, pu_xb, pu_xe, pu_hb, pu_he, nI_add, pk_mul, pk_sub, nI_clamp, pu_inT, nI_leI, nI_ltI, nI_eq, if_pos, if_neg, ↓reduceIte, true_and, and_true, and_self, not_true_eq_false, not_false_eq_true, reduceCtorEq, v_good', hg, b28, r2, r3]; first | exact ⟨_, rfl, rfl⟩ | exact ⟨_, rfl⟩
  · have hg : ¬ gb N c = true := by rw [gb_f (by rw [k4]; exact nI_ne0 (by omega) (by omega))]; decide
    rw [if_neg hg] at b28
    rcases hx7 with rfl | rfl | rfl | rfl | rfl | rfl | rfl
    · simp (disch := omega) only [pu_lit, pu_let, pu_some, pu_xb, pu_xe, pu_hb, pu_he, nI_add, pk_mul, pk_sub, nI_clamp, pu_inT, nI_leI, nI_ltI, nI_eq, if_pos, if_neg, ↓reduceIte, true_and, and_true, and_self, not_true_eq_false, not_false_eq_true, reduceCtorEq, v_good', hg, b28, p2, p3]; first | exact ⟨_, rfl, rfl⟩ | exact ⟨_, rfl⟩
    · simp (disch := omega) only [pu_lit, pu_let, pu_some, pu_xb, pu_xe, pu_hb, pu_he, nI_add, pk_mul, pk_sub, nI_clamp, pu_inT, nI_leI, nI_ltI, nI_eq, if_pos, if_neg, ↓reduceIte, true_and, and_true, and_self, not_true_eq_false, not_false_eq_true, reduceCtorEq, v_good', hg, b28, ← g1]; first | exact ⟨_, rfl, rfl⟩ | exact ⟨_, rfl⟩
    · simp (disch := omega) only [pu_lit, pu_let, pu_some, pu_xb, pu_xe, pu_hb, pu_he, nI_add, pk_mul, pk_sub, nI_clamp, pu_inT, nI_leI, nI_ltI, nI_eq, if_pos, if_neg, ↓reduceIte, true_and, and_true, and_self, not_true_eq_false, not_false_eq_true, reduceCtorEq, v_good', hg, b28]; first | exact ⟨_, rfl, rfl⟩ | exact ⟨_, rfl⟩
    · simp (disch := omega) only [pu_lit, pu_let, pu_some, pu_xb, pu_xe, pu_hb, pu_he, nI_add, pk_mul, pk_sub, nI_clamp, pu_inT, nI_leI, nI_ltI, nI_eq, if_pos, if_neg, ↓reduceIte, true_and, and_true, and_self, not_true_eq_false, not_false_eq_true, reduceCtorEq, v_good', hg, b28, k4, k6]; first | exact ⟨_, rfl, rfl⟩ | exact ⟨_, rfl⟩
    · simp (disch := omega) only [pu_lit, pu_let, pu_some, pu_xb, pu_xe, pu_hb, pu_he, nI_add, pk_mul, pk_sub, nI_clamp, pu_inT, nI_leI, nI_ltI, nI_eq, if_pos, if_neg, ↓reduceIte, true_and, and_true, and_self, not_true_eq_false, not_false_eq_true, reduceCtorEq, v_good', hg, b28, k7, k8]; first | exact ⟨_, rfl, rfl⟩ | exact ⟨_, rfl⟩
    · simp (disch := omega) only [pu_lit, pu_let, pu_some, pu_xb, pu_xe, pu_hb, pu_he, nI_add, pk_mul, pk_sub, nI_clamp, pu_inT, nI_leI, nI_ltI, nI_eq, if_pos, if_neg, ↓reduceIte, true_and, and_true, and_self, not_true_eq_false, not_false_eq_true, reduceCtorEq, v_good', hg, b28, n1, n2, n3]; first | exact ⟨_, rfl, rfl⟩ | exact ⟨_, rfl⟩
    · simp (disch := omega) only [pu_lit, pu_let, pu_some, pu_xb, pu_xe, pu_hb, pu_he, nI_add, pk_mul, pk_sub, nI_clamp, pu_inT, nI_leI, nI_ltI, nI_eq, if_pos, if_neg, ↓reduceIte, true_and, and_true, and_self, not_true_eq_false, not_false_eq_true, reduceCtorEq, v_good', hg, b28, r2, r3]; first | exact ⟨_, rfl, rfl⟩ | exact ⟨_, rfl⟩
