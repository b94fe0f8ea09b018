/-! who can be reached -/
def nxp (N : sk_N) (cnt I S j : Nat) : Nat := S ||| bset (fun i => I.testBit i && (List.range j).any (fun a => S.testBit a && nbr N a i)) cnt
def nx (N : sk_N) (cnt I S : Nat) : Nat := nxp N cnt I S cnt
theorem nxp_bit {N : sk_N} {cnt I S j i : Nat} : (nxp N cnt I S j).testBit i = (S.testBit i || (decide (i < cnt) && (I.testBit i && (List.range j).any (fun a => S.testBit a && nbr N a i)))) := by
  unfold nxp
  rw [Nat.testBit_or, bset_bit]
theorem nxp_lt {N : sk_N} {cnt I S j : Nat} (hc : cnt ≤ 10) (hS : S < 1024) : nxp N cnt I S j < 1024 := Nat.or_lt_two_pow (n := 10) hS (bset_1024 hc)
theorem nxp_0 {N : sk_N} {cnt I S : Nat} : nxp N cnt I S 0 = S := by
  apply Nat.eq_of_testBit_eq
  intro i
  rw [nxp_bit]
  simp
theorem nxp_s {N : sk_N} {cnt I S j : Nat} : nxp N cnt I S (j + 1) = nxp N cnt I S j ||| bset (fun i => S.testBit j && I.testBit i && nbr N j i) cnt := by
  apply Nat.eq_of_testBit_eq
  intro i
  rw [Nat.testBit_or, nxp_bit, nxp_bit, bset_bit, List.range_succ, List.any_append]
  simp only [List.any_cons, List.any_nil, Bool.or_false]
  cases S.testBit i <;> cases decide (i < cnt) <;> cases I.testBit i <;> cases S.testBit j <;> cases nbr N j i <;> simp
theorem b1023 {i : Nat} (h : i < 10) : (1023 : Nat).testBit i = true := by
  have : ∀ i : Fin 10, (1023 : Nat).testBit i.val = true := by decide
  exact this ⟨i, h⟩
theorem q_with {cnt P S : Nat} {N : sk_N} {w : Nat → Int32} (h : ST cnt P N w) (hS : S < 1024) : m_X1_withNeighbours N (nI S) = some (nI (nx N cnt 1023 S)) := by
  obtain ⟨h10, hP1, hP2, e0, e5, -⟩ := h.ex
  refine lp_F (step := m_X1_withNeighbours_4_step N (nI S)) (fun y => y = some (nI (nx N cnt 1023 S))) (fun j s => s = (nI (nxp N cnt 1023 S j), nI j)) cnt (by omega) (nI S, 0) (by rw [nxp_0]; rfl) ?_
  rintro k j s hj rfl
  unfold m_X1_withNeighbours_4_step
  dsimp only
  by_cases hjc : j = cnt
  · subst hjc
    left
    simp (disch := omega) only [pu_lit, pu_let, pu_some, pu_xb, pu_xe, pu_hb, pu_he, nI_add, pk_mul, pk_sub, nI_clamp, pu_inT, nI_leI, nI_ltI, nI_eq, if_pos, if_neg, ↓reduceIte, true_and, and_true, and_self, not_true_eq_false, not_false_eq_true, reduceCtorEq, e0]
    rfl
  · right
    have hlt : j < cnt := by omega
    refine ⟨hlt, ?_⟩
    have h2 := pow_1024 (show j < 10 by omega)
    have hx := nxp_lt (N := N) (I := 1023) (j := j) h10 hS
    have hb : bset (nbr N j) cnt < 1024 := bset_1024 h10
    have ha : S &&& 2 ^ j < 1024 := Nat.lt_of_le_of_lt Nat.and_le_left hS
    by_cases hbit : S.testBit j = true
    · have hz : ¬ S &&& 2 ^ j = 0 := fun e => by rw [pu_and2.mp e] at hbit; exact absurd hbit (by decide)
      have hs : nxp N cnt 1023 S (j + 1) = nxp N cnt 1023 S j ||| bset (nbr N j) cnt := by
        rw [nxp_s]
        congr 1
        apply Nat.eq_of_testBit_eq
        intro i
        rw [bset_bit, bset_bit]
        by_cases hi : i < cnt
        · rw [b1023 (by omega), hbit]; simp
        · simp [hi]
      simp (disch := omega) only [pu_lit, pu_let, pu_some, pu_xb, pu_xe, pu_hb, pu_he, nI_add, pk_mul, pk_sub, nI_clamp, pu_inT, nI_leI, nI_ltI, nI_eq, if_pos, if_neg, ↓reduceIte, true_and, and_true, and_self, not_true_eq_false, not_false_eq_true, reduceCtorEq, e0, pu_shl', pu_and, hz, q_nbr h hlt, pu_or]
      exact ⟨_, rfl, by rw [hs]⟩
    · have hz : S &&& 2 ^ j = 0 := pu_and2.mpr (by simpa using hbit)
      have hs : nxp N cnt 1023 S (j + 1) = nxp N cnt 1023 S j := by
        rw [nxp_s, bset_zero.mpr (fun i _ => by simp at hbit; rw [hbit]; rfl), Nat.or_zero]
      simp (disch := omega) only [pu_lit, pu_let, pu_some, pu_xb, pu_xe, pu_hb, pu_he, nI_add, pk_mul, pk_sub, nI_clamp, pu_inT, nI_leI, nI_ltI, nI_eq, if_pos, if_neg, ↓reduceIte, true_and, and_true, and_self, not_true_eq_false, not_false_eq_true, reduceCtorEq, e0, pu_shl', pu_and, hz]
      exact ⟨_, rfl, by rw [hs]⟩
theorem sh_bit {S j : Nat} (hS : S < 2 ^ 31) (hj : j < 30) : (sk_shr (nI S) (nI j)) &&& nI 1 = nI (if S.testBit j = true then 1 else 0) := by
  rw [pu_shr hS hj, pu_and (Nat.lt_of_le_of_lt (Nat.div_le_self _ _) hS) (by omega), pu_bit]
theorem q_next {cnt P S I : Nat} {N : sk_N} {M : sk_M} (h : ST cnt P N (M.1 1)) (hS : S < 1024) (hI : I < 1024) : m_X5_nextTo M (nI S) (nI I) = some (nI (nx N cnt I S)) := by
  obtain ⟨h10, hP1, hP2, e0, e5, -⟩ := h.ex
  refine lp_F (step := m_X5_nextTo_5_step M (nI S) (nI I)) (fun y => y = some (nI (nx N cnt I S))) (fun j s => s = (nI (nxp N cnt I S j), nI j)) cnt (by omega) (nI S, 0) (by rw [nxp_0]; rfl) ?_
  rintro k j s hj rfl
  unfold m_X5_nextTo_5_step
  dsimp only
  by_cases hjc : j = cnt
  · subst hjc
    left
    simp (disch := omega) only [pu_lit, pu_let, pu_some, pu_xb, pu_xe, pu_hb, pu_he, nI_add, pk_mul, pk_sub, nI_clamp, pu_inT, nI_leI, nI_ltI, nI_eq, if_pos, if_neg, ↓reduceIte, true_and, and_true, and_self, not_true_eq_false, not_false_eq_true, reduceCtorEq, e5]
    rfl
  · right
    have hlt : j < cnt := by omega
    refine ⟨hlt, ?_⟩
    simp (disch := omega) only [pu_lit, pu_let, pu_some, pu_xb, pu_xe, pu_hb, pu_he, nI_add, pk_mul, pk_sub, nI_clamp, pu_inT, nI_leI, nI_ltI, nI_eq, if_pos, if_neg, ↓reduceIte, true_and, and_true, and_self, not_true_eq_false, not_false_eq_true, reduceCtorEq, e5]
    refine ⟨(nI (nxp N cnt I S (j + 1)), nI (j + 1)), ?_, rfl⟩
    have hx := nxp_lt (N := N) (I := I) (j := j) h10 hS
    have z0 : nI 0 = (0 : Int32) := rfl
    refine lp_F (step := m_X5_nextTo_19_step M (nI S) (nI I) k) (fun y => y = k (nI (nxp N cnt I S (j + 1)), nI (j + 1))) (fun b s => s = (nI (nxp N cnt I S j ||| bset (fun i => S.testBit j && I.testBit i && nbr N j i) b), nI j, nI b)) cnt (by omega) _ (by rw [bset, Nat.or_zero]) ?_
    rintro kk b s hb rfl
    unfold m_X5_nextTo_19_step m_X5_nextTo_66 m_X5_nextTo_67
    dsimp only
    by_cases hbc : b = cnt
    · subst hbc
      left
      simp (disch := omega) only [pu_lit, pu_let, pu_some, pu_xb, pu_xe, pu_hb, pu_he, nI_add, pk_mul, pk_sub, nI_clamp, pu_inT, nI_leI, nI_ltI, nI_eq, if_pos, if_neg, ↓reduceIte, true_and, and_true, and_self, not_true_eq_false, not_false_eq_true, reduceCtorEq, e5]
      rw [nxp_s]
    · right
      have hblt : b < cnt := by omega
      refine ⟨hblt, ?_⟩
      obtain ⟨r1, -⟩ := h.2.2.2.2.2 j b (by omega) (by omega)
      have hbs : bset (fun i => S.testBit j && I.testBit i && nbr N j i) b < 1024 := bset_1024 (by omega)
      have hX : nxp N cnt I S j ||| bset (fun i => S.testBit j && I.testBit i && nbr N j i) b < 1024 := Nat.or_lt_two_pow (n := 10) hx hbs
      have h2 := pow_1024 (show b < 10 by omega)
      have yes : (S.testBit j && I.testBit b && nbr N j b) = true → nxp N cnt I S j ||| bset (fun i => S.testBit j && I.testBit i && nbr N j i) (b + 1) = nxp N cnt I S j ||| bset (fun i => S.testBit j && I.testBit i && nbr N j i) b ||| 2 ^ b := fun e => by rw [bset, if_pos e, Nat.or_assoc]
      have no : (S.testBit j && I.testBit b && nbr N j b) = false → nxp N cnt I S j ||| bset (fun i => S.testBit j && I.testBit i && nbr N j i) (b + 1) = nxp N cnt I S j ||| bset (fun i => S.testBit j && I.testBit i && nbr N j i) b := fun e => by rw [bset, if_neg (by rw [e]; decide), Nat.or_zero]
      have hor : nI (nxp N cnt I S j ||| bset (fun i => S.testBit j && I.testBit i && nbr N j i) b) ||| nI 0 = nI (nxp N cnt I S j ||| bset (fun i => S.testBit j && I.testBit i && nbr N j i) b) := by rw [pu_or (by omega) (by omega), Nat.or_zero]
      have sS := sh_bit (S := S) (j := j) (by omega) (by omega)
      have sI := sh_bit (S := I) (j := b) (by omega) (by omega)
      by_cases c1 : S.testBit j = true
      · rw [if_pos c1] at sS
        by_cases c2 : I.testBit b = true
        · rw [if_pos c2] at sI
          by_cases c3 : N 6 (10 * j + b) = -nI 1
          · have hn : (S.testBit j && I.testBit b && nbr N j b) = false := by unfold nbr; simp [c3]
            simp (disch := omega) only [pu_lit, pu_let, pu_some, pu_xb, pu_xe, pu_hb, pu_he, nI_add, pk_mul, pk_sub, nI_clamp, pu_inT, nI_leI, nI_ltI, nI_eq, if_pos, if_neg, ↓reduceIte, true_and, and_true, and_self, not_true_eq_false, not_false_eq_true, reduceCtorEq, e5, sS, sI, v_delay, ← r1, c3, hor]
            exact ⟨_, rfl, by rw [no hn]⟩
          · have hn : (S.testBit j && I.testBit b && nbr N j b) = true := by unfold nbr; simp [c1, c2, c3]
            simp (disch := omega) only [pu_lit, pu_let, pu_some, pu_xb, pu_xe, pu_hb, pu_he, nI_add, pk_mul, pk_sub, nI_clamp, pu_inT, nI_leI, nI_ltI, nI_eq, if_pos, if_neg, ↓reduceIte, true_and, and_true, and_self, not_true_eq_false, not_false_eq_true, reduceCtorEq, e5, sS, sI, v_delay, ← r1, c3, pu_shl', pu_or]
            exact ⟨_, rfl, by rw [yes hn]⟩
        · rw [if_neg c2] at sI
          have hn : (S.testBit j && I.testBit b && nbr N j b) = false := by simp at c2; rw [c2]; simp
          simp (disch := omega) only [pu_lit, pu_let, pu_some, pu_xb, pu_xe, pu_hb, pu_he, nI_add, pk_mul, pk_sub, nI_clamp, pu_inT, nI_leI, nI_ltI, nI_eq, if_pos, if_neg, ↓reduceIte, true_and, and_true, and_self, not_true_eq_false, not_false_eq_true, reduceCtorEq, e5, sS, sI, hor]
          exact ⟨_, rfl, by rw [no hn]⟩
      · rw [if_neg c1] at sS
        have hn : (S.testBit j && I.testBit b && nbr N j b) = false := by simp at c1; rw [c1]; simp
        simp (disch := omega) only [pu_lit, pu_let, pu_some, pu_xb, pu_xe, pu_hb, pu_he, nI_add, pk_mul, pk_sub, nI_clamp, pu_inT, nI_leI, nI_ltI, nI_eq, if_pos, if_neg, ↓reduceIte, true_and, and_true, and_self, not_true_eq_false, not_false_eq_true, reduceCtorEq, e5, sS, hor]
        exact ⟨_, rfl, by rw [no hn]⟩
/-! the reached set stands still after as many steps as there are clocks -/
def itx (N : sk_N) (cnt I : Nat) : Nat → Nat → Nat
  | 0, S => S
  | k + 1, S => nx N cnt I (itx N cnt I k S)
theorem nx_bit {N : sk_N} {cnt I S i : Nat} : (nx N cnt I S).testBit i = (S.testBit i || (decide (i < cnt) && (I.testBit i && (List.range cnt).any (fun a => S.testBit a && nbr N a i)))) := nxp_bit
theorem ct_lt {f g : Nat → Bool} {i : Nat} : ∀ n, (∀ j, j < n → f j = true → g j = true) → i < n → f i = false → g i = true → ct f n < ct g n
  | 0, _, hi, _, _ => absurd hi (by omega)
  | n + 1, h, hi, hf, hg => by
    have le : ∀ m, m ≤ n + 1 → ct f m ≤ ct g m := by
      intro m
      induction m with
      | zero => intro _; exact Nat.le_refl _
      | succ m ih =>
        intro hm
        have := ih (by omega)
        rw [ct, ct]
        by_cases e : f m = true
        · rw [if_pos e, if_pos (h m (by omega) e)]; omega
        · rw [if_neg e]; omega
    rw [ct, ct]
    by_cases e : i = n
    · subst e
      have := le i (by omega)
      rw [hf, hg]
      simp; omega
    · have := ct_lt (f := f) (g := g) (i := i) n (fun j hj => h j (by omega)) (by omega) hf hg
      by_cases e2 : f n = true
      · rw [if_pos e2, if_pos (h n (by omega) e2)]; omega
      · rw [if_neg e2]; omega
theorem ct_top {f : Nat → Bool} {n m : Nat} (h : ∀ i, f i = true → i < n) : ct f m ≤ n := by
  by_cases hm : m ≤ n
  · exact Nat.le_trans (ct_le m) hm
  · have : ∀ k, ct f (n + k) = ct f n := by
      intro k
      induction k with
      | zero => rfl
      | succ k ih => rw [← Nat.add_assoc, ct, ih, if_neg (fun e => absurd (h _ e) (by omega))]; rfl
    have := this (m - n)
    rw [show n + (m - n) = m by omega] at this
    rw [this]
    exact ct_le n
theorem nx_grow {N : sk_N} {cnt I S : Nat} (hc : cnt ≤ 10) (hS : S < 1024) (h : nx N cnt I S ≠ S) : pu_pc S < pu_pc (nx N cnt I S) := by
  have hn : nx N cnt I S < 1024 := nxp_lt hc hS
  rw [show pu_pc S = ct S.testBit 10 from (ct_filter 10).symm, show pu_pc (nx N cnt I S) = ct (nx N cnt I S).testBit 10 from (ct_filter 10).symm]
  have : ∃ i, i < 10 ∧ S.testBit i = false ∧ (nx N cnt I S).testBit i = true := by
    apply Classical.byContradiction
    intro hne
    apply h
    apply Nat.eq_of_testBit_eq
    intro i
    by_cases hi : i < 10
    · rcases hs : S.testBit i with _ | _
      · rcases hx : (nx N cnt I S).testBit i with _ | _
        · rfl
        · exact absurd ⟨i, hi, hs, hx⟩ hne
      · rw [nx_bit, hs]; rfl
    · rw [Nat.testBit_lt_two_pow (Nat.lt_of_lt_of_le hn (Nat.pow_le_pow_right (n := 2) (by omega) (show 10 ≤ i by omega))), Nat.testBit_lt_two_pow (Nat.lt_of_lt_of_le hS (Nat.pow_le_pow_right (n := 2) (by omega) (show 10 ≤ i by omega)))]
  obtain ⟨i, i1, i2, i3⟩ := this
  exact ct_lt 10 (fun j _ e => by rw [nx_bit, e]; rfl) i1 i2 i3
theorem itx_lt {N : sk_N} {cnt I S : Nat} (hc : cnt ≤ 10) (hS : S < 1024) : ∀ k, itx N cnt I k S < 1024
  | 0 => hS
  | k + 1 => nxp_lt hc (itx_lt hc hS k)
theorem itx_in {N : sk_N} {cnt I S : Nat} (h : ∀ i, S.testBit i = true → i < cnt) : ∀ k i, (itx N cnt I k S).testBit i = true → i < cnt
  | 0, i, e => h i e
  | k + 1, i, e => by
    rw [itx, nx_bit] at e
    simp only [Bool.or_eq_true, Bool.and_eq_true, decide_eq_true_eq] at e
    rcases e with e | e
    · exact itx_in h k i e
    · exact e.1
theorem itx_stay {N : sk_N} {cnt I S k : Nat} (h : itx N cnt I (k + 1) S = itx N cnt I k S) : ∀ m, itx N cnt I (k + m) S = itx N cnt I k S
  | 0 => rfl
  | m + 1 => by
    rw [← Nat.add_assoc, itx, itx_stay h m]
    exact h
theorem itx_still {N : sk_N} {cnt I S : Nat} (hc : cnt ≤ 10) (hS : S < 1024) (h0 : 0 < cnt) (hin : ∀ i, S.testBit i = true → i < cnt) (hne : 0 < pu_pc S) : ∀ m, itx N cnt I (cnt - 1 + m) S = itx N cnt I (cnt - 1) S := by
  have key : ∀ k, (∃ j, j < k ∧ itx N cnt I (j + 1) S = itx N cnt I j S) ∨ k + 1 ≤ pu_pc (itx N cnt I k S) := by
    intro k
    induction k with
    | zero => right; exact hne
    | succ k ih =>
      rcases ih with ⟨j, j1, j2⟩ | ih
      · exact Or.inl ⟨j, by omega, j2⟩
      · by_cases e : itx N cnt I (k + 1) S = itx N cnt I k S
        · exact Or.inl ⟨k, by omega, e⟩
        · right
          have := nx_grow (I := I) (N := N) hc (itx_lt hc hS k) e
          rw [itx]; omega
  have hb : pu_pc (itx N cnt I cnt S) ≤ cnt := by
    rw [show pu_pc (itx N cnt I cnt S) = ct (itx N cnt I cnt S).testBit 10 from (ct_filter 10).symm]
    exact ct_top (itx_in hin cnt)
  rcases key cnt with ⟨j, j1, j2⟩ | h
  · intro m
    have e1 := itx_stay j2 (cnt - 1 - j)
    have e2 := itx_stay j2 (cnt - 1 + m - j)
    rw [show j + (cnt - 1 - j) = cnt - 1 by omega] at e1
    rw [show j + (cnt - 1 + m - j) = cnt - 1 + m by omega] at e2
    rw [e1, e2]
  · omega
theorem pc_pow {c : Nat} (h : c < 10) : 0 < pu_pc (2 ^ c) := by
  have : ∀ c : Fin 10, 0 < pu_pc (2 ^ c.val) := by decide +kernel
  exact this ⟨c, h⟩
theorem pow_in {c cnt i : Nat} (h : c < cnt) (e : (2 ^ c).testBit i = true) : i < cnt := by
  rw [Nat.testBit_two_pow] at e
  simp at e
  omega
theorem q_dist {cnt P a b : Nat} {N : sk_N} {M : sk_M} (h : ST cnt P N (M.1 1)) (ha : a < cnt) (hb : b < cnt) : ∃ r, m_X1_linksFromTo N (nI a) (nI b) = some r ∧ m_X5_distance_41 (nI a) (nI b) (M, nI (2 ^ a), 0) = some (r, M) := by
  obtain ⟨h10, hP1, hP2, e0, e5, -⟩ := h.ex
  have h2a := pow_1024 (show a < 10 by omega)
  have h2b := pow_1024 (show b < 10 by omega)
  have hlt : ∀ k, itx N cnt 1023 k (2 ^ a) < 1024 := fun k => itx_lt h10 h2a k
  have hand : ∀ k, itx N cnt 1023 k (2 ^ a) &&& 2 ^ b < 1024 := fun k => Nat.lt_of_le_of_lt Nat.and_le_left (hlt k)
  have nobit : (∀ j, j < cnt → (itx N cnt 1023 j (2 ^ a)).testBit b = false) → ∀ j, (itx N cnt 1023 j (2 ^ a)).testBit b = false := fun hno j => by
    by_cases hj : j < cnt
    · exact hno j hj
    · have hst := itx_still (N := N) (I := 1023) h10 h2a (by omega) (fun i e => pow_in ha e) (pc_pow (by omega)) (j - (cnt - 1))
      rw [show cnt - 1 + (j - (cnt - 1)) = j by omega] at hst
      rw [hst]
      exact hno _ (by omega)
  -- one turn without the clock
  have turn : ∀ j, j < 10 → (itx N cnt 1023 j (2 ^ a)).testBit b = false → ∀ k', m_X5_distance_41_step (nI a) (nI b) k' (M, nI (itx N cnt 1023 j (2 ^ a)), nI j) = k' (M, nI (itx N cnt 1023 (j + 1) (2 ^ a)), nI (j + 1)) := by
    intro j hj hno k'
    unfold m_X5_distance_41_step
    dsimp only
    have hj' := hlt j
    have sb := sh_bit (S := itx N cnt 1023 j (2 ^ a)) (j := b) (by omega) (by omega)
    rw [if_neg (by rw [hno]; decide)] at sb
    simp (disch := omega) only [pu_lit, pu_let, pu_some, pu_xb, pu_xe, pu_hb, pu_he, nI_add, pk_mul, pk_sub, nI_clamp, pu_inT, nI_leI, nI_ltI, nI_eq, if_pos, if_neg, ↓reduceIte, true_and, and_true, and_self, not_true_eq_false, not_false_eq_true, reduceCtorEq, sb, q_next h (hlt j) (show 1023 < 1024 by omega)]
    rfl
  have turnC : ∀ j, j < cnt → (itx N cnt 1023 j (2 ^ a)).testBit b = false → ∀ k', m_X1_linksFromTo_7_step N (nI a) (nI b) k' (nI (itx N cnt 1023 j (2 ^ a)), nI j) = k' (nI (itx N cnt 1023 (j + 1) (2 ^ a)), nI (j + 1)) := by
    intro j hj hno k'
    unfold m_X1_linksFromTo_7_step
    dsimp only
    have hj' := hlt j
    have hj2 := hand j
    have hz : itx N cnt 1023 j (2 ^ a) &&& 2 ^ b = 0 := pu_and2.mpr hno
    simp (disch := omega) only [pu_lit, pu_let, pu_some, pu_xb, pu_xe, pu_hb, pu_he, nI_add, pk_mul, pk_sub, nI_clamp, pu_inT, nI_leI, nI_ltI, nI_eq, if_pos, if_neg, ↓reduceIte, true_and, and_true, and_self, not_true_eq_false, not_false_eq_true, reduceCtorEq, e0, pu_shl', pu_and, hz, q_with h (hlt j)]
    rfl
  unfold m_X1_linksFromTo
  rw [pu_let, pu_shl (by omega)]
  by_cases hex : ∃ k, k < cnt ∧ (itx N cnt 1023 k (2 ^ a)).testBit b = true
  · obtain ⟨k, ⟨hk, hkb⟩, hmin⟩ := pk_least _ hex
    have hno : ∀ j, j < k → (itx N cnt 1023 j (2 ^ a)).testBit b = false := fun j hj => by
      rcases hx : (itx N cnt 1023 j (2 ^ a)).testBit b with _ | _
      · rfl
      · exact absurd ⟨by omega, hx⟩ (hmin j hj)
    have hk' := hlt k
    have hk2 := hand k
    refine ⟨nI k, ?_, ?_⟩
    · refine lp_F (step := m_X1_linksFromTo_7_step N (nI a) (nI b)) (fun y => y = some (nI k)) (fun j s => s = (nI (itx N cnt 1023 j (2 ^ a)), nI j)) k (by omega) _ rfl ?_
      rintro kk j s hj rfl
      by_cases e : j = k
      · subst e
        left
        unfold m_X1_linksFromTo_7_step
        dsimp only
        have hz : ¬ itx N cnt 1023 j (2 ^ a) &&& 2 ^ b = 0 := fun e => by rw [pu_and2.mp e] at hkb; exact absurd hkb (by decide)
        simp (disch := omega) only [pu_lit, pu_let, pu_some, pu_xb, pu_xe, pu_hb, pu_he, nI_add, pk_mul, pk_sub, nI_clamp, pu_inT, nI_leI, nI_ltI, nI_eq, if_pos, if_neg, ↓reduceIte, true_and, and_true, and_self, not_true_eq_false, not_false_eq_true, reduceCtorEq, e0, pu_shl', pu_and, hz]
      · right
        exact ⟨by omega, _, turnC j (by omega) (hno j (by omega)) kk, rfl⟩
    · refine lp_F (step := m_X5_distance_41_step (nI a) (nI b)) (fun y => y = some (nI k, M)) (fun j s => s = (M, nI (itx N cnt 1023 j (2 ^ a)), nI j)) k (by omega) _ rfl ?_
      rintro kk j s hj rfl
      by_cases e : j = k
      · subst e
        left
        unfold m_X5_distance_41_step
        dsimp only
        have sb := sh_bit (S := itx N cnt 1023 j (2 ^ a)) (j := b) (by omega) (by omega)
        rw [if_pos hkb] at sb
        simp (disch := omega) only [pu_lit, pu_let, pu_some, pu_xb, pu_xe, pu_hb, pu_he, nI_add, pk_mul, pk_sub, nI_clamp, pu_inT, nI_leI, nI_ltI, nI_eq, if_pos, if_neg, ↓reduceIte, true_and, and_true, and_self, not_true_eq_false, not_false_eq_true, reduceCtorEq, sb]
      · right
        exact ⟨by omega, _, turn j (by omega) (hno j (by omega)) kk, rfl⟩
  · have hno := nobit (fun j hj => by
      rcases hx : (itx N cnt 1023 j (2 ^ a)).testBit b with _ | _
      · rfl
      · exact absurd ⟨j, hj, hx⟩ hex)
    refine ⟨-1, ?_, ?_⟩
    · refine lp_F (step := m_X1_linksFromTo_7_step N (nI a) (nI b)) (fun y => y = some (-1)) (fun j s => s = (nI (itx N cnt 1023 j (2 ^ a)), nI j)) cnt (by omega) _ rfl ?_
      rintro kk j s hj rfl
      by_cases e : j = cnt
      · left
        unfold m_X1_linksFromTo_7_step
        dsimp only
        simp (disch := omega) only [pu_lit, pu_let, pu_some, pu_xb, pu_xe, pu_hb, pu_he, nI_add, pk_mul, pk_sub, nI_clamp, pu_inT, nI_leI, nI_ltI, nI_eq, if_pos, if_neg, ↓reduceIte, true_and, and_true, and_self, not_true_eq_false, not_false_eq_true, reduceCtorEq, e0]
      · right
        exact ⟨by omega, _, turnC j (by omega) (hno j) kk, rfl⟩
    · refine lp_F (step := m_X5_distance_41_step (nI a) (nI b)) (fun y => y = some (-1, M)) (fun j s => s = (M, nI (itx N cnt 1023 j (2 ^ a)), nI j)) 10 (by omega) _ rfl ?_
      rintro kk j s hj rfl
      by_cases e : j = 10
      · left
        unfold m_X5_distance_41_step
        dsimp only
        simp (disch := omega) only [pu_lit, pu_let, pu_some, pu_xb, pu_xe, pu_hb, pu_he, nI_add, pk_mul, pk_sub, nI_clamp, pu_inT, nI_leI, nI_ltI, nI_eq, if_pos, if_neg, ↓reduceIte, true_and, and_true, and_self, not_true_eq_false, not_false_eq_true, reduceCtorEq]
      · right
        exact ⟨by omega, _, turn j (by omega) (hno j) kk, rfl⟩
/-! parts -/
theorem pu_notA {a r : Nat} (ha : a < 1024) (hr : r < 1024) : nI a &&& (nI r ^^^ (-nI 1)) = nI (a &&& (1023 ^^^ r)) := by
  have h3 : a &&& (1023 ^^^ r) < 1024 := Nat.lt_of_le_of_lt Nat.and_le_left ha
  apply pu_ext
  rw [Int32.toBitVec_and, BitVec.toNat_and, Int32.toBitVec_xor, BitVec.toNat_xor, pu_tn (by omega), pu_tn (by omega), pu_tn (by omega)]
  have h4 : (-nI 1).toBitVec.toNat = 2 ^ 32 - 1 := by decide
  rw [h4]
  apply Nat.eq_of_testBit_eq
  intro i
  rw [Nat.testBit_and, Nat.testBit_and, Nat.testBit_xor, Nat.testBit_xor, Nat.testBit_two_pow_sub_one, show (1023 : Nat) = 2 ^ 10 - 1 from rfl, Nat.testBit_two_pow_sub_one]
  by_cases hi : i < 10
  · have : i < 32 := by omega
    simp [hi, this]
  · have : a.testBit i = false := Nat.testBit_lt_two_pow (Nat.lt_of_lt_of_le ha (Nat.pow_le_pow_right (n := 2) (by omega) (show 10 ≤ i by omega)))
    simp [this]
theorem nx_sub {N : sk_N} {cnt I S : Nat} (hc : cnt ≤ 10) (h : ∀ i, S.testBit i = true → I.testBit i = true) : nx N cnt 1023 S &&& I = nx N cnt I S := by
  apply Nat.eq_of_testBit_eq
  intro i
  rw [Nat.testBit_and, nx_bit, nx_bit]
  by_cases hi : i < cnt
  · rw [b1023 (by omega)]
    rcases hs : S.testBit i with _ | _
    · rcases I.testBit i with _ | _ <;> simp
    · rw [h i hs]; simp
  · rcases hs : S.testBit i with _ | _
    · simp [hi]
    · rw [h i hs]; simp
theorem itx_sub {N : sk_N} {cnt I S : Nat} (h : ∀ i, S.testBit i = true → I.testBit i = true) : ∀ k i, (itx N cnt I k S).testBit i = true → I.testBit i = true
  | 0, i, e => h i e
  | k + 1, i, e => by
    rw [itx, nx_bit] at e
    simp only [Bool.or_eq_true, Bool.and_eq_true, decide_eq_true_eq] at e
    rcases e with e | e
    · exact itx_sub h k i e
    · exact e.2.1
theorem q_part {cnt P c I : Nat} {N : sk_N} {M : sk_M} (h : ST cnt P N (M.1 1)) (hc : c < cnt) (hI : I < 1024) (hb : I.testBit c = true) : m_X1_partOf N (nI c) (nI I) = some (nI (itx N cnt I (cnt - 1) (2 ^ c))) ∧ m_X5_spreads M (nI (2 ^ c)) (nI I) = some (nI (itx N cnt I (cnt - 1) (2 ^ c))) := by
  obtain ⟨h10, hP1, hP2, e0, e5, -⟩ := h.ex
  have h2 := pow_1024 (show c < 10 by omega)
  have hsub : ∀ i, (2 ^ c).testBit i = true → I.testBit i = true := fun i e => by
    rw [Nat.testBit_two_pow] at e
    simp at e
    rw [← e]; exact hb
  constructor
  · unfold m_X1_partOf
    rw [pu_let, pu_shl (by omega)]
    refine lp_F (step := m_X1_partOf_7_step N (nI c) (nI I)) (fun y => y = some (nI (itx N cnt I (cnt - 1) (2 ^ c)))) (fun j s => s = (nI (itx N cnt I j (2 ^ c)), nI (j + 1))) (cnt - 1) (by omega) _ rfl ?_
    rintro k j s hj rfl
    unfold m_X1_partOf_7_step
    dsimp only
    have hl := itx_lt (N := N) (I := I) h10 h2 j
    by_cases e : j = cnt - 1
    · left
      subst e
      simp (disch := omega) only [pu_lit, pu_let, pu_some, pu_xb, pu_xe, pu_hb, pu_he, nI_add, pk_mul, pk_sub, nI_clamp, pu_inT, nI_leI, nI_ltI, nI_eq, if_pos, if_neg, ↓reduceIte, true_and, and_true, and_self, not_true_eq_false, not_false_eq_true, reduceCtorEq, e0]
    · right
      refine ⟨by omega, ?_⟩
      have hx : nx N cnt 1023 (itx N cnt I j (2 ^ c)) < 1024 := nxp_lt h10 hl
      have hs := nx_sub (N := N) h10 (itx_sub (N := N) (cnt := cnt) hsub j)
      simp (disch := omega) only [pu_lit, pu_let, pu_some, pu_xb, pu_xe, pu_hb, pu_he, nI_add, pk_mul, pk_sub, nI_clamp, pu_inT, nI_leI, nI_ltI, nI_eq, if_pos, if_neg, ↓reduceIte, true_and, and_true, and_self, not_true_eq_false, not_false_eq_true, reduceCtorEq, e0, q_with h hl, pu_and, hs]
      exact ⟨_, rfl, rfl⟩
  · have hst := itx_still (N := N) (I := I) h10 h2 (by omega) (fun i e => pow_in hc e) (pc_pow (by omega)) (10 - (cnt - 1))
    rw [show cnt - 1 + (10 - (cnt - 1)) = 10 by omega] at hst
    rw [← hst]
    refine lp_F (step := m_X5_spreads_5_step M (nI (2 ^ c)) (nI I)) (fun y => y = some (nI (itx N cnt I 10 (2 ^ c)))) (fun j s => s = (nI (itx N cnt I j (2 ^ c)), nI j)) 10 (by omega) _ rfl ?_
    rintro k j s hj rfl
    unfold m_X5_spreads_5_step
    dsimp only
    have hl := itx_lt (N := N) (I := I) h10 h2 j
    by_cases e : j = 10
    · left
      subst e
      simp (disch := omega) only [pu_lit, pu_let, pu_some, pu_xb, pu_xe, pu_hb, pu_he, nI_add, pk_mul, pk_sub, nI_clamp, pu_inT, nI_leI, nI_ltI, nI_eq, if_pos, if_neg, ↓reduceIte, true_and, and_true, and_self, not_true_eq_false, not_false_eq_true, reduceCtorEq]
    · right
      refine ⟨by omega, ?_⟩
      simp (disch := omega) only [pu_lit, pu_let, pu_some, pu_xb, pu_xe, pu_hb, pu_he, nI_add, pk_mul, pk_sub, nI_clamp, pu_inT, nI_leI, nI_ltI, nI_eq, if_pos, if_neg, ↓reduceIte, true_and, and_true, and_self, not_true_eq_false, not_false_eq_true, reduceCtorEq, q_next h hl hI]
      exact ⟨_, rfl, rfl⟩
theorem q_parts {cnt P I : Nat} {N : sk_N} {M : sk_M} (h : ST cnt P N (M.1 1)) (hI : I < 1024) : ∃ r : Nat, r ≤ 10 ∧ m_X1_partsWithin N (nI I) = some (nI r) ∧ m_X5_parts M (nI I) = some (nI r) := by
  obtain ⟨h10, hP1, hP2, e0, e5, -⟩ := h.ex
  refine lp_LF (step := m_X1_partsWithin_7_step N (nI I)) (step' := m_X5_parts_7_step M (nI I)) (fun y y' => ∃ r : Nat, r ≤ 10 ∧ y = some (nI r) ∧ y' = some (nI r)) (fun j s s' => ∃ L r : Nat, L < 1024 ∧ r ≤ j ∧ (∀ i, L.testBit i = true → I.testBit i = true) ∧ s = (nI L, nI r, nI j) ∧ s' = (nI r, nI L, nI j)) cnt (by omega) (nI I, 0, 0) (0, nI I, 0) ⟨I, 0, hI, by omega, fun _ e => e, rfl, rfl⟩ ?_
  rintro k k' j s s' hj ⟨L, r, hL, hr, hsub, rfl, rfl⟩
  unfold m_X1_partsWithin_7_step m_X5_parts_7_step
  dsimp only
  by_cases hjc : j = cnt
  · subst hjc
    left
    refine ⟨r, by omega, ?_⟩
    simp (disch := omega) only [pu_lit, pu_let, pu_some, pu_xb, pu_xe, pu_hb, pu_he, nI_add, pk_mul, pk_sub, nI_clamp, pu_inT, nI_leI, nI_ltI, nI_eq, if_pos, if_neg, ↓reduceIte, true_and, and_true, and_self, not_true_eq_false, not_false_eq_true, reduceCtorEq, e0, e5]
  · right
    have hlt : j < cnt := by omega
    refine ⟨hlt, ?_⟩
    have h2 := pow_1024 (show j < 10 by omega)
    have hand : L &&& 2 ^ j < 1024 := Nat.lt_of_le_of_lt Nat.and_le_left hL
    have sb := sh_bit (S := L) (j := j) (by omega) (by omega)
    by_cases hbit : L.testBit j = true
    · rw [if_pos hbit] at sb
      have hz : ¬ L &&& 2 ^ j = 0 := fun e => by rw [pu_and2.mp e] at hbit; exact absurd hbit (by decide)
      obtain ⟨p1, p2⟩ := q_part h hlt hI (hsub j hbit)
      have hx := itx_lt (N := N) (I := I) h10 h2 (cnt - 1)
      simp (disch := omega) only [pu_lit, pu_let, pu_some, pu_xb, pu_xe, pu_hb, pu_he, nI_add, pk_mul, pk_sub, nI_clamp, pu_inT, nI_leI, nI_ltI, nI_eq, if_pos, if_neg, ↓reduceIte, true_and, and_true, and_self, not_true_eq_false, not_false_eq_true, reduceCtorEq, e0, e5, pu_shl', pu_and, hz, sb, p1, p2, pu_notA]
      refine ⟨_, _, rfl, rfl, L &&& (1023 ^^^ itx N cnt I (cnt - 1) (2 ^ j)), r + 1, Nat.lt_of_le_of_lt Nat.and_le_left hL, by omega, fun i e => ?_, rfl, rfl⟩
      rw [Nat.testBit_and] at e
      simp only [Bool.and_eq_true] at e
      exact hsub i e.1
    · rw [if_neg hbit] at sb
      have hz : L &&& 2 ^ j = 0 := pu_and2.mpr (by simpa using hbit)
      simp (disch := omega) only [pu_lit, pu_let, pu_some, pu_xb, pu_xe, pu_hb, pu_he, nI_add, pk_mul, pk_sub, nI_clamp, pu_inT, nI_leI, nI_ltI, nI_eq, if_pos, if_neg, ↓reduceIte, true_and, and_true, and_self, not_true_eq_false, not_false_eq_true, reduceCtorEq, e0, e5, pu_shl', pu_and, hz, sb]
      exact ⟨_, _, rfl, rfl, L, r, hL, by omega, hsub, rfl, rfl⟩
theorem q_all {cnt P : Nat} {N : sk_N} {M : sk_M} (h : ST cnt P N (M.1 1)) : m_X1_allClocks N = some (nI (2 ^ cnt - 1)) ∧ m_X5_everyone M = some (nI (2 ^ cnt - 1)) ∧ 2 ^ cnt - 1 < 1024 := by
  obtain ⟨h10, hP1, hP2, e0, e5, -⟩ := h.ex
  have h2 : (2 : Nat) ^ cnt ≤ 1024 := show (2 : Nat) ^ cnt ≤ 2 ^ 10 from Nat.pow_le_pow_right (by omega) h10
  have h1 : 1 ≤ (2 : Nat) ^ cnt := Nat.one_le_two_pow
  unfold m_X1_allClocks m_X5_everyone
  refine ⟨?_, ?_, by omega⟩
  · simp (disch := omega) only [pu_lit, pu_let, pu_some, pu_xb, pu_xe, pu_hb, pu_he, nI_add, pk_mul, pk_sub, nI_clamp, pu_inT, nI_leI, nI_ltI, nI_eq, if_pos, if_neg, ↓reduceIte, true_and, and_true, and_self, not_true_eq_false, not_false_eq_true, reduceCtorEq, e0, pu_shl']
  · simp (disch := omega) only [pu_lit, pu_let, pu_some, pu_xb, pu_xe, pu_hb, pu_he, nI_add, pk_mul, pk_sub, nI_clamp, pu_inT, nI_leI, nI_ltI, nI_eq, if_pos, if_neg, ↓reduceIte, true_and, and_true, and_self, not_true_eq_false, not_false_eq_true, reduceCtorEq, e5, pu_shl']
