/-! the class's log -/
def LG (nl : List (Nat × Nat)) (L : sk_N) : Prop := nl.length ≤ 60 ∧ L 0 3 = nI nl.length ∧ ∃ nx : Nat, nx < 60 ∧ L 0 2 = nI nx ∧ ∀ (k : Nat) (x : Nat × Nat), k < nl.length → nl[nl.length - 1 - k]? = some x → L 1 ((nx + 59 - k) % 60) = nI x.1 ∧ L 2 ((nx + 59 - k) % 60) = nI x.2
theorem nlA_len {nl : List (Nat × Nat)} {x : Nat × Nat} (h : nl.length ≤ 60) : (nlA nl x).length = if nl.length = 60 then 60 else nl.length + 1 := by
  unfold nlA
  by_cases h1 : nl.length = 60
  · rw [if_pos h1, if_pos h1, List.length_append, List.length_tail, h1]; rfl
  · rw [if_neg h1, if_neg h1, List.length_append]; rfl
theorem nlA_0 {nl : List (Nat × Nat)} {x : Nat × Nat} (h : nl.length ≤ 60) : (nlA nl x)[(nlA nl x).length - 1]? = some x := by
  unfold nlA
  by_cases h1 : nl.length = 60
  · rw [if_pos h1]; simp
  · rw [if_neg h1]; simp
theorem nlA_s {nl : List (Nat × Nat)} {x : Nat × Nat} {k : Nat} (h : nl.length ≤ 60) (hk : k + 1 < (nlA nl x).length) : (nlA nl x)[(nlA nl x).length - 1 - (k + 1)]? = nl[nl.length - 1 - k]? := by
  have hl := nlA_len (x := x) h
  rw [hl] at hk ⊢
  unfold nlA
  by_cases h1 : nl.length = 60
  · rw [if_pos h1] at hk ⊢
    rw [if_pos h1, List.getElem?_append_left (by rw [List.length_tail]; omega), List.getElem?_tail, h1]
    congr 1
    omega
  · rw [if_neg h1] at hk ⊢
    rw [if_neg h1, List.getElem?_append_left (by omega)]
    congr 1
    omega
theorem l_note {nl : List (Nat × Nat)} {L : sk_N} (T c : Nat) (h : LG nl L) : ∃ L', m_X0_note L (nI T) (nI c) = some L' ∧ LG (nlA nl (T, c)) L' := by
  obtain ⟨h1, h2, nx, h3, h4, h5⟩ := h
  have hl := nlA_len (x := (T, c)) h1
  have fin : ∀ L' : sk_N, L' 0 2 = nI ((nx + 1) % 60) → L' 0 3 = nI (nlA nl (T, c)).length → (∀ i, L' 1 i = if i = nx then nI T else L 1 i) → (∀ i, L' 2 i = if i = nx then nI c else L 2 i) → LG (nlA nl (T, c)) L' := by
    intro L' g1 g2 g3 g4
    refine ⟨by rw [hl]; split <;> omega, g2, (nx + 1) % 60, Nat.mod_lt _ (by omega), g1, fun k x hk hx => ?_⟩
    rcases k with _ | k
    · rw [Nat.sub_zero, nlA_0 h1] at hx
      cases hx
      have e : ((nx + 1) % 60 + 59 - 0) % 60 = nx := by omega
      rw [e, g3, g4, if_pos rfl, if_pos rfl]
      exact ⟨rfl, rfl⟩
    · rw [nlA_s h1 hk] at hx
      have hk60 : k + 1 < 60 := by rw [hl] at hk; split at hk <;> omega
      have hkl : k < nl.length := by rw [hl] at hk; split at hk <;> omega
      have e : ((nx + 1) % 60 + 59 - (k + 1)) % 60 = (nx + 59 - k) % 60 := by omega
      rw [e, g3, g4, if_neg (by omega), if_neg (by omega)]
      exact h5 k x hkl hx
  unfold m_X0_note
  have a1 : sk_up L 1 nx (nI T) 0 2 = nI nx := by rw [pu_row (by omega)]; exact h4
  have a2 : sk_up (sk_up L 1 nx (nI T)) 2 nx (nI c) 0 2 = nI nx := by rw [pu_row (by omega)]; exact a1
  have a3 : sk_up (sk_up L 1 nx (nI T)) 2 nx (nI c) 0 3 = nI nl.length := by rw [pu_row (by omega), pu_row (by omega)]; exact h2
  have hres : ∀ v, (m_X0_note_42 (nI T) (nI c) (sk_up (sk_up L 1 nx (nI T)) 2 nx (nI c), nI v)) = some (if nl.length = 60 then sk_up (sk_up (sk_up L 1 nx (nI T)) 2 nx (nI c)) 0 2 (nI v) else sk_up (sk_up (sk_up (sk_up L 1 nx (nI T)) 2 nx (nI c)) 0 2 (nI v)) 0 3 (nI (nl.length + 1))) := by
    intro v
    unfold m_X0_note_42
    have a4 : sk_up (sk_up (sk_up L 1 nx (nI T)) 2 nx (nI c)) 0 2 (nI v) 0 3 = nI nl.length := by rw [pu_sup, if_neg (by omega)]; exact a3
    by_cases h60 : nl.length = 60
    · simp (disch := omega) only [pu_lit, pu_let, pu_some, pu_xb, pu_xe, pu_hb, pu_he, nI_add, pk_mul, pk_sub, nI_clamp, pu_inT, nI_leI, nI_ltI, nI_eq, if_pos, if_neg, ↓reduceIte, true_and, and_true, and_self, not_true_eq_false, not_false_eq_true, reduceCtorEq, a4]
    · simp (disch := omega) only [pu_lit, pu_let, pu_some, pu_xb, pu_xe, pu_hb, pu_he, nI_add, pk_mul, pk_sub, nI_clamp, pu_inT, nI_leI, nI_ltI, nI_eq, if_pos, if_neg, ↓reduceIte, true_and, and_true, and_self, not_true_eq_false, not_false_eq_true, reduceCtorEq, a4]
  have key : ∀ v, v = (nx + 1) % 60 → ∃ L', m_X0_note_42 (nI T) (nI c) (sk_up (sk_up L 1 nx (nI T)) 2 nx (nI c), nI v) = some L' ∧ LG (nlA nl (T, c)) L' := by
    intro v hv
    rw [hres]
    refine ⟨_, rfl, fin _ ?_ ?_ ?_ ?_⟩
    · split
      · rw [pu_sup, if_pos ⟨rfl, rfl⟩, hv]
      · rw [pu_sup, if_neg (by omega), pu_sup, if_pos ⟨rfl, rfl⟩, hv]
    · rw [hl]
      split
      · rw [pu_sup, if_neg (by omega), a3]; congr 1
      · rw [pu_sup, if_pos ⟨rfl, rfl⟩]
    · intro i
      split
      · rw [pu_row (by omega), pu_row (by omega), pu_sup]; simp
      · rw [pu_row (by omega), pu_row (by omega), pu_row (by omega), pu_sup]; simp
    · intro i
      split
      · rw [pu_row (by omega), pu_sup, pu_row (by omega)]; simp
      · rw [pu_row (by omega), pu_row (by omega), pu_sup, pu_row (by omega)]; simp
  by_cases hx : nx = 59
  · have h4' : L 0 2 = nI 59 := by rw [h4, hx]
    subst hx
    simp (disch := omega) only [pu_lit, pu_let, pu_some, pu_xb, pu_xe, pu_hb, pu_he, nI_add, pk_mul, pk_sub, nI_clamp, pu_inT, nI_leI, nI_ltI, nI_eq, if_pos, if_neg, ↓reduceIte, true_and, and_true, and_self, not_true_eq_false, not_false_eq_true, reduceCtorEq, h4, a1, a2]
    exact key 0 (by omega)
  · simp (disch := omega) only [pu_lit, pu_let, pu_some, pu_xb, pu_xe, pu_hb, pu_he, nI_add, pk_mul, pk_sub, nI_clamp, pu_inT, nI_leI, nI_ltI, nI_eq, if_pos, if_neg, ↓reduceIte, true_and, and_true, and_self, not_true_eq_false, not_false_eq_true, reduceCtorEq, h4, a1, a2]
    exact key (nx + 1) (by omega)
theorem l_fires {cnt F T : Nat} {ol : List Nat} {nl : List (Nat × Nat)} {N L : sk_N} {M : sk_M} (h : FD cnt F ol N M) (hT : N 0 3 = nI T) (hl : LG nl L) : ∃ L', m_X1_noteFires N L = some L' ∧ LG (ol.foldl (fun l o => nlA l (T, o)) nl) L' := by
  have h13 : N 0 13 = nI ol.length := h.2.2.2.1
  have hl10 : ol.length ≤ 10 := by rw [h.2.2.2.2.2.1]; exact pu_pc_le
  refine lp_F (step := m_X1_noteFires_2_step N) (fun y => ∃ L', y = some L' ∧ LG (ol.foldl (fun l o => nlA l (T, o)) nl) L') (fun j s => s.2 = nI j ∧ LG ((ol.take j).foldl (fun l o => nlA l (T, o)) nl) s.1) ol.length (by omega) (L, 0) ⟨rfl, by simpa using hl⟩ ?_
  rintro k j ⟨A, x⟩ hj ⟨rfl, hA⟩
  dsimp only at hA ⊢
  unfold m_X1_noteFires_2_step
  dsimp only
  by_cases hjc : j = ol.length
  · subst hjc
    left
    rw [List.take_length] at hA
    refine ⟨A, ?_, hA⟩
    by_cases h1 : 10 ≤ ol.length
    · simp (disch := omega) only [pu_lit, pu_let, pu_some, pu_xb, pu_xe, pu_hb, pu_he, nI_add, pk_mul, pk_sub, nI_clamp, pu_inT, nI_leI, nI_ltI, nI_eq, if_pos, if_neg, ↓reduceIte, true_and, and_true, and_self, not_true_eq_false, not_false_eq_true, reduceCtorEq]
    · simp (disch := omega) only [pu_lit, pu_let, pu_some, pu_xb, pu_xe, pu_hb, pu_he, nI_add, pk_mul, pk_sub, nI_clamp, pu_inT, nI_leI, nI_ltI, nI_eq, if_pos, if_neg, ↓reduceIte, true_and, and_true, and_self, not_true_eq_false, not_false_eq_true, reduceCtorEq, h13]
  · right
    refine ⟨by omega, ?_⟩
    have hlt : j < ol.length := by omega
    have hv : ol[j]? = some (ol[j]) := List.getElem?_eq_getElem hlt
    obtain ⟨v1, v2, v3⟩ := h.2.2.2.2.2.2.2 j _ hv
    obtain ⟨L', l1, l2⟩ := l_note T (ol[j]) hA
    simp (disch := omega) only [pu_lit, pu_let, pu_some, pu_xb, pu_xe, pu_hb, pu_he, nI_add, pk_mul, pk_sub, nI_clamp, pu_inT, nI_leI, nI_ltI, nI_eq, if_pos, if_neg, ↓reduceIte, true_and, and_true, and_self, not_true_eq_false, not_false_eq_true, reduceCtorEq, h13, hT, v2, l1]
    refine ⟨_, rfl, rfl, ?_⟩
    rw [List.take_succ_eq_append_getElem hlt, List.foldl_append]
    exact l2
/-! states -/
def FQ (N : sk_N) (w : Nat → Int32) : Prop := ∃ F : Nat, F < 1024 ∧ N 0 4 = nI F ∧ w 6 = nI F
def LQ (T1 T2 : Nat) (L : sk_N) (M : sk_M) : Prop := ∃ nl, LG nl L ∧ ((M.1 0 10 = 0 ∧ T1 = T2 ∧ NT nl (M.1 1)) ∨ M.1 0 10 = 1)
def RS (cnt P T1 T2 : Nat) (N L : sk_N) (M : sk_M) : Prop := RX cnt P T1 T2 N (M.1 1) ∧ FQ N (M.1 1) ∧ LQ T1 T2 L M
theorem p_step {n k4 A L x i} : m_X1_passTicks_4_step n k4 (A, L, x, i) = (if n ≤ i then (some (x, A, L)) else (tkN A).bind (fun r46 => (m_X1_noteFires r46 L).bind (fun r50 => k4 (r46, r50, x + r46 0 13, i + 1)))) := by
  unfold m_X1_passTicks_4_step tkN
  simp only [pu_let, Option.bind_assoc]
theorem t_step {cnt P T1 T2 : Nat} {N L : sk_N} {M : sk_M} (h : RS cnt P T1 T2 N L M) (hb1 : T1 + 1 < 2 ^ 29) (hb2 : T2 + 1 < 2 ^ 29) :
    ∃ (r : Nat) (N' L' : sk_N) (M' : sk_M), r ≤ 10 ∧ tkN N = some N' ∧ N' 0 13 = nI r ∧ m_X1_noteFires N' L = some L' ∧ m_X5_ticks M = some (nI r, M') ∧ RS cnt P (T1 + 1) (T2 + 1) N' L' M' ∧ FT M M' := by
  obtain ⟨h1, -, nl, h3, h4⟩ := h
  have hn : NS (T2 + 1) nl [] M := by
    rcases h4 with ⟨a, b, c⟩ | a
    · exact Or.inl ⟨a, c⟩
    · exact Or.inr a
  obtain ⟨N', M', F, ol, a1, a2, a3, a4, a5, a6⟩ := t_tick h1 hn hb1 hb2
  obtain ⟨L', l1, l2⟩ := l_fires a4 a3.2.1.2.2.1 h3
  refine ⟨ol.length, N', L', M', by rw [a4.2.2.2.2.2.1]; exact pu_pc_le, a1, a4.2.2.2.1, l1, a2, ⟨a3, ⟨F, a4.1, a4.2.1, a4.2.2.1⟩, _, l2, ?_⟩, a6⟩
  rcases h4 with ⟨a, b, c⟩ | a
  · rcases a5 with ⟨d, e⟩ | d
    · exact Or.inl ⟨d, by omega, by rw [b]; exact e⟩
    · exact Or.inr d
  · exact Or.inr (by rw [a6.2.1 10 (by omega)]; exact a)
theorem t_pass {cnt P T1 T2 n : Nat} {N L : sk_N} {M : sk_M} (h : RS cnt P T1 T2 N L M) (hn : n ≤ 400) (hb1 : T1 + n < 2 ^ 29) (hb2 : T2 + n < 2 ^ 29) :
    ∃ (r : Nat) (N' L' : sk_N) (M' : sk_M), r ≤ 10 * n ∧ m_X1_passTicks N L (nI n) = some (nI r, N', L') ∧ m_X5_doTick M (nI n) = some (nI r, M') ∧ RS cnt P (T1 + n) (T2 + n) N' L' M' ∧ FT M M' := by
  refine lp_LF (step := m_X1_passTicks_4_step (nI n)) (step' := m_X5_doTick_4_step (nI n)) (fun y y' => ∃ (r : Nat) (N' L' : sk_N) (M' : sk_M), r ≤ 10 * n ∧ y = some (nI r, N', L') ∧ y' = some (nI r, M') ∧ RS cnt P (T1 + n) (T2 + n) N' L' M' ∧ FT M M')
    (fun j s s' => ∃ r : Nat, r ≤ 10 * j ∧ s.2.2 = (nI r, nI j) ∧ s'.2 = (nI r, nI j) ∧ RS cnt P (T1 + j) (T2 + j) s.1 s.2.1 s'.1 ∧ FT M s'.1) n (by omega) (N, L, 0, 0) (M, 0, 0) ⟨0, by omega, rfl, rfl, h, FT.rf⟩ ?_
  rintro k k' j ⟨A, La, x⟩ ⟨B, y⟩ hj ⟨r, r1, rfl, rfl, hR, hF⟩
  dsimp only at hR hF ⊢
  rw [p_step]
  unfold m_X5_doTick_4_step
  dsimp only
  by_cases hjc : j = n
  · subst hjc
    simp (disch := omega) only [pu_lit, pu_let, pu_some, pu_xb, pu_xe, pu_hb, pu_he, nI_add, pk_mul, pk_sub, nI_clamp, pu_inT, nI_leI, nI_ltI, nI_eq, if_pos, if_neg, ↓reduceIte, true_and, and_true, and_self, not_true_eq_false, not_false_eq_true, reduceCtorEq]
    exact Or.inl ⟨r, A, La, B, r1, rfl, rfl, hR, hF⟩
  · right
    refine ⟨by omega, ?_⟩
    obtain ⟨r2, N', L', M', b1, b2, b3, b4, b5, b6, b7⟩ := t_step hR (by omega) (by omega)
    simp (disch := omega) only [pu_lit, pu_let, pu_some, pu_xb, pu_xe, pu_hb, pu_he, nI_add, pk_mul, pk_sub, nI_clamp, pu_inT, nI_leI, nI_ltI, nI_eq, if_pos, if_neg, ↓reduceIte, true_and, and_true, and_self, not_true_eq_false, not_false_eq_true, reduceCtorEq, b2, b3, b4, b5]
    exact ⟨_, _, rfl, rfl, r + r2, by omega, rfl, rfl, b6, hF.tr b7⟩
/-- one tick, of passTicks and of ticks -/
theorem t_one {cnt P T1 T2 : Nat} {N L : sk_N} {M : sk_M} (h : RS cnt P T1 T2 N L M) (hb1 : T1 + 1 < 2 ^ 29) (hb2 : T2 + 1 < 2 ^ 29) :
    ∃ (r : Nat) (N' L' : sk_N) (M' : sk_M), m_X1_passTicks N L (nI 1) = some (nI r, N', L') ∧ m_X5_ticks M = some (nI r, M') ∧ RS cnt P (T1 + 1) (T2 + 1) N' L' M' ∧ FT M M' := by
  obtain ⟨r2, N', L', M', b1, b2, b3, b4, b5, b6, b7⟩ := t_step h (by omega) (by omega)
  refine ⟨r2, N', L', M', ?_, b5, b6, b7⟩
  refine lp_F (step := m_X1_passTicks_4_step (nI 1)) (fun y => y = some (nI r2, N', L')) (fun j s => (j = 0 ∧ s = (N, L, 0, 0)) ∨ (j = 1 ∧ s = (N', L', nI r2, nI 1))) 1 (by omega) (N, L, 0, 0) (Or.inl ⟨rfl, rfl⟩) ?_
  rintro k j s hj (⟨rfl, rfl⟩ | ⟨rfl, rfl⟩)
  · right
    refine ⟨by omega, ?_⟩
    rw [p_step]
    simp (disch := omega) only [pu_lit, pu_let, pu_some, pu_xb, pu_xe, pu_hb, pu_he, nI_add, pk_mul, pk_sub, nI_clamp, pu_inT, nI_leI, nI_ltI, nI_eq, if_pos, if_neg, ↓reduceIte, true_and, and_true, and_self, not_true_eq_false, not_false_eq_true, reduceCtorEq, b2, b3, b4, Nat.zero_add]
    exact ⟨_, rfl, Or.inr (by first | exact ⟨rfl, rfl⟩ | rfl | trivial)⟩
  · left
    rw [p_step]
    simp (disch := omega) only [pu_lit, pu_let, pu_some, pu_xb, pu_xe, pu_hb, pu_he, nI_add, pk_mul, pk_sub, nI_clamp, pu_inT, nI_leI, nI_ltI, nI_eq, if_pos, if_neg, ↓reduceIte, true_and, and_true, and_self, not_true_eq_false, not_false_eq_true, reduceCtorEq]
