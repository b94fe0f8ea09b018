/-! pulses that arrive -/
def itN : Nat → Nat → sk_N → Option sk_N
  | 0, _, N => some N
  | n + 1, c, N => (m_X1_reach N (nI c)).bind (itN n c)
def itM : Nat → Nat → sk_M → Option sk_M
  | 0, _, M => some M
  | n + 1, c, M => (m_X5_reaches M (nI c)).bind (itM n c)
theorem f_it {m cnt P T1 T2 c : Nat} {nl : List (Nat × Nat)} {ar : Nat → Nat → Bool} (hc : c < cnt) : ∀ (n : Nat) {N : sk_N} {M : sk_M}, TX m cnt P T1 T2 nl ar (fun _ => P) N M →
    ∃ N' M', itN n c N = some N' ∧ itM n c M = some M' ∧ TX m cnt P T1 T2 nl ar (fun _ => P) N' M' ∧ TQ N M N' M'
  | 0, N, M, h => ⟨N, M, rfl, rfl, h, TQ.rf⟩
  | n + 1, N, M, h => by
    obtain ⟨N1, M1, a1, a2, a3, a4⟩ := f_reach h hc
    obtain ⟨N2, M2, b1, b2, b3, b4⟩ := f_it hc n a3
    refine ⟨N2, M2, ?_, ?_, b3, TQ.tr a4 b4⟩
    · rw [itN, a1]; exact b1
    · rw [itM, a2]; exact b2
theorem itM_add : ∀ (n k c : Nat) (M : sk_M), itM (n + k) c M = (itM n c M).bind (itM k c)
  | 0, k, c, M => by rw [Nat.zero_add]; rfl
  | n + 1, k, c, M => by
    rw [show n + 1 + k = n + k + 1 by omega, itM, itM]
    rcases m_X5_reaches M (nI c) with _ | M1
    · rfl
    · exact itM_add n k c M1
theorem itN_loop {c n : Nat} {sl : Int32} {k10 : sk_N × Int32 × Int32 → Option sk_N} (hn : n ≤ 10) : ∀ (fuel i : Nat) (N : sk_N), i ≤ n → n - i < fuel → (∃ N', itN (n - i) c N = some N') →
    sk_lp (m_X1_deliverDelayedPulses_42_step k10) fuel (N, sl, nI c, nI n, nI i) = (itN (n - i) c N).bind (fun N' => k10 (N', sl, nI c + 1))
  | 0, i, N, h1, h2, _ => absurd h2 (by omega)
  | fuel + 1, i, N, h1, h2, h3 => by
    rw [sk_lp]
    unfold m_X1_deliverDelayedPulses_42_step
    dsimp only
    by_cases hi : i = n
    · subst hi
      rw [if_pos ((nI_leI (by omega) (by omega)).mpr (Nat.le_refl _)), Nat.sub_self]
      rfl
    · rw [if_neg (fun e => absurd ((nI_leI (by omega) (by omega)).mp e) (by omega)), show n - i = n - (i + 1) + 1 by omega, itN]
      rw [show n - i = n - (i + 1) + 1 by omega, itN] at h3
      rcases hr : m_X1_reach N (nI c) with _ | N1
      · rw [hr] at h3
        obtain ⟨_, h3⟩ := h3
        cases h3
      · rw [hr] at h3
        simp only [pu_some] at h3 ⊢
        rw [nI_1]
        exact itN_loop hn fuel (i + 1) N1 (by omega) (by omega) h3
/-- how many of the first n arrive -/
def arN (ar : Nat → Nat → Bool) (c n : Nat) : Nat := ((List.range n).filter (fun a => ar a c)).length
theorem arN_succ {ar : Nat → Nat → Bool} {c n : Nat} : arN ar c (n + 1) = arN ar c n + if ar n c = true then 1 else 0 := by
  unfold arN
  rw [List.range_succ, List.filter_append, List.length_append]
  by_cases h : ar n c = true <;> simp [h]
theorem pu_pcE {x : Nat} {f : Nat → Bool} (h : ∀ a, a < 10 → x.testBit a = f a) : pu_pc x = ((List.range 10).filter f).length := by
  unfold pu_pc
  congr 1
  apply List.filter_congr
  intro a ha
  exact h a (List.mem_range.mp ha)
theorem arN_le {ar : Nat → Nat → Bool} {c : Nat} : ∀ n, arN ar c n ≤ n := fun n => by
  unfold arN
  exact Nat.le_trans (List.length_filter_le _ _) (by simp)
theorem arN_top {ar : Nat → Nat → Bool} {c cnt : Nat} (h : ∀ a, ar a c = true → a < cnt) : ∀ k, arN ar c (cnt + k) = arN ar c cnt
  | 0 => rfl
  | k + 1 => by
    rw [← Nat.add_assoc, arN_succ, arN_top h k, if_neg (fun e => absurd (h _ e) (by omega))]
    rfl
/-- the model's flags of arrival -/
def AR (ar : Nat → Nat → Bool) (M : sk_M) : Prop := ∀ a b, a < 10 → b < 10 → M.1 6 (10 * a + b) = nI (if ar a b = true then 1 else 0)
theorem PU.zero {cnt T c : Nat} {ar : Nat → Nat → Bool} {N : sk_N} {w : Nat → Int32} (h : PU cnt T ar N w) (hc : c < 10) : PU cnt T (fun a b => ar a b && !decide (b = c)) (sk_up N 7 (T % 16 * 10 + c) 0) w := by
  obtain ⟨ha, hb⟩ := h
  have hT : T % 16 < 16 := Nat.mod_lt _ (by omega)
  have key : ∀ s b, s < 16 → b < 10 → dd (sk_up N 7 (T % 16 * 10 + c) 0) s b = if s = T % 16 ∧ b = c then 0 else dd N s b := by
    intro s b hs hb'
    unfold dd
    rw [pu_sup]
    by_cases hh : s = T % 16 ∧ b = c
    · rw [if_pos hh, if_pos (by omega)]; rfl
    · rw [if_neg hh, if_neg (by omega)]
  refine ⟨fun s b hs hb' => ?_, fun a b ha' hb' => ?_⟩
  · rw [key s b hs hb', pu_sup]
    by_cases hh : s = T % 16 ∧ b = c
    · rw [if_pos (by omega), if_pos hh]; exact ⟨rfl, by omega⟩
    · rw [if_neg (by omega), if_neg hh]; exact ha s b hs hb'
  · obtain ⟨q, q1, q2, q3, q4, q5, q6⟩ := hb a b ha' hb'
    refine ⟨q, q1, q2, q3, q4, fun e => q5 (by simp at e; exact e.1), fun d hd => ?_⟩
    have hm : (T + d) % 16 < 16 := Nat.mod_lt _ (by omega)
    rw [key _ _ hm hb']
    have := q6 d hd
    by_cases h0 : d = 0
    · subst h0
      rw [if_pos rfl] at this ⊢
      rw [Nat.add_zero] at this ⊢
      by_cases hbc : b = c
      · rw [if_pos ⟨rfl, hbc⟩]
        simp [hbc]
      · rw [if_neg (by omega), this]
        simp [hbc]
    · rw [if_neg h0] at this ⊢
      rw [if_neg (by omega)]
      exact this
theorem s_late {cnt P T1 T2 : Nat} {nl : List (Nat × Nat)} {ar : Nat → Nat → Bool} {N : sk_N} {M : sk_M} (h : TX 0 cnt P T1 T2 nl ar (fun _ => P) N M) (ha : AR ar M) (har : ∀ a b, ar a b = true → a < 10) :
    ∃ N' M', m_X1_deliverDelayedPulses N = some N' ∧ m_X5_ticks_245 (M, 0) = m_X5_ticks_301 (M', 0) ∧ TX 0 cnt P T1 T2 nl (fun _ _ => false) (fun _ => P) N' M' ∧ TQ N M N' M' := by
  obtain ⟨F0, ol0, hT0, hn0, -⟩ := id h
  have h10 : cnt ≤ 10 := hT0.1.1.1
  have eT0 : N 0 3 = nI T1 := hT0.2.1.2.2.1
  have hTb := hT0.2.1.1
  have hm : T1 % 16 < 16 := Nat.mod_lt _ (by omega)
  unfold m_X1_deliverDelayedPulses
  rw [eT0, v_slotOf (by omega), pu_some]
  refine lp_LF (step := m_X1_deliverDelayedPulses_10_step) (step' := m_X5_ticks_245_step) (fun y y' => ∃ N' M', y = some N' ∧ y' = m_X5_ticks_301 (M', 0) ∧ TX 0 cnt P T1 T2 nl (fun _ _ => false) (fun _ => P) N' M' ∧ TQ N M N' M')
    (fun j s s' => s.2 = (nI (T1 % 16 * 10), nI j) ∧ s'.2 = nI j ∧ TX 0 cnt P T1 T2 nl (fun a b => ar a b && !decide (b < j)) (fun _ => P) s.1 s'.1 ∧ TQ N M s.1 s'.1) cnt (by omega) _ _ ⟨rfl, rfl, by simpa using h, TQ.rf⟩ ?_
  rintro k k' j ⟨A, x⟩ ⟨B, y⟩ hj ⟨rfl, rfl, ⟨F, ol, hT, hN, -⟩, hQ⟩
  dsimp only at hT hN hQ ⊢
  have hst := hT.1
  have hpu := hT.2.2.2.2
  have e5 : B.1 1 5 = nI cnt := hst.2.1.2
  have e0 : A 0 0 = nI cnt := hst.2.1.1
  unfold m_X1_deliverDelayedPulses_10_step m_X5_ticks_245_step
  dsimp only
  by_cases hjc : j = cnt
  · subst hjc
    simp (disch := omega) only [pu_lit, pu_let, pu_some, pu_xb, pu_xe, pu_hb, pu_he, nI_add, pk_mul, pk_sub, nI_clamp, pu_inT, nI_leI, nI_ltI, nI_eq, if_pos, if_neg, ↓reduceIte, true_and, and_true, and_self, not_true_eq_false, not_false_eq_true, reduceCtorEq, e5, e0]
    refine Or.inl ⟨A, B, rfl, rfl, ⟨F, ol, ⟨hT.1, hT.2.1, hT.2.2.1, hT.2.2.2.1, hpu.1, fun a b ha' hb' => ?_⟩, hN, Nat.zero_le _⟩, hQ⟩
    obtain ⟨q, q1, q2, q3, q4, q5, q6⟩ := hpu.2 a b ha' hb'
    refine ⟨q, q1, q2, q3, q4, fun e => absurd (show false = true from e) (by decide), fun d hd => ?_⟩
    rw [q6 d hd]
    by_cases h0 : d = 0
    · rw [if_pos h0, if_pos h0]
      by_cases hbj : b < j
      · simp [hbj]
      · rcases hh : (ar a b && !decide (b < j)) with _ | _
        · exact hh
        · exact absurd (q5 hh).2 hbj
    · rw [if_neg h0, if_neg h0]
  · have hlt : j < cnt := by omega
    right
    refine ⟨hlt, ?_⟩
    obtain ⟨d1, d2⟩ := hpu.1 (T1 % 16) j hm (by omega)
    have hz : TX 0 cnt P T1 T2 nl (fun a b => ar a b && !decide (b < j + 1)) (fun _ => P) (sk_up A 7 (T1 % 16 * 10 + j) 0) B := by
      obtain ⟨t1, t2, t3, ⟨f1, f2, f3, f4, f5, f6, f7, f8⟩, t5⟩ := hT
      refine ⟨F, ol, ⟨t1.keep (by rw [pu_row (by omega)]) (by rw [pu_row (by omega)]) (pu_row (by omega)) (pu_row (by omega)) (pu_row (by omega)) (pu_row (by omega)) (pu_row (by omega)) (fun _ _ => rfl), t2.keep (by rw [pu_row (by omega)]) rfl, t3.keep h10 (pu_row (by omega)) (fun _ _ _ => rfl) (fun _ _ => Nat.le_refl _), ⟨f1, by rw [pu_row (by omega)]; exact f2, f3, by rw [pu_row (by omega)]; exact f4, f5, f6, f7, fun k o hk => by rw [pu_row (by omega)]; exact f8 k o hk⟩, ?_⟩, hN, Nat.zero_le _⟩
      have := t5.zero (c := j) (by omega)
      have e : (fun a b => ar a b && !decide (b < j) && !decide (b = j)) = (fun a b => ar a b && !decide (b < j + 1)) := by
        funext a b
        by_cases h1 : b < j
        · have : b < j + 1 := by omega
          simp [h1, this]
        · by_cases h2 : b = j
          · subst h2; simp
          · have h3 : ¬ b < j + 1 := by omega
            simp [h1, h2, h3]
      rw [e] at this
      exact this
    have hcount : pu_pc (dd A (T1 % 16) j) = arN ar j cnt := by
      have e1 : pu_pc (dd A (T1 % 16) j) = arN ar j 10 := by
        apply pu_pcE
        intro a ha'
        obtain ⟨q, q1, q2, q3, q4, q5, q6⟩ := hpu.2 a j ha' (by omega)
        have := q6 0 (by omega)
        rw [if_pos rfl, Nat.add_zero] at this
        rw [this]
        simp
      rw [e1, show (10 : Nat) = cnt + (10 - cnt) by omega]
      apply arN_top
      intro a ha'
      obtain ⟨q, q1, q2, q3, q4, q5, q6⟩ := hpu.2 a j (har a j ha') (by omega)
      exact (q5 (by simp [ha'])).1
    have hpc : pu_pc (dd A (T1 % 16) j) ≤ 10 := pu_pc_le
    obtain ⟨N', M', a1, a2, a3, a4⟩ := f_it hlt (arN ar j cnt) hz
    -- the class
    have d1' : A 7 (T1 % 16 * 10 + j) = nI (dd A (T1 % 16) j) := d1
    have hcl : m_X1_deliverDelayedPulses_42 k (sk_up A 7 (T1 % 16 * 10 + j) 0, nI (T1 % 16 * 10), nI j, nI (arN ar j cnt), 0) = k (N', nI (T1 % 16 * 10), nI j + 1) := by
      have := itN_loop (c := j) (n := arN ar j cnt) (sl := nI (T1 % 16 * 10)) (k10 := k) (by omega) sk_fuel 0 (sk_up A 7 (T1 % 16 * 10 + j) 0) (by omega) (by unfold sk_fuel; omega) ⟨N', a1⟩
      rw [Nat.sub_zero, a1] at this
      exact this
    -- the model
    have hmo : m_X5_ticks_257 k' (B, nI j, 0) = k' (M', nI j + 1) := by
      refine lp_F (step := m_X5_ticks_257_step k') (fun y => y = k' (M', nI j + 1)) (fun o s => s.2 = (nI j, nI o) ∧ (∃ A', TX 0 cnt P T1 T2 nl (fun a b => ar a b && !decide (b < j + 1)) (fun _ => P) A' s.1) ∧ FM B s.1 ∧ itM (arN ar j cnt - arN ar j o) j s.1 = some M') cnt (by omega) _ ⟨rfl, ⟨_, hz⟩, FM.rf, a2⟩ ?_
      rintro kk o ⟨C, z⟩ ho ⟨rfl, ⟨A', c0⟩, c6, ci⟩
      dsimp only at c0 c6 ci ⊢
      have c5 : C.1 1 5 = nI cnt := by
        obtain ⟨F, ol, hT, -⟩ := c0
        exact hT.1.2.1.2
      unfold m_X5_ticks_257_step
      dsimp only
      by_cases hoc : o = cnt
      · subst hoc
        rw [Nat.sub_self] at ci
        cases ci
        simp (disch := omega) only [pu_lit, pu_let, pu_some, pu_xb, pu_xe, pu_hb, pu_he, nI_add, pk_mul, pk_sub, nI_clamp, pu_inT, nI_leI, nI_ltI, nI_eq, if_pos, if_neg, ↓reduceIte, true_and, and_true, and_self, not_true_eq_false, not_false_eq_true, reduceCtorEq, c5]
        left
        first | rfl | trivial
      · have hol : o < cnt := by omega
        right
        refine ⟨hol, ?_⟩
        have hf := ha o j (by omega) (by omega)
        have c66 : C.1 6 = M.1 6 := (c6.1 6 (by omega) (by omega) (by omega)).trans (hQ.1.1 6 (by omega) (by omega) (by omega))
        rw [← c66] at hf
        have hs := arN_succ (ar := ar) (c := j) (n := o)
        have hmono : ∀ d, arN ar j (o + 1) ≤ arN ar j (o + 1 + d) := fun d => by
          induction d with
          | zero => exact Nat.le_refl _
          | succ d ih =>
            rw [← Nat.add_assoc]
            have := arN_succ (ar := ar) (c := j) (n := o + 1 + d)
            omega
        have hm1 := hmono (cnt - (o + 1))
        rw [show o + 1 + (cnt - (o + 1)) = cnt by omega] at hm1
        by_cases hb : ar o j = true
        · rw [if_pos hb] at hf hs
          rw [show arN ar j cnt - arN ar j o = arN ar j cnt - arN ar j (o + 1) + 1 by omega, itM] at ci
          obtain ⟨A1, C1, b1, b2, b3, b4⟩ := f_reach c0 hlt
          rw [b2] at ci
          simp (disch := omega) only [pu_lit, pu_let, pu_some, pu_xb, pu_xe, pu_hb, pu_he, nI_add, pk_mul, pk_sub, nI_clamp, pu_inT, nI_leI, nI_ltI, nI_eq, if_pos, if_neg, ↓reduceIte, true_and, and_true, and_self, not_true_eq_false, not_false_eq_true, reduceCtorEq, c5, hf, b2]
          exact ⟨_, rfl, rfl, ⟨A1, b3⟩, c6.tr b4.1, ci⟩
        · rw [if_neg hb] at hf hs
          simp (disch := omega) only [pu_lit, pu_let, pu_some, pu_xb, pu_xe, pu_hb, pu_he, nI_add, pk_mul, pk_sub, nI_clamp, pu_inT, nI_leI, nI_ltI, nI_eq, if_pos, if_neg, ↓reduceIte, true_and, and_true, and_self, not_true_eq_false, not_false_eq_true, reduceCtorEq, c5, hf]
          exact ⟨_, rfl, rfl, ⟨A', c0⟩, c6, by rw [hs]; exact ci⟩
    simp (disch := omega) only [pu_lit, pu_let, pu_some, pu_xb, pu_xe, pu_hb, pu_he, nI_add, pk_mul, pk_sub, nI_clamp, pu_inT, nI_leI, nI_ltI, nI_eq, if_pos, if_neg, ↓reduceIte, true_and, and_true, and_self, not_true_eq_false, not_false_eq_true, reduceCtorEq, e5, e0, d1', pu_bitCount d2, hcount]
    have z0 : nI 0 = (0 : Int32) := rfl
    rw [z0, hcl, hmo]
    refine ⟨_, _, rfl, rfl, ?_, nI_1 j, a3, hQ.tr (TQ.tr ⟨FM.rf, pu_row (by omega), pu_row (by omega)⟩ a4)⟩
    rw [nI_1]
/-! pulses at once -/
theorem s_once {cnt P T1 T2 : Nat} {nl : List (Nat × Nat)} {N : sk_N} {M : sk_M} (h : TX 0 cnt P T1 T2 nl (fun _ _ => false) (fun _ => P) N M) :
    ∃ N' M', m_X1_deliverPulsesAtOnce N = some N' ∧ m_X5_ticks_301 (M, 0) = some (M'.1 0 8, M') ∧ TX 0 cnt P T1 T2 nl (fun _ _ => false) (fun _ => P) N' M' ∧ TQ N M N' M' := by
  have h10 : cnt ≤ 10 := by obtain ⟨F0, ol0, hT0, -⟩ := h; exact hT0.1.1.1
  refine lp_LF (step := m_X1_deliverPulsesAtOnce_2_step) (step' := m_X5_ticks_301_step) (fun y y' => ∃ N' M', y = some N' ∧ y' = some (M'.1 0 8, M') ∧ TX 0 cnt P T1 T2 nl (fun _ _ => false) (fun _ => P) N' M' ∧ TQ N M N' M')
    (fun j s s' => s.2 = nI j ∧ s'.2 = nI j ∧ TX 0 cnt P T1 T2 nl (fun _ _ => false) (fun _ => P) s.1 s'.1 ∧ TQ N M s.1 s'.1) 10 (by omega) (N, 0) (M, 0) ⟨rfl, rfl, h, TQ.rf⟩ ?_
  rintro k k' j ⟨A, x⟩ ⟨B, y⟩ hj ⟨rfl, rfl, ⟨F, ol, hT, hN, hm⟩, hQ⟩
  dsimp only at hT hN hQ ⊢
  have e13 : A 0 13 = nI ol.length := hT.2.2.2.1.2.2.2.1
  have e8 : B.1 0 8 = nI ol.length := hT.2.2.2.1.2.2.2.2.1
  have hl : ol.length ≤ 10 := by rw [hT.2.2.2.1.2.2.2.2.2.1]; exact pu_pc_le
  unfold m_X1_deliverPulsesAtOnce_2_step m_X5_ticks_301_step
  dsimp only
  by_cases hjc : ol.length ≤ j
  · have hb : (if (10 : Int32) ≤ nI j then some A else if A 0 13 ≤ nI j then some A else m_X1_deliverPulsesAtOnce_21 k (A, nI j, 0)) = some A := by
      by_cases h1 : 10 ≤ j
      · simp (disch := omega) only [pu_lit, pu_let, pu_some, pu_xb, pu_xe, pu_hb, pu_he, nI_add, pk_mul, pk_sub, nI_clamp, pu_inT, nI_leI, nI_ltI, nI_eq, if_pos, if_neg, ↓reduceIte, true_and, and_true, and_self, not_true_eq_false, not_false_eq_true, reduceCtorEq]
      · simp (disch := omega) only [pu_lit, pu_let, pu_some, pu_xb, pu_xe, pu_hb, pu_he, nI_add, pk_mul, pk_sub, nI_clamp, pu_inT, nI_leI, nI_ltI, nI_eq, if_pos, if_neg, ↓reduceIte, true_and, and_true, and_self, not_true_eq_false, not_false_eq_true, reduceCtorEq, e13]
    rw [hb, if_pos (by rw [e8]; exact (nI_leI (by omega) (by omega)).mpr hjc)]
    exact Or.inl ⟨A, B, rfl, rfl, ⟨F, ol, hT, hN, hm⟩, hQ⟩
  · right
    refine ⟨by omega, ?_⟩
    have h1 : ¬ (10 : Int32) ≤ nI j := fun e => absurd ((nI_leI (a := 10) (by omega) (by omega)).mp e) (by omega)
    have h2 : ¬ A 0 13 ≤ nI j := by rw [e13]; exact fun e => absurd ((nI_leI (by omega) (by omega)).mp e) (by omega)
    have h3 : ¬ B.1 0 8 ≤ nI j := by rw [e8]; exact fun e => absurd ((nI_leI (by omega) (by omega)).mp e) (by omega)
    rw [if_neg h1, if_neg h2, if_neg h3]
    have inner : ∃ N' M', m_X1_deliverPulsesAtOnce_21 k (A, nI j, 0) = k (N', nI j + 1) ∧ m_X5_ticks_311 k' (B, nI j, 0) = k' (M', nI j + 1) ∧ TX 0 cnt P T1 T2 nl (fun _ _ => false) (fun _ => P) N' M' ∧ TQ A B N' M' := by
      refine lp_LF (step := m_X1_deliverPulsesAtOnce_21_step k) (step' := m_X5_ticks_311_step k') (fun y y' => ∃ N' M', y = k (N', nI j + 1) ∧ y' = k' (M', nI j + 1) ∧ TX 0 cnt P T1 T2 nl (fun _ _ => false) (fun _ => P) N' M' ∧ TQ A B N' M')
        (fun o s s' => s.2 = (nI j, nI o) ∧ s'.2 = (nI j, nI o) ∧ TX (j + 1) cnt P T1 T2 nl (fun _ _ => false) (fun _ => P) s.1 s'.1 ∧ TQ A B s.1 s'.1) cnt (by omega) _ _ ⟨rfl, rfl, ⟨F, ol, hT, hN, by omega⟩, TQ.rf⟩ ?_
      rintro kk kk' o ⟨C, z⟩ ⟨D, z'⟩ ho ⟨rfl, rfl, hX, hQ'⟩
      dsimp only at hX hQ' ⊢
      obtain ⟨F', ol', hT', hN', hm'⟩ := id hX
      have e5 : D.1 1 5 = nI cnt := hT'.1.2.1.2
      have e0 : C 0 0 = nI cnt := hT'.1.2.1.1
      unfold m_X1_deliverPulsesAtOnce_21_step m_X5_ticks_311_step
      dsimp only
      by_cases hoc : o = cnt
      · subst hoc
        simp (disch := omega) only [pu_lit, pu_let, pu_some, pu_xb, pu_xe, pu_hb, pu_he, nI_add, pk_mul, pk_sub, nI_clamp, pu_inT, nI_leI, nI_ltI, nI_eq, if_pos, if_neg, ↓reduceIte, true_and, and_true, and_self, not_true_eq_false, not_false_eq_true, reduceCtorEq, e5, e0]
        refine Or.inl ⟨C, D, ?_, ?_, ⟨F', ol', hT', hN', Nat.zero_le _⟩, hQ'⟩ <;> rfl
      · have hol : o < cnt := by omega
        right
        refine ⟨hol, ?_⟩
        obtain ⟨v, hv⟩ : ∃ v, ol'[j]? = some v := ⟨ol'[j]'(by omega), List.getElem?_eq_getElem _⟩
        obtain ⟨v1, v2, v3⟩ := hT'.2.2.2.1.2.2.2.2.2.2.2 j v hv
        have hl' : ol'.length ≤ 10 := by rw [hT'.2.2.2.1.2.2.2.2.2.1]; exact pu_pc_le
        obtain ⟨r1, r2, r3, r4, r5⟩ := hT'.1.2.2.2.2.2 v o (by omega) (by omega)
        by_cases hd : C 6 (10 * v + o) = nI 0
        · obtain ⟨A1, C1, b1, b2, b3, b4⟩ := f_reach hX hol
          simp (disch := omega) only [pu_lit, pu_let, pu_some, pu_xb, pu_xe, pu_hb, pu_he, nI_add, pk_mul, pk_sub, nI_clamp, pu_inT, nI_leI, nI_ltI, nI_eq, if_pos, if_neg, ↓reduceIte, true_and, and_true, and_self, not_true_eq_false, not_false_eq_true, reduceCtorEq, e5, e0, v2, v3, v_delayBetween, v_delay, ← r1, hd, b1, b2]
          exact ⟨_, _, rfl, rfl, rfl, rfl, b3, hQ'.tr b4⟩
        · simp (disch := omega) only [pu_lit, pu_let, pu_some, pu_xb, pu_xe, pu_hb, pu_he, nI_add, pk_mul, pk_sub, nI_clamp, pu_inT, nI_leI, nI_ltI, nI_eq, if_pos, if_neg, ↓reduceIte, true_and, and_true, and_self, not_true_eq_false, not_false_eq_true, reduceCtorEq, e5, e0, v2, v3, v_delayBetween, v_delay, ← r1, hd]
          exact ⟨_, _, rfl, rfl, rfl, rfl, hX, hQ'⟩
    obtain ⟨N', M', i1, i2, i3, i4⟩ := inner
    rw [i1, i2]
    exact ⟨_, _, rfl, rfl, nI_1 j, nI_1 j, i3, hQ.tr i4⟩
