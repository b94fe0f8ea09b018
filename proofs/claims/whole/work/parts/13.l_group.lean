/-! sets and counts -/
def bset (f : Nat → Bool) : Nat → Nat
  | 0 => 0
  | n + 1 => bset f n ||| (if f n = true then 2 ^ n else 0)
theorem bset_bit {f : Nat → Bool} : ∀ (n i : Nat), (bset f n).testBit i = (decide (i < n) && f i)
  | 0, i => by simp [bset]
  | n + 1, i => by
    rw [bset, Nat.testBit_or, bset_bit n i]
    by_cases h : f n = true
    · rw [if_pos h, Nat.testBit_two_pow]
      by_cases e : n = i
      · subst e; simp [h]
      · by_cases hl : i < n
        · have : i < n + 1 := by omega
          simp [hl, this, e]
        · have : ¬ i < n + 1 := by omega
          simp [hl, this, e]
    · rw [if_neg h, Nat.zero_testBit]
      by_cases e : n = i
      · subst e; simp [h]
      · by_cases hl : i < n
        · have : i < n + 1 := by omega
          simp [hl, this]
        · have : ¬ i < n + 1 := by omega
          simp [hl, this]
theorem bset_lt {f : Nat → Bool} : ∀ n, bset f n < 2 ^ n
  | 0 => by simp [bset]
  | n + 1 => by
    rw [bset]
    have h1 : bset f n < 2 ^ (n + 1) := Nat.lt_trans (bset_lt n) (Nat.pow_lt_pow_right (by omega) (by omega))
    refine Nat.or_lt_two_pow h1 ?_
    split
    · exact Nat.pow_lt_pow_right (by omega) (by omega)
    · exact Nat.two_pow_pos _
theorem bset_1024 {f : Nat → Bool} {n : Nat} (h : n ≤ 10) : bset f n < 1024 := Nat.lt_of_lt_of_le (bset_lt n) (Nat.pow_le_pow_right (n := 2) (by omega) h)
theorem pow_1024 {n : Nat} (h : n < 10) : (2 : Nat) ^ n < 1024 := Nat.pow_lt_pow_right (n := 10) (by omega) h
theorem bset_zero {f : Nat → Bool} {n : Nat} : bset f n = 0 ↔ ∀ i, i < n → f i = false := by
  constructor
  · intro h i hi
    have := bset_bit (f := f) n i
    rw [h, Nat.zero_testBit] at this
    simpa [hi] using this.symm
  · intro h
    apply Nat.eq_of_testBit_eq
    intro i
    rw [bset_bit, Nat.zero_testBit]
    by_cases hi : i < n
    · rw [h i hi]; simp
    · simp [hi]
def ct (f : Nat → Bool) : Nat → Nat
  | 0 => 0
  | n + 1 => ct f n + (if f n = true then 1 else 0)
theorem ct_le {f : Nat → Bool} : ∀ n, ct f n ≤ n
  | 0 => by simp [ct]
  | n + 1 => by have := ct_le (f := f) n; rw [ct]; split <;> omega
theorem ct_mono {f : Nat → Bool} {m : Nat} : ∀ n, m ≤ n → ct f m ≤ ct f n
  | 0, h => by rw [show m = 0 by omega]; exact Nat.le_refl _
  | n + 1, h => by
    by_cases e : m = n + 1
    · subst e; exact Nat.le_refl _
    · have := ct_mono (f := f) (m := m) n (by omega)
      rw [ct]; omega
theorem ct_filter {f : Nat → Bool} : ∀ n, ct f n = ((List.range n).filter f).length
  | 0 => by simp [ct]
  | n + 1 => by
    rw [ct, ct_filter n, List.range_succ, List.filter_append, List.length_append]
    by_cases h : f n = true <;> simp [h]
theorem pu_shl' {k : Nat} (hk : k < 30) : sk_shl (nI 1) (nI k) = nI (2 ^ k) := pu_shl hk
theorem v_good' {N : sk_N} {c : Nat} (hc : c < 10) : m_X1_isGood N (nI c) = some (nI (if gb N c = true then 1 else 0)) := by
  rw [v_isGood hc]
  unfold gb
  by_cases h : N 4 c = 0
  · rw [if_pos h, if_pos (decide_eq_true h)]; rfl
  · rw [if_neg h, if_neg (by simpa using h)]; rfl
/-- what the questions need of a network and the model's row -/
def QR (cnt P : Nat) (N : sk_N) (w : Nat → Int32) : Prop := ST cnt P N w ∧ PH cnt (fun _ => P) N w
theorem RX.qr {cnt P T1 T2 : Nat} {N : sk_N} {w : Nat → Int32} (h : RX cnt P T1 T2 N w) : QR cnt P N w := ⟨h.1, h.2.2.1⟩
theorem QR.b28 {cnt P c : Nat} {N : sk_N} {w : Nat → Int32} (h : QR cnt P N w) (hc : c < cnt) : w (28 + c) = nI (if gb N c = true then 0 else 1) := by
  rcases pu_b28 h.1 hc with ⟨a, b⟩ | ⟨a, b⟩
  · rw [if_pos (gb_t a)]; exact b
  · rw [if_neg (by rw [gb_f a]; decide)]; exact b
def phs (N : sk_N) (c : Nat) : Nat := (N 2 c).toNatClampNeg
theorem QR.ph {cnt P c : Nat} {N : sk_N} {w : Nat → Int32} (h : QR cnt P N w) (hc : c < cnt) : phs N c < P ∧ N 2 c = nI (phs N c) ∧ w (8 + c) = nI (phs N c) := by
  obtain ⟨p, p1, p2, p3⟩ := h.2 c hc
  have p1 : p < P := p1
  have hP := h.1.1.2.2
  have e : phs N c = p := by unfold phs; rw [p2, nI_clamp (by omega)]
  rw [e]
  exact ⟨p1, p2, p3⟩
def gp (N : sk_N) (p c : Nat) : Bool := gb N c && decide (phs N c = p)
theorem q_at {cnt P p : Nat} {N : sk_N} {M : sk_M} (h : QR cnt P N (M.1 1)) (hp : p < 2 ^ 31) : m_X1_goodClocksAt N (nI p) = some (nI (bset (gp N p) cnt)) ∧ m_X5_at M (nI p) = some (nI (bset (gp N p) cnt)) := by
  have h10 : cnt ≤ 10 := h.1.1.1
  have hP := h.1.1.2.2
  have e0 : N 0 0 = nI cnt := h.1.2.1.1
  have e5 : M.1 1 5 = nI cnt := h.1.2.1.2
  refine lp_LF (step := m_X1_goodClocksAt_4_step N (nI p)) (step' := m_X5_at_4_step M (nI p)) (fun y y' => y = some (nI (bset (gp N p) cnt)) ∧ y' = some (nI (bset (gp N p) cnt))) (fun j s s' => s = (nI (bset (gp N p) j), nI j) ∧ s' = (nI (bset (gp N p) j), nI j)) cnt (by omega) (0, 0) (0, 0) ⟨rfl, rfl⟩ ?_
  rintro k k' j s s' hj ⟨rfl, rfl⟩
  unfold m_X1_goodClocksAt_4_step m_X5_at_4_step m_X5_at_46
  dsimp only
  by_cases hjc : j = cnt
  · subst hjc
    simp (disch := omega) only [pu_lit, pu_let, pu_some, pu_xb, pu_xe, pu_hb, pu_he, nI_add, pk_mul, pk_sub, nI_clamp, pu_inT, nI_leI, nI_ltI, nI_eq, if_pos, if_neg, ↓reduceIte, true_and, and_true, and_self, not_true_eq_false, not_false_eq_true, reduceCtorEq, e0, e5, or_true, true_or]
  · right
    have hlt : j < cnt := by omega
    refine ⟨hlt, ?_⟩
    have b28 := h.b28 hlt
    obtain ⟨p1, p2, p3⟩ := h.ph hlt
    have hbs : bset (gp N p) j < 1024 := bset_1024 (by omega)
    have h2 := pow_1024 (show j < 10 by omega)
    have hz : nI (bset (gp N p) j) ||| nI 0 = nI (bset (gp N p) j) := by rw [pu_or (by omega) (by omega), Nat.or_zero]
    by_cases hg : gb N j = true
    · by_cases he : phs N j = p
      · have hb : gp N p j = true := by unfold gp; rw [hg, decide_eq_true he]; rfl
        have hs : bset (gp N p) (j + 1) = bset (gp N p) j ||| 2 ^ j := by rw [bset, if_pos hb]
        rw [if_pos hg] at b28
        simp (disch := omega) only [pu_lit, pu_let, pu_some, pu_xb, pu_xe, pu_hb, pu_he, nI_add, pk_mul, pk_sub, nI_clamp, pu_inT, nI_leI, nI_ltI, nI_eq, if_pos, if_neg, ↓reduceIte, true_and, and_true, and_self, not_true_eq_false, not_false_eq_true, reduceCtorEq, e0, e5, v_good', hg, b28, p2, p3, he, pu_shl', pu_or]
        exact ⟨_, _, rfl, rfl, by rw [hs], by rw [hs]⟩
      · have hb : gp N p j = false := by unfold gp; rw [hg, decide_eq_false he]; rfl
        have hs : bset (gp N p) (j + 1) = bset (gp N p) j := by rw [bset, if_neg (by rw [hb]; decide), Nat.or_zero]
        rw [if_pos hg] at b28
        simp (disch := omega) only [pu_lit, pu_let, pu_some, pu_xb, pu_xe, pu_hb, pu_he, nI_add, pk_mul, pk_sub, nI_clamp, pu_inT, nI_leI, nI_ltI, nI_eq, if_pos, if_neg, ↓reduceIte, true_and, and_true, and_self, not_true_eq_false, not_false_eq_true, reduceCtorEq, e0, e5, v_good', hg, b28, p2, p3, he, hz]
        exact ⟨_, _, rfl, rfl, by rw [hs], by rw [hs]⟩
    · have hb : gp N p j = false := by unfold gp; simp at hg; rw [hg]; rfl
      have hs : bset (gp N p) (j + 1) = bset (gp N p) j := by rw [bset, if_neg (by rw [hb]; decide), Nat.or_zero]
      rw [if_neg hg] at b28
      simp (disch := omega) only [pu_lit, pu_let, pu_some, pu_xb, pu_xe, pu_hb, pu_he, nI_add, pk_mul, pk_sub, nI_clamp, pu_inT, nI_leI, nI_ltI, nI_eq, if_pos, if_neg, ↓reduceIte, true_and, and_true, and_self, not_true_eq_false, not_false_eq_true, reduceCtorEq, e0, e5, v_good', hg, b28, hz]
      exact ⟨_, _, rfl, rfl, by rw [hs], by rw [hs]⟩
/-- the first of its group -/
def fg (N : sk_N) (c : Nat) : Bool := gb N c && decide (∀ l, l < c → gp N (phs N c) l = false)
theorem q_first {cnt P c : Nat} {N : sk_N} {w : Nat → Int32} (h : QR cnt P N w) (hc : c < cnt) : m_X1_isFirstOfGroup N (nI c) = some (nI (if (∀ l, l < c → gp N (phs N c) l = false) then 1 else 0)) := by
  have h10 : cnt ≤ 10 := h.1.1.1
  have hP := h.1.1.2.2
  obtain ⟨c1, c2, -⟩ := h.ph hc
  refine lp_F (step := m_X1_isFirstOfGroup_2_step N (nI c)) (fun y => y = some (nI (if (∀ l, l < c → gp N (phs N c) l = false) then 1 else 0))) (fun j s => s = nI j ∧ ∀ l, l < j → gp N (phs N c) l = false) c (by omega) 0 ⟨rfl, fun l hl => absurd hl (by omega)⟩ ?_
  rintro k j s hj ⟨rfl, hi⟩
  unfold m_X1_isFirstOfGroup_2_step
  by_cases hjc : j = c
  · subst hjc
    left
    rw [if_pos hi]
    simp (disch := omega) only [pu_lit, pu_let, pu_some, pu_xb, pu_xe, pu_hb, pu_he, nI_add, pk_mul, pk_sub, nI_clamp, pu_inT, nI_leI, nI_ltI, nI_eq, if_pos, if_neg, ↓reduceIte, true_and, and_true, and_self, not_true_eq_false, not_false_eq_true, reduceCtorEq]
  · have hlt : j < c := by omega
    obtain ⟨p1, p2, -⟩ := h.ph (show j < cnt by omega)
    by_cases hg : gb N j = true
    · by_cases he : phs N j = phs N c
      · left
        have hb : gp N (phs N c) j = true := by unfold gp; rw [hg, decide_eq_true he]; rfl
        rw [if_neg (show ¬ (∀ l, l < c → gp N (phs N c) l = false) from fun e => by rw [e j hlt] at hb; exact absurd hb (by decide))]
        simp (disch := omega) only [pu_lit, pu_let, pu_some, pu_xb, pu_xe, pu_hb, pu_he, nI_add, pk_mul, pk_sub, nI_clamp, pu_inT, nI_leI, nI_ltI, nI_eq, if_pos, if_neg, ↓reduceIte, true_and, and_true, and_self, not_true_eq_false, not_false_eq_true, reduceCtorEq, v_good', hg, p2, c2, he]
      · right
        refine ⟨hlt, ?_⟩
        have hb : gp N (phs N c) j = false := by unfold gp; rw [hg, decide_eq_false he]; rfl
        simp (disch := omega) only [pu_lit, pu_let, pu_some, pu_xb, pu_xe, pu_hb, pu_he, nI_add, pk_mul, pk_sub, nI_clamp, pu_inT, nI_leI, nI_ltI, nI_eq, if_pos, if_neg, ↓reduceIte, true_and, and_true, and_self, not_true_eq_false, not_false_eq_true, reduceCtorEq, v_good', hg, p2, c2, he]
        exact ⟨_, rfl, rfl, fun l hl => by
          by_cases e : l = j
          · subst e; exact hb
          · exact hi l (by omega)⟩
    · right
      refine ⟨hlt, ?_⟩
      have hb : gp N (phs N c) j = false := by unfold gp; simp at hg; rw [hg]; rfl
      simp (disch := omega) only [pu_lit, pu_let, pu_some, pu_xb, pu_xe, pu_hb, pu_he, nI_add, pk_mul, pk_sub, nI_clamp, pu_inT, nI_leI, nI_ltI, nI_eq, if_pos, if_neg, ↓reduceIte, true_and, and_true, and_self, not_true_eq_false, not_false_eq_true, reduceCtorEq, v_good', hg]
      exact ⟨_, rfl, rfl, fun l hl => by
        by_cases e : l = j
        · subst e; exact hb
        · exact hi l (by omega)⟩
theorem pu_low {f : Nat → Bool} {c n : Nat} (hc : c < n) (hn : n ≤ 10) : (bset f n &&& (2 ^ c - 1)) = 0 ↔ ∀ l, l < c → f l = false := by
  constructor
  · intro h l hl
    have := congrArg (fun x => Nat.testBit x l) h
    simp only [Nat.testBit_and, bset_bit, Nat.testBit_two_pow_sub_one, Nat.zero_testBit] at this
    have hl2 : l < n := by omega
    simpa [hl, hl2] using this
  · intro h
    apply Nat.eq_of_testBit_eq
    intro i
    rw [Nat.testBit_and, bset_bit, Nat.testBit_two_pow_sub_one, Nat.zero_testBit]
    by_cases hi : i < c
    · rw [h i hi]; simp
    · simp [hi]
theorem q_many {cnt P : Nat} {N : sk_N} {M : sk_M} (h : QR cnt P N (M.1 1)) : m_X5_groupMany M = some (nI (ct (fg N) cnt)) := by
  have h10 : cnt ≤ 10 := h.1.1.1
  have hP := h.1.1.2.2
  have e5 : M.1 1 5 = nI cnt := h.1.2.1.2
  refine lp_F (step := m_X5_groupMany_4_step M) (fun y => y = some (nI (ct (fg N) cnt))) (fun j s => s = (nI (ct (fg N) j), nI j)) cnt (by omega) (0, 0) rfl ?_
  rintro k j s hj rfl
  unfold m_X5_groupMany_4_step m_X5_groupMany_53 m_X5_groupMany_52 m_X5_groupMany_53
  dsimp only
  by_cases hjc : j = cnt
  · subst hjc
    simp (disch := omega) only [pu_lit, pu_let, pu_some, pu_xb, pu_xe, pu_hb, pu_he, nI_add, pk_mul, pk_sub, nI_clamp, pu_inT, nI_leI, nI_ltI, nI_eq, if_pos, if_neg, ↓reduceIte, true_and, and_true, and_self, not_true_eq_false, not_false_eq_true, reduceCtorEq, e5, or_true, true_or]
  · right
    have hlt : j < cnt := by omega
    refine ⟨hlt, ?_⟩
    have b28 := h.b28 hlt
    obtain ⟨p1, p2, p3⟩ := h.ph hlt
    have hbs : bset (gp N (phs N j)) cnt < 1024 := bset_1024 (by omega)
    have h2 := pow_1024 (show j < 10 by omega)
    have h2p : 1 ≤ 2 ^ j := Nat.one_le_two_pow
    have hat := (q_at (p := phs N j) h (by omega)).2
    have hlow := pu_low (f := gp N (phs N j)) hlt h10
    have hand : bset (gp N (phs N j)) cnt &&& (2 ^ j - 1) < 1024 := Nat.lt_of_le_of_lt Nat.and_le_left hbs
    by_cases hg : gb N j = true
    · rw [if_pos hg] at b28
      by_cases hf : ∀ l, l < j → gp N (phs N j) l = false
      · have hs : ct (fg N) (j + 1) = ct (fg N) j + 1 := by rw [ct, if_pos (by unfold fg; rw [hg, decide_eq_true hf]; rfl)]
        have hz := hlow.mpr hf
        simp (disch := omega) only [pu_lit, pu_let, pu_some, pu_xb, pu_xe, pu_hb, pu_he, nI_add, pk_mul, pk_sub, nI_clamp, pu_inT, nI_leI, nI_ltI, nI_eq, if_pos, if_neg, ↓reduceIte, true_and, and_true, and_self, not_true_eq_false, not_false_eq_true, reduceCtorEq, e5, b28, p3, hat, pu_shl', pu_and, hz]
        exact ⟨_, rfl, by rw [hs]⟩
      · have hs : ct (fg N) (j + 1) = ct (fg N) j := by rw [ct, if_neg (by unfold fg; rw [hg, decide_eq_false hf]; decide)]; rfl
        have hz : ¬ bset (gp N (phs N j)) cnt &&& (2 ^ j - 1) = 0 := fun e => hf (hlow.mp e)
        simp (disch := omega) only [pu_lit, pu_let, pu_some, pu_xb, pu_xe, pu_hb, pu_he, nI_add, pk_mul, pk_sub, nI_clamp, pu_inT, nI_leI, nI_ltI, nI_eq, if_pos, if_neg, ↓reduceIte, true_and, and_true, and_self, not_true_eq_false, not_false_eq_true, reduceCtorEq, e5, b28, p3, hat, pu_shl', pu_and, hz, Nat.add_zero]
        exact ⟨_, rfl, by rw [hs]⟩
    · rw [if_neg hg] at b28
      have hs : ct (fg N) (j + 1) = ct (fg N) j := by rw [ct, if_neg (by unfold fg; simp at hg; rw [hg]; simp)]; rfl
      simp (disch := omega) only [pu_lit, pu_let, pu_some, pu_xb, pu_xe, pu_hb, pu_he, nI_add, pk_mul, pk_sub, nI_clamp, pu_inT, nI_leI, nI_ltI, nI_eq, if_pos, if_neg, ↓reduceIte, true_and, and_true, and_self, not_true_eq_false, not_false_eq_true, reduceCtorEq, e5, b28, Nat.add_zero]
      exact ⟨_, rfl, by rw [hs]⟩
theorem q_count {cnt P e : Nat} {N : sk_N} {w : Nat → Int32} (h : QR cnt P N w) (he : e ≤ 10) : ∃ r : Nat, r ≤ 10 ∧ m_X1_groupCount N (nI e) = some (nI r) ∧ (if ct (fg N) cnt ≤ e then r = ct (fg N) cnt else e < r) := by
  have h10 : cnt ≤ 10 := h.1.1.1
  have e0 : N 0 0 = nI cnt := h.1.2.1.1
  have hle := ct_le (f := fg N) cnt
  refine lp_F (step := m_X1_groupCount_4_step N (nI e)) (fun y => ∃ r : Nat, r ≤ 10 ∧ y = some (nI r) ∧ (if ct (fg N) cnt ≤ e then r = ct (fg N) cnt else e < r)) (fun j s => s = (nI (ct (fg N) j), nI j)) cnt (by omega) (0, 0) rfl ?_
  rintro k j s hj rfl
  unfold m_X1_groupCount_4_step
  dsimp only
  have hjle := ct_le (f := fg N) j
  by_cases hjc : j = cnt
  · subst hjc
    left
    refine ⟨ct (fg N) j, by omega, ?_, by split <;> omega⟩
    simp (disch := omega) only [pu_lit, pu_let, pu_some, pu_xb, pu_xe, pu_hb, pu_he, nI_add, pk_mul, pk_sub, nI_clamp, pu_inT, nI_leI, nI_ltI, nI_eq, if_pos, if_neg, ↓reduceIte, true_and, and_true, and_self, not_true_eq_false, not_false_eq_true, reduceCtorEq, e0]
  · have hlt : j < cnt := by omega
    have hm := ct_mono (f := fg N) cnt (show j ≤ cnt by omega)
    by_cases hs : e < ct (fg N) j
    · left
      refine ⟨ct (fg N) j, by omega, ?_, by rw [if_neg (by omega)]; exact hs⟩
      simp (disch := omega) only [pu_lit, pu_let, pu_some, pu_xb, pu_xe, pu_hb, pu_he, nI_add, pk_mul, pk_sub, nI_clamp, pu_inT, nI_leI, nI_ltI, nI_eq, if_pos, if_neg, ↓reduceIte, true_and, and_true, and_self, not_true_eq_false, not_false_eq_true, reduceCtorEq, e0]
    · right
      refine ⟨hlt, ?_⟩
      by_cases hg : gb N j = true
      · by_cases hf : ∀ l, l < j → gp N (phs N j) l = false
        · have hs' : ct (fg N) (j + 1) = ct (fg N) j + 1 := by rw [ct, if_pos (by unfold fg; rw [hg, decide_eq_true hf]; rfl)]
          have hq := q_first h hlt
          rw [if_pos hf] at hq
          simp (disch := omega) only [pu_lit, pu_let, pu_some, pu_xb, pu_xe, pu_hb, pu_he, nI_add, pk_mul, pk_sub, nI_clamp, pu_inT, nI_leI, nI_ltI, nI_eq, if_pos, if_neg, ↓reduceIte, true_and, and_true, and_self, not_true_eq_false, not_false_eq_true, reduceCtorEq, e0, v_good', hg, hq]
          exact ⟨_, rfl, by rw [hs']⟩
        · have hs' : ct (fg N) (j + 1) = ct (fg N) j := by rw [ct, if_neg (by unfold fg; rw [hg, decide_eq_false hf]; decide)]; rfl
          have hq := q_first h hlt
          rw [if_neg hf] at hq
          simp (disch := omega) only [pu_lit, pu_let, pu_some, pu_xb, pu_xe, pu_hb, pu_he, nI_add, pk_mul, pk_sub, nI_clamp, pu_inT, nI_leI, nI_ltI, nI_eq, if_pos, if_neg, ↓reduceIte, true_and, and_true, and_self, not_true_eq_false, not_false_eq_true, reduceCtorEq, e0, v_good', hg, hq]
          exact ⟨_, rfl, by rw [hs']⟩
      · have hs' : ct (fg N) (j + 1) = ct (fg N) j := by rw [ct, if_neg (by unfold fg; simp at hg; rw [hg]; simp)]; rfl
        simp (disch := omega) only [pu_lit, pu_let, pu_some, pu_xb, pu_xe, pu_hb, pu_he, nI_add, pk_mul, pk_sub, nI_clamp, pu_inT, nI_leI, nI_ltI, nI_eq, if_pos, if_neg, ↓reduceIte, true_and, and_true, and_self, not_true_eq_false, not_false_eq_true, reduceCtorEq, e0, v_good', hg]
        exact ⟨_, rfl, by rw [hs']⟩
theorem q_count10 {cnt P : Nat} {N : sk_N} {w : Nat → Int32} (h : QR cnt P N w) : m_X1_groupCount N (nI 10) = some (nI (ct (fg N) cnt)) := by
  obtain ⟨r, r1, r2, r3⟩ := q_count h (show 10 ≤ 10 by omega)
  have := ct_le (f := fg N) cnt
  have h10 : cnt ≤ 10 := h.1.1.1
  rw [if_pos (by omega)] at r3
  rw [r2, r3]
/-- ticks until there are so few groups -/
theorem t_until {cnt P T1 T2 g lim : Nat} {N L : sk_N} {M : sk_M} (h : RS cnt P T1 T2 N L M) (hg : g ≤ 10) (hl : lim ≤ 400) (hb1 : T1 + lim < 2 ^ 29) (hb2 : T2 + lim < 2 ^ 29) :
    ∃ (r : Int32) (N' L' : sk_N) (M' : sk_M), (r = -1 ∨ ∃ n : Nat, 1 ≤ n ∧ n ≤ 400 ∧ r = nI n) ∧ m_X1_passUntilGroups N L (nI g) (nI lim) = some (r, N', L') ∧ m_X5_until M (nI g) (nI lim) = some (r, M') ∧ (∃ nl, LG nl L') ∧ FT M M' := by
  refine lp_LF (step := m_X1_passUntilGroups_2_step (nI g) (nI lim)) (step' := m_X5_until_2_step (nI g) (nI lim)) (fun y y' => ∃ (r : Int32) (N' L' : sk_N) (M' : sk_M), (r = -1 ∨ ∃ n : Nat, 1 ≤ n ∧ n ≤ 400 ∧ r = nI n) ∧ y = some (r, N', L') ∧ y' = some (r, M') ∧ (∃ nl, LG nl L') ∧ FT M M')
    (fun j s s' => s.2.2 = nI (j + 1) ∧ s'.2 = nI (j + 1) ∧ RS cnt P (T1 + j) (T2 + j) s.1 s.2.1 s'.1 ∧ FT M s'.1) lim (by omega) (N, L, 1) (M, 1) ⟨rfl, rfl, h, FT.rf⟩ ?_
  rintro k k' j ⟨A, La, x⟩ ⟨B, y⟩ hj ⟨rfl, rfl, hR, hF⟩
  dsimp only at hR hF ⊢
  unfold m_X1_passUntilGroups_2_step m_X5_until_2_step
  dsimp only
  by_cases hjc : j = lim
  · subst hjc
    left
    obtain ⟨-, -, nl, hnl, -⟩ := hR
    refine ⟨-1, A, La, B, Or.inl rfl, ?_, ?_, ⟨nl, hnl⟩, hF⟩ <;> simp (disch := omega) only [pu_lit, pu_let, pu_some, pu_xb, pu_xe, pu_hb, pu_he, nI_add, pk_mul, pk_sub, nI_clamp, pu_inT, nI_leI, nI_ltI, nI_eq, if_pos, if_neg, ↓reduceIte, true_and, and_true, and_self, not_true_eq_false, not_false_eq_true, reduceCtorEq] <;> rfl
  · obtain ⟨r, N', L', M', a1, a2, a3, a4⟩ := t_one hR (by omega) (by omega)
    have hq := a3.1.qr
    obtain ⟨r', r1, r2, r3⟩ := q_count hq hg
    have hm := q_many hq
    have hle := ct_le (f := fg N') cnt
    have h10 : cnt ≤ 10 := hq.1.1.1
    obtain ⟨-, -, nl, hnl, -⟩ := id a3
    by_cases hc : ct (fg N') cnt ≤ g
    · left
      rw [if_pos hc] at r3
      refine ⟨nI (j + 1), N', L', M', Or.inr ⟨j + 1, by omega, by omega, rfl⟩, ?_, ?_, ⟨nl, hnl⟩, hF.tr a4⟩ <;> simp (disch := omega) only [pu_lit, pu_let, pu_some, pu_xb, pu_xe, pu_hb, pu_he, nI_add, pk_mul, pk_sub, nI_clamp, pu_inT, nI_leI, nI_ltI, nI_eq, if_pos, if_neg, ↓reduceIte, true_and, and_true, and_self, not_true_eq_false, not_false_eq_true, reduceCtorEq, a1, a2, r2, hm]
    · right
      refine ⟨by omega, ?_⟩
      rw [if_neg hc] at r3
      simp (disch := omega) only [pu_lit, pu_let, pu_some, pu_xb, pu_xe, pu_hb, pu_he, nI_add, pk_mul, pk_sub, nI_clamp, pu_inT, nI_leI, nI_ltI, nI_eq, if_pos, if_neg, ↓reduceIte, true_and, and_true, and_self, not_true_eq_false, not_false_eq_true, reduceCtorEq, a1, a2, r2, hm]
      exact ⟨_, _, rfl, rfl, rfl, rfl, a3, hF.tr a4⟩
