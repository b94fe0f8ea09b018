/-! the text: the class's reading and the model's -/
def wn (l : Nat) : Nat := if l = 97 then 1 else if l = 98 then 3 else if l = 108 then 3 else if l = 112 then 2 else if l = 116 then 1 else 0
def TXT (len : Nat) (S : sk_N) (M : sk_M) : Prop := len ≤ 100 ∧ S 0 0 = nI len ∧ M.1 0 6 = nI len ∧ ∀ i, i < len → ∃ v : Nat, v ≤ 127 ∧ S 1 i = nI v ∧ M.1 4 i = nI v
def NUM (S : sk_N) (M : sk_M) (c j : Nat) : Prop := ∃ v : Nat, v ≤ 99 ∧ S 3 (3 * c + j) = nI v ∧ M.1 8 (4 * c + 1 + j) = nI v
def CMD (S : sk_N) (M : sk_M) (c : Nat) : Prop := ∃ l : Nat, wn l ≠ 0 ∧ S 2 c = nI l ∧ M.1 8 (4 * c) = nI l ∧ ∀ j, j < wn l → NUM S M c j
/-- what lies beside the reading stands still -/
def FY (S S' : sk_N) (M M' : sk_M) : Prop := S' 0 0 = S 0 0 ∧ S' 1 = S 1 ∧ (∀ j, j ≠ 0 → j ≠ 8 → M'.1 j = M.1 j) ∧ ∀ k, k ≠ 13 → k ≠ 14 → M'.1 0 k = M.1 0 k
def PL (c q : Nat) (S : sk_N) (M : sk_M) : Prop := S 0 1 = nI q ∧ M.1 0 14 = nI q ∧ S 0 2 = nI c ∧ M.1 0 13 = nI c ∧ ∀ i, i < c → CMD S M i
theorem wn_le (l : Nat) : wn l ≤ 3 := by
  unfold wn
  by_cases h1 : l = 97
  · rw [if_pos h1]; omega
  · rw [if_neg h1]
    by_cases h2 : l = 98
    · rw [if_pos h2]; omega
    · rw [if_neg h2]
      by_cases h3 : l = 108
      · rw [if_pos h3]; omega
      · rw [if_neg h3]
        by_cases h4 : l = 112
        · rw [if_pos h4]; omega
        · rw [if_neg h4]
          by_cases h5 : l = 116
          · rw [if_pos h5]; omega
          · rw [if_neg h5]; omega
theorem FY.rf {S : sk_N} {M : sk_M} : FY S S M M := ⟨rfl, rfl, fun _ _ _ => rfl, fun _ _ _ => rfl⟩
theorem FY.tr {S S' S'' : sk_N} {M M' M'' : sk_M} (h : FY S S' M M') (g : FY S' S'' M' M'') : FY S S'' M M'' := ⟨g.1.trans h.1, g.2.1.trans h.2.1, fun j a b => (g.2.2.1 j a b).trans (h.2.2.1 j a b), fun k a b => (g.2.2.2 k a b).trans (h.2.2.2 k a b)⟩
theorem TXT.fy {len : Nat} {S S' : sk_N} {M M' : sk_M} (h : TXT len S M) (g : FY S S' M M') : TXT len S' M' := ⟨h.1, g.1.trans h.2.1, (g.2.2.2 6 (by omega) (by omega)).trans h.2.2.1, fun i hi => by rw [g.2.1, g.2.2.1 4 (by omega) (by omega)]; exact h.2.2.2 i hi⟩
theorem h_here {len q : Nat} {S : sk_N} {M : sk_M} (h : TXT len S M) (h1 : S 0 1 = nI q) (h2 : M.1 0 14 = nI q) (hq : q ≤ len) : ∃ ch, m_X3_here S = some ch ∧ m_X5_letter M = some ch ∧ ((q = len ∧ ch = -1) ∨ (q < len ∧ ∃ v : Nat, v ≤ 127 ∧ ch = nI v)) := by
  obtain ⟨g1, g2, g3, g4⟩ := h
  unfold m_X3_here m_X5_letter
  rw [h1, h2, g2, g3]
  by_cases hl : q = len
  · subst hl
    have : nI q ≤ nI q := (nI_leI (by omega) (by omega)).mpr (Nat.le_refl _)
    rw [if_pos this, if_pos this]
    exact ⟨-1, rfl, rfl, Or.inl ⟨rfl, rfl⟩⟩
  · have hlt : q < len := by omega
    have : ¬ nI len ≤ nI q := nI_ge hlt (by omega)
    obtain ⟨v, v1, v2, v3⟩ := g4 q hlt
    rw [if_neg this, if_neg this, if_pos (pu_inT (by omega) (by omega)), if_pos (pu_inT (by omega) (by omega)), nI_clamp (by omega), v2, v3]
    exact ⟨_, rfl, rfl, Or.inr ⟨hlt, v, v1, rfl⟩⟩
theorem h_digit {len q : Nat} {ch : Int32} (h : (q = len ∧ ch = -1) ∨ (q < len ∧ ∃ v : Nat, v ≤ 127 ∧ ch = nI v)) : (m_X3_isDigit ch = some 0 ∧ m_X5_isFigure ch = some 0) ∨ (q < len ∧ ∃ d : Nat, d ≤ 9 ∧ ch = nI (48 + d) ∧ m_X3_isDigit ch = some 1 ∧ m_X5_isFigure ch = some 1) := by
  unfold m_X3_isDigit m_X5_isFigure m_X5_within
  have b0 : sk_bl 0 = true := by decide
  have b1 : sk_bl 1 = true := by decide
  rcases h with ⟨-, rfl⟩ | ⟨h, v, hv, rfl⟩
  · left
    rw [if_pos (show (-1 : Int32) < 48 by decide), pu_some, if_pos b0]
    exact ⟨rfl, rfl⟩
  · by_cases h1 : v < 48
    · left
      have : nI v < (48 : Int32) := (nI_ltI (b := 48) (by omega) (by omega)).mpr h1
      rw [if_pos this, pu_some, if_pos b0]
      exact ⟨rfl, rfl⟩
    · have t1 : ¬ nI v < (48 : Int32) := fun h => h1 ((nI_ltI (b := 48) (by omega) (by omega)).mp h)
      by_cases h2 : 57 < v
      · left
        have : (57 : Int32) < nI v := (nI_ltI (a := 57) (by omega) (by omega)).mpr h2
        rw [if_neg t1, if_pos this, pu_some, if_pos b0]
        exact ⟨rfl, rfl⟩
      · right
        have t2 : ¬ (57 : Int32) < nI v := fun h => h2 ((nI_ltI (a := 57) (by omega) (by omega)).mp h)
        refine ⟨h, v - 48, by omega, by rw [show 48 + (v - 48) = v by omega], ?_⟩
        rw [if_neg t1, if_neg t2, pu_some, if_pos b1]
        exact ⟨rfl, rfl⟩
/-- a number has been read -/
def NSX (c k q : Nat) (S S' : sk_N) (M M' : sk_M) : Prop := FY S S' M M' ∧ S' 0 1 = nI q ∧ M'.1 0 14 = nI q ∧ S' 0 2 = S 0 2 ∧ M'.1 0 13 = M.1 0 13 ∧ S' 2 = S 2 ∧ (∀ x, x ≠ 3 * c + k → S' 3 x = S 3 x) ∧ (∀ x, x ≠ 4 * c + 1 + k → M'.1 8 x = M.1 8 x) ∧ NUM S' M' c k
theorem FY.s1 {S : sk_N} {M : sk_M} {a b : Int32} : FY S (sk_up S 0 1 a) M (md_up M 0 14 b) := ⟨by rw [pu_sup, if_neg (by omega)], pu_row (by omega), fun j a b => pu_mrow (by omega), fun k a b => by rw [pu_m, if_neg (by omega)]⟩
theorem h_63 {c k q v : Nat} {S : sk_N} {M : sk_M} (hc : c ≤ 33) (hk : k < 3) (h2 : S 0 2 = nI c) (h3 : M.1 0 13 = nI c) (hv : v ≤ 99) (h4 : S 0 1 = nI q) (h5 : M.1 0 14 = nI q) : ∃ S' M', m_X3_readNumber_63 (nI k) (S, nI v) = some (1, S') ∧ (∀ K w, m_X5_takesCommand_134 K (M, w, nI k, nI v) = K (M', w, nI (k + 1))) ∧ NSX c k q S S' M M' := by
  refine ⟨sk_up S 3 (3 * c + k) (nI v), md_up M 8 (4 * c + 1 + k) (nI v), ?_, fun K w => ?_, ⟨by rw [pu_row (by omega)], pu_row (by omega), fun j a b => pu_mrow (by omega), fun k a b => by rw [pu_mrow (by omega)]⟩, by rw [pu_row (by omega)]; exact h4, by rw [pu_mrow (by omega)]; exact h5, by rw [pu_row (by omega)], by rw [pu_mrow (by omega)], pu_row (by omega), fun x hx => by rw [pu_sup, if_neg (by omega)], fun x hx => by rw [pu_m, if_neg (by omega)], v, hv, by rw [pu_sup, if_pos ⟨rfl, rfl⟩], by rw [pu_m, if_pos ⟨rfl, rfl⟩]⟩
  · unfold m_X3_readNumber_63
    dsimp only
    have e : S 0 2 * (3 : Int32) + nI k = nI (3 * c + k) := by rw [h2, show (3 : Int32) = nI 3 from rfl, pk_mul, nI_add, Nat.mul_comm]
    rw [e, if_pos (pu_inT (by omega) (by omega)), nI_clamp (by omega), pu_let]
  · unfold m_X5_takesCommand_134
    dsimp only
    have e : (4 : Int32) * nI c + (1 : Int32) + nI k = nI (4 * c + 1 + k) := by rw [show (4 : Int32) = nI 4 from rfl, pk_mul, nI_1, nI_add]
    rw [h3, e, if_pos (pu_inT (by omega) (by omega)), nI_clamp (by omega), pu_let, nI_1]
theorem h_num {len c k q : Nat} {S : sk_N} {M : sk_M} (h : TXT len S M) (hc : c ≤ 33) (hk : k < 3) (h4 : S 0 1 = nI q) (h5 : M.1 0 14 = nI q) (h2 : S 0 2 = nI c) (h3 : M.1 0 13 = nI c) (hq : q ≤ len) : (m_X3_readNumber S (nI k) = some (0, S) ∧ ∀ K w, m_X5_takesCommand_71 K (M, w, nI k) = some (0, M)) ∨ ∃ q' S' M', q < q' ∧ q' ≤ len ∧ m_X3_readNumber S (nI k) = some (1, S') ∧ (∀ K w, m_X5_takesCommand_71 K (M, w, nI k) = K (M', w, nI (k + 1))) ∧ NSX c k q' S S' M M' := by
  have hl := h.1
  unfold m_X3_readNumber m_X5_takesCommand_71
  obtain ⟨ch, e1, e2, e3⟩ := h_here h h4 h5 hq
  rw [e1, pu_some]
  rcases h_digit e3 with ⟨d1, d2⟩ | ⟨hlt, d, hd, rfl, d1, d2⟩
  · left
    refine ⟨by rw [d1, pu_some, if_pos rfl], fun K w => ?_⟩
    dsimp only
    rw [e2, pu_some, d2, pu_some, if_pos rfl]
  · right
    have s48 : nI (48 + d) - (48 : Int32) = nI d := by rw [show (48 : Int32) = nI 48 from rfl, pk_sub (by omega)]; exact congrArg nI (by omega)
    have n1 : ¬ (1 : Int32) = 0 := by decide
    have g0 := h.fy (FY.s1 (S := S) (M := M) (a := nI (q + 1)) (b := nI (q + 1)))
    have u1 : sk_up S 0 1 (nI (q + 1)) 0 1 = nI (q + 1) := by rw [pu_sup, if_pos ⟨rfl, rfl⟩]
    have u2 : (md_up M 0 14 (nI (q + 1))).1 0 14 = nI (q + 1) := by rw [pu_m, if_pos ⟨rfl, rfl⟩]
    have u3 : sk_up S 0 1 (nI (q + 1)) 0 2 = nI c := by rw [pu_sup, if_neg (by omega)]; exact h2
    have u4 : (md_up M 0 14 (nI (q + 1))).1 0 13 = nI c := by rw [pu_m, if_neg (by omega)]; exact h3
    obtain ⟨ch2, f1, f2, f3⟩ := h_here g0 u1 u2 (by omega)
    rw [d1, pu_some, if_neg n1, pu_some, s48, pu_let, pu_let, h4, nI_1, f1, pu_some]
    rcases h_digit f3 with ⟨i1, i2⟩ | ⟨hlt2, d', hd', rfl, i1, i2⟩
    · obtain ⟨S', M', w1, w2, w3⟩ := h_63 (v := d) hc hk u3 u4 (by omega) u1 u2
      refine ⟨q + 1, S', M', by omega, by omega, by rw [i1, pu_some, if_pos rfl, w1], fun K w => ?_, FY.s1.tr w3.1, w3.2.1, w3.2.2.1, ?_, ?_, ?_, fun x hx => ?_, fun x hx => ?_, w3.2.2.2.2.2.2.2.2⟩
      · dsimp only
        rw [e2, pu_some, d2, pu_some, if_neg n1, pu_some, s48, pu_let, pu_let, h5, nI_1, f2, pu_some, i2, pu_some, if_pos rfl, w2]
      · rw [w3.2.2.2.1, u3, h2]
      · rw [w3.2.2.2.2.1, u4, h3]
      · rw [w3.2.2.2.2.2.1, pu_row (by omega)]
      · rw [w3.2.2.2.2.2.2.1 x hx, pu_row (by omega)]
      · rw [w3.2.2.2.2.2.2.2.1 x hx, pu_mrow (by omega)]
    · have g1 := FY.s1 (S := sk_up S 0 1 (nI (q + 1))) (M := md_up M 0 14 (nI (q + 1))) (a := nI (q + 2)) (b := nI (q + 2))
      have s2 : (10 : Int32) * nI d + nI (48 + d') - (48 : Int32) = nI (10 * d + d') := by
        rw [show (10 : Int32) = nI 10 from rfl, show (48 : Int32) = nI 48 from rfl, pk_mul, nI_add, pk_sub (by omega)]; exact congrArg nI (by omega)
      have x1 : sk_up (sk_up S 0 1 (nI (q + 1))) 0 1 (nI (q + 2)) 0 1 = nI (q + 2) := by rw [pu_sup, if_pos ⟨rfl, rfl⟩]
      have x2 : (md_up (md_up M 0 14 (nI (q + 1))) 0 14 (nI (q + 2))).1 0 14 = nI (q + 2) := by rw [pu_m, if_pos ⟨rfl, rfl⟩]
      have x3 : sk_up (sk_up S 0 1 (nI (q + 1))) 0 1 (nI (q + 2)) 0 2 = nI c := by rw [pu_sup, if_neg (by omega)]; exact u3
      have x4 : (md_up (md_up M 0 14 (nI (q + 1))) 0 14 (nI (q + 2))).1 0 13 = nI c := by rw [pu_m, if_neg (by omega)]; exact u4
      obtain ⟨S', M', w1, w2, w3⟩ := h_63 (v := 10 * d + d') hc hk x3 x4 (by omega) x1 x2
      refine ⟨q + 2, S', M', by omega, by omega, by rw [i1, pu_some, if_neg n1, pu_some, s2, pu_let, pu_let, u1, nI_1, w1], fun K w => ?_, FY.s1.tr (g1.tr w3.1), w3.2.1, w3.2.2.1, ?_, ?_, ?_, fun x hx => ?_, fun x hx => ?_, w3.2.2.2.2.2.2.2.2⟩
      · dsimp only
        rw [e2, pu_some, d2, pu_some, if_neg n1, pu_some, s48, pu_let, pu_let, h5, nI_1, f2, pu_some, i2, pu_some, if_neg n1, pu_some, s2, pu_let, pu_let, u2, nI_1, w2]
      · rw [w3.2.2.2.1, x3, h2]
      · rw [w3.2.2.2.2.1, x4, h3]
      · rw [w3.2.2.2.2.2.1, pu_row (by omega), pu_row (by omega)]
      · rw [w3.2.2.2.2.2.2.1 x hx, pu_row (by omega), pu_row (by omega)]
      · rw [w3.2.2.2.2.2.2.2.1 x hx, pu_mrow (by omega), pu_mrow (by omega)]
/-- the same rows of letters and numbers -/
theorem NUM.same {S S' : sk_N} {M M' : sk_M} {c j : Nat} (h : NUM S M c j) (h1 : S' 3 (3 * c + j) = S 3 (3 * c + j)) (h2 : M'.1 8 (4 * c + 1 + j) = M.1 8 (4 * c + 1 + j)) : NUM S' M' c j := by
  obtain ⟨v, a, b, d⟩ := h
  exact ⟨v, a, h1.trans b, h2.trans d⟩
theorem CMD.same {S S' : sk_N} {M M' : sk_M} {c : Nat} (h : CMD S M c) (h1 : S' 2 c = S 2 c) (h2 : ∀ j, j < 3 → S' 3 (3 * c + j) = S 3 (3 * c + j)) (h3 : ∀ j, j < 4 → M'.1 8 (4 * c + j) = M.1 8 (4 * c + j)) : CMD S' M' c := by
  obtain ⟨l, a, b, d, e⟩ := h
  have := wn_le l
  exact ⟨l, a, h1.trans b, (h3 0 (by omega)).trans d, fun j hj => (e j hj).same (h2 j (by omega)) (by have := h3 (1 + j) (by omega); rw [show 4 * c + 1 + j = 4 * c + (1 + j) by omega]; exact this)⟩
theorem h_cmd {len c l : Nat} (hc : c ≤ 33) : ∀ (d k q : Nat) (S : sk_N) (M : sk_M) (fuel fuel' : Nat), wn l = k + d + 1 → d + 2 ≤ fuel → d + 2 ≤ fuel' → TXT len S M → PL c q S M → S 2 c = nI l → M.1 8 (4 * c) = nI l → (∀ j, j < k → NUM S M c j) → 3 * c + 1 + 2 * k ≤ q → q ≤ len →
    ∃ r S' M', sk_lp m_X3_readCommand_38_step fuel (S, nI (wn l), nI k) = some (r, S') ∧ m_X5_takesCommand_71 (sk_lp m_X5_takesCommand_41_step fuel') (M, nI (wn l), nI k) = some (r, M') ∧ FY S S' M M' ∧ ∃ q', q' ≤ len ∧ ((r = 0 ∧ S' 0 1 = nI q' ∧ M'.1 0 14 = nI q') ∨ (r = 1 ∧ PL (c + 1) q' S' M' ∧ 3 * (c + 1) ≤ q')) := by
  intro d
  induction d with
  | zero =>
    intro k q S M fuel fuel' hw hf hf' hT hP hl1 hl2 hN hq hql
    have h3 := wn_le l
    have hl := hT.1
    obtain ⟨p1, p2, p3, p4, p5⟩ := hP
    have nle : ¬ nI (wn l) ≤ nI k := nI_ge (by omega) (by omega)
    have le1 : nI (wn l) ≤ nI (k + 1) := (nI_leI (by omega) (by omega)).mpr (by omega)
    obtain ⟨f, rfl⟩ : ∃ f, fuel = f + 2 := ⟨fuel - 2, by omega⟩
    obtain ⟨f', rfl⟩ : ∃ f', fuel' = f' + 1 := ⟨fuel' - 1, by omega⟩
    rw [sk_lp, m_X3_readCommand_38_step]
    dsimp only
    rw [if_neg nle]
    rcases h_num hT hc (k := k) (by omega) p1 p2 p3 p4 hql with ⟨a1, a2⟩ | ⟨q', S1, M1, q1, q2, a1, a2, a3⟩
    · rw [a1, pu_some, if_pos rfl, a2]
      exact ⟨0, S, M, rfl, rfl, FY.rf, q, hql, Or.inl ⟨rfl, p1, p2⟩⟩
    · obtain ⟨b1, b2, b3, b4, b5, b6, b7, b8, b9⟩ := a3
      rw [a1, pu_some, if_neg ne_10, nI_1, if_pos le1, a2, sk_lp, m_X5_takesCommand_41_step, m_X3_readCommand_66, m_X3_readSign]
      dsimp only
      rw [if_pos le1]
      obtain ⟨ch, e1, e2, e3⟩ := h_here (hT.fy b1) b2 b3 q2
      rw [e1, e2, pu_some, pu_some]
      by_cases hch : ch = 59
      · rw [if_pos hch, if_pos hch, pu_let, pu_let, pu_let, pu_some]
        dsimp only
        have hlt : q' < len := by
          rcases e3 with ⟨-, h⟩ | ⟨h, -⟩
          · rw [h] at hch; exact absurd hch (by decide)
          · exact h
        rw [if_neg (by decide), sk_lp, m_X3_readCommand_38_step]
        dsimp only
        rw [nI_1, if_pos le1, pu_let, b2, b3]
        have m13 : (md_up M1 0 14 (nI q' + 1)).1 0 13 = nI c := by rw [pu_m, if_neg (by omega), b5]; exact p4
        have s2 : sk_up S1 0 1 (nI q' + 1) 0 2 = nI c := by rw [pu_sup, if_neg (by omega), b4]; exact p3
        rw [m13, s2, nI_1, nI_1]
        refine ⟨1, _, _, rfl, rfl, b1.tr ⟨?_, ?_, fun j x y => ?_, fun k x y => ?_⟩, q' + 1, by omega, Or.inr ⟨rfl, ⟨?_, ?_, ?_, ?_, fun i hi => ?_⟩, by omega⟩⟩
        · rw [pu_sup, if_neg (by omega), pu_sup, if_neg (by omega)]
        · rw [pu_row (by omega), pu_row (by omega)]
        · rw [pu_mrow (by omega), pu_mrow (by omega)]
        · rw [pu_m, if_neg (by omega), pu_m, if_neg (by omega)]
        · rw [pu_sup, if_neg (by omega), pu_sup, if_pos ⟨rfl, rfl⟩]
        · rw [pu_m, if_neg (by omega), pu_m, if_pos ⟨rfl, rfl⟩]
        · rw [pu_sup, if_pos ⟨rfl, rfl⟩]
        · rw [pu_m, if_pos ⟨rfl, rfl⟩]
        · by_cases hic : i = c
          · subst hic
            refine ⟨l, by omega, ?_, ?_, fun j hj => ?_⟩
            · rw [pu_row (by omega), pu_row (by omega), b6]; exact hl1
            · rw [pu_mrow (by omega), pu_mrow (by omega), b8 _ (by omega)]; exact hl2
            · by_cases hjk : j = k
              · subst hjk
                exact b9.same (by rw [pu_row (by omega), pu_row (by omega)]) (by rw [pu_mrow (by omega), pu_mrow (by omega)])
              · exact (hN j (by omega)).same (by rw [pu_row (by omega), pu_row (by omega), b7 _ (by omega)]) (by rw [pu_mrow (by omega), pu_mrow (by omega), b8 _ (by omega)])
          · exact (p5 i (by omega)).same (by rw [pu_row (by omega), pu_row (by omega), b6]) (fun j hj => by rw [pu_row (by omega), pu_row (by omega), b7 _ (by omega)]) (fun j hj => by rw [pu_mrow (by omega), pu_mrow (by omega), b8 _ (by omega)])
      · rw [if_neg hch, if_neg hch, pu_some]
        dsimp only
        rw [if_pos rfl]
        exact ⟨0, S1, M1, rfl, rfl, b1, q', q2, Or.inl ⟨rfl, b2, b3⟩⟩
  | succ d ih =>
    intro k q S M fuel fuel' hw hf hf' hT hP hl1 hl2 hN hq hql
    have h3 := wn_le l
    have hl := hT.1
    obtain ⟨p1, p2, p3, p4, p5⟩ := hP
    have nle : ¬ nI (wn l) ≤ nI k := nI_ge (by omega) (by omega)
    have nle1 : ¬ nI (wn l) ≤ nI (k + 1) := nI_ge (by omega) (by omega)
    have nle0 : ¬ nI (k + 1) ≤ 0 := nI_ge (a := 0) (by omega) (by omega)
    obtain ⟨f, rfl⟩ : ∃ f, fuel = f + 1 := ⟨fuel - 1, by omega⟩
    obtain ⟨f', rfl⟩ : ∃ f', fuel' = f' + 1 := ⟨fuel' - 1, by omega⟩
    rw [sk_lp, m_X3_readCommand_38_step]
    dsimp only
    rw [if_neg nle]
    rcases h_num hT hc (k := k) (by omega) p1 p2 p3 p4 hql with ⟨a1, a2⟩ | ⟨q', S1, M1, q1, q2, a1, a2, a3⟩
    · rw [a1, pu_some, if_pos rfl, a2]
      exact ⟨0, S, M, rfl, rfl, FY.rf, q, hql, Or.inl ⟨rfl, p1, p2⟩⟩
    · obtain ⟨b1, b2, b3, b4, b5, b6, b7, b8, b9⟩ := a3
      rw [a1, pu_some, if_neg ne_10, nI_1, if_neg nle1, a2, sk_lp, m_X5_takesCommand_41_step, m_X3_readCommand_66, m_X3_readSign]
      dsimp only
      rw [if_neg nle1, if_neg nle0]
      obtain ⟨ch, e1, e2, e3⟩ := h_here (hT.fy b1) b2 b3 q2
      rw [e1, e2, pu_some, pu_some]
      by_cases hch : ch = 44
      · rw [if_pos hch, if_pos hch, pu_let, pu_let, pu_some]
        dsimp only
        have hlt : q' < len := by
          rcases e3 with ⟨-, h⟩ | ⟨h, -⟩
          · rw [h] at hch; exact absurd hch (by decide)
          · exact h
        rw [if_neg (by decide), b2, b3, nI_1, nI_1]
        have fy := FY.s1 (S := S1) (M := M1) (a := nI (q' + 1)) (b := nI (q' + 1))
        obtain ⟨r, S', M', i1, i2, i3, i4⟩ := ih (k + 1) (q' + 1) (sk_up S1 0 1 (nI (q' + 1))) (md_up M1 0 14 (nI (q' + 1))) f f' (by omega) (by omega) (by omega) ((hT.fy b1).fy fy)
          ⟨by rw [pu_sup, if_pos ⟨rfl, rfl⟩], by rw [pu_m, if_pos ⟨rfl, rfl⟩], by rw [pu_sup, if_neg (by omega), b4]; exact p3, by rw [pu_m, if_neg (by omega), b5]; exact p4, fun i hi => (p5 i hi).same (by rw [pu_row (by omega), b6]) (fun j hj => by rw [pu_row (by omega), b7 _ (by omega)]) (fun j hj => by rw [pu_mrow (by omega), b8 _ (by omega)])⟩
          (by rw [pu_row (by omega), b6]; exact hl1) (by rw [pu_mrow (by omega), b8 _ (by omega)]; exact hl2)
          (fun j hj => by
            by_cases hjk : j = k
            · subst hjk
              exact b9.same (by rw [pu_row (by omega)]) (by rw [pu_mrow (by omega)])
            · exact (hN j (by omega)).same (by rw [pu_row (by omega), b7 _ (by omega)]) (by rw [pu_mrow (by omega), b8 _ (by omega)])) (by omega) (by omega)
        exact ⟨r, S', M', i1, i2, b1.tr (fy.tr i3), i4⟩
      · rw [if_neg hch, if_neg hch, pu_some]
        dsimp only
        rw [if_pos rfl]
        exact ⟨0, S1, M1, rfl, rfl, b1, q', q2, Or.inl ⟨rfl, b2, b3⟩⟩
theorem h_wn {v : Nat} (hv : v ≤ 127) : m_X3_numbersBehind (nI v) = some (nI (wn v)) ∧ m_X5_numbersOf (nI v) = some (nI (wn v)) := by
  unfold m_X3_numbersBehind m_X5_numbersOf m_X5_numbersOf_12 m_X5_numbersOf_38 wn
  have e : ∀ a : Nat, a < 2 ^ 31 → (nI v = nI a ↔ v = a) := fun a ha => nI_eq (by omega) ha
  have e97 : (nI v = (97 : Int32)) ↔ v = 97 := e 97 (by omega)
  have e98 : (nI v = (98 : Int32)) ↔ v = 98 := e 98 (by omega)
  have e108 : (nI v = (108 : Int32)) ↔ v = 108 := e 108 (by omega)
  have e112 : (nI v = (112 : Int32)) ↔ v = 112 := e 112 (by omega)
  have e116 : (nI v = (116 : Int32)) ↔ v = 116 := e 116 (by omega)
  by_cases h1 : v = 97
  · rw [if_pos (e97.mpr h1), if_pos (e97.mpr h1), if_pos h1]; exact ⟨rfl, rfl⟩
  · rw [if_neg (mt e97.mp h1), if_neg (mt e97.mp h1), if_neg h1]
    by_cases h2 : v = 98
    · subst h2
      exact ⟨rfl, rfl⟩
    · rw [if_neg (mt e98.mp h2), if_neg h2, if_neg (mt e98.mp h2)]
      by_cases h3 : v = 108
      · subst h3
        exact ⟨rfl, rfl⟩
      · rw [if_neg (mt e108.mp h3), if_neg h3, if_neg (mt e108.mp h3)]
        by_cases h4 : v = 112
        · subst h4
          exact ⟨rfl, rfl⟩
        · rw [if_neg (mt e112.mp h4), if_neg h4, if_neg (mt e112.mp h4)]
          by_cases h5 : v = 116
          · rw [if_pos (e116.mpr h5), if_pos h5]; exact ⟨rfl, rfl⟩
          · rw [if_neg (mt e116.mp h5), if_neg h5]; exact ⟨rfl, rfl⟩
theorem h_read {len c q : Nat} {S : sk_N} {M : sk_M} (hT : TXT len S M) (hP : PL c q S M) (hq : 3 * c ≤ q) (hlt : q < len) : ∃ r S' M', m_X3_readCommand S = some (r, S') ∧ m_X5_takesCommand M = some (r, M') ∧ FY S S' M M' ∧ ∃ q', q' ≤ len ∧ ((r = 0 ∧ S' 0 1 = nI q' ∧ M'.1 0 14 = nI q') ∨ (r = 1 ∧ PL (c + 1) q' S' M' ∧ 3 * (c + 1) ≤ q')) := by
  have hl := hT.1
  obtain ⟨p1, p2, p3, p4, p5⟩ := hP
  unfold m_X3_readCommand m_X5_takesCommand
  obtain ⟨ch, e1, e2, e3⟩ := h_here hT p1 p2 (by omega)
  rcases e3 with ⟨h, -⟩ | ⟨-, v, hv, rfl⟩
  · omega
  obtain ⟨w1, w2⟩ := h_wn hv
  have h3 := wn_le v
  rw [e1, e2, pu_some, pu_some, w1, w2, pu_some, pu_some]
  by_cases h0 : wn v = 0
  · rw [h0, if_pos nI_0, if_pos nI_0]
    exact ⟨0, S, M, rfl, rfl, FY.rf, q, by omega, Or.inl ⟨rfl, p1, p2⟩⟩
  · have n0 : ¬ nI (wn v) = 0 := nI_ne0 (by omega) (by omega)
    have e4 : (4 : Int32) * nI c = nI (4 * c) := by rw [show (4 : Int32) = nI 4 from rfl, pk_mul]
    rw [if_neg n0, if_neg n0, pu_let, pu_some, p1, nI_1]
    have s2 : sk_up S 0 1 (nI (q + 1)) 0 2 = nI c := by rw [pu_sup, if_neg (by omega)]; exact p3
    rw [s2, p4, e4, if_pos (pu_inT (by omega) (by omega)), if_pos (pu_inT (by omega) (by omega)), nI_clamp (by omega), nI_clamp (by omega), pu_let, pu_let, pu_let]
    have m14 : (md_up M 8 (4 * c) (nI v)).1 0 14 = nI q := by rw [pu_mrow (by omega)]; exact p2
    rw [m14, nI_1]
    unfold m_X3_readCommand_38 m_X5_takesCommand_41
    have fy : FY S (sk_up (sk_up S 0 1 (nI (q + 1))) 2 c (nI v)) M (md_up (md_up M 8 (4 * c) (nI v)) 0 14 (nI (q + 1))) := ⟨by rw [pu_row (by omega), pu_sup, if_neg (by omega)], by rw [pu_row (by omega), pu_row (by omega)], fun j a b => by rw [pu_mrow (by omega), pu_mrow (by omega)], fun k a b => by rw [pu_m, if_neg (by omega), pu_mrow (by omega)]⟩
    obtain ⟨r, S', M', i1, i2, i3, i4⟩ := h_cmd (len := len) (c := c) (l := v) (by omega) (wn v - 1) 0 (q + 1) (sk_up (sk_up S 0 1 (nI (q + 1))) 2 c (nI v)) (md_up (md_up M 8 (4 * c) (nI v)) 0 14 (nI (q + 1))) sk_fuel 1999 (by omega) (by unfold sk_fuel; omega) (by omega) (hT.fy fy)
      ⟨by rw [pu_row (by omega), pu_sup, if_pos ⟨rfl, rfl⟩], by rw [pu_m, if_pos ⟨rfl, rfl⟩], by rw [pu_row (by omega), pu_sup, if_neg (by omega)]; exact p3, by rw [pu_m, if_neg (by omega), pu_mrow (by omega)]; exact p4, fun i hi => (p5 i hi).same (by rw [pu_sup, if_neg (by omega), pu_row (by omega)]) (fun j hj => by rw [pu_row (by omega), pu_row (by omega)]) (fun j hj => by rw [pu_mrow (by omega), pu_m, if_neg (by omega)])⟩
      (by rw [pu_sup, if_pos ⟨rfl, rfl⟩]) (by rw [pu_mrow (by omega), pu_m, if_pos ⟨rfl, rfl⟩]) (fun j hj => absurd hj (by omega)) (by omega) (by omega)
    refine ⟨r, S', M', i1, ?_, fy.tr i3, i4⟩
    rw [show sk_fuel = 1999 + 1 from rfl, sk_lp]
    rw [m_X5_takesCommand_41_step]
    dsimp only
    rw [if_neg (show ¬ nI (wn v) ≤ 0 from nI_ge (a := 0) (by omega) (by omega)), if_pos (show (0 : Int32) ≤ 0 by decide)]
    exact i2
theorem h_parse {len : Nat} {S : sk_N} {M : sk_M} (hT : TXT len S M) : (∃ S' M' q, m_X3_parse S = some (0, S') ∧ S' 0 1 = nI q ∧ m_X5_execute M = some (-10 - nI q, M') ∧ FY S S' (md_up M 0 4 0) M') ∨ ∃ S' M' c q, m_X3_parse S = some (1, S') ∧ m_X5_execute M = m_X5_execute_43 (M', 0) ∧ FY S S' (md_up M 0 4 0) M' ∧ PL c q S' M' ∧ c ≤ 33 := by
  have hl := hT.1
  unfold m_X3_parse m_X5_execute m_X3_parse_12 m_X5_execute_15
  rw [pu_let, pu_let, pu_let, pu_let, pu_let]
  refine lp_LF (step := m_X3_parse_12_step) (step' := m_X5_execute_15_step) (fun y y' => (∃ S' M' q, y = some (0, S') ∧ S' 0 1 = nI q ∧ y' = some (-10 - nI q, M') ∧ FY S S' (md_up M 0 4 0) M') ∨ ∃ S' M' c q, y = some (1, S') ∧ y' = m_X5_execute_43 (M', 0) ∧ FY S S' (md_up M 0 4 0) M' ∧ PL c q S' M' ∧ c ≤ 33) (fun j s s' => s.2 = nI j ∧ ∃ q, PL j q s.1 s' ∧ 3 * j ≤ q ∧ q ≤ len ∧ FY S s.1 (md_up M 0 4 0) s') 34 (by omega) _ _ ⟨rfl, 0, ⟨?_, ?_, ?_, ?_, fun i hi => absurd hi (by omega)⟩, by omega, by omega, ?_, ?_, fun j a b => ?_, fun k a b => ?_⟩ ?_
  · dsimp only
    rw [pu_sup, if_neg (by omega), pu_sup, if_pos ⟨rfl, rfl⟩, nI_0]
  · rw [pu_m, if_pos ⟨rfl, rfl⟩, nI_0]
  · dsimp only
    rw [pu_sup, if_pos ⟨rfl, rfl⟩, nI_0]
  · rw [pu_m, if_neg (by omega), pu_m, if_pos ⟨rfl, rfl⟩, nI_0]
  · dsimp only
    rw [pu_sup, if_neg (by omega), pu_sup, if_neg (by omega)]
  · dsimp only
    rw [pu_row (by omega), pu_row (by omega)]
  · rw [pu_mrow (by omega), pu_mrow (by omega)]
  · rw [pu_m, if_neg (by omega), pu_m, if_neg (by omega)]
  · rintro K K' j ⟨A, z⟩ B hj ⟨rfl, q, hP, hq1, hq2, fy⟩
    dsimp only at hP fy ⊢
    have hT0 : TXT len S (md_up M 0 4 0) := ⟨hT.1, hT.2.1, by rw [pu_m, if_neg (by omega)]; exact hT.2.2.1, by rw [pu_mrow (by omega)]; exact hT.2.2.2⟩
    have hT' := hT0.fy fy
    obtain ⟨p1, p2, p3, p4, p5⟩ := id hP
    unfold m_X3_parse_12_step m_X5_execute_15_step
    dsimp only
    rw [if_neg (show ¬ (34 : Int32) ≤ nI j from nI_ge (b := 34) (by omega) (by omega))]
    by_cases hql : q = len
    · have le : nI len ≤ nI q := (nI_leI (by omega) (by omega)).mpr (by omega)
      rw [if_pos (show A 0 0 ≤ A 0 1 by rw [hT'.2.1, p1]; exact le), if_pos (show B.1 0 6 ≤ B.1 0 14 by rw [hT'.2.2.1, p2]; exact le)]
      exact Or.inl (Or.inr ⟨A, B, j, q, rfl, rfl, fy, hP, by omega⟩)
    · have nle : ¬ nI len ≤ nI q := nI_ge (by omega) (by omega)
      obtain ⟨r, S', M', i1, i2, i3, q', i4, i5⟩ := h_read hT' hP hq1 (by omega)
      rw [if_neg (show ¬ A 0 0 ≤ A 0 1 by rw [hT'.2.1, p1]; exact nle), if_neg (show ¬ B.1 0 6 ≤ B.1 0 14 by rw [hT'.2.2.1, p2]; exact nle), i1, i2, pu_some, pu_some]
      dsimp only
      rcases i5 with ⟨rfl, x1, x2⟩ | ⟨rfl, x1, x2⟩
      · rw [if_pos rfl, if_pos rfl, x2]
        exact Or.inl (Or.inl ⟨S', M', q', rfl, x1, rfl, fy.tr i3⟩)
      · rw [if_neg (by decide), if_neg (by decide), nI_1]
        exact Or.inr ⟨by omega, _, _, rfl, rfl, rfl, q', x1, x2, i4, fy.tr i3⟩
