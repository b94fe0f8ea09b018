/-! what may be done -/
def WK (w w' : Nat → Int32) : Prop := ∀ x, x = 6 ∨ x = 7 ∨ 258 ≤ x → w' x = w x
theorem FQ.wk {N N' : sk_N} {w w' : Nat → Int32} (h : FQ N w) (h4 : N' 0 4 = N 0 4) (g : WK w w') : FQ N' w' := by
  obtain ⟨F, a, b, c⟩ := h
  exact ⟨F, a, h4.trans b, (g 6 (by omega)).trans c⟩
theorem NT.wk {nl : List (Nat × Nat)} {w w' : Nat → Int32} (h : NT nl w) (g : WK w w') : NT nl w' := by
  obtain ⟨a, b, c⟩ := h
  exact ⟨a, (g 7 (by omega)).trans b, fun k x hx => ⟨(g _ (by omega)).trans (c k x hx).1, (g _ (by omega)).trans (c k x hx).2⟩⟩
theorem RS.wk {cnt cnt' P P' T T' : Nat} {N L N' : sk_N} {M M' : sk_M} (h : RS cnt P T T N L M) (g : RX cnt' P' T' T' N' (M'.1 1)) (h4 : N' 0 4 = N 0 4) (hw : WK (M.1 1) (M'.1 1)) (h10 : M'.1 0 10 = M.1 0 10) : RS cnt' P' T' T' N' L M' := by
  obtain ⟨-, f, nl, l1, l2⟩ := h
  refine ⟨g, f.wk h4 hw, nl, l1, ?_⟩
  rw [h10]
  rcases l2 with ⟨a, -, b⟩ | a
  · exact Or.inl ⟨a, rfl, b.wk hw⟩
  · exact Or.inr a
theorem in_0 : sk_in (0 : Int32) 378 = true := by decide
theorem in_5 : sk_in (5 : Int32) 378 = true := by decide
theorem cl_0 : ((0 : Int32)).toNatClampNeg = 0 := rfl
theorem cl_5 : ((5 : Int32)).toNatClampNeg = 5 := rfl
theorem ne_20 : ¬ (2 : Int32) = 0 := by decide
theorem nle_1 : ¬ (1 : Int32) ≤ 0 := by decide
theorem nle_2 : ¬ (2 : Int32) ≤ 0 := by decide
theorem le_00 : (0 : Int32) ≤ 0 := by decide
theorem m_add {cnt P : Nat} {N : sk_N} {M : sk_M} (h : ST cnt P N (M.1 1)) (x : Int32) : (m_X1_isPhase N x = some 0 ∧ m_X4_requirePhase N x = some (.inr 1) ∧ m_X5_mayAdd M x = some 1) ∨ ∃ p : Nat, p < P ∧ x = nI p ∧ m_X1_isPhase N x = some 1 ∧ m_X4_requirePhase N x = some (.inl ()) ∧ ((m_X1_isFull N = some 1 ∧ m_X5_mayAdd M x = some 2) ∨ (cnt < 10 ∧ m_X1_isFull N = some 0 ∧ m_X5_mayAdd M x = some 0)) := by
  obtain ⟨h10, hP1, hP2, e0, e5, eP, eP'⟩ := h.ex
  unfold m_X5_mayAdd m_X1_isFull
  rw [if_pos in_0, cl_0, if_pos in_5, cl_5, e0, e5]
  rcases a_ph h x with ⟨a1, a2, a3⟩ | ⟨p, hp, rfl, a1, a2, a3⟩
  · left
    rw [a3, pu_some, if_pos rfl]
    exact ⟨a1, a2, rfl⟩
  · right
    rw [a3, pu_some, if_neg ne_10]
    refine ⟨p, hp, rfl, a1, a2, ?_⟩
    by_cases hc : cnt = 10
    · subst hc
      left
      exact ⟨by rw [if_neg (by decide)], by rw [if_pos (show nI 10 = (10 : Int32) from rfl)]⟩
    · right
      have t1 : nI cnt < (10 : Int32) := (nI_ltI (b := 10) (by omega) (by omega)).mpr (by omega)
      have t2 : ¬ nI cnt = (10 : Int32) := fun e => hc ((nI_eq (b := 10) (by omega) (by omega)).mp e)
      exact ⟨by omega, by rw [if_pos t1], by rw [if_neg t2]⟩
theorem m_phase {cnt P : Nat} {N : sk_N} {M : sk_M} (h : ST cnt P N (M.1 1)) (x y : Int32) : (m_X1_hasClock N x = some 0 ∧ m_X4_requireClock N x = some (.inr 3) ∧ m_X5_mayPhase M x y = some 1) ∨ ∃ c : Nat, c < cnt ∧ x = nI c ∧ m_X1_hasClock N x = some 1 ∧ m_X4_requireClock N x = some (.inl ()) ∧ ((m_X1_isPhase N y = some 0 ∧ m_X4_requirePhase N y = some (.inr 1) ∧ m_X5_mayPhase M x y = some 2) ∨ ∃ p : Nat, p < P ∧ y = nI p ∧ m_X1_isPhase N y = some 1 ∧ m_X4_requirePhase N y = some (.inl ()) ∧ m_X5_mayPhase M x y = some 0) := by
  unfold m_X5_mayPhase
  rcases a_clk h x with ⟨a1, a2, a3⟩ | ⟨c, hc, rfl, a1, a2, a3⟩
  · left
    rw [a3, pu_some, if_pos rfl]
    exact ⟨a1, a2, rfl⟩
  · right
    rw [a3, pu_some, if_neg ne_10, if_pos in_0, cl_0]
    refine ⟨c, hc, rfl, a1, a2, ?_⟩
    rcases a_ph h y with ⟨b1, b2, b3⟩ | ⟨p, hp, rfl, b1, b2, b3⟩
    · left
      rw [b3, pu_some, if_pos rfl]
      exact ⟨b1, b2, rfl⟩
    · right
      rw [b3, pu_some, if_neg ne_10]
      exact ⟨p, hp, rfl, b1, b2, rfl⟩
theorem m_blink {cnt P : Nat} {N : sk_N} {M : sk_M} (h : ST cnt P N (M.1 1)) (x y z : Int32) : (m_X1_hasClock N x = some 0 ∧ m_X4_requireClock N x = some (.inr 3) ∧ m_X5_mayBlink M x y z = some 1) ∨ ∃ c : Nat, c < cnt ∧ x = nI c ∧ m_X1_hasClock N x = some 1 ∧ m_X4_requireClock N x = some (.inl ()) ∧ ((m_X4_isBlinking y z = some 0 ∧ m_X5_mayBlink M x y z = some 2) ∨ ∃ R O : Nat, 1 ≤ R ∧ R ≤ 99 ∧ O ≤ 98 ∧ y = nI R ∧ z = nI O ∧ m_X4_isBlinking y z = some 1 ∧ m_X5_mayBlink M x y z = some 0) := by
  unfold m_X5_mayBlink m_X5_mayBlink_32
  rcases a_clk h x with ⟨a1, a2, a3⟩ | ⟨c, hc, rfl, a1, a2, a3⟩
  · left
    rw [a3, pu_some, if_pos rfl]
    exact ⟨a1, a2, rfl⟩
  · right
    rw [a3, pu_some, if_neg ne_10]
    refine ⟨c, hc, rfl, a1, a2, ?_⟩
    unfold m_X4_isBlinking
    rcases a_rng (x := y) (a := 1) (b := 99) (by omega) (by omega) with ⟨b1, b2⟩ | ⟨R, r1, r2, rfl, b1, b2, b3, -, -⟩
    · left
      have b1' : m_X5_within y 1 99 = some 0 := b1
      rw [b1', pu_some, if_pos rfl]
      refine ⟨?_, rfl⟩
      by_cases hy : y < (1 : Int32)
      · rw [if_pos hy]
      · rw [if_neg hy, if_pos (show (99 : Int32) < y from b2.resolve_left hy)]
    · have b1' : m_X5_within (nI R) 1 99 = some 1 := b1
      have b2' : ¬ nI R < (1 : Int32) := b2
      have b3' : ¬ (99 : Int32) < nI R := b3
      rw [b1', pu_some, if_neg ne_10, if_neg b2', if_neg b3']
      rcases a_rng (x := z) (a := 0) (b := 98) (by omega) (by omega) with ⟨d1, d2⟩ | ⟨O, o1, o2, rfl, d1, d2, d3, -, -⟩
      · left
        have d1' : m_X5_within z 0 98 = some 0 := d1
        rw [d1', pu_some, if_pos rfl]
        refine ⟨?_, rfl⟩
        by_cases hy : z < (0 : Int32)
        · rw [if_pos hy]
        · rw [if_neg hy, if_pos (show (98 : Int32) < z from d2.resolve_left hy)]
      · right
        have d1' : m_X5_within (nI O) 0 98 = some 1 := d1
        have d2' : ¬ nI O < (0 : Int32) := d2
        have d3' : ¬ (98 : Int32) < nI O := d3
        rw [d1', pu_some, if_neg ne_10, if_neg d2', if_neg d3']
        exact ⟨R, O, r1, r2, o2, rfl, rfl, rfl, rfl⟩
theorem m_link {cnt P : Nat} {N : sk_N} {M : sk_M} (h : ST cnt P N (M.1 1)) (x y z : Int32) : (m_X1_hasClock N x = some 0 ∧ m_X4_requireClock N x = some (.inr 3) ∧ m_X5_mayLink M x y z = some 1) ∨ ∃ a : Nat, a < cnt ∧ x = nI a ∧ m_X1_hasClock N x = some 1 ∧ m_X4_requireClock N x = some (.inl ()) ∧ ((m_X1_hasClock N y = some 0 ∧ m_X4_requireClock N y = some (.inr 3) ∧ m_X5_mayLink M x y z = some 1) ∨ ∃ b : Nat, b < cnt ∧ y = nI b ∧ m_X1_hasClock N y = some 1 ∧ m_X4_requireClock N y = some (.inl ()) ∧ ((x = y ∧ m_X5_mayLink M x y z = some 2) ∨ (x ≠ y ∧ m_X4_isDelay z = some 0 ∧ m_X5_mayLink M x y z = some 2) ∨ ∃ d : Nat, d ≤ 9 ∧ z = nI d ∧ x ≠ y ∧ a ≠ b ∧ m_X4_isDelay z = some 1 ∧ m_X5_mayLink M x y z = some 0)) := by
  have h10 := h.1.1
  unfold m_X5_mayLink m_X5_mayLink_20 m_X5_mayLink_21 m_X5_mayLink_47
  rcases a_clk h x with ⟨a1, a2, a3⟩ | ⟨a, ha, rfl, a1, a2, a3⟩
  · left
    rw [a3, pu_some, if_pos rfl, if_pos rfl]
    exact ⟨a1, a2, rfl⟩
  · right
    rw [a3, pu_some, if_neg ne_10]
    refine ⟨a, ha, rfl, a1, a2, ?_⟩
    rcases a_clk h y with ⟨b1, b2, b3⟩ | ⟨b, hb, rfl, b1, b2, b3⟩
    · left
      rw [b3, pu_some, if_pos rfl, if_pos rfl]
      exact ⟨b1, b2, rfl⟩
    · right
      rw [b3, pu_some, if_neg ne_10, if_neg ne_10]
      refine ⟨b, hb, rfl, b1, b2, ?_⟩
      by_cases hab : a = b
      · left
        subst hab
        rw [if_pos rfl]
        exact ⟨rfl, rfl⟩
      · right
        have nab : ¬ nI a = nI b := fun e => hab ((nI_eq (by omega) (by omega)).mp e)
        rw [if_neg nab]
        unfold m_X4_isDelay
        rcases a_rng (x := z) (a := 0) (b := 9) (by omega) (by omega) with ⟨d1, d2⟩ | ⟨d, o1, o2, rfl, d1, d2, d3, -, -⟩
        · left
          have d1' : m_X5_within z 0 9 = some 0 := d1
          rw [d1', pu_some, if_pos rfl]
          refine ⟨nab, ?_, rfl⟩
          by_cases hy : z < (0 : Int32)
          · rw [if_pos hy]
          · rw [if_neg hy, if_pos (show (9 : Int32) < z from d2.resolve_left hy)]
        · right
          have d1' : m_X5_within (nI d) 0 9 = some 1 := d1
          have d2' : ¬ nI d < (0 : Int32) := d2
          have d3' : ¬ (9 : Int32) < nI d := d3
          rw [d1', pu_some, if_neg ne_10, if_neg d2', if_neg d3']
          exact ⟨d, o2, rfl, nab, hab, rfl, rfl⟩
theorem m_tick (x : Int32) : (m_X4_isTickNumber x = some 0 ∧ m_X5_within x 1 99 = some 0) ∨ ∃ n : Nat, 1 ≤ n ∧ n ≤ 99 ∧ x = nI n ∧ m_X4_isTickNumber x = some 1 ∧ m_X5_within x 1 99 = some 1 := by
  unfold m_X4_isTickNumber
  rcases a_rng (x := x) (a := 1) (b := 99) (by omega) (by omega) with ⟨b1, b2⟩ | ⟨R, r1, r2, rfl, b1, b2, b3, -, -⟩
  · left
    refine ⟨?_, b1⟩
    by_cases hy : x < (1 : Int32)
    · rw [if_pos hy]
    · rw [if_neg hy, if_pos (show (99 : Int32) < x from b2.resolve_left hy)]
  · right
    have b2' : ¬ nI R < (1 : Int32) := b2
    have b3' : ¬ (99 : Int32) < nI R := b3
    exact ⟨R, r1, r2, rfl, by rw [if_neg b2', if_neg b3'], b1⟩
/-! the commands of a text -/
theorem wn_ne {l : Nat} (h : wn l ≠ 0) : l = 97 ∨ l = 98 ∨ l = 108 ∨ l = 112 ∨ l = 116 := by
  unfold wn at h
  by_cases h1 : l = 97
  · exact Or.inl h1
  · rw [if_neg h1] at h
    by_cases h2 : l = 98
    · exact Or.inr (Or.inl h2)
    · rw [if_neg h2] at h
      by_cases h3 : l = 108
      · exact Or.inr (Or.inr (Or.inl h3))
      · rw [if_neg h3] at h
        by_cases h4 : l = 112
        · exact Or.inr (Or.inr (Or.inr (Or.inl h4)))
        · rw [if_neg h4] at h
          by_cases h5 : l = 116
          · exact Or.inr (Or.inr (Or.inr (Or.inr h5)))
          · rw [if_neg h5] at h; exact absurd rfl h
/-- the frame of a command -/
def FZ (M M' : sk_M) : Prop := (∀ j, j ≠ 0 → j ≠ 1 → j ≠ 5 → j ≠ 6 → M'.1 j = M.1 j) ∧ ∀ k, k ≠ 8 → M'.1 0 k = M.1 0 k
theorem FZ.rf {M : sk_M} : FZ M M := ⟨fun _ _ _ _ _ => rfl, fun _ _ => rfl⟩
theorem FZ.tr {A B C : sk_M} (h : FZ A B) (g : FZ B C) : FZ A C := ⟨fun j a b c d => (g.1 j a b c d).trans (h.1 j a b c d), fun k a => (g.2 k a).trans (h.2 k a)⟩
theorem FZ.one {M M' : sk_M} (h : ∀ j, j ≠ 1 → M'.1 j = M.1 j) : FZ M M' := ⟨fun j _ b _ _ => h j b, fun k _ => by rw [h 0 (by omega)]⟩
theorem FZ.up {M : sk_M} {k : Nat} {v : Int32} : FZ M (md_up M 1 k v) := FZ.one fun j hj => pu_mrow hj
theorem e_does {cnt P T i : Nat} {Sc N L : sk_N} {M : sk_M} (h : RS cnt P T T N L M) (hC : CMD Sc M i) (hi : i ≤ 33) (hb : T + 99 < 2 ^ 29) : (m_X4_runInThought Sc N L (nI i) = some (0, N, L) ∧ m_X5_does M (nI i) = some (0, M)) ∨ ∃ cnt' T' N' L' M', T' ≤ T + 99 ∧ m_X4_runInThought Sc N L (nI i) = some (1, N', L') ∧ m_X5_does M (nI i) = some (1, M') ∧ RS cnt' P T' T' N' L' M' ∧ FZ M M' := by
  obtain ⟨l, l1, l2, l3, l4⟩ := hC
  have h10 := h.1.1.1.1
  have nf : ∀ j : Nat, j < 3 → m_X3_numberOf Sc (nI i) (nI j) = some (Sc 3 (3 * i + j)) := fun j hj => by
    unfold m_X3_numberOf
    have e : nI i * (3 : Int32) + nI j = nI (3 * i + j) := by rw [show (3 : Int32) = nI 3 from rfl, pk_mul, nI_add, Nat.mul_comm]
    rw [e, if_pos (pu_inT (by omega) (by omega)), nI_clamp (by omega)]
  have nf0 : m_X3_numberOf Sc (nI i) 0 = some (Sc 3 (3 * i + 0)) := nf 0 (by omega)
  have nf1 : m_X3_numberOf Sc (nI i) 1 = some (Sc 3 (3 * i + 1)) := nf 1 (by omega)
  have nf2 : m_X3_numberOf Sc (nI i) 2 = some (Sc 3 (3 * i + 2)) := nf 2 (by omega)
  have lf : m_X3_letterOf Sc (nI i) = some (nI l) := by
    unfold m_X3_letterOf
    rw [if_pos (pu_inT (by omega) (by omega)), nI_clamp (by omega), l2]
  have e4 : (4 : Int32) * nI i = nI (4 * i) := by rw [show (4 : Int32) = nI 4 from rfl, pk_mul]
  have e41 : nI (4 * i) + (1 : Int32) = nI (4 * i + 1 + 0) := by rw [nI_1]
  have e42 : nI (4 * i) + (2 : Int32) = nI (4 * i + 1 + 1) := by rw [show (2 : Int32) = nI 2 from rfl, nI_add]
  have e43 : nI (4 * i) + (3 : Int32) = nI (4 * i + 1 + 2) := by rw [show (3 : Int32) = nI 3 from rfl, nI_add]
  have ii : ∀ j, j < 4 → sk_in (nI (4 * i + j)) 200 = true := fun j hj => pu_inT (by omega) (by omega)
  have b0 : sk_bl 0 = true := by decide
  have b1 : sk_bl 1 = true := by decide
  unfold m_X4_runInThought m_X5_does
  rw [nf0, pu_some, nf1, pu_some, nf2, pu_some, lf, pu_some, e4, e41, e42, e43, if_pos (pu_inT (by omega) (by omega)), nI_clamp (by omega), pu_let, if_pos (pu_inT (by omega) (by omega)), nI_clamp (by omega), pu_let, if_pos (pu_inT (by omega) (by omega)), nI_clamp (by omega), pu_let, if_pos (pu_inT (by omega) (by omega)), nI_clamp (by omega), l3]
  rcases wn_ne l1 with rfl | rfl | rfl | rfl | rfl
  · -- add
    obtain ⟨v, hv, v1, v2⟩ := l4 0 (by decide)
    rw [if_pos (show nI 97 = (97 : Int32) from rfl), if_pos (show nI 97 = (97 : Int32) from rfl), v1, v2]
    unfold m_X4_addInThought
    rcases m_add h.1.1 (nI v) with ⟨a1, -, a2⟩ | ⟨p, hp, hx, a1, -, ⟨a2, a3⟩ | ⟨a2, a3, a4⟩⟩
    · left
      rw [a1, pu_some, if_pos rfl, pu_some, if_pos b0, a2, pu_some, if_neg nle_1]
      exact ⟨rfl, rfl⟩
    · left
      rw [a1, pu_some, if_neg ne_10, a2, pu_some, if_neg ne_10, pu_some, if_pos b0, a3, pu_some, if_neg nle_2]
      exact ⟨rfl, rfl⟩
    · right
      rw [hx] at a1 a4 ⊢
      obtain ⟨N', M', c1, c2, c3, c4, c5, c6, -⟩ := o_add h.1 a2 hp
      rw [a1, pu_some, if_neg ne_10, a3, pu_some, if_pos rfl, c1, pu_some, pu_some, if_pos b1, a4, pu_some, if_pos le_00, c2, pu_some]
      exact ⟨cnt + 1, T, N', L, M', by omega, rfl, rfl, h.wk c3 c4 (fun x hx => c5 x hx) (by rw [c6 0 (by omega)]), FZ.one c6⟩
  · -- blink
    obtain ⟨v, hv, v1, v2⟩ := l4 0 (by decide)
    obtain ⟨u, hu, u1, u2⟩ := l4 1 (by decide)
    obtain ⟨t, ht, t1, t2⟩ := l4 2 (by decide)
    rw [if_neg (show ¬ nI 98 = (97 : Int32) by decide), if_pos (show nI 98 = (98 : Int32) from rfl), if_neg (show ¬ nI 98 = (97 : Int32) by decide), if_pos (show nI 98 = (98 : Int32) from rfl), v1, v2, u1, u2, t1, t2]
    unfold m_X4_blinkInThought
    rcases m_blink h.1.1 (nI v) (nI u) (nI t) with ⟨a1, -, a2⟩ | ⟨c, hc, hx, a1, -, ⟨a2, a3⟩ | ⟨R, O, r1, r2, r3, hy, hz, a2, a3⟩⟩
    · left
      rw [a1, pu_some, if_pos rfl, pu_some, if_pos b0, a2, pu_some, if_neg nle_1]
      exact ⟨rfl, rfl⟩
    · left
      rw [a1, pu_some, if_neg ne_10, a2, pu_some, if_pos rfl, pu_some, if_pos b0, a3, pu_some, if_neg nle_2]
      exact ⟨rfl, rfl⟩
    · right
      rw [hx, hy, hz] at a3
      rw [hx] at a1
      rw [hy, hz] at a2
      rw [hx, hy, hz]
      obtain ⟨c1, c2, c3⟩ := o_blink h.1 hc r1 r2 r3
      obtain ⟨q, q1, q2⟩ := q_blinkers c3.qr
      rw [a1, pu_some, if_neg ne_10, a2, pu_some, if_neg ne_10, c1, pu_some, pu_some, if_pos b1, a3, pu_some, if_pos le_00, c2, q2, pu_some, pu_some]
      exact ⟨cnt, T, _, L, _, by omega, rfl, rfl, h.wk c3 (by dsimp only; rw [pu_row (by omega), pu_row (by omega)]) (fun x hx => by rw [pu_m, if_neg (by omega), pu_m, if_neg (by omega), pu_m, if_neg (by omega)]) (by rw [pu_mrow (by omega), pu_mrow (by omega), pu_mrow (by omega)]), FZ.up.tr (FZ.up.tr FZ.up)⟩
  · -- link
    obtain ⟨v, hv, v1, v2⟩ := l4 0 (by decide)
    obtain ⟨u, hu, u1, u2⟩ := l4 1 (by decide)
    obtain ⟨t, ht, t1, t2⟩ := l4 2 (by decide)
    rw [if_neg (show ¬ nI 108 = (97 : Int32) by decide), if_neg (show ¬ nI 108 = (98 : Int32) by decide), if_pos (show nI 108 = (108 : Int32) from rfl), if_neg (show ¬ nI 108 = (97 : Int32) by decide), if_neg (show ¬ nI 108 = (98 : Int32) by decide), if_pos (show nI 108 = (108 : Int32) from rfl), v1, v2, u1, u2, t1, t2]
    unfold m_X4_linkInThought
    rcases m_link h.1.1 (nI v) (nI u) (nI t) with ⟨a1, -, a2⟩ | ⟨a, ha, hx, a1, -, ⟨a2, -, a3⟩ | ⟨b, hbb, hy, a2, -, ⟨a3, a4⟩ | ⟨a3, a4, a5⟩ | ⟨d, hd, hz, a3, hab, a4, a5⟩⟩⟩
    · left
      rw [a1, pu_some, if_pos rfl, pu_some, if_pos b0, a2, pu_some, if_neg nle_1]
      exact ⟨rfl, rfl⟩
    · left
      rw [a1, pu_some, if_neg ne_10, a2, pu_some, if_pos rfl, pu_some, if_pos b0, a3, pu_some, if_neg nle_1]
      exact ⟨rfl, rfl⟩
    · left
      rw [a1, pu_some, if_neg ne_10, a2, pu_some, if_neg ne_10, if_pos a3, pu_some, if_pos b0, a4, pu_some, if_neg nle_2]
      exact ⟨rfl, rfl⟩
    · left
      rw [a1, pu_some, if_neg ne_10, a2, pu_some, if_neg ne_10, if_neg a3, a4, pu_some, if_pos rfl, pu_some, if_pos b0, a5, pu_some, if_neg nle_2]
      exact ⟨rfl, rfl⟩
    · right
      rw [a1, pu_some, if_neg ne_10, a2, pu_some, if_neg ne_10, if_neg a3, a4, pu_some, if_neg ne_10, a5, pu_some, if_pos le_00, hx, hy, hz]
      obtain ⟨r, N', M', c1, c2, c3, c4, c5, c6, c7, -⟩ := o_link (dl := nI d) h.1 ha hbb hab (Or.inr ⟨d, hd, rfl⟩)
      unfold m_X5_doLink
      rw [c1, pu_some, pu_some, if_pos b1, c2, pu_some, c3, pu_some, pu_some]
      exact ⟨cnt, T, N', L, M', by omega, rfl, rfl, h.wk c4 (by rw [c5]) (fun x hx => c6 x (by omega)) (by rw [c7 0 (by omega)]), FZ.one c7⟩
  · -- phase
    obtain ⟨v, hv, v1, v2⟩ := l4 0 (by decide)
    obtain ⟨u, hu, u1, u2⟩ := l4 1 (by decide)
    rw [if_neg (show ¬ nI 112 = (97 : Int32) by decide), if_neg (show ¬ nI 112 = (98 : Int32) by decide), if_neg (show ¬ nI 112 = (108 : Int32) by decide), if_pos (show nI 112 = (112 : Int32) from rfl), if_neg (show ¬ nI 112 = (97 : Int32) by decide), if_neg (show ¬ nI 112 = (98 : Int32) by decide), if_neg (show ¬ nI 112 = (108 : Int32) by decide), if_pos (show nI 112 = (112 : Int32) from rfl), v1, v2, u1, u2]
    unfold m_X4_setPhaseInThought
    rcases m_phase h.1.1 (nI v) (nI u) with ⟨a1, -, a2⟩ | ⟨c, hc, hx, a1, -, ⟨a2, -, a3⟩ | ⟨p, hp, hy, a2, -, a3⟩⟩
    · left
      rw [a1, pu_some, if_pos rfl, pu_some, if_pos b0, a2, pu_some, if_neg nle_1]
      exact ⟨rfl, rfl⟩
    · left
      rw [a1, pu_some, if_neg ne_10, a2, pu_some, if_pos rfl, pu_some, if_pos b0, a3, pu_some, if_neg nle_2]
      exact ⟨rfl, rfl⟩
    · right
      have e8 : (8 : Int32) + nI c = nI (8 + c) := by rw [show (8 : Int32) = nI 8 from rfl, nI_add]
      obtain ⟨r, c1, -, c3⟩ := o_phase h.1 hc hp
      rw [a1, pu_some, if_neg ne_10, a2, pu_some, if_neg ne_10, a3, pu_some, if_pos le_00, hx, hy, c1, pu_some, pu_some, if_pos b1, e8, if_pos (pu_inT (by omega) (by omega)), nI_clamp (by omega), pu_let]
      exact ⟨cnt, T, _, L, _, by omega, rfl, rfl, h.wk c3 (by dsimp only; rw [pu_row (by omega)]) (fun x hx => by rw [pu_m, if_neg (by omega)]) (by rw [pu_mrow (by omega)]), FZ.up⟩
  · -- tick
    obtain ⟨v, hv, v1, v2⟩ := l4 0 (by decide)
    rw [if_neg (show ¬ nI 116 = (97 : Int32) by decide), if_neg (show ¬ nI 116 = (98 : Int32) by decide), if_neg (show ¬ nI 116 = (108 : Int32) by decide), if_neg (show ¬ nI 116 = (112 : Int32) by decide), if_pos (show nI 116 = (116 : Int32) from rfl), if_neg (show ¬ nI 116 = (97 : Int32) by decide), if_neg (show ¬ nI 116 = (98 : Int32) by decide), if_neg (show ¬ nI 116 = (108 : Int32) by decide), if_neg (show ¬ nI 116 = (112 : Int32) by decide), v1, v2]
    rcases m_tick (nI v) with ⟨a1, a2⟩ | ⟨n, n1, n2, hx, a1, a2⟩
    · left
      have v0 : v = 0 := by
        rcases Nat.eq_zero_or_pos v with h | h
        · exact h
        · exfalso
          rcases a_rng (x := nI v) (a := 1) (b := 99) (by omega) (by omega) with ⟨-, b2⟩ | ⟨j, j1, j2, -, b2, -⟩
          · rcases b2 with b2 | b2
            · have := (nI_ltI (by omega) (by omega)).mp b2; omega
            · have := (nI_ltI (by omega) (by omega)).mp b2; omega
          · have b2' : m_X5_within (nI v) 1 99 = some 1 := b2
            rw [b2'] at a2
            exact absurd a2 (by decide)
      subst v0
      rw [a1, pu_some, if_pos rfl, if_neg (show ¬ (1 : Int32) ≤ nI 0 by decide)]
      exact ⟨rfl, rfl⟩
    · right
      have hvn : v = n := (nI_eq (by omega) (by omega)).mp hx
      subst hvn
      obtain ⟨r, N', L', M', c0, c1, c2, c3, c4⟩ := t_pass (n := v) h (by omega) (by omega) (by omega)
      have le1 : (1 : Int32) ≤ nI v := (nI_leI (a := 1) (by omega) (by omega)).mpr n1
      rw [a1, pu_some, if_neg ne_10, if_pos le1, c1, pu_some, c2, pu_some]
      exact ⟨cnt, T + v, N', L', M', by omega, rfl, rfl, c3, c4.1, c4.2.1⟩
