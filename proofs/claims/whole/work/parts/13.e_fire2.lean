theorem pu_lit6 : ((6 : Int32)).toNatClampNeg = 6 := rfl
theorem TM.fire {cnt P T1 T2 F c : Nat} {ol : List Nat} {ar : Nat → Nat → Bool} {bd bd' : Nat → Nat} {N : sk_N} {M : sk_M} {N3 : sk_N} {M3 : sk_M} (h : TM cnt P T1 T2 F ol ar bd N M) (hc : c < cnt) (hb : F.testBit c = false)
    (hbd : ∀ x, x ≠ c → bd x ≤ bd' x) (hN : N3 = sk_up (sk_up (sk_up N 0 4 (nI (F ||| 2 ^ c))) 8 ol.length (nI c)) 0 13 (nI (ol.length + 1))) (hM : M3 = md_up (md_up (md_up M 5 ol.length (nI c)) 0 8 (nI (ol.length + 1))) 1 6 (nI (F ||| 2 ^ c)))
    {p : Nat} (hp : p < bd' c) : TM cnt P T1 T2 (F ||| 2 ^ c) (ol ++ [c]) ar bd' (sk_up N3 2 c (nI p)) (md_up M3 1 (8 + c) (nI p)) := by
  obtain ⟨hst, htk, hph, ⟨f1, f2, f3, f4, f5, f6, f7, f8⟩, hpu⟩ := h
  have h10 : cnt ≤ 10 := hst.1.1
  have hl : ol.length < 10 := by rw [f6]; exact pu_pc_lt f1 (by omega) hb
  have r : ∀ j, j ≠ 0 → j ≠ 8 → N3 j = N j := fun j h0 h8 => by rw [hN, pu_row h0, pu_row h8, pu_row h0]
  have r0 : ∀ k, k ≠ 4 → k ≠ 13 → N3 0 k = N 0 k := fun k h4 h13 => by rw [hN, pu_sup, if_neg (by omega), pu_sup, if_neg (by omega), pu_sup, if_neg (by omega)]
  have s1 : ∀ x, x ≠ 6 → M3.1 1 x = M.1 1 x := fun x h6 => by rw [hM, pu_m, if_neg (by omega), pu_m, if_neg (by omega), pu_m, if_neg (by omega)]
  refine ⟨hst.keep (by rw [pu_row (by omega)]; exact r0 0 (by omega) (by omega)) (by rw [pu_row (by omega)]; exact r0 1 (by omega) (by omega)) (by rw [pu_row (by omega)]; exact r 1 (by omega) (by omega)) (by rw [pu_row (by omega)]; exact r 3 (by omega) (by omega)) (by rw [pu_row (by omega)]; exact r 4 (by omega) (by omega)) (by rw [pu_row (by omega)]; exact r 5 (by omega) (by omega)) (by rw [pu_row (by omega)]; exact r 6 (by omega) (by omega)) (fun x hx => by rw [pu_m, if_neg (by omega)]; exact s1 x (by omega)),
    htk.keep (by rw [pu_row (by omega)]; exact r0 3 (by omega) (by omega)) (by rw [pu_m, if_neg (by omega)]; exact s1 4 (by omega)), fun x hx => ?_, ⟨pu_or_lt f1 (by omega), ?_, ?_, ?_, ?_, ?_, fun i hi => ?_, fun k o hk => ?_⟩, hpu.keep (by rw [pu_row (by omega)]; exact r 7 (by omega) (by omega)) (fun x a b => by rw [pu_m, if_neg (by omega)]; exact s1 x (by omega))⟩
  · by_cases e : x = c
    · subst e
      exact ⟨p, hp, by rw [pu_sup, if_pos ⟨rfl, rfl⟩], by rw [pu_m, if_pos ⟨rfl, rfl⟩]⟩
    · obtain ⟨p', g1, g2, g3⟩ := hph x hx
      exact ⟨p', Nat.lt_of_lt_of_le g1 (hbd x e), by rw [pu_sup, if_neg (by omega), r 2 (by omega) (by omega)]; exact g2, by rw [pu_m, if_neg (by omega), s1 _ (by omega)]; exact g3⟩
  · rw [pu_row (by omega), hN, pu_sup, if_neg (by omega), pu_sup, if_neg (by omega), pu_sup, if_pos ⟨rfl, rfl⟩]
  · rw [pu_m, if_neg (by omega), hM, pu_m, if_pos ⟨rfl, rfl⟩]
  · rw [pu_row (by omega), hN, pu_sup, if_pos ⟨rfl, rfl⟩]; simp
  · rw [pu_mrow (by omega), hM, pu_mrow (by omega), pu_m, if_pos ⟨rfl, rfl⟩]; simp
  · rw [List.length_append, pu_pc_or f1 (by omega) hb, f6]; rfl
  · rw [pu_or_bit] at hi
    simp only [Bool.or_eq_true, decide_eq_true_eq] at hi
    rcases hi with hi | hi
    · exact f7 i hi
    · omega
  · have hk60 : k < ol.length + 1 := by have := (List.getElem?_eq_some_iff.mp hk).1; simpa using this
    rw [pu_row (by omega), pu_mrow (by omega), hN, hM, pu_row (by omega), pu_mrow (by omega), pu_sup, pu_mrow (by omega), pu_m]
    by_cases e : k = ol.length
    · subst e
      rw [List.getElem?_append_right (Nat.le_refl _), Nat.sub_self] at hk
      cases hk
      rw [if_pos ⟨rfl, rfl⟩, if_pos ⟨rfl, rfl⟩]
      exact ⟨hc, rfl, rfl⟩
    · rw [List.getElem?_append_left (by omega)] at hk
      rw [if_neg (by omega), if_neg (by omega), pu_row (by omega)]
      exact f8 k o hk
/-- a clock fires, on both sides -/
theorem f_fire {cnt P T1 T2 F c : Nat} {ol : List Nat} {nl : List (Nat × Nat)} {ar : Nat → Nat → Bool} {bd bd' : Nat → Nat} {N : sk_N} {M : sk_M} (h : TM cnt P T1 T2 F ol ar bd N M) (hn : NS T2 nl ol M) (hc : c < cnt) (hb : F.testBit c = false)
    (hbd : ∀ x, x ≠ c → bd x ≤ bd' x) (h0 : 0 < bd' c) (hbl : N 4 c ≠ 0 → bd c ≤ bd' c) :
    ∃ N' M', m_X1_fire N (nI c) = some N' ∧ m_X5_fires M (nI c) = some M' ∧ TM cnt P T1 T2 (F ||| 2 ^ c) (ol ++ [c]) ar bd' N' M' ∧ NS T2 nl (ol ++ [c]) M' ∧ FM M M' ∧ N' 3 = N 3 ∧ N' 4 = N 4 := by
  obtain ⟨hst, htk, hph, ⟨f1, f2, f3, f4, f5, f6, f7, f8⟩, hpu⟩ := id h
  have h10 : cnt ≤ 10 := hst.1.1
  have hl : ol.length < 10 := by rw [f6]; exact pu_pc_lt f1 (by omega) hb
  have h2 : (2 : Nat) ^ c < 2 ^ 10 := Nat.pow_lt_pow_right (by omega) (by omega)
  obtain ⟨g1, g2, g3, g4⟩ := hst.2.2.2.2.1.1 c hc
  obtain ⟨p, p1, p2, p3⟩ := hph c hc
  -- the class
  have hcl : m_X1_fire N (nI c) = if N 4 c = 0 then m_X1_fire_70 (nI c) (sk_up (sk_up (sk_up (sk_up N 0 4 (nI (F ||| 2 ^ c))) 8 ol.length (nI c)) 0 13 (nI (ol.length + 1))) 2 c (nI 0), 0) else m_X1_fire_70 (nI c) (sk_up (sk_up (sk_up N 0 4 (nI (F ||| 2 ^ c))) 8 ol.length (nI c)) 0 13 (nI (ol.length + 1)), 0) := by
    unfold m_X1_fire
    rw [v_hasFired f1 f2 (by omega), hb]
    simp only [pu_some, pu_let]
    rw [if_neg (show ¬ (false = true) by decide), if_pos rfl]
    have q1 : N 0 13 < (10 : Int32) := by rw [f4]; exact nI_lt (b := 10) hl (by omega)
    rw [if_pos q1, f2, pu_shl (by omega), pu_or (by omega) (by omega)]
    have q2 : sk_up N 0 4 (nI (F ||| 2 ^ c)) 0 13 = nI ol.length := by rw [pu_sup, if_neg (by omega)]; exact f4
    rw [q2, if_pos (pu_inT hl (by omega)), nI_clamp (by omega)]
    have q3 : sk_up (sk_up N 0 4 (nI (F ||| 2 ^ c))) 8 ol.length (nI c) 0 13 = nI ol.length := by rw [pu_sup, if_neg (by omega)]; exact q2
    rw [q3, nI_1, v_isGood (by omega)]
    simp only [pu_some]
    have q4 : sk_up (sk_up (sk_up N 0 4 (nI (F ||| 2 ^ c))) 8 ol.length (nI c)) 0 13 (nI (ol.length + 1)) 4 c = N 4 c := by rw [pu_row (by omega), pu_row (by omega), pu_row (by omega)]
    rw [q4, if_pos (pu_inT (show c < 10 by omega) (by omega)), nI_clamp (by omega)]
    by_cases e : N 4 c = 0
    · rw [if_pos e, if_pos e, if_neg (by decide)]; rfl
    · rw [if_neg e, if_neg e, if_pos rfl]
  -- the model
  have hmo : m_X5_fires M (nI c) = if N 4 c = 0 then m_X5_fires_70 (nI c) (md_up (md_up (md_up (md_up M 5 ol.length (nI c)) 0 8 (nI (ol.length + 1))) 1 6 (nI (F ||| 2 ^ c))) 1 (8 + c) (nI 0), 0) else m_X5_fires_70 (nI c) (md_up (md_up (md_up (md_up M 5 ol.length (nI c)) 0 8 (nI (ol.length + 1))) 1 6 (nI (F ||| 2 ^ c))) 1 (8 + c) (nI p), 0) := by
    unfold m_X5_fires
    rw [f5, if_pos (pu_inT hl (by omega)), nI_clamp (by omega)]
    simp only [pu_let]
    have q2 : (md_up M 5 ol.length (nI c)).1 0 8 = nI ol.length := by rw [pu_m, if_neg (by omega)]; exact f5
    rw [q2, nI_1, if_pos (show sk_in (6 : Int32) 378 = true by decide), if_pos (show sk_in (6 : Int32) 378 = true by decide), pu_lit6]
    have q3 : (md_up (md_up M 5 ol.length (nI c)) 0 8 (nI (ol.length + 1))).1 1 6 = nI F := by rw [pu_mrow (by omega), pu_mrow (by omega)]; exact f3
    have e28 : (28 : Int32) + nI c = nI (28 + c) := by rw [show (28 : Int32) = nI 28 from rfl, nI_add]
    have e8 : (8 : Int32) + nI c = nI (8 + c) := by rw [show (8 : Int32) = nI 8 from rfl, nI_add]
    rw [q3, pu_shl (by omega), pu_or (by omega) (by omega), e28, e8, if_pos (pu_inT (show 28 + c < 378 by omega) (by omega)), nI_clamp (by omega), if_pos (pu_inT (show 8 + c < 378 by omega) (by omega)), nI_clamp (by omega)]
    have q4 : ∀ x, x ≠ 6 → (md_up (md_up (md_up M 5 ol.length (nI c)) 0 8 (nI (ol.length + 1))) 1 6 (nI (F ||| 2 ^ c))).1 1 x = M.1 1 x := fun x hx => by rw [pu_m, if_neg (by omega), pu_mrow (by omega), pu_mrow (by omega)]
    rw [q4 (28 + c) (by omega), q4 (8 + c) (by omega), p3]
    unfold m_X5_fires_67
    dsimp only
    rw [if_pos (pu_inT (show 8 + c < 378 by omega) (by omega)), nI_clamp (by omega)]
    simp only [pu_let]
    rcases g4 with ⟨g5, g6⟩ | ⟨R, O, g5, g6, g7, g8, g9, -⟩
    · rw [if_neg (by rw [g6]; decide), if_pos g5, if_pos (pu_inT (show 8 + c < 378 by omega) (by omega))]; rfl
    · rw [if_pos g9, if_neg (by rw [g8]; exact nI_ne0 (by omega) (by omega))]
  have fin : ∀ (N4 : sk_N) (M4 : sk_M), TM cnt P T1 T2 (F ||| 2 ^ c) (ol ++ [c]) ar bd' N4 M4 → NS T2 nl ol M4 → FM M M4 → N4 3 = N 3 → N4 4 = N 4 → ∃ N' M', m_X1_fire_70 (nI c) (N4, 0) = some N' ∧ m_X5_fires_70 (nI c) (M4, 0) = some M' ∧ TM cnt P T1 T2 (F ||| 2 ^ c) (ol ++ [c]) ar bd' N' M' ∧ NS T2 nl (ol ++ [c]) M' ∧ FM M M' ∧ N' 3 = N 3 ∧ N' 4 = N 4 := by
    intro N4 M4 h4 hn4 hf4 hy hx
    obtain ⟨N5, M5, a1, a2, a3, a4, a5, a6, a7, a8, a9⟩ := f_loop h4 hc
    have hn5 : NS T2 nl ol M5 := by
      rcases hn4 with ⟨b1, b2, b3, b4⟩ | b1
      · exact Or.inl ⟨by rw [a7]; exact b1, b2, by rw [a5 7 (by omega)]; exact b3, fun k x hk => by rw [a5 _ (by omega), a5 _ (by omega)]; exact b4 k x hk⟩
      · exact Or.inr (by rw [a7]; exact b1)
    obtain ⟨M6, b1, b2, b3⟩ := n_fire (c := c) hn5 a3.2.1.2.2.2
    exact ⟨N5, M6, a1, by rw [a2, b1]; rfl, a3.note b3, b2, (hf4.tr a4).tr b3.fm, a8.trans hy, a9.trans hx⟩
  have hns : ∀ v, NS T2 nl ol (md_up (md_up (md_up (md_up M 5 ol.length (nI c)) 0 8 (nI (ol.length + 1))) 1 6 (nI (F ||| 2 ^ c))) 1 (8 + c) v) := by
    intro v
    have q4 : ∀ x, x ≠ 6 → x ≠ 8 + c → (md_up (md_up (md_up (md_up M 5 ol.length (nI c)) 0 8 (nI (ol.length + 1))) 1 6 (nI (F ||| 2 ^ c))) 1 (8 + c) v).1 1 x = M.1 1 x := fun x hx h8 => by rw [pu_m, if_neg (by omega), pu_m, if_neg (by omega), pu_mrow (by omega), pu_mrow (by omega)]
    have q5 : (md_up (md_up (md_up (md_up M 5 ol.length (nI c)) 0 8 (nI (ol.length + 1))) 1 6 (nI (F ||| 2 ^ c))) 1 (8 + c) v).1 0 10 = M.1 0 10 := by rw [pu_mrow (by omega), pu_mrow (by omega), pu_m, if_neg (by omega), pu_mrow (by omega)]
    rcases hn with ⟨b1, b2, b3, b4⟩ | b1
    · exact Or.inl ⟨by rw [q5]; exact b1, b2, by rw [q4 7 (by omega) (by omega)]; exact b3, fun k x hk => by rw [q4 _ (by omega) (by omega), q4 _ (by omega) (by omega)]; exact b4 k x hk⟩
    · exact Or.inr (by rw [q5]; exact b1)
  have hfm : ∀ v, FM M (md_up (md_up (md_up (md_up M 5 ol.length (nI c)) 0 8 (nI (ol.length + 1))) 1 6 (nI (F ||| 2 ^ c))) 1 (8 + c) v) := fun v => ⟨fun j a b d => by rw [pu_mrow b, pu_mrow b, pu_mrow a, pu_mrow d], fun k hk => by rw [pu_mrow (by omega), pu_mrow (by omega), pu_m, if_neg (by omega), pu_mrow (by omega)], rfl, fun x hx => by rw [pu_m, if_neg (by omega), pu_m, if_neg (by omega), pu_mrow (by omega), pu_mrow (by omega)]⟩
  rw [hcl, hmo]
  by_cases e : N 4 c = 0
  · rw [if_pos e, if_pos e]
    exact fin _ _ (h.fire hc hb hbd rfl rfl h0) (hns _) (hfm _) (by rw [pu_row (by omega), pu_row (by omega), pu_row (by omega), pu_row (by omega)]) (by rw [pu_row (by omega), pu_row (by omega), pu_row (by omega), pu_row (by omega)])
  · rw [if_neg e, if_neg e]
    have key := h.fire (p := p) hc hb hbd rfl rfl (Nat.lt_of_lt_of_le p1 (hbl e))
    have same : sk_up (sk_up (sk_up (sk_up N 0 4 (nI (F ||| 2 ^ c))) 8 ol.length (nI c)) 0 13 (nI (ol.length + 1))) 2 c (nI p) = sk_up (sk_up (sk_up N 0 4 (nI (F ||| 2 ^ c))) 8 ol.length (nI c)) 0 13 (nI (ol.length + 1)) := by
      funext a b
      rw [pu_sup]
      by_cases q : a = 2 ∧ b = c
      · obtain ⟨rfl, rfl⟩ := q
        rw [if_pos ⟨rfl, rfl⟩, pu_row (by omega), pu_row (by omega), pu_row (by omega)]
        exact p2.symm
      · rw [if_neg q]
    rw [same] at key
    exact fin _ _ key (hns _) (hfm _) (by rw [pu_row (by omega), pu_row (by omega), pu_row (by omega)]) (by rw [pu_row (by omega), pu_row (by omega), pu_row (by omega)])
