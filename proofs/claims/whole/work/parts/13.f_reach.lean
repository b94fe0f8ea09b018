theorem TM.ph {cnt P T1 T2 F c q : Nat} {ol : List Nat} {ar : Nat → Nat → Bool} {bd bd' : Nat → Nat} {N : sk_N} {M : sk_M} (h : TM cnt P T1 T2 F ol ar bd N M) (hbd : ∀ x, x < cnt → x ≠ c → bd x ≤ bd' x) (hq : q < bd' c) :
    TM cnt P T1 T2 F ol ar bd' (sk_up N 2 c (nI q)) (md_up M 1 (8 + c) (nI q)) ∨ 10 ≤ c := by
  by_cases hc : c < 10
  · left
    obtain ⟨hst, htk, hph, ⟨f1, f2, f3, f4, f5, f6, f7, f8⟩, hpu⟩ := h
    refine ⟨hst.keep (by rw [pu_row (by omega)]) (by rw [pu_row (by omega)]) (pu_row (by omega)) (pu_row (by omega)) (pu_row (by omega)) (pu_row (by omega)) (pu_row (by omega)) (fun x hx => by rw [pu_m, if_neg (by omega)]), htk.keep (by rw [pu_row (by omega)]) (by rw [pu_m, if_neg (by omega)]), fun x hx => ?_, ⟨f1, by rw [pu_row (by omega)]; exact f2, by rw [pu_m, if_neg (by omega)]; exact f3, by rw [pu_row (by omega)]; exact f4, by rw [pu_mrow (by omega)]; exact f5, f6, f7, fun k o hk => by rw [pu_row (by omega), pu_mrow (by omega)]; exact f8 k o hk⟩, hpu.keep (pu_row (by omega)) (fun x a b => by rw [pu_m, if_neg (by omega)])⟩
    by_cases e : x = c
    · subst e
      exact ⟨q, hq, by rw [pu_sup, if_pos ⟨rfl, rfl⟩], by rw [pu_m, if_pos ⟨rfl, rfl⟩]⟩
    · obtain ⟨p', g1, g2, g3⟩ := hph x hx
      exact ⟨p', Nat.lt_of_lt_of_le g1 (hbd x hx e), by rw [pu_sup, if_neg (by omega)]; exact g2, by rw [pu_m, if_neg (by omega)]; exact g3⟩
  · right; omega
theorem NS.keep {T : Nat} {nl : List (Nat × Nat)} {ol : List Nat} {M M' : sk_M} (h : NS T nl ol M) (h0 : M'.1 0 10 = M.1 0 10) (h1 : ∀ x, x = 7 ∨ 258 ≤ x → M'.1 1 x = M.1 1 x) : NS T nl ol M' := by
  rcases h with ⟨b1, b2, b3, b4⟩ | b1
  · exact Or.inl ⟨by rw [h0]; exact b1, b2, by rw [h1 7 (by omega)]; exact b3, fun k x hk => by rw [h1 _ (by omega), h1 _ (by omega)]; exact b4 k x hk⟩
  · exact Or.inr (by rw [h0]; exact b1)
/-- in the midst of a tick, whoever has fired -/
def TX (m cnt P T1 T2 : Nat) (nl : List (Nat × Nat)) (ar : Nat → Nat → Bool) (bd : Nat → Nat) (N : sk_N) (M : sk_M) : Prop := ∃ (F : Nat) (ol : List Nat), TM cnt P T1 T2 F ol ar bd N M ∧ NS T2 nl ol M ∧ m ≤ ol.length
def mv (p k d P : Nat) : Nat := if d = 0 then p + p * k / 16 else if d = 1 then p + k else p + p * p * k / (16 * P)
theorem mv_lt {p k d P : Nat} (hp : p < P) (hP : P ≤ 100) (hk : k ≤ 32) (h10 : 10 ≤ P) : mv p k d P < 1000 := by
  unfold mv
  have h1 : p * k ≤ 100 * 32 := Nat.mul_le_mul (by omega) hk
  have h2 : p * k / 16 ≤ 200 := by omega
  have h3 : p * p * k / (16 * P) ≤ p * k / 16 := by
    have e : p * p * k = p * (p * k) := Nat.mul_assoc _ _ _
    rw [e]
    have e2 : p * (p * k) ≤ P * (p * k) := Nat.mul_le_mul_right _ (by omega)
    calc p * (p * k) / (16 * P) ≤ P * (p * k) / (16 * P) := Nat.div_le_div_right e2
      _ = p * k / 16 := by rw [Nat.mul_comm 16 P]; exact Nat.mul_div_mul_left _ _ (by omega)
  split
  · omega
  · split
    · omega
    · omega
theorem v_movedBy {N : sk_N} {p k d P : Nat} (hp : p < P) (hP : P ≤ 100) (h10 : 10 ≤ P) (hk : k ≤ 32) (e1 : N 1 1 = nI k) (e2 : N 1 2 = nI d) (e3 : N 0 1 = nI P) (hd : d ≤ 2) : m_X1_movedBy N (nI p) = some (nI (mv p k d P)) := by
  unfold m_X1_movedBy
  rw [if_pos (show sk_in (1 : Int32) 3 = true by decide), show ((1 : Int32)).toNatClampNeg = 1 from rfl, show ((2 : Int32)).toNatClampNeg = 2 from rfl]
  simp only [pu_let]
  rw [if_pos (show sk_in (2 : Int32) 3 = true by decide), e1, e2, e3, show (16 : Int32) = nI 16 from rfl, pk_mul, pk_mul, pk_mul, pk_mul]
  have b1 : p * k ≤ 100 * 32 := Nat.mul_le_mul (by omega) hk
  have b2 : p * p * k ≤ 100 * 100 * 32 := Nat.mul_le_mul (Nat.mul_le_mul (by omega) (by omega)) hk
  have c0 : nI d = (0 : Int32) ↔ d = 0 := nI_eq (b := 0) (by omega) (by omega)
  have c1 : nI d = (1 : Int32) ↔ d = 1 := nI_eq (b := 1) (by omega) (by omega)
  unfold mv
  by_cases h0 : d = 0
  · rw [if_pos (c0.mpr h0), if_pos h0, if_neg (show ¬ nI 16 = 0 by decide), pk_div (by omega) (by omega) (by omega), nI_add]
  · rw [if_neg (fun e => h0 (c0.mp e)), if_neg h0]
    by_cases h1 : d = 1
    · rw [if_pos (c1.mpr h1), if_pos h1, nI_add]
    · rw [if_neg (fun e => h1 (c1.mp e)), if_neg h1, if_neg (nI_ne0 (by omega) (by omega)), if_neg (nI_ne0 (by omega) (by omega)), pk_div (by omega) (by omega) (by omega), nI_add]
theorem f_reach {m cnt P T1 T2 c : Nat} {nl : List (Nat × Nat)} {ar : Nat → Nat → Bool} {N : sk_N} {M : sk_M} (h : TX m cnt P T1 T2 nl ar (fun _ => P) N M) (hc : c < cnt) :
    ∃ N' M', m_X1_reach N (nI c) = some N' ∧ m_X5_reaches M (nI c) = some M' ∧ TX m cnt P T1 T2 nl ar (fun _ => P) N' M' ∧ FM M M' ∧ N' 3 = N 3 ∧ N' 4 = N 4 := by
  obtain ⟨F, ol, hT, hn, hm⟩ := h
  obtain ⟨hst, htk, hph, ⟨f1, f2, f3, f4, f5, f6, f7, f8⟩, hpu⟩ := id hT
  have h10 : cnt ≤ 10 := hst.1.1
  obtain ⟨g1, g2, g3, g4⟩ := hst.2.2.2.2.1.1 c hc
  obtain ⟨p, p1, p2, p3⟩ := hph c hc
  have p1 : p < P := p1
  obtain ⟨r, k, d, r1, r2, r3, r4, r5, r6, r7, r8, r9⟩ := hst.2.2.2.1
  have hP := hst.1.2.2
  have hP10 := hst.1.2.1
  have eP := hst.2.2.1.1
  have eP' := hst.2.2.1.2
  have e28 : (28 : Int32) + nI c = nI (28 + c) := by rw [show (28 : Int32) = nI 28 from rfl, nI_add]
  have e8 : (8 : Int32) + nI c = nI (8 + c) := by rw [show (8 : Int32) = nI 8 from rfl, nI_add]
  have i28 : sk_in (nI (28 + c)) 378 = true := pu_inT (by omega) (by omega)
  have i8 : sk_in (nI (8 + c)) 378 = true := pu_inT (by omega) (by omega)
  have ic : sk_in (nI c) 10 = true := pu_inT (by omega) (by omega)
  have same : TX m cnt P T1 T2 nl ar (fun _ => P) N M := ⟨F, ol, hT, hn, hm⟩
  unfold m_X1_reach m_X5_reaches
  rw [v_isGood (by omega), v_hasFired f1 f2 (by omega), e28, e8, if_pos i8, nI_clamp (show 8 + c < 2 ^ 31 by omega), p3]
  simp only [pu_some, pu_let]
  rw [if_pos i28, nI_clamp (show 28 + c < 2 ^ 31 by omega)]
  rcases g4.symm with ⟨R, O, g5, g6, g7, g8, g9, -⟩ | ⟨g5, g6⟩
  · rw [if_pos g9, if_neg (show ¬ N 4 c = 0 by rw [g8]; exact nI_ne0 (by omega) (by omega)), if_pos rfl]
    exact ⟨N, M, rfl, rfl, same, FM.rf, rfl, rfl⟩
  rw [if_pos g5, if_neg (show ¬ (1 : Int32) = 0 by decide), if_neg (show ¬ M.1 1 (28 + c) = 1 by rw [g6]; decide)]
  rw [if_pos (show sk_in (1 : Int32) 378 = true by decide), show ((1 : Int32)).toNatClampNeg = 1 from rfl, r5, if_pos (show sk_in (6 : Int32) 378 = true by decide), pu_lit6, f3]
  rw [if_pos (show sk_in (0 : Int32) 3 = true by decide), show ((0 : Int32)).toNatClampNeg = 0 from rfl, r4, if_pos ic, nI_clamp (show c < 2 ^ 31 by omega), p2]
  have sh : (sk_shr (nI F) (nI c)) &&& (1 : Int32) = nI (if F.testBit c then 1 else 0) := by
    rw [pu_shr (by omega) (by omega), show (1 : Int32) = nI 1 from rfl, pu_and (Nat.lt_of_le_of_lt (Nat.div_le_self _ _) (by omega)) (by omega), pu_bit]
  rw [sh]
  have cw : nI p < nI r ↔ p < r := nI_ltI (by omega) (by omega)
  have cw2 : nI r ≤ nI p ↔ r ≤ p := nI_leI (by omega) (by omega)
  by_cases hb : F.testBit c = true
  · rw [if_pos hb, if_pos hb, if_neg (show ¬ (1 : Int32) = 0 by decide), if_pos (show nI 1 = (1 : Int32) from rfl)]
    by_cases hw : p < r
    · rw [if_pos (cw.mpr hw)]
      exact ⟨N, M, rfl, rfl, same, FM.rf, rfl, rfl⟩
    · rw [if_neg (fun e => hw (cw.mp e))]
      exact ⟨N, M, rfl, rfl, same, FM.rf, rfl, rfl⟩
  · have hb' : F.testBit c = false := by simpa using hb
    rw [if_neg hb, if_neg hb, if_pos (show (0 : Int32) = 0 from rfl), if_neg (show ¬ nI 0 = (1 : Int32) by decide)]
    by_cases hw : p < r
    · rw [if_pos (cw.mpr hw), if_neg (fun e => absurd (cw2.mp e) (by omega))]
      exact ⟨N, M, rfl, rfl, same, FM.rf, rfl, rfl⟩
    · rw [if_neg (fun e => hw (cw.mp e)), if_pos (cw2.mpr (by omega)), v_movedBy p1 hP hP10 r2 r6 r8 eP r3]
      simp only [pu_some, pu_let]
      have hq := mv_lt (d := d) p1 hP r2 hP10
      -- the model's new phase
      have hmo : (if sk_in (2 : Int32) 378 = true then if sk_in (3 : Int32) 378 = true then (if M.1 1 ((3 : Int32)).toNatClampNeg = 0 then (if (16 : Int32) = 0 then none else m_X5_reaches_103 (nI c) (M, nI p, ((nI p * M.1 1 ((2 : Int32)).toNatClampNeg) / (16 : Int32)))) else if sk_in (3 : Int32) 378 = true then (if M.1 1 ((3 : Int32)).toNatClampNeg = (1 : Int32) then m_X5_reaches_103 (nI c) (M, nI p, M.1 1 ((2 : Int32)).toNatClampNeg) else if sk_in (0 : Int32) 378 = true then (if ((16 : Int32) * M.1 1 0) = 0 then none else m_X5_reaches_103 (nI c) (M, nI p, (((nI p * nI p) * M.1 1 ((2 : Int32)).toNatClampNeg) / ((16 : Int32) * M.1 1 0)))) else none) else none) else none else none) = (if sk_in (nI (8 + c)) 378 = true then (if nI (mv p k d P) < (md_up M 1 (8 + c) (nI (mv p k d P))).1 1 0 then some (md_up M 1 (8 + c) (nI (mv p k d P))) else (m_X5_fires (md_up M 1 (8 + c) (nI (mv p k d P))) (nI c)).bind (fun r => some r)) else none) := by
        have b1 : p * k ≤ 100 * 32 := Nat.mul_le_mul (by omega) r2
        have b2 : p * p * k ≤ 100 * 100 * 32 := Nat.mul_le_mul (Nat.mul_le_mul (by omega) (by omega)) r2
        rw [if_pos (show sk_in (2 : Int32) 378 = true by decide), if_pos (show sk_in (3 : Int32) 378 = true by decide), if_pos (show sk_in (3 : Int32) 378 = true by decide), if_pos (show sk_in (0 : Int32) 378 = true by decide), show ((3 : Int32)).toNatClampNeg = 3 from rfl, show ((2 : Int32)).toNatClampNeg = 2 from rfl, r7, r9, eP']
        have c0 : nI d = (0 : Int32) ↔ d = 0 := nI_eq (b := 0) (by omega) (by omega)
        have c1 : nI d = (1 : Int32) ↔ d = 1 := nI_eq (b := 1) (by omega) (by omega)
        unfold m_X5_reaches_103
        dsimp only
        rw [e8, nI_clamp (show 8 + c < 2 ^ 31 by omega)]
        simp only [pu_let]
        rw [if_pos (show sk_in (0 : Int32) 378 = true by decide), if_pos (show sk_in (0 : Int32) 378 = true by decide), if_pos (show sk_in (0 : Int32) 378 = true by decide)]
        rw [show (16 : Int32) = nI 16 from rfl, pk_mul, pk_mul, pk_mul, pk_mul, show ((0 : Int32)).toNatClampNeg = 0 from rfl]
        unfold mv
        by_cases h0 : d = 0
        · rw [if_pos (c0.mpr h0), if_pos h0, if_neg (show ¬ nI 16 = 0 by decide), pk_div (by omega) (by omega) (by omega), nI_add]
        · rw [if_neg (fun e => h0 (c0.mp e)), if_neg h0]
          by_cases h1 : d = 1
          · rw [if_pos (c1.mpr h1), if_pos h1, nI_add]
          · rw [if_neg (fun e => h1 (c1.mp e)), if_neg h1, if_neg (nI_ne0 (by omega) (by omega)), pk_div (by omega) (by omega) (by omega), nI_add]
      generalize hqe : mv p k d P = q at hq hmo ⊢
      rw [hmo, if_pos i8, if_pos ic, if_pos ic, if_pos ic]
      have eA : sk_up N 2 c (nI q) 2 c = nI q := by rw [pu_sup, if_pos ⟨rfl, rfl⟩]
      have eB : sk_up N 2 c (nI q) 0 1 = nI P := by rw [pu_row (by omega)]; exact eP
      have eC : (md_up M 1 (8 + c) (nI q)).1 1 0 = nI P := by rw [pu_m, if_neg (by omega)]; exact eP'
      have cq : nI q < nI P ↔ q < P := nI_ltI (by omega) (by omega)
      have cA : sk_up N 2 c (nI q) 2 c < sk_up N 2 c (nI q) 0 1 ↔ q < P := by rw [eA, eB]; exact cq
      have cC : nI q < (md_up M 1 (8 + c) (nI q)).1 1 0 ↔ q < P := by rw [eC]; exact cq
      have fm : FM M (md_up M 1 (8 + c) (nI q)) := ⟨fun j _ h1 _ => pu_mrow h1, fun k _ => by rw [pu_mrow (by omega)], rfl, fun x hx => by rw [pu_m, if_neg (by omega)]⟩
      have hn' : NS T2 nl ol (md_up M 1 (8 + c) (nI q)) := hn.keep (by rw [pu_mrow (by omega)]) (fun x hx => by rw [pu_m, if_neg (by omega)])
      by_cases hlt : q < P
      · rw [if_pos (cA.mpr hlt), if_pos (cC.mpr hlt)]
        rcases hT.ph (q := q) (c := c) (bd' := fun _ => P) (fun _ _ _ => Nat.le_refl _) hlt with hh | hh
        · exact ⟨_, _, rfl, rfl, ⟨F, ol, hh, hn', hm⟩, fm, pu_row (by omega), pu_row (by omega)⟩
        · omega
      · rw [if_neg (fun e => hlt (cA.mp e)), if_neg (fun e => hlt (cC.mp e))]
        rcases hT.ph (q := q) (c := c) (bd' := fun x => if x = c then q + 1 else P) (fun x _ hx => by rw [if_neg hx]; exact Nat.le_refl _) (by rw [if_pos rfl]; omega) with hh | hh
        · obtain ⟨N', M', a1, a2, a3, a4, a5, a6, a7⟩ := f_fire (bd' := fun _ => P) hh hn' hc hb' (fun x hx => by rw [if_neg hx]; exact Nat.le_refl _) (by omega) (fun e => absurd (by rw [pu_row (by omega)]; exact g5) e)
          rw [a1, a2]
          exact ⟨N', M', rfl, rfl, ⟨_, _, a3, a4, by rw [List.length_append]; omega⟩, fm.tr a5, a6.trans (pu_row (by omega)), a7.trans (pu_row (by omega))⟩
        · omega
