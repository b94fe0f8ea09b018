/-! the text's calls -/
theorem nar_b8 {v : Nat} (hv : v < 128) : (nI v).toInt8.toInt32 = nI v := by
  apply Int32.toInt_inj.mp
  rw [Int8.toInt_toInt32, Int32.toInt_toInt8]
  have e : (nI v).toInt = v := nI_toInt (by omega)
  rw [e]
  apply Int.bmod_eq_of_le <;> omega
theorem nar_b {v : Nat} (hv : v < 128) : vp_nar .byte (nI v).toInt8.toInt32 = nI v := by
  rw [nar_b8 hv]
  exact nar_b8 hv
theorem g_append {len : Nat} {S : sk_N} {M : sk_M} (hT : TXT len S M) (x : Int32) : (∃ e v, m_X4_append S x = some (.inr e) ∧ m_X5_append M x = some (0, md_up M 0 4 v) ∧ ((e = 1 ∧ v = 1) ∨ (e = 2 ∧ v = 2))) ∨ ∃ r S' M' len', m_X4_append S x = some (.inl (r, S')) ∧ m_X5_append M x = some (r, M') ∧ TXT len' S' M' ∧ (∀ j, j ≠ 0 → j ≠ 4 → M'.1 j = M.1 j) ∧ (∀ k, k ≠ 4 → k ≠ 6 → M'.1 0 k = M.1 0 k) ∧ M'.1 0 4 = 0 := by
  obtain ⟨t1, t2, t3, t4⟩ := hT
  unfold m_X4_append m_X5_append m_X5_append_29
  rcases a_rng (x := x) (a := 0) (b := 127) (by omega) (by omega) with ⟨b1, b2⟩ | ⟨v, r1, r2, rfl, b1, b2, b3, b4, b5⟩
  · have b1' : m_X5_within x 0 127 = some 0 := b1
    rw [b1', pu_some, if_pos rfl, ref_1, pu_some, if_neg ne_10]
    by_cases hx : x < (0 : Int32)
    · rw [if_pos hx]
      exact Or.inl ⟨1, 1, rfl, rfl, Or.inl ⟨rfl, rfl⟩⟩
    · have h2 : (127 : Int32) < x := b2.resolve_left hx
      have h3 : ¬ x ≤ (127 : Int32) := fun h => by
        have a := Int32.lt_iff_toInt_lt.mp h2
        have b := Int32.le_iff_toInt_le.mp h
        omega
      rw [if_neg hx, if_neg h3]
      exact Or.inl ⟨1, 1, rfl, rfl, Or.inl ⟨rfl, rfl⟩⟩
  · have b1' : m_X5_within (nI v) 0 127 = some 1 := b1
    have b4' : nI v ≤ (127 : Int32) := b4
    rw [b1', pu_some, if_neg ne_10, if_neg b5, if_pos b4', t3]
    unfold m_X3_isFull
    rw [t2]
    by_cases hl : len = 100
    · subst hl
      rw [if_neg (show ¬ nI 100 < (100 : Int32) by decide), pu_some, if_neg ne_10, if_pos (show nI 100 = (100 : Int32) from rfl), ref_2, pu_some, if_neg ne_10]
      exact Or.inl ⟨2, 2, rfl, rfl, Or.inr ⟨rfl, rfl⟩⟩
    · have lt : nI len < (100 : Int32) := (nI_ltI (b := 100) (by omega) (by omega)).mpr (by omega)
      have ne : ¬ nI len = (100 : Int32) := fun e => hl ((nI_eq (b := 100) (by omega) (by omega)).mp e)
      have e6 : (md_up M 0 4 0).1 0 6 = nI len := by rw [pu_m, if_neg (by omega)]; exact t3
      have e6' : (md_up (md_up M 0 4 0) 4 len (nI v)).1 0 6 = nI len := by rw [pu_mrow (by omega)]; exact e6
      have s0 : sk_up S 1 len (nI v) 0 0 = nI len := by rw [pu_row (by omega)]; exact t2
      have nb : vp_nar .byte (nI v).toInt8.toInt32 = nI v := nar_b (by omega)
      unfold m_X3_put
      rw [if_pos lt, pu_some, if_pos rfl, t2, if_pos (pu_inT (by omega) (by omega)), nI_clamp (by omega), nb, pu_let, s0, nI_1, pu_let, pu_some, if_neg ne, ref_0, pu_some, if_pos rfl, e6, if_pos (pu_inT (by omega) (by omega)), nI_clamp (by omega), pu_let, e6', nI_1, pu_let]
      refine Or.inr ⟨nI (len + 1), sk_up (sk_up S 1 len (nI v)) 0 0 (nI (len + 1)), md_up (md_up (md_up M 0 4 0) 4 len (nI v)) 0 6 (nI (len + 1)), len + 1, ?_, ?_, ⟨by omega, ?_, ?_, fun i hi => ?_⟩, fun j a b => ?_, fun k a b => ?_, ?_⟩
      · rw [pu_sup, if_pos ⟨rfl, rfl⟩]
      · rw [pu_m, if_pos ⟨rfl, rfl⟩]
      · rw [pu_sup, if_pos ⟨rfl, rfl⟩]
      · rw [pu_m, if_pos ⟨rfl, rfl⟩]
      · rw [pu_row (by omega), pu_mrow (by omega), pu_sup, pu_m]
        by_cases hil : i = len
        · rw [if_pos ⟨rfl, hil⟩, if_pos ⟨rfl, hil⟩]
          exact ⟨v, r2, rfl, rfl⟩
        · rw [if_neg (by omega), if_neg (by omega), pu_mrow (by omega)]
          exact t4 i (by omega)
      · rw [pu_mrow (by omega), pu_mrow (by omega), pu_mrow (by omega)]
      · rw [pu_m, if_neg (by omega), pu_mrow (by omega), pu_m, if_neg (by omega)]
      · rw [pu_m, if_neg (by omega), pu_mrow (by omega), pu_m, if_pos ⟨rfl, rfl⟩]
theorem g_clearText {len : Nat} {S : sk_N} {M : sk_M} (hT : TXT len S M) : ∃ r S' M', m_X4_clearText S = some (r, S') ∧ m_X5_clearText M = some (r, M') ∧ TXT 0 S' M' ∧ (∀ j, j ≠ 0 → M'.1 j = M.1 j) ∧ ∀ k, k ≠ 4 → k ≠ 6 → M'.1 0 k = M.1 0 k := by
  obtain ⟨t1, t2, t3, t4⟩ := hT
  unfold m_X4_clearText m_X5_clearText
  have e6 : (md_up M 0 4 0).1 0 6 = nI len := by rw [pu_m, if_neg (by omega)]; exact t3
  rw [pu_let, pu_let, pu_let, pu_let, pu_let, t2, e6]
  refine ⟨_, _, _, rfl, rfl, ⟨by omega, by rw [pu_sup, if_pos ⟨rfl, rfl⟩]; rfl, by rw [pu_m, if_pos ⟨rfl, rfl⟩]; rfl, fun i hi => absurd hi (by omega)⟩, fun j a => ?_, fun k a b => ?_⟩
  · rw [pu_mrow (by omega), pu_mrow (by omega)]
  · rw [pu_m, if_neg (by omega), pu_m, if_neg (by omega)]
theorem x_43 (M : sk_M) : ∃ M', m_X5_execute_43 (M, 0) = m_X5_execute_72 (M', -1, 0) ∧ (∀ x, x < 378 → M'.1 3 x = M.1 1 x) ∧ ∀ j, j ≠ 3 → M'.1 j = M.1 j := by
  unfold m_X5_execute_43
  refine lp_F (step := m_X5_execute_43_step) (fun y => ∃ M', y = m_X5_execute_72 (M', -1, 0) ∧ (∀ x, x < 378 → M'.1 3 x = M.1 1 x) ∧ ∀ j, j ≠ 3 → M'.1 j = M.1 j) (fun j s => s.2 = nI j ∧ (∀ x, x < j → s.1.1 3 x = M.1 1 x) ∧ ∀ j, j ≠ 3 → s.1.1 j = M.1 j) 378 (by omega) _ ⟨rfl, fun x hx => absurd hx (by omega), fun _ _ => rfl⟩ ?_
  rintro k j ⟨B, z⟩ hj ⟨rfl, h1, h2⟩
  dsimp only at h1 h2 ⊢
  unfold m_X5_execute_43_step
  dsimp only
  by_cases hjc : j = 378
  · subst hjc
    left
    rw [if_pos (show (378 : Int32) ≤ nI 378 by decide)]
    exact ⟨B, rfl, h1, h2⟩
  · right
    refine ⟨by omega, ?_⟩
    rw [if_neg (show ¬ (378 : Int32) ≤ nI j from nI_ge (b := 378) (by omega) (by omega)), if_pos (pu_inT (by omega) (by omega)), if_pos (pu_inT (by omega) (by omega)), nI_clamp (by omega), pu_let, nI_1]
    refine ⟨_, rfl, rfl, fun x hx => ?_, fun i hi => ?_⟩
    · dsimp only
      rw [pu_m]
      by_cases hxj : x = j
      · rw [if_pos ⟨rfl, hxj⟩, hxj, h2 1 (by omega)]
      · rw [if_neg (by omega)]
        exact h1 x (by omega)
    · dsimp only
      rw [pu_mrow (by omega)]
      exact h2 i hi
theorem x_163 (M : sk_M) : ∃ M', m_X5_execute_163 (M, 0) = some (M.1 0 13, M') ∧ (∀ x, x < 378 → M'.1 1 x = M.1 3 x) ∧ ∀ j, j ≠ 1 → M'.1 j = M.1 j := by
  unfold m_X5_execute_163
  refine lp_F (step := m_X5_execute_163_step) (fun y => ∃ M', y = some (M.1 0 13, M') ∧ (∀ x, x < 378 → M'.1 1 x = M.1 3 x) ∧ ∀ j, j ≠ 1 → M'.1 j = M.1 j) (fun j s => s.2 = nI j ∧ (∀ x, x < j → s.1.1 1 x = M.1 3 x) ∧ ∀ j, j ≠ 1 → s.1.1 j = M.1 j) 378 (by omega) _ ⟨rfl, fun x hx => absurd hx (by omega), fun _ _ => rfl⟩ ?_
  rintro k j ⟨B, z⟩ hj ⟨rfl, h1, h2⟩
  dsimp only at h1 h2 ⊢
  unfold m_X5_execute_163_step
  dsimp only
  by_cases hjc : j = 378
  · subst hjc
    left
    rw [if_pos (show (378 : Int32) ≤ nI 378 by decide)]
    exact ⟨B, by rw [h2 0 (by omega)], h1, h2⟩
  · right
    refine ⟨by omega, ?_⟩
    rw [if_neg (show ¬ (378 : Int32) ≤ nI j from nI_ge (b := 378) (by omega) (by omega)), if_pos (pu_inT (by omega) (by omega)), if_pos (pu_inT (by omega) (by omega)), nI_clamp (by omega), pu_let, nI_1]
    refine ⟨_, rfl, rfl, fun x hx => ?_, fun i hi => ?_⟩
    · dsimp only
      rw [pu_m]
      by_cases hxj : x = j
      · rw [if_pos ⟨rfl, hxj⟩, hxj, h2 3 (by omega)]
      · rw [if_neg (by omega)]
        exact h1 x (by omega)
    · dsimp only
      rw [pu_mrow (by omega)]
      exact h2 i hi
theorem x_107 (M : sk_M) (f : Int32) : ∃ M', m_X5_execute_107 (M, f, 0) = (if f = -1 then (m_X5_saves M').bind (fun r => m_X5_execute_163 (r, 0)) else some (-1000 - f, M')) ∧ (∀ x, x < 378 → M'.1 1 x = M.1 3 x ∧ M'.1 3 x = M.1 1 x) ∧ ∀ j, j ≠ 1 → j ≠ 3 → M'.1 j = M.1 j := by
  unfold m_X5_execute_107
  refine lp_F (step := m_X5_execute_107_step) (fun y => ∃ M', y = (if f = -1 then (m_X5_saves M').bind (fun r => m_X5_execute_163 (r, 0)) else some (-1000 - f, M')) ∧ (∀ x, x < 378 → M'.1 1 x = M.1 3 x ∧ M'.1 3 x = M.1 1 x) ∧ ∀ j, j ≠ 1 → j ≠ 3 → M'.1 j = M.1 j) (fun j s => s.2 = (f, nI j) ∧ (∀ x, x < j → s.1.1 1 x = M.1 3 x ∧ s.1.1 3 x = M.1 1 x) ∧ (∀ x, j ≤ x → s.1.1 1 x = M.1 1 x ∧ s.1.1 3 x = M.1 3 x) ∧ ∀ j, j ≠ 1 → j ≠ 3 → s.1.1 j = M.1 j) 378 (by omega) _ ⟨rfl, fun x hx => absurd hx (by omega), fun _ _ => ⟨rfl, rfl⟩, fun _ _ _ => rfl⟩ ?_
  rintro k j ⟨B, z⟩ hj ⟨rfl, h1, h3, h2⟩
  dsimp only at h1 h2 h3 ⊢
  unfold m_X5_execute_107_step
  dsimp only
  by_cases hjc : j = 378
  · subst hjc
    left
    rw [if_pos (show (378 : Int32) ≤ nI 378 by decide)]
    exact ⟨B, rfl, h1, h2⟩
  · right
    refine ⟨by omega, ?_⟩
    rw [if_neg (show ¬ (378 : Int32) ≤ nI j from nI_ge (b := 378) (by omega) (by omega)), if_pos (pu_inT (by omega) (by omega)), nI_clamp (by omega), pu_let, if_pos (pu_inT (by omega) (by omega)), if_pos (pu_inT (by omega) (by omega)), pu_let, if_pos (pu_inT (by omega) (by omega)), pu_let, nI_1]
    refine ⟨_, rfl, rfl, fun x hx => ?_, fun x hx => ?_, fun i hi hi' => ?_⟩
    · dsimp only
      by_cases hxj : x = j
      · subst hxj
        rw [pu_mrow (by omega), pu_m, if_pos ⟨rfl, rfl⟩, pu_m, if_pos ⟨rfl, rfl⟩]
        exact ⟨(h3 x (by omega)).2, (h3 x (by omega)).1⟩
      · rw [pu_mrow (by omega), pu_m, if_neg (by omega), pu_m, if_neg (by omega), pu_mrow (by omega)]
        exact h1 x (by omega)
    · dsimp only
      rw [pu_mrow (by omega), pu_m, if_neg (by omega), pu_m, if_neg (by omega), pu_mrow (by omega)]
      exact h3 x (by omega)
    · dsimp only
      rw [pu_mrow (by omega), pu_mrow (by omega)]
      exact h2 i hi hi'
theorem g_execute {b len : Nat} {S1 S2 S3 S4 S7 S8 S9 S10 S11 S12 S13 S14 S15 S16 : sk_N} {M : sk_M} (hR : RW b S1 S2 (M.1 1)) (hS : SV b S7 S8 S9 S10 S11 S12 S13 S14 S15 M) (h0 : M.1 0 10 = 0) (hT : TXT len S16 M) (hl : LX S4) (hb : b + 4000 < 2 ^ 28) : ∃ r S1' S2' S7' S8' S9' S10' S11' S12' S13' S14' S15' S16' S3' S4' M', m_X4_execute S1 S2 S7 S8 S9 S10 S11 S12 S13 S14 S15 S16 S3 S4 = some (r, S1', S2', S7', S8', S9', S10', S11', S12', S13', S14', S15', S16', S3', S4') ∧ m_X5_execute M = some (r, M') ∧ RW (b + 4000) S1' S2' (M'.1 1) ∧ SV (b + 4000) S7' S8' S9' S10' S11' S12' S13' S14' S15' M' ∧ LX S4' ∧ M'.1 0 10 = 0 ∧ TXT len S16' M' := by
  have hT0 : TXT len S16 (md_up M 0 4 0) := hT.kp KP.u4
  unfold m_X4_execute
  rcases h_parse hT with ⟨Sc, M1, q, e1, e2, e3, fy⟩ | ⟨Sc, M1, c, q, e1, e2, fy, hP, hc⟩
  · rw [e1, pu_some, if_pos rfl, e3]
    refine ⟨-10 - nI q, S1, S2, S7, S8, S9, S10, S11, S12, S13, S14, S15, Sc, S3, S4, M1, ?_, rfl, ?_, ?_, hl, ?_, hT0.fy fy⟩
    · dsimp only
      rw [e2]
    · rw [fy.2.2.1 1 (by omega) (by omega), up_row]
      exact hR.mono (by omega)
    · exact (hS.up.keep (fy.2.2.1 2 (by omega) (by omega)) (fy.2.2.2 3 (by omega) (by omega))).mono (by omega)
    · rw [fy.2.2.2 10 (by omega) (by omega)]
      exact up_10 h0
  · obtain ⟨M2, z1, z2, z3⟩ := x_43 M1
    obtain ⟨A, La, v1, v2, v3⟩ := c_copy S3 S4 S1 S2
    have r1 : M2.1 1 = M.1 1 := by rw [z3 1 (by omega), fy.2.2.1 1 (by omega) (by omega), up_row]
    have f10 : M2.1 0 10 = 0 := by rw [z3 0 (by omega), fy.2.2.2 10 (by omega) (by omega)]; exact up_10 h0
    have hRA : RW b A La (M2.1 1) := by rw [r1]; exact hR.copy (Nat.le_refl _) v2 v3 (fun _ _ => rfl)
    obtain ⟨cnt, P, T, u1, u2⟩ := hRA.rs f10
    obtain ⟨p1, p2, p3, p4, p5⟩ := hP
    have m13 : M2.1 0 13 = nI c := by rw [z3 0 (by omega)]; exact p4
    have cm : ∀ i, i < c → CMD Sc M2 i := fun i hi => (p5 i hi).same rfl (fun _ _ => rfl) (fun j _ => by rw [z3 8 (by omega)])
    have hT2 : TXT len Sc M2 := (hT0.fy fy).kp ⟨by rw [z3 0 (by omega)], z3 4 (by omega), by rw [z3 0 (by omega)]⟩
    have hS2 : SV b S7 S8 S9 S10 S11 S12 S13 S14 S15 M2 := hS.up.keep (by rw [z3 2 (by omega), fy.2.2.1 2 (by omega) (by omega)]) (by rw [z3 0 (by omega), fy.2.2.2 3 (by omega) (by omega)])
    rw [e1, pu_some, if_neg ne_10, v1, pu_some, e2, z1]
    have key : (∃ j A' La' B, j < c ∧ m_X4_execute_34 (S1, S2, S7, S8, S9, S10, S11, S12, S13, S14, S15, Sc, A, La, 0) = some (-1000 - nI j, S1, S2, S7, S8, S9, S10, S11, S12, S13, S14, S15, Sc, A', La') ∧ m_X5_execute_72 (M2, -1, 0) = m_X5_execute_107 (B, nI j, 0) ∧ LX La' ∧ FZ M2 B) ∨ ∃ A' La' B cnt P T, T ≤ b + 3267 ∧ m_X4_execute_34 (S1, S2, S7, S8, S9, S10, S11, S12, S13, S14, S15, Sc, A, La, 0) = (m_X2_save S7 S8 S9 S10 S11 S12 S13 S14 S15 S1 S2).bind (fun r73 => (m_X1_copyFrom S1 S2 A' La').bind (fun r84 => some (Sc 0 2, r84.1, r84.2, r73.1, r73.2.1, r73.2.2.1, r73.2.2.2.1, r73.2.2.2.2.1, r73.2.2.2.2.2.1, r73.2.2.2.2.2.2.1, r73.2.2.2.2.2.2.2.1, r73.2.2.2.2.2.2.2.2, Sc, A', La'))) ∧ m_X5_execute_72 (M2, -1, 0) = m_X5_execute_107 (B, -1, 0) ∧ RS cnt P T T A' La' B ∧ FZ M2 B := by
      unfold m_X4_execute_34 m_X5_execute_72
      refine lp_DF (step := m_X4_execute_34_step) (step' := m_X5_execute_72_step) (fun y y' => (∃ j A' La' B, j < c ∧ y = some (-1000 - nI j, S1, S2, S7, S8, S9, S10, S11, S12, S13, S14, S15, Sc, A', La') ∧ y' = m_X5_execute_107 (B, nI j, 0) ∧ LX La' ∧ FZ M2 B) ∨ ∃ A' La' B cnt P T, T ≤ b + 3267 ∧ y = (m_X2_save S7 S8 S9 S10 S11 S12 S13 S14 S15 S1 S2).bind (fun r73 => (m_X1_copyFrom S1 S2 A' La').bind (fun r84 => some (Sc 0 2, r84.1, r84.2, r73.1, r73.2.1, r73.2.2.1, r73.2.2.2.1, r73.2.2.2.2.1, r73.2.2.2.2.2.1, r73.2.2.2.2.2.2.1, r73.2.2.2.2.2.2.2.1, r73.2.2.2.2.2.2.2.2, Sc, A', La'))) ∧ y' = m_X5_execute_107 (B, -1, 0) ∧ RS cnt P T T A' La' B ∧ FZ M2 B) (fun j s s' => ∃ A' La' cnt P T, s = (S1, S2, S7, S8, S9, S10, S11, S12, S13, S14, S15, Sc, A', La', nI j) ∧ s'.2 = (-1, nI j) ∧ T ≤ b + 99 * j ∧ RS cnt P T T A' La' s'.1 ∧ FZ M2 s'.1) c (by omega) _ _ ⟨A, La, cnt, P, T, rfl, rfl, by omega, u2, FZ.rf⟩ ?_
      rintro j s ⟨B, z⟩ hj ⟨A', La', cnt', P', T', rfl, rfl, w1, w2, w3⟩
      dsimp only at w2 w3 ⊢
      have b13 : B.1 0 13 = nI c := by rw [w3.2 13 (by omega)]; exact m13
      by_cases hjc : j = c
      · subst hjc
        have le : nI j ≤ nI j := (nI_leI (by omega) (by omega)).mpr (Nat.le_refl _)
        left
        refine ⟨_, _, Or.inr ⟨A', La', B, cnt', P', T', by omega, rfl, rfl, w2, w3⟩, fun k => ?_, Or.inl fun k => ?_⟩
        · unfold m_X4_execute_34_step
          dsimp only
          rw [if_pos (show Sc 0 2 ≤ nI j by rw [p3]; exact le)]
        · unfold m_X5_execute_72_step
          dsimp only
          rw [if_pos (show B.1 0 13 ≤ nI j by rw [b13]; exact le)]
      · have nle : ¬ nI c ≤ nI j := nI_ge (by omega) (by omega)
        have cmB : CMD Sc B j := (cm j (by omega)).same rfl (fun _ _ => rfl) (fun i _ => by rw [w3.1 8 (by omega) (by omega) (by omega) (by omega)])
        rcases e_does w2 cmB (by omega) (by omega) with ⟨d1, d2⟩ | ⟨cnt2, T2, N2, L2, M3, d0, d1, d2, d3, d4⟩
        · left
          refine ⟨_, _, Or.inl ⟨j, A', La', B, by omega, rfl, rfl, w2.lg, w3⟩, fun k => ?_, Or.inr ⟨(B, nI j, nI (j + 1)), fun k => ?_, fun k => ?_⟩⟩
          · unfold m_X4_execute_34_step
            dsimp only
            rw [if_neg (show ¬ Sc 0 2 ≤ nI j by rw [p3]; exact nle), d1, pu_some, if_pos rfl]
          · unfold m_X5_execute_72_step
            dsimp only
            rw [if_neg (show ¬ B.1 0 13 ≤ nI j by rw [b13]; exact nle), if_pos rfl, d2, pu_some, if_pos rfl, nI_1]
          · unfold m_X5_execute_72_step
            dsimp only
            by_cases h33 : B.1 0 13 ≤ nI (j + 1)
            · rw [if_pos h33]
            · rw [if_neg h33, if_neg (nm_ne (by omega))]
        · right
          refine ⟨by omega, (S1, S2, S7, S8, S9, S10, S11, S12, S13, S14, S15, Sc, N2, L2, nI (j + 1)), (M3, -1, nI (j + 1)), fun k => ?_, fun k => ?_, N2, L2, cnt2, P', T2, rfl, rfl, by omega, d3, w3.tr d4⟩
          · unfold m_X4_execute_34_step
            dsimp only
            rw [if_neg (show ¬ Sc 0 2 ≤ nI j by rw [p3]; exact nle), d1, pu_some, if_neg ne_10, nI_1]
          · unfold m_X5_execute_72_step
            dsimp only
            rw [if_neg (show ¬ B.1 0 13 ≤ nI j by rw [b13]; exact nle), if_pos rfl, d2, pu_some, if_neg ne_10, nI_1]
    have back : ∀ {B M3 : sk_M}, FZ M2 B → (∀ x, x < 378 → M3.1 1 x = B.1 3 x ∧ M3.1 3 x = B.1 1 x) → (∀ x, x < 378 → M3.1 1 x = M.1 1 x) := fun {B M3} hB h x hx => by
      rw [(h x hx).1, hB.1 3 (by omega) (by omega) (by omega) (by omega), z2 x hx, fy.2.2.1 1 (by omega) (by omega), up_row]
    rcases key with ⟨j, A', La', B, k1, k2, k3, k4, k5⟩ | ⟨A', La', B, cnt', P', T', k1, k2, k3, k4, k5⟩
    · obtain ⟨M3, y1, y2, y3⟩ := x_107 B (nI j)
      rw [if_neg (nm_ne (by omega))] at y1
      have row0 : M3.1 0 = B.1 0 := y3 0 (by omega) (by omega)
      rw [k2, k3, y1]
      refine ⟨_, S1, S2, S7, S8, S9, S10, S11, S12, S13, S14, S15, Sc, A', La', M3, rfl, rfl, (hR.copy (Nat.le_refl _) AG.rf AL.rf (back k5 y2)).mono (by omega), ((hS2.fz k5).keep (y3 2 (by omega) (by omega)) (by rw [row0])).mono (by omega), k4, ?_, (hT2.kp (KP.fz k5)).kp ⟨by rw [row0], y3 4 (by omega) (by omega), by rw [row0]⟩⟩
      rw [row0, k5.2 10 (by omega)]
      exact f10
    · obtain ⟨M3, y1, y2, y3⟩ := x_107 B (-1)
      rw [if_pos rfl] at y1
      have row0 : M3.1 0 = B.1 0 := y3 0 (by omega) (by omega)
      have hS3 : SV b S7 S8 S9 S10 S11 S12 S13 S14 S15 M3 := (hS2.fz k5).keep (y3 2 (by omega) (by omega)) (by rw [row0])
      have hR3 : RW b S1 S2 (M3.1 1) := hR.copy (Nat.le_refl _) AG.rf AL.rf (back k5 y2)
      obtain ⟨S7', S8', S9', S10', S11', S12', S13', S14', S15', M4, s1, s2, s3, s4, s5⟩ := s_save hS3 hR3
      obtain ⟨M5, t1, t2, t3⟩ := x_163 M4
      obtain ⟨N', L', c1, c2, c3⟩ := c_copy S1 S2 A' La'
      have r13 : M4.1 0 13 = nI c := by rw [s5 13 (by omega), row0, k5.2 13 (by omega)]; exact m13
      have kp : KP M2 M5 := ⟨by rw [t3 0 (by omega), s5 10 (by omega), row0, k5.2 10 (by omega)], by rw [t3 4 (by omega), s4 4 (by omega) (by omega), y3 4 (by omega) (by omega), k5.1 4 (by omega) (by omega) (by omega) (by omega)], by rw [t3 0 (by omega), s5 6 (by omega), row0, k5.2 6 (by omega)]⟩
      rw [k2, k3, y1, s1, pu_some, c1, pu_some, s2, pu_some, t1, r13, p3]
      refine ⟨_, N', L', S7', S8', S9', S10', S11', S12', S13', S14', S15', Sc, A', La', M5, rfl, rfl, ?_, ?_, k4.lg, kp.1.trans f10, hT2.kp kp⟩
      · have hB10 : B.1 0 10 = 0 := (k5.2 10 (by omega)).trans f10
        refine (k4.rw hB10 (b := b + 4000) (by omega)).copy (Nat.le_refl _) c2 c3 fun x hx => ?_
        rw [t2 x hx, s4 3 (by omega) (by omega)]
        exact (y2 x hx).2
      · exact (s3.keep (t3 2 (by omega)) (by rw [t3 0 (by omega)])).mono (by omega)
