/-! the changes -/
theorem RW.wk {b T cnt P : Nat} {nl : List (Nat × Nat)} {N N' L : sk_N} {w w' : Nat → Int32} (hT : T ≤ b) (h : RX cnt P T T N' w') (hf : FQ N w) (hl : LG nl L) (hn : NT nl w) (h4 : N' 0 4 = N 0 4) (hw : WK w w') : RW b N' L w' := ⟨cnt, P, T, nl, hT, h, hf.wk h4 hw, hl, hn.wk hw⟩
theorem RS.rw {b T cnt P : Nat} {N L : sk_N} {M : sk_M} (h : RS cnt P T T N L M) (h10 : M.1 0 10 = 0) (hT : T ≤ b) : RW b N L (M.1 1) := by
  obtain ⟨h1, h2, nl, h3, h4⟩ := h
  rcases h4 with ⟨-, -, h4⟩ | h4
  · exact ⟨cnt, P, T, nl, hT, h1, h2, h3, h4⟩
  · rw [h10] at h4; exact absurd h4 (by decide)
theorem RW.rs {b : Nat} {N L : sk_N} {M : sk_M} (h : RW b N L (M.1 1)) (h10 : M.1 0 10 = 0) : ∃ cnt P T, T ≤ b ∧ RS cnt P T T N L M := by
  obtain ⟨cnt, P, T, nl, h1, h2, h3, h4, h5⟩ := h
  exact ⟨cnt, P, T, h1, h2, h3, nl, h4, Or.inl ⟨h10, rfl, h5⟩⟩
def MU (b : Nat) (S2 : sk_N) (M : sk_M) (C : Option ((Int32 × sk_N × sk_N × sk_N × sk_N × sk_N × sk_N × sk_N × sk_N × sk_N × sk_N) ⊕ Nat)) (D : Option (Int32 × sk_M)) (E : Nat → Int32 → Prop) : Prop :=
  (∃ e v, C = some (.inr e) ∧ D = some (0, md_up M 0 4 v) ∧ E e v) ∨ ∃ r S1' S7' S8' S9' S10' S11' S12' S13' S14' S15' M', C = some (.inl (r, S1', S7', S8', S9', S10', S11', S12', S13', S14', S15')) ∧ D = some (r, M') ∧ RW b S1' S2 (M'.1 1) ∧ SV b S7' S8' S9' S10' S11' S12' S13' S14' S15' M' ∧ KP M M' ∧ M'.1 0 4 = 0
theorem g_add {b : Nat} {S1 S2 S7 S8 S9 S10 S11 S12 S13 S14 S15 : sk_N} {M : sk_M} (hR : RW b S1 S2 (M.1 1)) (hS : SV b S7 S8 S9 S10 S11 S12 S13 S14 S15 M) (x : Int32) : MU b S2 M (m_X4_add S1 S2 S7 S8 S9 S10 S11 S12 S13 S14 S15 x) (m_X5_add M x) (fun e v => (e = 1 ∧ v = 1) ∨ (e = 2 ∧ v = 2)) := by
  obtain ⟨cnt, P, T, nl, a1, a2, a3, a4, a5⟩ := id hR
  unfold m_X4_add m_X5_add
  rcases m_add a2.1 x with ⟨b1, b2, b3⟩ | ⟨p, hp, rfl, b1, b2, ⟨b3, b4⟩ | ⟨b3, b4, b5⟩⟩
  · rw [b2, pu_xe, b3, pu_some, ref_1, pu_some, if_neg ne_10]
    exact Or.inl ⟨1, 1, rfl, rfl, Or.inl ⟨rfl, rfl⟩⟩
  · rw [b2, pu_xb, b3, pu_some, if_neg ne_10, b4, pu_some, ref_2, pu_some, if_neg ne_10]
    exact Or.inl ⟨2, 2, rfl, rfl, Or.inr ⟨rfl, rfl⟩⟩
  · obtain ⟨S7', S8', S9', S10', S11', S12', S13', S14', S15', M1, s1, s2, s3, s4, s5, s6⟩ := s_save0 hS hR
    obtain ⟨N', M', c1, c2, c3, c4, c5, c6, -⟩ := o_add (M := M1) (by rw [s4]; exact a2) b3 hp
    rw [b2, pu_xb, b4, pu_some, if_pos rfl, s1, pu_some, c1, pu_some, b5, pu_some, ref_0, pu_some, if_pos rfl, s2, pu_some, c2, pu_some]
    exact Or.inr ⟨_, N', S7', S8', S9', S10', S11', S12', S13', S14', S15', M', rfl, rfl, RW.wk a1 c3 a3 a4 a5 c4 (fun x hx => (c5 x hx).trans (by rw [s4])), s3.fz (FZ.one c6), s5.tr (KP.fz (FZ.one c6)), by rw [c6 0 (by omega)]; exact s6⟩
theorem g_setPhase {b : Nat} {S1 S2 S7 S8 S9 S10 S11 S12 S13 S14 S15 : sk_N} {M : sk_M} (hR : RW b S1 S2 (M.1 1)) (hS : SV b S7 S8 S9 S10 S11 S12 S13 S14 S15 M) (x y : Int32) : MU b S2 M (m_X4_setPhase S1 S2 S7 S8 S9 S10 S11 S12 S13 S14 S15 x y) (m_X5_setPhase M x y) (fun e v => (e = 3 ∧ v = 1) ∨ (e = 1 ∧ v = 2)) := by
  obtain ⟨cnt, P, T, nl, a1, a2, a3, a4, a5⟩ := id hR
  have h10 := a2.1.1.1
  unfold m_X4_setPhase m_X5_setPhase
  rcases m_phase a2.1 x y with ⟨b1, b2, b3⟩ | ⟨c, hc, rfl, b1, b2, ⟨b3, b4, b5⟩ | ⟨p, hp, rfl, b3, b4, b5⟩⟩
  · rw [b2, pu_xe, b3, pu_some, ref_1, pu_some, if_neg ne_10]
    exact Or.inl ⟨3, 1, rfl, rfl, Or.inl ⟨rfl, rfl⟩⟩
  · rw [b2, pu_xb, b4, pu_xe, b5, pu_some, ref_2, pu_some, if_neg ne_10]
    exact Or.inl ⟨1, 2, rfl, rfl, Or.inr ⟨rfl, rfl⟩⟩
  · obtain ⟨S7', S8', S9', S10', S11', S12', S13', S14', S15', M1, s1, s2, s3, s4, s5, s6⟩ := s_save0 hS hR
    obtain ⟨r, c1, c2, c3⟩ := o_phase (M := M1) (by rw [s4]; exact a2) hc hp
    have e8 : (8 : Int32) + nI c = nI (8 + c) := by rw [show (8 : Int32) = nI 8 from rfl, nI_add]
    rw [b2, pu_xb, b4, pu_xb, s1, pu_some, c1, pu_some, b5, pu_some, ref_0, pu_some, if_pos rfl, s2, pu_some, e8, if_pos (pu_inT (by omega) (by omega)), nI_clamp (by omega), pu_let, if_pos (pu_inT (by omega) (by omega)), pu_let, c2]
    exact Or.inr ⟨_, _, S7', S8', S9', S10', S11', S12', S13', S14', S15', _, rfl, rfl, RW.wk a1 c3 a3 a4 a5 (by dsimp only; rw [pu_row (by omega)]) (fun x hx => by rw [pu_m, if_neg (by omega), s4]), s3.fz FZ.up, s5.tr (KP.fz FZ.up), by rw [pu_mrow (by omega)]; exact s6⟩
theorem m_drift (x : Int32) : ((x < -9 ∨ (¬ x < -9 ∧ ¬ x ≤ 9)) ∧ m_X5_within x (-9) 9 = some 0) ∨ (¬ x < -9 ∧ x ≤ 9 ∧ m_X5_within x (-9) 9 = some 1 ∧ -9 ≤ x.toInt ∧ x.toInt ≤ 9) := by
  unfold m_X5_within
  by_cases h1 : x < -9
  · left
    rw [if_pos h1]
    exact ⟨Or.inl h1, rfl⟩
  · rw [if_neg h1]
    by_cases h2 : x ≤ 9
    · right
      have h3 : ¬ (9 : Int32) < x := fun h => by
        have a := Int32.lt_iff_toInt_lt.mp h
        have b := Int32.le_iff_toInt_le.mp h2
        omega
      rw [if_neg h3]
      refine ⟨h1, h2, rfl, ?_, ?_⟩
      · have : ¬ x.toInt < (-9 : Int32).toInt := fun h => h1 (Int32.lt_iff_toInt_lt.mpr h)
        have e : (-9 : Int32).toInt = -9 := by decide
        omega
      · have b := Int32.le_iff_toInt_le.mp h2
        have e : (9 : Int32).toInt = 9 := by decide
        omega
    · left
      have h3 : (9 : Int32) < x := Int32.lt_iff_toInt_lt.mpr (by
        have : ¬ x.toInt ≤ (9 : Int32).toInt := fun h => h2 (Int32.le_iff_toInt_le.mpr h)
        omega)
      rw [if_pos h3]
      exact ⟨Or.inr ⟨h1, h2⟩, rfl⟩
theorem g_setDrift {b : Nat} {S1 S2 S7 S8 S9 S10 S11 S12 S13 S14 S15 : sk_N} {M : sk_M} (hR : RW b S1 S2 (M.1 1)) (hS : SV b S7 S8 S9 S10 S11 S12 S13 S14 S15 M) (x y : Int32) : MU b S2 M (m_X4_setDrift S1 S2 S7 S8 S9 S10 S11 S12 S13 S14 S15 x y) (m_X5_setDrift M x y) (fun e v => (e = 3 ∧ v = 1) ∨ (e = 1 ∧ v = 2)) := by
  obtain ⟨cnt, P, T, nl, a1, a2, a3, a4, a5⟩ := id hR
  have h10 := a2.1.1.1
  unfold m_X4_setDrift m_X5_setDrift m_X5_setDrift_29
  rcases a_clk a2.1 x with ⟨b1, b2, b3⟩ | ⟨c, hc, rfl, b1, b2, b3⟩
  · rw [b2, pu_xe, b3, pu_some, if_pos rfl, ref_1, pu_some, if_neg ne_10]
    exact Or.inl ⟨3, 1, rfl, rfl, Or.inl ⟨rfl, rfl⟩⟩
  · rcases m_drift y with ⟨d1, d2⟩ | ⟨d1, d2, d3, d4, d5⟩
    · rw [b2, pu_xb, b3, pu_some, if_neg ne_10, d2, pu_some, if_pos rfl, ref_2, pu_some, if_neg ne_10]
      rcases d1 with d1 | ⟨d1, d1'⟩
      · rw [if_pos d1]
        exact Or.inl ⟨1, 2, rfl, rfl, Or.inr ⟨rfl, rfl⟩⟩
      · rw [if_neg d1, if_neg d1']
        exact Or.inl ⟨1, 2, rfl, rfl, Or.inr ⟨rfl, rfl⟩⟩
    · obtain ⟨S7', S8', S9', S10', S11', S12', S13', S14', S15', M1, s1, s2, s3, s4, s5, s6⟩ := s_save0 hS hR
      obtain ⟨r, c1, c2, c3⟩ := o_drift (M := M1) (by rw [s4]; exact a2) hc d4 d5
      have e8 : (18 : Int32) + nI c = nI (18 + c) := by rw [show (18 : Int32) = nI 18 from rfl, nI_add]
      rw [b2, pu_xb, if_neg d1, if_pos d2, s1, pu_some, c1, pu_some, b3, pu_some, if_neg ne_10, d3, pu_some, if_neg ne_10, ref_0, pu_some, if_pos rfl, s2, pu_some, e8, if_pos (pu_inT (by omega) (by omega)), nI_clamp (by omega), pu_let, if_pos (pu_inT (by omega) (by omega)), pu_let, c2]
      exact Or.inr ⟨_, _, S7', S8', S9', S10', S11', S12', S13', S14', S15', _, rfl, rfl, RW.wk a1 c3 a3 a4 a5 (by dsimp only; rw [pu_row (by omega)]) (fun x hx => by rw [pu_m, if_neg (by omega), s4]), s3.fz FZ.up, s5.tr (KP.fz FZ.up), by rw [pu_mrow (by omega)]; exact s6⟩
theorem g_blink {b : Nat} {S1 S2 S7 S8 S9 S10 S11 S12 S13 S14 S15 : sk_N} {M : sk_M} (hR : RW b S1 S2 (M.1 1)) (hS : SV b S7 S8 S9 S10 S11 S12 S13 S14 S15 M) (x y z : Int32) : MU b S2 M (m_X4_blink S1 S2 S7 S8 S9 S10 S11 S12 S13 S14 S15 x y z) (m_X5_blink M x y z) (fun e v => (e = 3 ∧ v = 1) ∨ (e = 1 ∧ v = 2)) := by
  obtain ⟨cnt, P, T, nl, a1, a2, a3, a4, a5⟩ := id hR
  have h10 := a2.1.1.1
  unfold m_X4_blink m_X5_blink
  rcases m_blink a2.1 x y z with ⟨b1, b2, b3⟩ | ⟨c, hc, rfl, b1, b2, ⟨b3, b4⟩ | ⟨R, O, r1, r2, r3, rfl, rfl, b3, b4⟩⟩
  · rw [b2, pu_xe, b3, pu_some, ref_1, pu_some, if_neg ne_10]
    exact Or.inl ⟨3, 1, rfl, rfl, Or.inl ⟨rfl, rfl⟩⟩
  · rw [b2, pu_xb, b3, pu_some, if_pos rfl, b4, pu_some, ref_2, pu_some, if_neg ne_10]
    exact Or.inl ⟨1, 2, rfl, rfl, Or.inr ⟨rfl, rfl⟩⟩
  · obtain ⟨S7', S8', S9', S10', S11', S12', S13', S14', S15', M1, s1, s2, s3, s4, s5, s6⟩ := s_save0 hS hR
    obtain ⟨c1, c2, c3⟩ := o_blink (M := M1) (by rw [s4]; exact a2) hc r1 r2 r3
    obtain ⟨q, q1, q2⟩ := q_blinkers c3.qr
    rw [b2, pu_xb, b3, pu_some, if_neg ne_10, s1, pu_some, c1, pu_some, q1, pu_some, b4, pu_some, ref_0, pu_some, if_pos rfl, s2, pu_some, c2, q2, pu_some, pu_some]
    exact Or.inr ⟨_, _, S7', S8', S9', S10', S11', S12', S13', S14', S15', _, rfl, rfl, RW.wk a1 c3 a3 a4 a5 (by rw [pu_row (by omega), pu_row (by omega)]) (fun x hx => by rw [pu_m, if_neg (by omega), pu_m, if_neg (by omega), pu_m, if_neg (by omega), s4]), s3.fz (FZ.up.tr (FZ.up.tr FZ.up)), s5.tr (KP.fz (FZ.up.tr (FZ.up.tr FZ.up))), by rw [pu_mrow (by omega), pu_mrow (by omega), pu_mrow (by omega)]; exact s6⟩
theorem g_mend {b : Nat} {S1 S2 S7 S8 S9 S10 S11 S12 S13 S14 S15 : sk_N} {M : sk_M} (hR : RW b S1 S2 (M.1 1)) (hS : SV b S7 S8 S9 S10 S11 S12 S13 S14 S15 M) (x : Int32) : MU b S2 M (m_X4_mend S1 S2 S7 S8 S9 S10 S11 S12 S13 S14 S15 x) (m_X5_mend M x) (fun e v => (e = 3 ∧ v = 1) ∨ (e = 2 ∧ v = 2)) := by
  obtain ⟨cnt, P, T, nl, a1, a2, a3, a4, a5⟩ := id hR
  have h10 := a2.1.1.1
  unfold m_X4_mend m_X5_mend m_X5_mend_32
  rcases a_clk a2.1 x with ⟨b1, b2, b3⟩ | ⟨c, hc, rfl, b1, b2, b3⟩
  · rw [b2, pu_xe, b3, pu_some, if_pos rfl, ref_1, pu_some, if_neg ne_10]
    exact Or.inl ⟨3, 1, rfl, rfl, Or.inl ⟨rfl, rfl⟩⟩
  · have e8 : (28 : Int32) + nI c = nI (28 + c) := by rw [show (28 : Int32) = nI 28 from rfl, nI_add]
    have b28 := a2.qr.b28 hc
    rw [b2, pu_xb, v_good' (by omega), pu_some, b3, pu_some, if_neg ne_10, e8, if_pos (pu_inT (by omega) (by omega)), nI_clamp (by omega), b28]
    by_cases hg : gb S1 c = true
    · rw [if_pos hg, if_pos hg, if_neg (nI_ne0 (by omega) (by omega)), if_pos nI_0, ref_2, pu_some, if_neg ne_10]
      exact Or.inl ⟨2, 2, rfl, rfl, Or.inr ⟨rfl, rfl⟩⟩
    · obtain ⟨S7', S8', S9', S10', S11', S12', S13', S14', S15', M1, s1, s2, s3, s4, s5, s6⟩ := s_save0 hS hR
      obtain ⟨c1, c3⟩ := o_mend (M := M1) (by rw [s4]; exact a2) hc
      obtain ⟨q, q1, q2⟩ := q_blinkers c3.qr
      rw [if_neg hg, if_neg hg, if_pos nI_0, if_neg (nI_ne0 (by omega) (by omega)), s1, pu_some, c1, pu_some, q1, pu_some, ref_0, pu_some, if_pos rfl, s2, pu_some, if_pos (pu_inT (by omega) (by omega)), pu_let, q2, pu_some]
      exact Or.inr ⟨_, _, S7', S8', S9', S10', S11', S12', S13', S14', S15', _, rfl, rfl, RW.wk a1 c3 a3 a4 a5 (by rw [pu_row (by omega), pu_row (by omega)]) (fun x hx => by rw [pu_m, if_neg (by omega), s4]), s3.fz FZ.up, s5.tr (KP.fz FZ.up), by rw [pu_mrow (by omega)]; exact s6⟩
theorem g_link {b : Nat} {S1 S2 S7 S8 S9 S10 S11 S12 S13 S14 S15 : sk_N} {M : sk_M} (hR : RW b S1 S2 (M.1 1)) (hS : SV b S7 S8 S9 S10 S11 S12 S13 S14 S15 M) (x y z : Int32) : MU b S2 M (m_X4_link S1 S2 S7 S8 S9 S10 S11 S12 S13 S14 S15 x y z) (m_X5_link M x y z) (fun e v => (e = 3 ∧ v = 1) ∨ (e = 1 ∧ v = 2)) := by
  obtain ⟨cnt, P, T, nl, a1, a2, a3, a4, a5⟩ := id hR
  have h10 := a2.1.1.1
  unfold m_X4_link m_X5_link
  rcases m_link a2.1 x y z with ⟨b1, b2, b3⟩ | ⟨a, ha, rfl, b1, b2, ⟨b3, b4, b5⟩ | ⟨q, hq, rfl, b3, b4, ⟨b5, b6⟩ | ⟨b5, b6, b7⟩ | ⟨d, hd, rfl, b5, hab, b6, b7⟩⟩⟩
  · rw [b2, pu_xe, b3, pu_some, ref_1, pu_some, if_neg ne_10]
    exact Or.inl ⟨3, 1, rfl, rfl, Or.inl ⟨rfl, rfl⟩⟩
  · rw [b2, pu_xb, b4, pu_xe, b5, pu_some, ref_1, pu_some, if_neg ne_10]
    exact Or.inl ⟨3, 1, rfl, rfl, Or.inl ⟨rfl, rfl⟩⟩
  · rw [b2, pu_xb, b4, pu_xb, if_pos b5, b6, pu_some, ref_2, pu_some, if_neg ne_10]
    exact Or.inl ⟨1, 2, rfl, rfl, Or.inr ⟨rfl, rfl⟩⟩
  · rw [b2, pu_xb, b4, pu_xb, if_neg b5, b6, pu_some, if_pos rfl, b7, pu_some, ref_2, pu_some, if_neg ne_10]
    exact Or.inl ⟨1, 2, rfl, rfl, Or.inr ⟨rfl, rfl⟩⟩
  · obtain ⟨S7', S8', S9', S10', S11', S12', S13', S14', S15', M1, s1, s2, s3, s4, s5, s6⟩ := s_save0 hS hR
    obtain ⟨r, N', M', c1, c2, c3, c4, c5, c6, c7, -⟩ := o_link (dl := nI d) (M := M1) (by rw [s4]; exact a2) ha hq hab (Or.inr ⟨d, hd, rfl⟩)
    unfold m_X5_doLink
    rw [b2, pu_xb, b4, pu_xb, if_neg b5, b6, pu_some, if_neg ne_10, s1, pu_some, c1, pu_some, b7, pu_some, ref_0, pu_some, if_pos rfl, s2, pu_some, c2, pu_some, c3, pu_some, pu_some]
    exact Or.inr ⟨_, N', S7', S8', S9', S10', S11', S12', S13', S14', S15', M', rfl, rfl, RW.wk a1 c4 a3 a4 a5 (by rw [c5]) (fun x hx => (c6 x (by omega)).trans (by rw [s4])), s3.fz (FZ.one c7), s5.tr (KP.fz (FZ.one c7)), by rw [c7 0 (by omega)]; exact s6⟩
theorem g_unlink {b : Nat} {S1 S2 S7 S8 S9 S10 S11 S12 S13 S14 S15 : sk_N} {M : sk_M} (hR : RW b S1 S2 (M.1 1)) (hS : SV b S7 S8 S9 S10 S11 S12 S13 S14 S15 M) (x y : Int32) : MU b S2 M (m_X4_unlink S1 S2 S7 S8 S9 S10 S11 S12 S13 S14 S15 x y) (m_X5_unlink M x y) (fun e v => (e = 3 ∧ v = 1) ∨ (e = 2 ∧ v = 2)) := by
  obtain ⟨cnt, P, T, nl, a1, a2, a3, a4, a5⟩ := id hR
  have h10 := a2.1.1.1
  unfold m_X4_unlink m_X5_unlink m_X5_unlink_20 m_X5_unlink_21 m_X5_unlink_46
  rcases a_clk a2.1 x with ⟨b1, b2, b3⟩ | ⟨a, ha, rfl, b1, b2, b3⟩
  · rw [b2, pu_xe, b3, pu_some, if_pos rfl, if_pos rfl, ref_1, pu_some, if_neg ne_10]
    exact Or.inl ⟨3, 1, rfl, rfl, Or.inl ⟨rfl, rfl⟩⟩
  · rcases a_clk a2.1 y with ⟨d1, d2, d3⟩ | ⟨q, hq, rfl, d1, d2, d3⟩
    · rw [b2, pu_xb, d2, pu_xe, b3, pu_some, if_neg ne_10, d3, pu_some, if_pos rfl, if_pos rfl, ref_1, pu_some, if_neg ne_10]
      exact Or.inl ⟨3, 1, rfl, rfl, Or.inl ⟨rfl, rfl⟩⟩
    · obtain ⟨g1, g2, g3, g4, g5⟩ := a2.1.2.2.2.2.2 a q (by omega) (by omega)
      rw [b2, pu_xb, d2, pu_xb, v_delayBetween (by omega) (by omega), pu_some, b3, pu_some, if_neg ne_10, d3, pu_some, if_neg ne_10, if_neg ne_10]
      dsimp only
      rw [v_delay (by omega) (by omega), pu_some, ← g1]
      by_cases hm : S1 6 (10 * a + q) = -1
      · rw [if_pos hm, if_pos hm, ref_2, pu_some, if_neg ne_10]
        exact Or.inl ⟨2, 2, rfl, rfl, Or.inr ⟨rfl, rfl⟩⟩
      · have hab : a ≠ q := fun e => hm (by rw [← e]; exact g4)
        obtain ⟨S7', S8', S9', S10', S11', S12', S13', S14', S15', M1, s1, s2, s3, s4, s5, s6⟩ := s_save0 hS hR
        obtain ⟨r, N', M', c1, c2, c3, c4, c5, c6, c7, -⟩ := o_link (dl := -1) (M := M1) (by rw [s4]; exact a2) ha hq hab (Or.inl rfl)
        obtain ⟨u, u1, u2⟩ := q_linkCount (a := nI a) (b := nI q) c4.1
        rw [if_neg hm, if_neg hm, s1, pu_some, c1, pu_some, u1, pu_some, ref_0, pu_some, if_pos rfl, s2, pu_some, c3, pu_some, u2]
        exact Or.inr ⟨_, N', S7', S8', S9', S10', S11', S12', S13', S14', S15', M', rfl, rfl, RW.wk a1 c4 a3 a4 a5 (by rw [c5]) (fun x hx => (c6 x (by omega)).trans (by rw [s4])), s3.fz (FZ.one c7), s5.tr (KP.fz (FZ.one c7)), by rw [c7 0 (by omega)]; exact s6⟩
theorem g_setPeriod {b : Nat} {S1 S2 S7 S8 S9 S10 S11 S12 S13 S14 S15 : sk_N} {M : sk_M} (hR : RW b S1 S2 (M.1 1)) (hS : SV b S7 S8 S9 S10 S11 S12 S13 S14 S15 M) (x : Int32) : MU b S2 M (m_X4_setPeriod S1 S2 S7 S8 S9 S10 S11 S12 S13 S14 S15 x) (m_X5_setPeriod M x) (fun e v => e = 1 ∧ v = 1) := by
  obtain ⟨cnt, P, T, nl, a1, a2, a3, a4, a5⟩ := id hR
  unfold m_X4_setPeriod m_X5_setPeriod
  rcases a_rng (x := x) (a := 10) (b := 100) (by omega) (by omega) with ⟨b1, b2⟩ | ⟨Q, r1, r2, rfl, b1, b2, b3, b4, -⟩
  · have b1' : m_X5_within x 10 100 = some 0 := b1
    rw [b1', pu_some, need_0, pu_some, ref_1, pu_some, if_neg ne_10]
    by_cases hx : x < (10 : Int32)
    · rw [if_pos hx]
      exact Or.inl ⟨1, 1, rfl, rfl, rfl, rfl⟩
    · have h2 : (100 : Int32) < x := b2.resolve_left hx
      have h3 : ¬ x ≤ (100 : Int32) := fun h => by
        have a := Int32.lt_iff_toInt_lt.mp h2
        have b := Int32.le_iff_toInt_le.mp h
        omega
      rw [if_neg hx, if_neg h3]
      exact Or.inl ⟨1, 1, rfl, rfl, rfl, rfl⟩
  · have b1' : m_X5_within (nI Q) 10 100 = some 1 := b1
    have b2' : ¬ nI Q < (10 : Int32) := b2
    have b4' : nI Q ≤ (100 : Int32) := b4
    obtain ⟨S7', S8', S9', S10', S11', S12', S13', S14', S15', M1, s1, s2, s3, s4, s5, s6⟩ := s_save0 hS hR
    obtain ⟨N', M', c1, c2, c3, c4, c5, c6, c7, -⟩ := o_period (M := M1) (by rw [s4]; exact a2) r1 r2
    rw [b1', pu_some, need_1, pu_some, ref_0, pu_some, if_pos rfl, if_neg b2', if_pos b4', s1, pu_some, c1, pu_some, s2, pu_some, if_pos in_0, cl_0, pu_let, if_pos in_0, pu_let, c2, c3]
    exact Or.inr ⟨_, N', S7', S8', S9', S10', S11', S12', S13', S14', S15', M', rfl, rfl, RW.wk a1 c4 a3 a4 a5 c5 (fun x hx => (c6 x (by omega)).trans (by rw [s4])), s3.fz (FZ.one c7), s5.tr (KP.fz (FZ.one c7)), by rw [c7 0 (by omega)]; exact s6⟩
def mxr (j : Nat) : Nat := if j = 0 then 99 else if j = 1 then 32 else 2
theorem m_resp {M : sk_M} {j : Nat} {y w : Int32} (hj : j < 3) (hw : m_X5_within y 0 (nI (mxr j)) = some w) (h01 : w = 0 ∨ w = 1) : m_X5_setResponse M (nI j) y = m_X5_setResponse_48 (nI j) y (M, w) := by
  unfold m_X5_setResponse m_X5_setResponse_47
  rcases (show j = 0 ∨ j = 1 ∨ j = 2 by omega) with rfl | rfl | rfl
  · have hw' : m_X5_within y 0 99 = some w := hw
    rw [if_pos nI_0, hw', pu_some]
  · have hw' : m_X5_within y 0 32 = some w := hw
    rw [if_neg (show ¬ nI 1 = 0 by decide), if_pos (show nI 1 = (1 : Int32) from rfl), hw', pu_some]
  · have hw' : m_X5_within y 0 2 = some w := hw
    rw [if_neg (show ¬ nI 2 = 0 by decide), if_neg (show ¬ nI 2 = (1 : Int32) by decide), if_pos (show nI 2 = (2 : Int32) from rfl), hw', pu_some]
    rcases h01 with rfl | rfl
    · rw [if_pos rfl]
    · rw [if_neg ne_10]
theorem g_setResponse {b : Nat} {S1 S2 S7 S8 S9 S10 S11 S12 S13 S14 S15 : sk_N} {M : sk_M} (hR : RW b S1 S2 (M.1 1)) (hS : SV b S7 S8 S9 S10 S11 S12 S13 S14 S15 M) (x y : Int32) : MU b S2 M (m_X4_setResponse S1 S2 S7 S8 S9 S10 S11 S12 S13 S14 S15 x y) (m_X5_setResponse M x y) (fun e v => e = 1 ∧ v = 1) := by
  obtain ⟨cnt, P, T, nl, a1, a2, a3, a4, a5⟩ := id hR
  unfold m_X4_setResponse
  rcases a_in (n := 3) (by omega) x with ⟨-, b2⟩ | ⟨j, hj, rfl, -⟩
  · have em : m_X5_setResponse M x y = some (0, md_up M 0 4 1) := by
      have h0 : ¬ x = 0 := fun e => by rw [e] at b2; exact absurd b2 (by decide)
      have h1 : ¬ x = 1 := fun e => by rw [e] at b2; exact absurd b2 (by decide)
      have h2 : ¬ x = 2 := fun e => by rw [e] at b2; exact absurd b2 (by decide)
      unfold m_X5_setResponse m_X5_setResponse_47 m_X5_setResponse_48
      rw [if_neg h0, if_neg h1, if_neg h2, need_0, pu_some, ref_1, pu_some, if_neg ne_10]
    rw [em]
    by_cases hx : x < (0 : Int32)
    · rw [if_pos hx]
      exact Or.inl ⟨1, 1, rfl, rfl, rfl, rfl⟩
    · rw [if_neg hx, if_pos (show (3 : Int32) ≤ x from b2.resolve_left hx)]
      exact Or.inl ⟨1, 1, rfl, rfl, rfl, rfl⟩
  · have n0 : ¬ nI j < 0 := nI_pos (by omega)
    have n3 : ¬ (3 : Int32) ≤ nI j := nI_ge (b := 3) hj (by omega)
    have hm : mxr j ≤ 99 := by
      unfold mxr
      by_cases h : j = 0
      · rw [if_pos h]; omega
      · rw [if_neg h]
        by_cases h' : j = 1
        · rw [if_pos h']; omega
        · rw [if_neg h']; omega
    have xm : xe_mr j = nI (mxr j) := by
      rcases (show j = 0 ∨ j = 1 ∨ j = 2 by omega) with rfl | rfl | rfl <;> rfl
    rw [if_neg n0, if_neg n3, if_pos (pu_inT hj (by omega)), nI_clamp (by omega), xm]
    rcases a_rng (x := y) (a := 0) (b := mxr j) (by omega) (by omega) with ⟨d1, d2⟩ | ⟨v, v1, v2, rfl, d1, d2, d3, d4, d5⟩
    · have d1' : m_X5_within y 0 (nI (mxr j)) = some 0 := d1
      rw [m_resp hj d1' (Or.inl rfl)]
      unfold m_X5_setResponse_48
      rw [need_0, pu_some, ref_1, pu_some, if_neg ne_10]
      by_cases hy : y < (0 : Int32)
      · rw [if_pos hy]
        exact Or.inl ⟨1, 1, rfl, rfl, rfl, rfl⟩
      · have h2 := d2.resolve_left hy
        have h3 : ¬ y ≤ nI (mxr j) := fun h => by
          have a := Int32.lt_iff_toInt_lt.mp h2
          have b := Int32.le_iff_toInt_le.mp h
          omega
        rw [if_neg hy, if_neg h3]
        exact Or.inl ⟨1, 1, rfl, rfl, rfl, rfl⟩
    · have d1' : m_X5_within (nI v) 0 (nI (mxr j)) = some 1 := d1
      rw [m_resp hj d1' (Or.inr rfl)]
      unfold m_X5_setResponse_48
      obtain ⟨S7', S8', S9', S10', S11', S12', S13', S14', S15', M1, s1, s2, s3, s4, s5, s6⟩ := s_save0 hS hR
      obtain ⟨r, c1, c2, c3⟩ := o_resp (M := M1) (by rw [s4]; exact a2) hj v2
      have e8 : (1 : Int32) + nI j = nI (1 + j) := by rw [show (1 : Int32) = nI 1 from rfl, nI_add]
      rw [need_1, pu_some, ref_0, pu_some, if_pos rfl, if_neg d5, if_pos d4, s1, pu_some, c1, pu_some, s2, pu_some, e8, if_pos (pu_inT (by omega) (by omega)), nI_clamp (by omega), pu_let, if_pos (pu_inT (by omega) (by omega)), pu_let, c2]
      exact Or.inr ⟨_, _, S7', S8', S9', S10', S11', S12', S13', S14', S15', _, rfl, rfl, RW.wk a1 c3 a3 a4 a5 (by dsimp only; rw [pu_row (by omega)]) (fun x hx => by rw [pu_m, if_neg (by omega), s4]), s3.fz FZ.up, s5.tr (KP.fz FZ.up), by rw [pu_mrow (by omega)]; exact s6⟩
theorem g_tick {b : Nat} {S1 S2 S7 S8 S9 S10 S11 S12 S13 S14 S15 : sk_N} {M : sk_M} (hR : RW b S1 S2 (M.1 1)) (hS : SV b S7 S8 S9 S10 S11 S12 S13 S14 S15 M) (h0 : M.1 0 10 = 0) (hb : b < 2 ^ 28) (x : Int32) : (m_X4_tick S1 S2 S7 S8 S9 S10 S11 S12 S13 S14 S15 x = some (.inr 1) ∧ m_X5_tick M x = some (0, md_up M 0 4 1)) ∨ ∃ r S1' S2' S7' S8' S9' S10' S11' S12' S13' S14' S15' M', m_X4_tick S1 S2 S7 S8 S9 S10 S11 S12 S13 S14 S15 x = some (.inl (r, S1', S2', S7', S8', S9', S10', S11', S12', S13', S14', S15')) ∧ m_X5_tick M x = some (r, M') ∧ RW (b + 99) S1' S2' (M'.1 1) ∧ SV (b + 99) S7' S8' S9' S10' S11' S12' S13' S14' S15' M' ∧ KP M M' ∧ M'.1 0 4 = 0 := by
  unfold m_X4_tick m_X5_tick
  rcases m_tick x with ⟨b1, b2⟩ | ⟨n, n1, n2, rfl, b1, b2⟩
  · rw [b1, pu_some, if_pos rfl, b2, pu_some, need_0, pu_some, ref_1, pu_some, if_neg ne_10]
    exact Or.inl ⟨rfl, rfl⟩
  · obtain ⟨S7', S8', S9', S10', S11', S12', S13', S14', S15', M1, s1, s2, s3, s4, s5, s6⟩ := s_save0 hS hR
    have hR1 : RW b S1 S2 (M1.1 1) := by rw [s4]; exact hR
    have h1 : M1.1 0 10 = 0 := s5.1.trans h0
    obtain ⟨cnt, P, T, u1, u2⟩ := hR1.rs h1
    obtain ⟨r, N', L', M', c0, c1, c2, c3, c4⟩ := t_pass (n := n) u2 (by omega) (by omega) (by omega)
    have fz : FZ M1 M' := ⟨c4.1, c4.2.1⟩
    rw [b1, pu_some, if_neg ne_10, s1, pu_some, c1, pu_some, b2, pu_some, need_1, pu_some, ref_0, pu_some, if_pos rfl, s2, pu_some, c2, pu_some]
    exact Or.inr ⟨_, N', L', S7', S8', S9', S10', S11', S12', S13', S14', S15', M', rfl, rfl, c3.rw ((c4.2.1 10 (by omega)).trans h1) (by omega), (s3.fz fz).mono (by omega), s5.tr (KP.fz fz), (c4.2.1 4 (by omega)).trans s6⟩
theorem g_undo {b : Nat} {S1 S2 S7 S8 S9 S10 S11 S12 S13 S14 S15 : sk_N} {M : sk_M} (hS : SV b S7 S8 S9 S10 S11 S12 S13 S14 S15 M) : (m_X4_undo S1 S2 S7 S8 S9 S10 S11 S12 S13 S14 S15 = some (.inr 2) ∧ m_X5_undo M = some (0, md_up M 0 4 1)) ∨ ∃ r S1' S2' S7' M', m_X4_undo S1 S2 S7 S8 S9 S10 S11 S12 S13 S14 S15 = some (.inl (r, S1', S2', S7')) ∧ m_X5_undo M = some (r, M') ∧ RW b S1' S2' (M'.1 1) ∧ SV b S7' S8 S9 S10 S11 S12 S13 S14 S15 M' ∧ KP M M' ∧ M'.1 0 4 = 0 := by
  obtain ⟨nx, cn, a1, a2, a3, a4, a5, a6⟩ := hS
  unfold m_X4_undo m_X5_undo m_X5_undo_13
  rw [a4, a5]
  by_cases hc : cn = 0
  · subst hc
    rw [if_pos nI_0, if_pos nI_0, ref_1, pu_some, if_neg ne_10]
    exact Or.inl ⟨rfl, rfl⟩
  · obtain ⟨S7', N', L', e1, e2, e3, e4, e5⟩ := v_restore (nx := nx) (cn := cn - 1) (S := S7) (a := S8) (b := S9) (c := S10) (d := S11) (e := S12) (f := S13) (g := S14) (h := S15) (N := S1) (L := S2) a1 (by omega) a3 (by rw [show cn - 1 + 1 = cn by omega]; exact a4)
    have h3 : (md_up M 0 4 0).1 0 3 = nI cn := by rw [pu_m, if_neg (by omega)]; exact a5
    have s1 : nI cn - (1 : Int32) = nI (cn - 1) := by rw [show (1 : Int32) = nI 1 from rfl, pk_sub (by omega)]
    obtain ⟨M', d1, d2, d3, -⟩ := d_undo33 (M := md_up (md_up M 0 4 0) 0 3 (nI (cn - 1))) (cn := cn - 1) (by omega) (by rw [pu_m, if_pos ⟨rfl, rfl⟩])
    have n0 : ¬ nI cn = 0 := nI_ne0 (by omega) (by omega)
    rw [if_neg n0, if_neg n0, e1, pu_some, ref_0, pu_some, if_pos rfl, pu_let, h3, s1, d1]
    have r2 : M'.1 2 = M.1 2 := by rw [d3 2 (by omega), pu_mrow (by omega), pu_mrow (by omega)]
    have r0 : M'.1 0 = (md_up (md_up M 0 4 0) 0 3 (nI (cn - 1))).1 0 := d3 0 (by omega)
    refine Or.inr ⟨_, N', L', S7', M', rfl, ?_, ?_, ⟨(nx + 3) % 4, cn - 1, by omega, by omega, e2, e3, ?_, fun j hj => ?_⟩, ⟨?_, ?_, ?_⟩, ?_⟩
    · dsimp only; rw [e3]
    · have := a6 (cn - 1) (by omega)
      rw [show (nx + 4 - cn + (cn - 1)) % 4 = (nx + 3) % 4 by omega] at this
      refine this.copy (Nat.le_refl _) e4 e5 fun x hx => ?_
      rw [d2 x hx, pu_mrow (by omega), pu_mrow (by omega)]
    · rw [r0, pu_m, if_pos ⟨rfl, rfl⟩]
    · rw [r2, show ((nx + 3) % 4 + 4 - (cn - 1) + j) % 4 = (nx + 4 - cn + j) % 4 by omega]
      exact a6 j (by omega)
    · rw [r0, pu_m, if_neg (by omega), pu_m, if_neg (by omega)]
    · rw [d3 4 (by omega), pu_mrow (by omega), pu_mrow (by omega)]
    · rw [r0, pu_m, if_neg (by omega), pu_m, if_neg (by omega)]
    · rw [r0, pu_m, if_neg (by omega), pu_m, if_pos ⟨rfl, rfl⟩]
