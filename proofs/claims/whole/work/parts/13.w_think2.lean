/-- two loops in step, where the second may take one turn more at its end -/
theorem lp_D {σ σ' ρ ρ' : Type} {step : (σ → Option ρ) → σ → Option ρ} {step' : (σ' → Option ρ') → σ' → Option ρ'} (P : Option ρ → Option ρ' → Prop) (I : Nat → σ → σ' → Prop) (N : Nat)
    (h : ∀ (j : Nat) (s : σ) (s' : σ'), j ≤ N → I j s s' → (∃ y y', P y y' ∧ (∀ k, step k s = y) ∧ ((∀ k', step' k' s' = y') ∨ ∃ t', (∀ k', step' k' s' = k' t') ∧ ∀ k', step' k' t' = y')) ∨ (j < N ∧ ∃ t t', (∀ k, step k s = k t) ∧ (∀ k', step' k' s' = k' t') ∧ I (j + 1) t t')) :
    ∀ (fuel fuel' j : Nat) (s : σ) (s' : σ'), j ≤ N → N - j < fuel → N - j + 1 < fuel' → I j s s' → P (sk_lp step fuel s) (sk_lp step' fuel' s')
  | 0, _, j, s, _, _, hf, _, _ => absurd hf (by omega)
  | fuel + 1, 0, j, s, _, _, _, hf, _ => absurd hf (by omega)
  | fuel + 1, 1, j, s, _, _, _, hf, _ => absurd hf (by omega)
  | fuel + 1, fuel' + 2, j, s, s', hj, hf, hf', hI => by
    rcases h j s s' hj hI with ⟨y, y', h1, h2, h3⟩ | ⟨h1, t, t', h2, h3, h4⟩
    · rw [sk_lp, h2]
      rcases h3 with h3 | ⟨t', h3, h4⟩
      · rw [sk_lp, h3]; exact h1
      · rw [sk_lp, h3, sk_lp, h4]; exact h1
    · rw [sk_lp, h2, sk_lp, h3]
      exact lp_D P I N h fuel (fuel' + 1) (j + 1) t t' h1 (by omega) (by omega) h4
theorem lp_DF {σ σ' ρ ρ' : Type} {step : (σ → Option ρ) → σ → Option ρ} {step' : (σ' → Option ρ') → σ' → Option ρ'} (P : Option ρ → Option ρ' → Prop) (I : Nat → σ → σ' → Prop) (N : Nat) (hN : N < 1900) (s : σ) (s' : σ') (h0 : I 0 s s')
    (h : ∀ (j : Nat) (s : σ) (s' : σ'), j ≤ N → I j s s' → (∃ y y', P y y' ∧ (∀ k, step k s = y) ∧ ((∀ k', step' k' s' = y') ∨ ∃ t', (∀ k', step' k' s' = k' t') ∧ ∀ k', step' k' t' = y')) ∨ (j < N ∧ ∃ t t', (∀ k, step k s = k t) ∧ (∀ k', step' k' s' = k' t') ∧ I (j + 1) t t')) : P (sk_lp step sk_fuel s) (sk_lp step' sk_fuel s') :=
  lp_D P I N h sk_fuel sk_fuel 0 s s' (Nat.zero_le _) (by unfold sk_fuel; omega) (by unfold sk_fuel; omega) h0
theorem nm_ne {v : Nat} (h : v < 2 ^ 31) : ¬ nI v = -1 := fun e => by
  have := nI_pos h
  rw [e] at this
  exact this (by decide)
theorem RS.mod {cnt cnt' P P' T T' : Nat} {N L N' : sk_N} {M M' : sk_M} (h : RS cnt P T T N L M) (g : RX cnt' P' T' T' N' (M'.1 1)) (h4 : N' 0 4 = N 0 4) (h6 : M'.1 1 6 = M.1 1 6) (h10 : M'.1 0 10 = 1) : RS cnt' P' T' T' N' L M' := by
  obtain ⟨-, ⟨F, f1, f2, f3⟩, nl, l1, -⟩ := h
  exact ⟨g, ⟨F, f1, by rw [h4]; exact f2, by rw [h6]; exact f3⟩, nl, l1, Or.inr h10⟩
theorem RW.fb {b : Nat} {N L : sk_N} {M M' : sk_M} (h : RW b N L (M.1 1)) (g : FB M M') : RW b N L (M'.1 1) := h.copy (Nat.le_refl _) AG.rf AL.rf g.1
/-- the class's answers to repeats -/
theorem g_repeats {b : Nat} {S3 S4 S5 S6 N L : sk_N} {M : sk_M} (hR : RW b N L (M.1 1)) (hb : b < 2 ^ 28) (x p2 : Int32) : (m_X4_repeats S5 S6 N L S3 S4 x p2 = some (.inr 1) ∧ m_X5_repeats M x p2 = some (0, md_up M 0 4 1)) ∨ ∃ r S5' S6' S3' S4' M', m_X4_repeats S5 S6 N L S3 S4 x p2 = some (.inl (r, S5', S6', S3', S4')) ∧ m_X5_repeats M x p2 = some (r, M') ∧ LX S6' ∧ LX S4' ∧ FB (md_up M 0 4 0) M' := by
  unfold m_X4_repeats m_X5_repeats
  rcases a_lim x with ⟨d1, d2⟩ | ⟨lim, l1, l2, rfl, l4, l5⟩
  · left
    rw [d1, pu_xe, d2, pu_some, need_0, pu_some, ref_1, pu_some, if_neg ne_10]
    exact ⟨rfl, rfl⟩
  · right
    obtain ⟨M1, t1, t2, t3, t4⟩ := b_think (md_up M 0 4 0)
    obtain ⟨cnt, P, T, u1, u2, u3⟩ := (hR.up (v := 0)).th t2 t3
    obtain ⟨K, K0, hK⟩ := trj_mk (H := 2000) u3 t3 (by omega)
    obtain ⟨f, n, M2, k1, k2, k3⟩ := k_find (p2 := p2) hK (by omega) l2 K0
    obtain ⟨M3, z1, z2⟩ := t4 M2 k2
    have hK0 : RS cnt P T T N L (K 0) := by rw [K0]; exact u3
    obtain ⟨r1, A1, AL1, B1, BL1, e1, e2, e3, e4⟩ := r_len (A0 := S5) (AL0 := S6) (B0 := S3) (BL0 := S4) hK (by omega) l2 hK0
    rw [l4, pu_xb, l5, pu_some, need_1, pu_some, ref_0, pu_some, if_pos rfl, t1, pu_some, e1, pu_some, k1]
    have hmod : ∀ v, v = (if f = -1 then (-1 : Int32) else if p2 = 0 then nI n - f else f) → m_X5_repeats_99 (nI lim) p2 (M2, f, nI n) = some (v, M3) := by
      intro v hv
      unfold m_X5_repeats_99
      dsimp only
      rw [z1, pu_some, hv]
      by_cases h1 : f = -1
      · rw [if_pos h1, if_pos h1]
      · rw [if_neg h1, if_neg h1]
        by_cases h2 : p2 = 0
        · rw [if_pos h2, if_pos h2]
        · rw [if_neg h2, if_neg h2]
    have nx : ∀ i j, i < 2000 → j < 2000 → AK cnt K i j → AK cnt K (i + 1) (j + 1) := fun i j a b h => AK.nx hK a b h
    rcases k3 with ⟨rfl, hno⟩ | ⟨m, rfl, m1, m2, m3, m4⟩
    · -- no repetition
      rw [if_pos rfl] at hmod
      rcases e4 with ⟨rfl, -⟩ | ⟨ell, q1, q2, rfl, q4, q5⟩
      · rw [if_pos rfl]
        exact ⟨-1, A1, AL1, B1, BL1, M3, rfl, hmod _ rfl, e2, e3, z2⟩
      · rw [if_neg (nm_ne (by omega))]
        obtain ⟨r2, A2, AL2, B2, BL2, f1, f2, f3, f4⟩ := r_start (A0 := A1) (AL0 := AL1) (B0 := B1) (BL0 := BL1) hK (by omega) l2 q1 q2 hK0
        rw [f1, pu_some]
        have hr : r2 = -1 := by
          rcases f4 with ⟨h, -⟩ | ⟨i, i1, i2, i3, i4⟩
          · exact h
          · exact absurd i3 (hno i (i + ell) (by omega) i1)
        subst hr
        unfold m_X4_repeats_35
        dsimp only
        by_cases h2 : p2 = 0
        · rw [if_pos h2, if_pos rfl]
          exact ⟨-1, A2, AL2, B2, BL2, M3, rfl, hmod _ rfl, f2, f3, z2⟩
        · rw [if_neg h2]
          exact ⟨-1, A2, AL2, B2, BL2, M3, rfl, hmod _ rfl, f2, f3, z2⟩
    · obtain ⟨g1, g2⟩ := rep_len (A := AK cnt K) (H := 2000) (lim := lim) (by omega) (fun i => AK.rf) (fun i j h => h.sy) (fun i j k h g => h.tr g) nx m1 m2 m3 m4
      have hr1 : r1 = nI (n - m) := by
        rcases e4 with ⟨-, h⟩ | ⟨ell, q1, q2, rfl, q4, q5⟩
        · exact absurd g1 (h (n - m) (by omega) (by omega))
        · refine congrArg nI ?_
          rcases Nat.lt_trichotomy ell (n - m) with h | h | h
          · exact absurd q4 (g2 ell q1 h)
          · exact h
          · exact absurd g1 (q5 (n - m) (by omega) h)
      subst hr1
      rw [if_neg (nm_ne (by omega)), pk_sub (show m ≤ n by omega)] at hmod
      rw [if_neg (nm_ne (by omega))]
      obtain ⟨r2, A2, AL2, B2, BL2, f1, f2, f3, f4⟩ := r_start (A0 := A1) (AL0 := AL1) (B0 := B1) (BL0 := BL1) (ell := n - m) hK (by omega) l2 (by omega) (by omega) hK0
      rw [f1, pu_some]
      have hr : r2 = nI m := by
        have hm : AK cnt K m (m + (n - m)) := by rw [show m + (n - m) = n by omega]; exact m3
        rcases f4 with ⟨-, h⟩ | ⟨i, i1, rfl, i3, i4⟩
        · exact absurd hm (h m (by omega))
        · refine congrArg nI ?_
          rcases Nat.lt_trichotomy i m with h | h | h
          · exact absurd i3 (m4 i (i + (n - m)) (by omega) (by omega))
          · exact h
          · exact absurd hm (i4 m h)
      subst hr
      unfold m_X4_repeats_35
      dsimp only
      by_cases h2 : p2 = 0
      · rw [if_pos h2] at hmod
        rw [if_pos h2, if_neg (nm_ne (by omega))]
        exact ⟨_, A2, AL2, B2, BL2, M3, rfl, hmod _ rfl, f2, f3, z2⟩
      · rw [if_neg h2] at hmod
        rw [if_neg h2]
        exact ⟨_, A2, AL2, B2, BL2, M3, rfl, hmod _ rfl, f2, f3, z2⟩
theorem up_row {M : sk_M} {v : Int32} : (md_up M 0 4 v).1 1 = M.1 1 := pu_mrow (by omega)
theorem g_leastStrength {b : Nat} {S3 S4 N L : sk_N} {M : sk_M} (hR : RW b N L (M.1 1)) (h0 : M.1 0 10 = 0) (hb : b < 2 ^ 28) (hl4 : LX S4) (x : Int32) : (m_X4_leastStrength N L S3 S4 x = some (.inr 1) ∧ m_X5_leastStrength M x = some (0, md_up M 0 4 1)) ∨ ∃ r S3' S4' M', m_X4_leastStrength N L S3 S4 x = some (.inl (r, S3', S4')) ∧ m_X5_leastStrength M x = some (r, M') ∧ LX S4' ∧ FB (md_up M 0 4 0) M' := by
  unfold m_X4_leastStrength m_X5_leastStrength
  rcases a_lim x with ⟨d1, d2⟩ | ⟨lim, l1, l2, rfl, l4, l5⟩
  · left
    rw [d1, pu_xe, d2, pu_some, need_0, pu_some, ref_1, pu_some, if_neg ne_10]
    exact ⟨rfl, rfl⟩
  · right
    rw [l4, pu_xb, l5, pu_some, need_1, pu_some, ref_0, pu_some, if_pos rfl]
    refine lp_DF (step := m_X4_leastStrength_6_step N L (nI lim)) (step' := m_X5_leastStrength_21_step (nI lim)) (fun y y' => ∃ r S3' S4' M', y = some (.inl (r, S3', S4')) ∧ y' = some (r, M') ∧ LX S4' ∧ FB (md_up M 0 4 0) M') (fun j s s' => s.2.2 = nI j ∧ s'.2 = (-1, nI j) ∧ LX s.2.1 ∧ FB (md_up M 0 4 0) s'.1) 33 (by omega) _ _ ⟨rfl, rfl, hl4, FB.rf (up_10 h0)⟩ ?_
    rintro j ⟨A, La, z⟩ ⟨B, z'⟩ hj ⟨rfl, rfl, hLa, hB⟩
    dsimp only at hLa hB ⊢
    have x1 : xe_mr ((1 : Int32)).toNatClampNeg = nI 32 := rfl
    by_cases hjc : j = 33
    · left
      subst hjc
      refine ⟨_, _, ⟨-1, A, La, B, rfl, rfl, hLa, hB⟩, fun k => ?_, Or.inl fun k => ?_⟩
      · unfold m_X4_leastStrength_6_step
        dsimp only
        rw [if_pos (show sk_in (1 : Int32) 3 = true by decide), x1, if_pos (by decide)]
      · unfold m_X5_leastStrength_21_step
        dsimp only
        rw [if_pos (show (33 : Int32) ≤ nI 33 by decide)]
    · obtain ⟨M1, t1, t2, t3, t4⟩ := b_think B
      obtain ⟨cnt, P, T, u1, u2, u3⟩ := ((hR.up (v := 0)).fb hB).th t2 t3
      obtain ⟨N1, L1, v1, v2, v3⟩ := c_copy A La N L
      have u4 := u3.copy v2 v3
      obtain ⟨rr, w1, -, w2⟩ := o_resp (i := 1) (v := j) u4.1 (by omega) (by rw [if_neg (by omega), if_pos rfl]; omega)
      have w3 : RS cnt P T T (sk_up N1 1 1 (nI j)) L1 (md_up M1 1 2 (nI j)) := u4.mod w2 (by rw [pu_row (by omega)]) (by rw [pu_m, if_neg (by omega)]) (by rw [pu_mrow (by omega)]; exact t3)
      obtain ⟨r, N2, L2, M2, y1, y2, y3, y4, y5⟩ := th_until (S3 := A) (S4 := La) (g := 1) w3 (by omega) l2 (by omega)
      have fh : FH M1 M2 := FH.tr ⟨pu_mrow (by omega), pu_mrow (by omega), pu_mrow (by omega), fun k _ => by rw [pu_mrow (by omega)]⟩ y5
      obtain ⟨M3, q1, q2⟩ := t4 M2 fh
      have w1' : m_X1_changeResponse N1 1 (nI j) = some (rr, sk_up N1 1 1 (nI j)) := w1
      have y2' : m_X1_passUntilGroups (sk_up N1 1 1 (nI j)) L1 1 (nI lim) = some (r, N2, L2) := y2
      have y3' : m_X5_until (md_up M1 1 2 (nI j)) 1 (nI lim) = some (r, M2) := y3
      have sc : ∀ k, m_X4_leastStrength_6_step N L (nI lim) k (A, La, nI j) = if r = -1 then k (N2, L2, nI (j + 1)) else some (.inl (nI j, N2, L2)) := fun k => by
        unfold m_X4_leastStrength_6_step
        dsimp only
        rw [if_pos (show sk_in (1 : Int32) 3 = true by decide), x1, if_neg (nI_nlt (by omega) (by omega)), v1, pu_some, w1', pu_some, y2', pu_some, nI_1]
      have sm : ∀ k, m_X5_leastStrength_21_step (nI lim) k (B, -1, nI j) = if r = -1 then k (M3, -1, nI (j + 1)) else k (M3, nI j, nI (j + 1)) := fun k => by
        unfold m_X5_leastStrength_21_step m_X5_leastStrength_58
        dsimp only
        rw [if_neg (show ¬ (33 : Int32) ≤ nI j from nI_ge (b := 33) (by omega) (by omega)), if_pos rfl, t1, pu_some, if_pos (show sk_in (2 : Int32) 378 = true by decide), pu_let, show ((2 : Int32)).toNatClampNeg = 2 from rfl, y3', pu_some]
        by_cases hr : r = -1
        · rw [if_pos hr, if_pos hr, q1, pu_some, nI_1]
        · rw [if_neg hr, if_neg hr, q1, pu_some, nI_1]
      by_cases hr : r = -1
      · right
        exact ⟨by omega, _, _, fun k => by rw [sc, if_pos hr], fun k => by rw [sm, if_pos hr], rfl, rfl, y4, hB.tr q2⟩
      · left
        refine ⟨_, _, ⟨nI j, N2, L2, M3, rfl, rfl, y4, hB.tr q2⟩, fun k => by rw [sc, if_neg hr], Or.inr ⟨_, fun k => by rw [sm, if_neg hr], fun k => ?_⟩⟩
        unfold m_X5_leastStrength_21_step
        dsimp only
        by_cases h33 : (33 : Int32) ≤ nI (j + 1)
        · rw [if_pos h33]
        · rw [if_neg h33, if_neg (nm_ne (by omega))]
theorem g_blamed {b : Nat} {S3 S4 N L : sk_N} {M : sk_M} (hR : RW b N L (M.1 1)) (h0 : M.1 0 10 = 0) (hb : b < 2 ^ 28) (hl4 : LX S4) (x : Int32) : (m_X4_blamed N L S3 S4 x = some (.inr 1) ∧ m_X5_blamed M x = some (0, md_up M 0 4 1)) ∨ ∃ r S3' S4' M', m_X4_blamed N L S3 S4 x = some (.inl (r, S3', S4')) ∧ m_X5_blamed M x = some (r, M') ∧ LX S4' ∧ FB (md_up M 0 4 0) M' := by
  unfold m_X4_blamed m_X5_blamed
  rcases a_lim x with ⟨d1, d2⟩ | ⟨lim, l1, l2, rfl, l4, l5⟩
  · left
    rw [d1, pu_xe, d2, pu_some, need_0, pu_some, ref_1, pu_some, if_neg ne_10]
    exact ⟨rfl, rfl⟩
  · right
    rw [l4, pu_xb, l5, pu_some, need_1, pu_some, ref_0, pu_some, if_pos rfl]
    obtain ⟨cnt, P, T, nl, a1, a2, -⟩ := id hR
    obtain ⟨h10, hP1, hP2, e0, e5, -⟩ := a2.1.ex
    refine lp_DF (step := m_X4_blamed_6_step N L (nI lim)) (step' := m_X5_blamed_21_step (nI lim)) (fun y y' => ∃ r S3' S4' M', y = some (.inl (r, S3', S4')) ∧ y' = some (r, M') ∧ LX S4' ∧ FB (md_up M 0 4 0) M') (fun j s s' => s.2.2 = nI j ∧ s'.2 = (-1, nI j) ∧ LX s.2.1 ∧ FB (md_up M 0 4 0) s'.1) cnt (by omega) _ _ ⟨rfl, rfl, hl4, FB.rf (up_10 h0)⟩ ?_
    rintro j ⟨A, La, z⟩ ⟨B, z'⟩ hj ⟨rfl, rfl, hLa, hB⟩
    dsimp only at hLa hB ⊢
    have row : ∀ x, x < 378 → B.1 1 x = M.1 1 x := fun x hx => by rw [hB.1 x hx, up_row]
    have f5 : B.1 1 5 = nI cnt := by rw [row 5 (by omega)]; exact e5
    by_cases hjc : j = cnt
    · left
      subst hjc
      refine ⟨_, _, ⟨-1, A, La, B, rfl, rfl, hLa, hB⟩, fun k => ?_, Or.inl fun k => ?_⟩
      · unfold m_X4_blamed_6_step
        dsimp only
        rw [e0, if_pos ((nI_leI (by omega) (by omega)).mpr (Nat.le_refl _))]
      · unfold m_X5_blamed_21_step
        dsimp only
        rw [if_pos (show sk_in (5 : Int32) 378 = true by decide), show ((5 : Int32)).toNatClampNeg = 5 from rfl, f5, if_pos ((nI_leI (by omega) (by omega)).mpr (Nat.le_refl _))]
    · have hlt : j < cnt := by omega
      have nle : ¬ nI cnt ≤ nI j := nI_ge hlt (by omega)
      have e28 : (28 : Int32) + nI j = nI (28 + j) := by rw [show (28 : Int32) = nI 28 from rfl, nI_add]
      have i28 : sk_in (nI (28 + j)) 378 = true := pu_inT (by omega) (by omega)
      have b28 := a2.qr.b28 hlt
      by_cases hg : gb N j = true
      · rw [if_pos hg] at b28
        right
        refine ⟨hlt, (A, La, nI (j + 1)), (B, -1, nI (j + 1)), fun k => ?_, fun k => ?_, rfl, rfl, hLa, hB⟩
        · unfold m_X4_blamed_6_step
          dsimp only
          rw [e0, if_neg nle, v_good' (by omega), pu_some, if_pos hg, if_neg (nI_ne0 (by omega) (by omega)), nI_1]
        · unfold m_X5_blamed_21_step
          dsimp only
          rw [if_pos (show sk_in (5 : Int32) 378 = true by decide), show ((5 : Int32)).toNatClampNeg = 5 from rfl, f5, if_neg nle, if_pos rfl, e28, if_pos i28, nI_clamp (by omega), row _ (by omega), b28, if_neg (by decide), nI_1]
      · rw [if_neg hg] at b28
        obtain ⟨M1, t1, t2, t3, t4⟩ := b_think B
        obtain ⟨cnt2, P2, T2, u1, u2, u3⟩ := ((hR.up (v := 0)).fb hB).th t2 t3
        have hcc : cnt2 = cnt := by
          have := u2.1.2.1.1
          rw [e0] at this
          exact ((nI_eq (by omega) (by have := u2.1.1.1; omega)).mp this).symm
        subst hcc
        obtain ⟨N1, L1, v1, v2, v3⟩ := c_copy A La N L
        have u4 := u3.copy v2 v3
        obtain ⟨w1, w2⟩ := o_mend u4.1 hlt
        have w3 : RS cnt2 P2 T2 T2 (sk_up (sk_up N1 4 j 0) 5 j 0) L1 (md_up M1 1 (28 + j) 0) := u4.mod w2 (by rw [pu_row (by omega), pu_row (by omega)]) (by rw [pu_m, if_neg (by omega)]) (by rw [pu_mrow (by omega)]; exact t3)
        obtain ⟨r, N2, L2, M2, y1, y2, y3, y4, y5⟩ := th_until (S3 := A) (S4 := La) (g := 1) w3 (by omega) l2 (by omega)
        have fh : FH M1 M2 := FH.tr ⟨pu_mrow (by omega), pu_mrow (by omega), pu_mrow (by omega), fun k _ => by rw [pu_mrow (by omega)]⟩ y5
        obtain ⟨M3, q1, q2⟩ := t4 M2 fh
        have y2' : m_X1_passUntilGroups (sk_up (sk_up N1 4 j 0) 5 j 0) L1 1 (nI lim) = some (r, N2, L2) := y2
        have y3' : m_X5_until (md_up M1 1 (28 + j) 0) 1 (nI lim) = some (r, M2) := y3
        have sc : ∀ k, m_X4_blamed_6_step N L (nI lim) k (A, La, nI j) = if r = -1 then k (N2, L2, nI (j + 1)) else some (.inl (nI j, N2, L2)) := fun k => by
          unfold m_X4_blamed_6_step
          dsimp only
          rw [e0, if_neg nle, v_good' (by omega), pu_some, if_neg hg, if_pos nI_0, v1, pu_some, w1, pu_some, y2', pu_some, nI_1]
        have sm : ∀ k, m_X5_blamed_21_step (nI lim) k (B, -1, nI j) = if r = -1 then k (M3, -1, nI (j + 1)) else k (M3, nI j, nI (j + 1)) := fun k => by
          unfold m_X5_blamed_21_step m_X5_blamed_78
          dsimp only
          rw [if_pos (show sk_in (5 : Int32) 378 = true by decide), show ((5 : Int32)).toNatClampNeg = 5 from rfl, f5, if_neg nle, if_pos rfl, e28, if_pos i28, nI_clamp (by omega), row _ (by omega), b28, if_pos (by decide), t1, pu_some, if_pos i28, pu_let, y3', pu_some]
          by_cases hr : r = -1
          · rw [if_pos hr, if_pos hr, q1, pu_some, nI_1]
          · rw [if_neg hr, if_neg hr, q1, pu_some, nI_1]
        by_cases hr : r = -1
        · right
          exact ⟨by omega, _, _, fun k => by rw [sc, if_pos hr], fun k => by rw [sm, if_pos hr], rfl, rfl, y4, hB.tr q2⟩
        · left
          refine ⟨_, _, ⟨nI j, N2, L2, M3, rfl, rfl, y4, hB.tr q2⟩, fun k => by rw [sc, if_neg hr], Or.inr ⟨_, fun k => by rw [sm, if_neg hr], fun k => ?_⟩⟩
          have f5' : M3.1 1 5 = nI cnt2 := by rw [q2.1 5 (by omega)]; exact f5
          unfold m_X5_blamed_21_step
          dsimp only
          rw [if_pos (show sk_in (5 : Int32) 378 = true by decide), show ((5 : Int32)).toNatClampNeg = 5 from rfl, f5']
          by_cases h33 : nI cnt2 ≤ nI (j + 1)
          · rw [if_pos h33]
          · rw [if_neg h33, if_neg (nm_ne (by omega))]
/-- one thought: a clock with another phase -/
theorem th_phase {cnt P T c p lim : Nat} {S3 S4 N L : sk_N} {B : sk_M} (h : RX cnt P T T N (B.1 1)) (hf : FQ N (B.1 1)) (hl : LX L) (hc : c < cnt) (hp : p < P) (l2 : lim ≤ 400) (hb : T + 400 < 2 ^ 29) : ∃ r N1 L1 N2 L2 M3, (r = -1 ∨ ∃ n : Nat, 1 ≤ n ∧ n ≤ 400 ∧ r = nI n) ∧ m_X4_imaginePhase N L S3 S4 (nI c) (nI p) = some (N1, L1) ∧ m_X1_passUntilGroups N1 L1 1 (nI lim) = some (r, N2, L2) ∧ m_X5_untilWith B (nI c) (nI p) (nI lim) = some (r, M3) ∧ LX L2 ∧ FB B M3 := by
  have h10 := h.1.1.1
  obtain ⟨M1, t1, t2, t3, t4⟩ := b_think B
  obtain ⟨nl, hl⟩ := hl
  have u3 : RS cnt P T T N L M1 := ⟨by rw [t2]; exact h, by rw [t2]; exact hf, nl, hl, Or.inr t3⟩
  obtain ⟨N1, L1, v1, v2, v3⟩ := c_copy S3 S4 N L
  have u4 := u3.copy v2 v3
  obtain ⟨rr, w1, -, w2⟩ := o_phase u4.1 hc hp
  have w3 : RS cnt P T T (sk_up N1 2 c (nI p)) L1 (md_up M1 1 (8 + c) (nI p)) := u4.mod w2 (by rw [pu_row (by omega)]) (by rw [pu_m, if_neg (by omega)]) (by rw [pu_mrow (by omega)]; exact t3)
  obtain ⟨r, N2, L2, M2, y1, y2, y3, y4, y5⟩ := th_until (S3 := S3) (S4 := S4) (g := 1) w3 (by omega) l2 (by omega)
  have fh : FH M1 M2 := FH.tr ⟨pu_mrow (by omega), pu_mrow (by omega), pu_mrow (by omega), fun k _ => by rw [pu_mrow (by omega)]⟩ y5
  obtain ⟨M3, q1, q2⟩ := t4 M2 fh
  have y3' : m_X5_until (md_up M1 1 (8 + c) (nI p)) 1 (nI lim) = some (r, M2) := y3
  refine ⟨r, sk_up N1 2 c (nI p), L1, N2, L2, M3, y1, ?_, y2, ?_, y4, q2⟩
  · unfold m_X4_imaginePhase
    rw [v1, pu_some, w1, pu_some]
  · unfold m_X5_untilWith
    have e8 : (8 : Int32) + nI c = nI (8 + c) := by rw [show (8 : Int32) = nI 8 from rfl, nI_add]
    rw [t1, pu_some, e8, if_pos (pu_inT (by omega) (by omega)), nI_clamp (by omega), pu_let, y3', pu_some, q1, pu_some]
theorem g_basin {b : Nat} {S3 S4 N L : sk_N} {M : sk_M} (hR : RW b N L (M.1 1)) (h0 : M.1 0 10 = 0) (hb : b < 2 ^ 28) (hl4 : LX S4) (x y : Int32) : (m_X4_basin N L S3 S4 x y = some (.inr 3) ∧ m_X5_basin M x y = some (0, md_up M 0 4 1)) ∨ (m_X4_basin N L S3 S4 x y = some (.inr 1) ∧ m_X5_basin M x y = some (0, md_up M 0 4 2)) ∨ ∃ r S3' S4' M', m_X4_basin N L S3 S4 x y = some (.inl (r, S3', S4')) ∧ m_X5_basin M x y = some (r, M') ∧ LX S4' ∧ FB (md_up M 0 4 0) M' := by
  obtain ⟨cnt, P, T, nl, a1, a2, a3, a4, -⟩ := id hR
  obtain ⟨h10, hP1, hP2, e0, e5, eP, eP'⟩ := a2.1.ex
  unfold m_X4_basin m_X5_basin m_X5_basin_25
  rcases a_clk a2.1 x with ⟨-, c1, c2⟩ | ⟨c, hc, rfl, -, c1, c2⟩
  · left
    rw [c1, pu_xe, c2, pu_some, if_pos rfl, ref_1, pu_some, if_neg ne_10]
    exact ⟨rfl, rfl⟩
  · right
    rcases a_lim y with ⟨d1, d2⟩ | ⟨lim, l1, l2, rfl, l4, l5⟩
    · left
      rw [c1, pu_xb, c2, pu_some, if_neg ne_10, d1, pu_xe, d2, pu_some, if_pos rfl, ref_2, pu_some, if_neg ne_10]
      exact ⟨rfl, rfl⟩
    · right
      rw [c1, pu_xb, c2, pu_some, if_neg ne_10, l4, pu_xb, l5, pu_some, if_neg ne_10, ref_0, pu_some, if_pos rfl]
      refine lp_LF (step := m_X4_basin_14_step N L (nI c) (nI lim)) (step' := m_X5_basin_38_step (nI c) (nI lim)) (fun y y' => ∃ r S3' S4' M', y = some (.inl (r, S3', S4')) ∧ y' = some (r, M') ∧ LX S4' ∧ FB (md_up M 0 4 0) M') (fun j s s' => s.2.2.2 = nI j ∧ s'.2.2 = nI j ∧ s.2.2.1 = s'.2.1 ∧ LX s.2.1 ∧ FB (md_up M 0 4 0) s'.1) P (by omega) _ _ ⟨rfl, rfl, rfl, hl4, FB.rf (up_10 h0)⟩ ?_
      rintro k k' j ⟨A, La, f, z⟩ ⟨B, f', z'⟩ hj ⟨rfl, rfl, rfl, hLa, hB⟩
      dsimp only at hLa hB ⊢
      have row : ∀ x, x < 378 → B.1 1 x = M.1 1 x := fun x hx => by rw [hB.1 x hx, up_row]
      have f0 : B.1 1 0 = nI P := by rw [row 0 (by omega)]; exact eP'
      unfold m_X4_basin_14_step m_X5_basin_38_step
      dsimp only
      rw [if_pos (show sk_in (0 : Int32) 378 = true by decide), show ((0 : Int32)).toNatClampNeg = 0 from rfl, eP, f0]
      by_cases hjc : j = P
      · left
        subst hjc
        rw [if_pos ((nI_leI (by omega) (by omega)).mpr (Nat.le_refl _)), if_pos ((nI_leI (by omega) (by omega)).mpr (Nat.le_refl _))]
        exact ⟨_, A, La, B, rfl, rfl, hLa, hB⟩
      · right
        have hlt : j < P := by omega
        refine ⟨hlt, ?_⟩
        obtain ⟨r, N1, L1, N2, L2, M3, y1, y2, y3, y4, y5, y6⟩ := th_phase (S3 := A) (S4 := La) (B := B) (L := L) (a2.copy AG.rf row) (a3.copy AG.rf row) ⟨nl, a4⟩ hc hlt l2 (by omega)
        rw [if_neg (nI_ge hlt (by omega)), if_neg (nI_ge hlt (by omega)), y2, pu_some, y3, pu_some, y4, pu_some, nI_1]
        by_cases hr : r = -1
        · rw [if_pos hr, if_pos hr, pu_let]
          exact ⟨_, _, rfl, rfl, rfl, rfl, (Int32.add_zero _).symm, y5, hB.tr y6⟩
        · rw [if_neg hr, if_neg hr, pu_let]
          exact ⟨_, _, rfl, rfl, rfl, rfl, rfl, y5, hB.tr y6⟩
