/-- two loops in step, where the second may go on alone -/
theorem lp_E {σ σ' ρ ρ' : Type} {step : (σ → Option ρ) → σ → Option ρ} {step' : (σ' → Option ρ') → σ' → Option ρ'} (P : Option ρ → Option ρ' → Prop) (I : Nat → σ → σ' → Prop) (N : Nat)
    (h : ∀ (j : Nat) (s : σ) (s' : σ'), j ≤ N → I j s s' → (∃ y, (∀ k, step k s = y) ∧ ∀ fuel', N - j < fuel' → P y (sk_lp step' fuel' s')) ∨ (j < N ∧ ∃ t t', (∀ k, step k s = k t) ∧ (∀ k', step' k' s' = k' t') ∧ I (j + 1) t t')) :
    ∀ (fuel fuel' j : Nat) (s : σ) (s' : σ'), j ≤ N → N - j < fuel → N - j < fuel' → I j s s' → P (sk_lp step fuel s) (sk_lp step' fuel' s')
  | 0, _, j, s, _, _, hf, _, _ => absurd hf (by omega)
  | fuel + 1, 0, j, s, _, _, _, hf, _ => absurd hf (by omega)
  | fuel + 1, fuel' + 1, j, s, s', hj, hf, hf', hI => by
    rcases h j s s' hj hI with ⟨y, h2, h3⟩ | ⟨h1, t, t', h2, h3, h4⟩
    · rw [sk_lp, h2]; exact h3 _ hf'
    · rw [sk_lp, h2, sk_lp, h3]
      exact lp_E P I N h fuel fuel' (j + 1) t t' h1 (by omega) (by omega) h4
theorem lp_EF {σ σ' ρ ρ' : Type} {step : (σ → Option ρ) → σ → Option ρ} {step' : (σ' → Option ρ') → σ' → Option ρ'} (P : Option ρ → Option ρ' → Prop) (I : Nat → σ → σ' → Prop) (N : Nat) (hN : N < 1900) (s : σ) (s' : σ') (h0 : I 0 s s')
    (h : ∀ (j : Nat) (s : σ) (s' : σ'), j ≤ N → I j s s' → (∃ y, (∀ k, step k s = y) ∧ ∀ fuel', N - j < fuel' → P y (sk_lp step' fuel' s')) ∨ (j < N ∧ ∃ t t', (∀ k, step k s = k t) ∧ (∀ k', step' k' s' = k' t') ∧ I (j + 1) t t')) : P (sk_lp step sk_fuel s) (sk_lp step' sk_fuel s') :=
  lp_E P I N h sk_fuel sk_fuel 0 s s' (Nat.zero_le _) (by unfold sk_fuel; omega) (by unfold sk_fuel; omega) h0
theorem g_worstPhase {b : Nat} {S3 S4 N L : sk_N} {M : sk_M} (hR : RW b N L (M.1 1)) (h0 : M.1 0 10 = 0) (hb : b < 2 ^ 28) (hl4 : LX S4) (x y : Int32) : (m_X4_worstPhase N L S3 S4 x y = some (.inr 3) ∧ m_X5_worstPhase M x y = some (0, md_up M 0 4 1)) ∨ (m_X4_worstPhase N L S3 S4 x y = some (.inr 1) ∧ m_X5_worstPhase M x y = some (0, md_up M 0 4 2)) ∨ ∃ r S3' S4' M', m_X4_worstPhase N L S3 S4 x y = some (.inl (r, S3', S4')) ∧ m_X5_worstPhase M x y = some (r, M') ∧ LX S4' ∧ FB (md_up M 0 4 0) M' := by
  obtain ⟨cnt, P, T, nl, a1, a2, a3, a4, -⟩ := id hR
  obtain ⟨h10, hP1, hP2, e0, e5, eP, eP'⟩ := a2.1.ex
  unfold m_X4_worstPhase m_X5_worstPhase m_X5_worstPhase_25
  rcases a_clk a2.1 x with ⟨-, c1, c2⟩ | ⟨c, hc, rfl, -, c1, c2⟩
  · left
    rw [c1, pu_xe, c2, pu_some, if_pos rfl, ref_1, pu_some, if_neg ne_10]
    exact ⟨rfl, rfl⟩
  · right
    rcases a_lim y with ⟨d1, d2⟩ | ⟨lim, l1, l2, rfl, l4, l5⟩
    · left
      rw [c1, pu_xb, c2, pu_some, if_neg ne_10, d1, pu_xe, d2, pu_some, if_pos rfl, ref_2, pu_some, if_neg ne_10]
      exact ⟨rfl, rfl⟩
    · right
      rw [c1, pu_xb, c2, pu_some, if_neg ne_10, l4, pu_xb, l5, pu_some, if_neg ne_10, ref_0, pu_some, if_pos rfl]
      have row : ∀ {B : sk_M}, FB (md_up M 0 4 0) B → ∀ x, x < 378 → B.1 1 x = M.1 1 x := fun hB x hx => by rw [hB.1 x hx, up_row]
      have f0 : ∀ {B : sk_M}, FB (md_up M 0 4 0) B → B.1 1 0 = nI P := fun hB => by rw [row hB 0 (by omega)]; exact eP'
      have th : ∀ (A La : sk_N) {B : sk_M}, FB (md_up M 0 4 0) B → ∀ {j : Nat}, j < P → ∃ r N1 L1 N2 L2 M3, (r = -1 ∨ ∃ n : Nat, 1 ≤ n ∧ n ≤ 400 ∧ r = nI n) ∧ m_X4_imaginePhase N L A La (nI c) (nI j) = some (N1, L1) ∧ m_X1_passUntilGroups N1 L1 1 (nI lim) = some (r, N2, L2) ∧ m_X5_untilWith B (nI c) (nI j) (nI lim) = some (r, M3) ∧ LX L2 ∧ FB B M3 := fun A La {B} hB {j} hj =>
        th_phase (S3 := A) (S4 := La) (B := B) (L := L) (a2.copy AG.rf (row hB)) (a3.copy AG.rf (row hB)) ⟨nl, a4⟩ hc hj l2 (by omega)
      -- the model alone
      have alone : ∀ (w : Int32) (fuel j : Nat) (B : sk_M), j ≤ P → P - j < fuel → FB (md_up M 0 4 0) B → ∃ M', sk_lp (m_X5_worstPhase_41_step (nI c) (nI lim)) fuel (B, w, 1000, nI j) = some (w, M') ∧ FB (md_up M 0 4 0) M' := by
        intro w fuel j B hj hf hB
        refine lp_P (step := m_X5_worstPhase_41_step (nI c) (nI lim)) (fun y => ∃ M', y = some (w, M') ∧ FB (md_up M 0 4 0) M') (fun j s => s.2 = (w, 1000, nI j) ∧ FB (md_up M 0 4 0) s.1) P ?_ fuel j _ hj hf ⟨rfl, hB⟩
        rintro k j ⟨B, z⟩ hj ⟨rfl, hB⟩
        dsimp only at hB ⊢
        unfold m_X5_worstPhase_41_step
        dsimp only
        rw [if_pos (show sk_in (0 : Int32) 378 = true by decide), show ((0 : Int32)).toNatClampNeg = 0 from rfl, f0 hB]
        by_cases hjc : j = P
        · left
          subst hjc
          rw [if_pos ((nI_leI (by omega) (by omega)).mpr (Nat.le_refl _))]
          exact ⟨B, rfl, hB⟩
        · right
          have hlt : j < P := by omega
          refine ⟨hlt, ?_⟩
          obtain ⟨r, N1, L1, N2, L2, M3, y1, -, -, y4, -, y6⟩ := th N L hB hlt
          rw [if_neg (nI_ge hlt (by omega)), y4, pu_some]
          unfold m_X5_worstPhase_76 m_X5_worstPhase_91
          dsimp only
          have ht : (1000 : Int32) ≤ 1000 := by decide
          rcases y1 with rfl | ⟨n, n1, n2, rfl⟩
          · rw [if_pos rfl, if_pos ht, if_pos ht, nI_1]
            exact ⟨_, rfl, rfl, hB.tr y6⟩
          · have hn : nI n ≤ (1000 : Int32) := (nI_leI (b := 1000) (by omega) (by omega)).mpr (by omega)
            rw [if_neg (nm_ne (by omega)), if_pos hn, if_pos hn, nI_1]
            exact ⟨_, rfl, rfl, hB.tr y6⟩
      refine lp_EF (step := m_X4_worstPhase_17_step N L (nI c) (nI lim)) (step' := m_X5_worstPhase_41_step (nI c) (nI lim)) (fun y y' => ∃ r S3' S4' M', y = some (.inl (r, S3', S4')) ∧ y' = some (r, M') ∧ LX S4' ∧ FB (md_up M 0 4 0) M') (fun j s s' => s.2.2 = s'.2 ∧ s.2.2.2.2 = nI j ∧ (∃ m : Nat, m ≤ 400 ∧ s.2.2.2.1 = nI m) ∧ LX s.2.1 ∧ FB (md_up M 0 4 0) s'.1) P (by omega) _ _ ⟨rfl, rfl, ⟨0, by omega, rfl⟩, hl4, FB.rf (up_10 h0)⟩ ?_
      rintro j ⟨A, La, w, mo, z⟩ ⟨B, z'⟩ hj ⟨rfl, rfl, ⟨m, hm, rfl⟩, hLa, hB⟩
      dsimp only at hLa hB ⊢
      by_cases hjc : j = P
      · left
        subst hjc
        have hle : nI j ≤ nI j := (nI_leI (by omega) (by omega)).mpr (Nat.le_refl _)
        refine ⟨some (.inl (w, A, La)), fun k => ?_, fun fuel hf => ?_⟩
        · unfold m_X4_worstPhase_17_step
          dsimp only
          rw [eP, if_pos hle]
        · cases fuel with
          | zero => omega
          | succ fuel =>
            refine ⟨w, A, La, B, rfl, ?_, hLa, hB⟩
            rw [sk_lp]
            unfold m_X5_worstPhase_41_step
            dsimp only
            rw [if_pos (show sk_in (0 : Int32) 378 = true by decide), show ((0 : Int32)).toNatClampNeg = 0 from rfl, f0 hB, if_pos hle]
      · have hlt : j < P := by omega
        have nle : ¬ nI P ≤ nI j := nI_ge hlt (by omega)
        obtain ⟨r, N1, L1, N2, L2, M3, y1, y2, y3, y4, y5, y6⟩ := th A La hB hlt
        have sc : ∀ k, m_X4_worstPhase_17_step N L (nI c) (nI lim) k (A, La, w, nI m, nI j) = if r = -1 then some (.inl (nI j, N2, L2)) else if r ≤ nI m then k (N2, L2, w, nI m, nI (j + 1)) else k (N2, L2, nI j, r, nI (j + 1)) := fun k => by
          unfold m_X4_worstPhase_17_step
          dsimp only
          rw [eP, if_neg nle, y2, pu_some, y3, pu_some, nI_1]
        have sm : ∀ k, m_X5_worstPhase_41_step (nI c) (nI lim) k (B, w, nI m, nI j) = if r = -1 then k (M3, nI j, 1000, nI (j + 1)) else if r ≤ nI m then k (M3, w, nI m, nI (j + 1)) else k (M3, nI j, r, nI (j + 1)) := fun k => by
          unfold m_X5_worstPhase_41_step m_X5_worstPhase_76 m_X5_worstPhase_91
          dsimp only
          rw [if_pos (show sk_in (0 : Int32) 378 = true by decide), show ((0 : Int32)).toNatClampNeg = 0 from rfl, f0 hB, if_neg nle, y4, pu_some]
          rcases y1 with rfl | ⟨n, n1, n2, rfl⟩
          · have ht : ¬ (1000 : Int32) ≤ nI m := fun h => by
              have := (nI_leI (a := 1000) (by omega) (by omega)).mp h
              omega
            rw [if_pos rfl, if_neg ht, if_neg ht, nI_1, if_pos rfl]
          · rw [if_neg (nm_ne (by omega)), if_neg (nm_ne (by omega))]
            by_cases hn : nI n ≤ nI m
            · rw [if_pos hn, if_pos hn, nI_1, if_pos hn]
            · rw [if_neg hn, if_neg hn, nI_1, if_neg hn]
        rcases y1 with rfl | ⟨n, n1, n2, rfl⟩
        · left
          refine ⟨some (.inl (nI j, N2, L2)), fun k => by rw [sc, if_pos rfl], fun fuel hf => ?_⟩
          cases fuel with
          | zero => omega
          | succ fuel =>
            obtain ⟨M', o1, o2⟩ := alone (nI j) fuel (j + 1) M3 hlt (by omega) (hB.tr y6)
            refine ⟨nI j, N2, L2, M', rfl, ?_, y5, o2⟩
            rw [sk_lp, sm, if_pos rfl]
            exact o1
        · right
          refine ⟨hlt, ?_⟩
          by_cases hn : nI n ≤ nI m
          · exact ⟨_, _, fun k => by rw [sc, if_neg (nm_ne (by omega)), if_pos hn], fun k => by rw [sm, if_neg (nm_ne (by omega)), if_pos hn], rfl, rfl, ⟨m, hm, rfl⟩, y5, hB.tr y6⟩
          · exact ⟨_, _, fun k => by rw [sc, if_neg (nm_ne (by omega)), if_neg hn], fun k => by rw [sm, if_neg (nm_ne (by omega)), if_neg hn], rfl, rfl, ⟨n, n2, rfl⟩, y5, hB.tr y6⟩
