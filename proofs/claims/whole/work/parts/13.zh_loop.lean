/-! the law's loop -/
theorem go_if {b i : Nat} {k : lw_σ → Option Int32} {c : Prop} [Decidable c] {y z : Option Int32} (h1 : GO b i k y) (h2 : GO b i k z) : GO b i k (if c then y else z) := by
  by_cases h : c
  · rw [if_pos h]; exact h1
  · rw [if_neg h]; exact h2
theorem i_end {L i : Nat} (hL : L ≤ 2048) (hi : i ≤ 2048) : nI L - (4 : Int32) < nI i ↔ L < i + 4 := by
  rw [Int32.lt_iff_toInt_lt, Int32.toInt_sub, nI_toInt (by omega), nI_toInt (by omega), show ((4 : Int32)).toInt = 4 by decide]
  rw [Int.bmod_eq_of_le (by omega) (by omega)]
  omega
theorem st_hd {b i L : Nat} {xs : Nat → Int32} {k : lw_σ → Option Int32} {S1 S2 S3 S4 S5 S6 S7 S8 S9 S10 S11 S12 S13 S14 S15 S16 : sk_N} {S17 : sk_M} {S18 : sk_O} (h : REL b S1 S2 S4 S6 S7 S8 S9 S10 S11 S12 S13 S14 S15 S16 S17) (hi : i + 4 ≤ L) (hL : L ≤ 2048) (hb : b + 4000 < 2 ^ 28) : GO (b + 4000) (i + 4) k (m_L_hd L xs k S1 S2 S3 S4 S5 S6 S7 S8 S9 S10 S11 S12 S13 S14 S15 S16 S17 S18 (nI i)) := by
  unfold m_L_hd
  rw [if_pos (pu_inT (by omega) (by omega)), if_neg (fun e => by have := (i_end hL (by omega)).mp e; omega), if_pos (pu_inT (by omega) (by omega))]
  refine go_if (st_0 h hi hL hb) ?_
  refine go_if (st_1 h hi hL hb) ?_
  refine go_if (st_2 h hi hL hb) ?_
  refine go_if (st_3 h hi hL hb) ?_
  refine go_if (st_4 h hi hL hb) ?_
  refine go_if (st_5 h hi hL hb) ?_
  refine go_if (st_6 h hi hL hb) ?_
  refine go_if (st_7 h hi hL hb) ?_
  refine go_if (st_8 h hi hL hb) ?_
  refine go_if (st_9 h hi hL hb) ?_
  refine go_if (st_10 h hi hL hb) ?_
  refine go_if (st_11 h hi hL hb) ?_
  refine go_if (st_12 h hi hL hb) ?_
  refine go_if (st_13 h hi hL hb) ?_
  refine go_if (st_14 h hi hL hb) ?_
  refine go_if (st_15 h hi hL hb) ?_
  refine go_if (st_16 h hi hL hb) ?_
  refine go_if (st_17 h hi hL hb) ?_
  refine go_if (st_18 h hi hL hb) ?_
  refine go_if (st_19 h hi hL hb) ?_
  refine go_if (st_20 h hi hL hb) ?_
  refine go_if (st_21 h hi hL hb) ?_
  refine go_if (st_22 h hi hL hb) ?_
  refine go_if (st_23 h hi hL hb) ?_
  refine go_if (st_24 h hi hL hb) ?_
  refine go_if (st_25 h hi hL hb) ?_
  refine go_if (st_26 h hi hL hb) ?_
  refine go_if (st_27 h hi hL hb) ?_
  refine go_if (st_28 h hi hL hb) ?_
  refine go_if (st_29 h hi hL hb) ?_
  refine go_if (st_30 h hi hL hb) ?_
  refine go_if (st_31 h hi hL hb) ?_
  refine go_if (st_32 h hi hL hb) ?_
  refine go_if (st_33 h hi hL hb) ?_
  refine go_if (st_34 h hi hL hb) ?_
  refine go_if (st_35 h hi hL hb) ?_
  refine go_if (st_36 h hi hL hb) ?_
  have e4 : nI i + (4 : Int32) = nI (i + 4) := by rw [show (4 : Int32) = nI 4 from rfl, nI_add]
  rw [e4]
  exact ⟨S1, S2, S3, S4, S5, S6, S7, S8, S9, S10, S11, S12, S13, S14, S15, S16, S17, S18, rfl, h.mono (by omega)⟩
theorem r_start0 : RW 0 (nt_S nt_D) z0 ((md_S (md_D 100)).1 1) := by
  have d6 : ∀ x, x < 100 → nt_S nt_D 6 x = -1 := fun x hx => by
    show nt_D x = -1
    unfold nt_D
    rw [if_pos hx]
  have w6 : ∀ x, x < 100 → (md_S (md_D 100)).1 1 (58 + x) = -1 := fun x hx => by
    show md_D 100 (58 + x) = -1
    unfold md_D
    rw [if_pos (by omega)]
  have wz : ∀ x, x < 100 → (md_S (md_D 100)).1 1 (158 + x) = nI 0 := fun x hx => by
    show md_D 100 (158 + x) = nI 0
    unfold md_D md_N0
    rw [if_neg (by omega), pu_upd, if_neg (show ¬ 158 + x = ((2 : Int32)).toNatClampNeg by rw [show ((2 : Int32)).toNatClampNeg = 2 from rfl]; omega), pu_upd, if_neg (show ¬ 158 + x = ((0 : Int32)).toNatClampNeg by rw [show ((0 : Int32)).toNatClampNeg = 0 from rfl]; omega)]
    rfl
  have dz : ∀ s b, dd (nt_S nt_D) s b = 0 := fun s b => rfl
  refine ⟨0, 40, 0, [], Nat.le_refl _, ⟨⟨⟨by omega, by omega, by omega⟩, ⟨rfl, rfl⟩, ⟨rfl, rfl⟩, ⟨0, 4, 0, by omega, by omega, by omega, rfl, rfl, rfl, rfl, rfl, rfl⟩, ⟨fun c hc => absurd hc (by omega), fun c _ _ => ⟨rfl, rfl⟩⟩, fun a b ha hb => ⟨?_, ?_, ?_, ?_, fun _ => ?_⟩⟩, ⟨by omega, by omega, rfl, rfl⟩, fun c hc => absurd hc (by omega), ⟨fun s b _ _ => ⟨?_, ?_⟩, fun a b ha hb => ⟨0, by omega, wz _ (by omega), rfl, fun e => absurd rfl e, fun e => absurd (show false = true from e) (by decide), fun d hd => ?_⟩⟩, fun c hc => absurd hc (by omega)⟩, ⟨0, by omega, rfl, rfl⟩, ⟨by decide, rfl, 0, by omega, rfl, fun k x hk => absurd hk (Nat.not_lt_zero _)⟩, ⟨by decide, rfl, fun k x hk => ?_⟩⟩
  · rw [d6 _ (by omega), w6 _ (by omega)]
  · exact Or.inl (d6 _ (by omega))
  · rw [d6 _ (by omega), d6 _ (by omega)]
  · exact d6 _ (by omega)
  · exact d6 _ (by omega)
  · rw [dz]; rfl
  · rw [dz]; omega
  · rw [dz]
    by_cases e : d = 0
    · rw [if_pos e, Nat.zero_testBit]
    · rw [if_neg e, Nat.zero_testBit, Nat.zero_testBit]
  · rw [List.getElem?_nil] at hk
    exact absurd hk (by simp)
theorem rel_0 : REL 0 (nt_S nt_D) z0 z0 z0 z0 (nt_S nt_D) z0 (nt_S nt_D) z0 (nt_S nt_D) z0 (nt_S nt_D) z0 z0 (md_S (md_D 100)) := by
  have lx : LX z0 := ⟨[], by decide, rfl, 0, by omega, rfl, fun k x hk => absurd hk (Nat.not_lt_zero _)⟩
  exact ⟨r_start0, ⟨0, 0, by omega, by omega, rfl, rfl, rfl, fun j hj => absurd hj (by omega)⟩, lx, lx, rfl, 0, by omega, rfl, rfl, fun i hi => absurd hi (by omega)⟩
theorem lw_pure (L : Nat) (xs : Nat → Int32) (hL : L ≤ 2048) : m_L_loop L xs lw_s0 = some 1 := by
  unfold m_L_loop
  refine lp_F (step := m_L_step L xs) (fun y => y = some 1) (fun j s => ∃ (S1 S2 S3 S4 S5 S6 S7 S8 S9 S10 S11 S12 S13 S14 S15 S16 : sk_N) (S17 : sk_M) (S18 : sk_O), s = (S1, S2, S3, S4, S5, S6, S7, S8, S9, S10, S11, S12, S13, S14, S15, S16, S17, S18, nI (4 * j)) ∧ REL (4000 * j) S1 S2 S4 S6 S7 S8 S9 S10 S11 S12 S13 S14 S15 S16 S17) 512 (by omega) lw_s0 ⟨nt_S nt_D, z0, nt_S nt_D, z0, nt_S nt_D, z0, z0, nt_S nt_D, z0, nt_S nt_D, z0, nt_S nt_D, z0, nt_S nt_D, z0, z0, md_S (md_D 100), (fun _ => 0), rfl, rel_0⟩ ?_
  rintro k j s hj ⟨S1, S2, S3, S4, S5, S6, S7, S8, S9, S10, S11, S12, S13, S14, S15, S16, S17, S18, rfl, h⟩
  have es : m_L_step L xs k (S1, S2, S3, S4, S5, S6, S7, S8, S9, S10, S11, S12, S13, S14, S15, S16, S17, S18, nI (4 * j)) = m_L_hd L xs k S1 S2 S3 S4 S5 S6 S7 S8 S9 S10 S11 S12 S13 S14 S15 S16 S17 S18 (nI (4 * j)) := rfl
  rw [es]
  by_cases hi : L < 4 * j + 4
  · left
    unfold m_L_hd
    rw [if_pos (pu_inT (by omega) (by omega)), if_pos ((i_end hL (by omega)).mpr hi)]
  · right
    obtain ⟨S1', S2', S3', S4', S5', S6', S7', S8', S9', S10', S11', S12', S13', S14', S15', S16', S17', S18', g1, g2⟩ := st_hd (xs := xs) (k := k) (S3 := S3) (S5 := S5) (S18 := S18) h (show 4 * j + 4 ≤ L by omega) hL (by omega)
    exact ⟨by omega, _, g1, S1', S2', S3', S4', S5', S6', S7', S8', S9', S10', S11', S12', S13', S14', S15', S16', S17', S18', by rw [show 4 * (j + 1) = 4 * j + 4 by omega], by rw [show 4000 * (j + 1) = 4000 * j + 4000 by omega]; exact g2⟩
