/-! PURE PART: numbers, bits, loops -/
theorem pu_lit (n : Nat) : (OfNat.ofNat n : Int32) = nI (OfNat.ofNat n) := rfl
theorem pu_in {a n : Nat} (h : a < 2 ^ 31) : sk_in (nI a) n = decide (a < n) := by
  unfold sk_in
  rw [nI_clamp h]
  have := nI_pos h
  by_cases h1 : a < n
  · simp [this, h1]
  · simp [this, h1, Nat.not_lt.mp h1]
theorem pu_upd {f : Nat → Int32} {k j : Nat} {x : Int32} : upd f k x j = if j = k then x else f j := rfl
theorem pu_sup {N : sk_N} {j k a b : Nat} {v : Int32} : sk_up N j k v a b = if a = j ∧ b = k then v else N a b := by
  unfold sk_up va_up upd
  by_cases h1 : a = j
  · subst h1
    by_cases h2 : b = k <;> simp [h2]
  · simp [h1]
theorem pu_vup {α : Type} {N : Nat → α} {j a : Nat} {v : α} : va_up N j v a = if a = j then v else N a := rfl
theorem pu_mup {M : sk_M} {j k : Nat} {v : Int32} : md_up M j k v = (sk_up M.1 j k v, M.2) := rfl
theorem pu_let {α ρ : Type} {a : α} {F : α → Option ρ} : sk_let a F = F a := Eq.trans (Eq.refl _) (Eq.refl _)
theorem pu_some {α ρ : Type} {a : α} {F : α → Option ρ} : (some a).bind F = F a := Eq.trans (Eq.refl _) (Eq.refl _)
theorem pu_xb {ρ ρ' : Type} {x : ρ'} {F : ρ' → Option (ρ ⊕ Nat)} : sk_xb (some (.inl x)) F = F x := Eq.trans (Eq.refl _) (Eq.refl _)
theorem pu_xe {ρ ρ' : Type} {e : Nat} {F : ρ' → Option (ρ ⊕ Nat)} : sk_xb (some (.inr e)) F = some (.inr e) := Eq.trans (Eq.refl _) (Eq.refl _)
theorem pu_hb {ρ ρ' : Type} {x : ρ'} {F : ρ' → Option ρ} {Fx : Nat → Option ρ} : sk_xh (some (.inl x)) F Fx = F x := Eq.trans (Eq.refl _) (Eq.refl _)
theorem pu_he {ρ ρ' : Type} {e : Nat} {F : ρ' → Option ρ} {Fx : Nat → Option ρ} : sk_xh (some (.inr e)) F Fx = Fx e := Eq.trans (Eq.refl _) (Eq.refl _)
/-- a loop, by an invariant over the number of its turns -/
theorem lp_P {σ ρ : Type} {step : (σ → Option ρ) → σ → Option ρ} (P : Option ρ → Prop) (I : Nat → σ → Prop) (N : Nat)
    (h : ∀ (k : σ → Option ρ) (j : Nat) (s : σ), j ≤ N → I j s → P (step k s) ∨ (j < N ∧ ∃ s', step k s = k s' ∧ I (j + 1) s')) :
    ∀ (fuel j : Nat) (s : σ), j ≤ N → N - j < fuel → I j s → P (sk_lp step fuel s)
  | 0, j, s, _, hf, _ => absurd hf (by omega)
  | fuel + 1, j, s, hj, hf, hI => by
    rw [sk_lp]
    rcases h (sk_lp step fuel) j s hj hI with h1 | ⟨h1, s', h2, h3⟩
    · exact h1
    · rw [h2]
      exact lp_P P I N h fuel (j + 1) s' h1 (by omega) h3
theorem lp_F {σ ρ : Type} {step : (σ → Option ρ) → σ → Option ρ} (P : Option ρ → Prop) (I : Nat → σ → Prop) (N : Nat) (hN : N < 2000) (s : σ) (h0 : I 0 s)
    (h : ∀ (k : σ → Option ρ) (j : Nat) (s : σ), j ≤ N → I j s → P (step k s) ∨ (j < N ∧ ∃ s', step k s = k s' ∧ I (j + 1) s')) : P (sk_lp step sk_fuel s) :=
  lp_P P I N h sk_fuel 0 s (Nat.zero_le _) (by unfold sk_fuel; omega) h0
/-- two loops in step -/
theorem lp_L {σ σ' ρ ρ' : Type} {step : (σ → Option ρ) → σ → Option ρ} {step' : (σ' → Option ρ') → σ' → Option ρ'} (P : Option ρ → Option ρ' → Prop) (I : Nat → σ → σ' → Prop) (N : Nat)
    (h : ∀ (k : σ → Option ρ) (k' : σ' → Option ρ') (j : Nat) (s : σ) (s' : σ'), j ≤ N → I j s s' → P (step k s) (step' k' s') ∨ (j < N ∧ ∃ t t', step k s = k t ∧ step' k' s' = k' t' ∧ I (j + 1) t t')) :
    ∀ (fuel fuel' j : Nat) (s : σ) (s' : σ'), j ≤ N → N - j < fuel → N - j < fuel' → I j s s' → P (sk_lp step fuel s) (sk_lp step' fuel' s')
  | 0, _, j, s, _, _, hf, _, _ => absurd hf (by omega)
  | fuel + 1, 0, j, s, _, _, _, hf, _ => absurd hf (by omega)
  | fuel + 1, fuel' + 1, j, s, s', hj, hf, hf', hI => by
    rw [sk_lp, sk_lp]
    rcases h (sk_lp step fuel) (sk_lp step' fuel') j s s' hj hI with h1 | ⟨h1, t, t', h2, h3, h4⟩
    · exact h1
    · rw [h2, h3]
      exact lp_L P I N h fuel fuel' (j + 1) t t' h1 (by omega) (by omega) h4
theorem lp_LF {σ σ' ρ ρ' : Type} {step : (σ → Option ρ) → σ → Option ρ} {step' : (σ' → Option ρ') → σ' → Option ρ'} (P : Option ρ → Option ρ' → Prop) (I : Nat → σ → σ' → Prop) (N : Nat) (hN : N < 2000) (s : σ) (s' : σ') (h0 : I 0 s s')
    (h : ∀ (k : σ → Option ρ) (k' : σ' → Option ρ') (j : Nat) (s : σ) (s' : σ'), j ≤ N → I j s s' → P (step k s) (step' k' s') ∨ (j < N ∧ ∃ t t', step k s = k t ∧ step' k' s' = k' t' ∧ I (j + 1) t t')) : P (sk_lp step sk_fuel s) (sk_lp step' sk_fuel s') :=
  lp_L P I N h sk_fuel sk_fuel 0 s s' (Nat.zero_le _) (by unfold sk_fuel; omega) (by unfold sk_fuel; omega) h0
/-! bits -/
theorem pu_tn {n : Nat} (h : n < 2 ^ 31) : (nI n).toBitVec.toNat = n := pk_tn (by omega)
theorem pu_ext {x y : Int32} (h : x.toBitVec.toNat = y.toBitVec.toNat) : x = y := by
  apply Int32.toBitVec_inj.mp
  exact BitVec.eq_of_toNat_eq h
theorem pu_or {a b : Nat} (ha : a < 2 ^ 31) (hb : b < 2 ^ 31) : nI a ||| nI b = nI (a ||| b) := by
  have hc : a ||| b < 2 ^ 31 := Nat.or_lt_two_pow ha hb
  apply pu_ext
  rw [Int32.toBitVec_or, BitVec.toNat_or, pu_tn ha, pu_tn hb, pu_tn hc]
theorem pu_and {a b : Nat} (ha : a < 2 ^ 31) (hb : b < 2 ^ 31) : nI a &&& nI b = nI (a &&& b) := by
  have hc : a &&& b < 2 ^ 31 := Nat.lt_of_le_of_lt Nat.and_le_left ha
  apply pu_ext
  rw [Int32.toBitVec_and, BitVec.toNat_and, pu_tn ha, pu_tn hb, pu_tn hc]
theorem pu_shl {k : Nat} (hk : k < 30) : sk_shl 1 (nI k) = nI (2 ^ k) := by
  have h : ∀ k : Fin 30, sk_shl 1 (nI k.val) = nI (2 ^ k.val) := by decide +kernel
  exact h ⟨k, hk⟩
theorem pu_shr {a k : Nat} (ha : a < 2 ^ 31) (hk : k < 30) : sk_shr (nI a) (nI k) = nI (a / 2 ^ k) := by
  unfold sk_shr
  have h1 : nI k &&& 31 = nI k := by
    rw [show (31 : Int32) = nI 31 from rfl, pu_and (by omega) (by omega)]
    congr 1
    rw [show (31 : Nat) = 2 ^ 5 - 1 from rfl, Nat.and_two_pow_sub_one_eq_mod, Nat.mod_eq_of_lt (by omega)]
  rw [h1]
  have h2 : ∀ k : Fin 30, ((nI k.val).toBitVec.smod 32).toNat = k.val := by decide +kernel
  exact pk_shrN ha (nI k) k (h2 ⟨k, hk⟩)
theorem pu_bit {a k : Nat} : (a / 2 ^ k) &&& 1 = (if a.testBit k then 1 else 0) := by
  rw [Nat.and_one_is_mod, Nat.testBit_eq_decide_div_mod_eq]
  rcases Nat.mod_two_eq_zero_or_one (a / 2 ^ k) with h | h <;> simp [h]
/-- without the bit c, of a set of less than ten -/
theorem pu_not {a c : Nat} (ha : a < 1024) (hc : c < 10) : nI a &&& (nI (2 ^ c) ^^^ (-1)) = nI (a &&& (1023 ^^^ 2 ^ c)) := by
  have h1 : ∀ c : Fin 10, nI (2 ^ c.val) ^^^ (-1) = nI (2 ^ c.val) ^^^ nI (2 ^ 32 - 1) := by decide +kernel
  apply pu_ext
  rw [Int32.toBitVec_and, BitVec.toNat_and, Int32.toBitVec_xor, BitVec.toNat_xor, pu_tn (by omega)]
  have h2 : (2 : Nat) ^ c < 2 ^ 10 := Nat.pow_lt_pow_right (by omega) hc
  have h3 : a &&& (1023 ^^^ 2 ^ c) < 2 ^ 31 := Nat.lt_of_le_of_lt Nat.and_le_left (by omega)
  rw [pu_tn (by omega), pu_tn h3]
  have h4 : (-1 : Int32).toBitVec.toNat = 2 ^ 32 - 1 := by decide
  rw [h4]
  apply Nat.eq_of_testBit_eq
  intro i
  rw [Nat.testBit_and, Nat.testBit_and, Nat.testBit_xor, Nat.testBit_xor, Nat.testBit_two_pow_sub_one, show (1023 : Nat) = 2 ^ 10 - 1 from rfl, Nat.testBit_two_pow_sub_one]
  by_cases hi : i < 10
  · have : i < 32 := by omega
    simp [hi, this]
  · have : a.testBit i = false := Nat.testBit_lt_two_pow (Nat.lt_of_lt_of_le ha (Nat.pow_le_pow_right (n := 2) (by omega) (show 10 ≤ i by omega)))
    simp [this]
theorem pu_not_bit {a c i : Nat} (ha : a < 1024) : (a &&& (1023 ^^^ 2 ^ c)).testBit i = (a.testBit i && !(decide (c = i))) := by
  rw [Nat.testBit_and, Nat.testBit_xor, show (1023 : Nat) = 2 ^ 10 - 1 from rfl, Nat.testBit_two_pow_sub_one, Nat.testBit_two_pow]
  by_cases hi : i < 10
  · simp [hi]
  · have : a.testBit i = false := Nat.testBit_lt_two_pow (Nat.lt_of_lt_of_le ha (Nat.pow_le_pow_right (n := 2) (by omega) (show 10 ≤ i by omega)))
    simp [this]
theorem pu_or_bit {a c i : Nat} : (a ||| 2 ^ c).testBit i = (a.testBit i || decide (c = i)) := by
  rw [Nat.testBit_or, Nat.testBit_two_pow]
theorem pu_or_lt {a c : Nat} (ha : a < 1024) (hc : c < 10) : a ||| 2 ^ c < 1024 := by
  have : (2 : Nat) ^ c < 2 ^ 10 := Nat.pow_lt_pow_right (by omega) hc
  exact Nat.or_lt_two_pow (n := 10) ha this
theorem pu_and_lt {a b : Nat} (ha : a < 1024) : a &&& b < 1024 := Nat.lt_of_le_of_lt Nat.and_le_left ha
/-- the number of bits -/
def pu_pc (a : Nat) : Nat := ((List.range 10).filter (fun i => a.testBit i)).length
theorem pu_bitCount {a : Nat} (ha : a < 1024) : m_J6_bitCount_0f7a4 (nI a) = some (nI (pu_pc a)) := by
  have h : ∀ a : Fin 1024, m_J6_bitCount_0f7a4 (nI a.val) = some (nI (pu_pc a.val)) := by decide +kernel
  exact h ⟨a, ha⟩
