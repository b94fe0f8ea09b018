/-! groups by their phase -/
def hg (N : sk_N) (cnt p : Nat) : Bool := decide (¬ bset (gp N p) cnt = 0)
theorem hg_bs {N : sk_N} {cnt p : Nat} : hg N cnt p = true ↔ ∃ c, c < cnt ∧ gp N p c = true := by
  unfold hg
  rw [decide_eq_true_eq, bset_zero]
  constructor
  · intro h
    apply Classical.byContradiction
    intro hne
    exact h (fun i hi => by
      rcases e : gp N p i with _ | _
      · rfl
      · exact absurd ⟨i, hi, e⟩ hne)
  · rintro ⟨c, h1, h2⟩ h
    rw [h c h1] at h2
    exact absurd h2 (by decide)
theorem ct_congr {f g : Nat → Bool} : ∀ n, (∀ i, i < n → f i = g i) → ct f n = ct g n
  | 0, _ => rfl
  | n + 1, h => by rw [ct, ct, ct_congr n (fun i hi => h i (by omega)), h n (by omega)]
theorem ct_ins {f : Nat → Bool} {q : Nat} (hf : f q = false) : ∀ n, ct (fun p => f p || decide (p = q)) n = ct f n + (if q < n then 1 else 0)
  | 0 => by simp [ct]
  | n + 1 => by
    rw [ct, ct, ct_ins hf n]
    by_cases e : n = q
    · subst e
      rw [hf]; simp
    · by_cases h1 : q < n
      · have h2 : q < n + 1 := by omega
        simp [h1, h2, e]; omega
      · have h2 : ¬ q < n + 1 := by omega
        simp [h1, h2, e]
theorem ct_hg {P : Nat} {N : sk_N} : ∀ j, (∀ c, c < j → phs N c < P) → ct (hg N j) P = ct (fg N) j
  | 0, _ => by
    rw [ct_congr (g := fun _ => false) P (fun p _ => by
      rcases e : hg N 0 p with _ | _
      · rfl
      · obtain ⟨c, h, -⟩ := hg_bs.mp e; omega)]
    have : ∀ n, ct (fun _ => false) n = 0 := by
      intro n
      induction n with
      | zero => rfl
      | succ n ih => rw [ct, ih]; rfl
    rw [this]; rfl
  | j + 1, hb => by
    have ih := ct_hg (P := P) (N := N) j (fun c hc => hb c (by omega))
    have split : ∀ p, hg N (j + 1) p = (hg N j p || gp N p j) := fun p => by
      rcases e : (hg N j p || gp N p j) with _ | _
      · rcases e2 : hg N (j + 1) p with _ | _
        · rfl
        · obtain ⟨c, h1, h2⟩ := hg_bs.mp e2
          simp only [Bool.or_eq_false_iff] at e
          by_cases hc : c = j
          · subst hc; rw [e.2] at h2; exact absurd h2 (by decide)
          · have := hg_bs.mpr ⟨c, show c < j by omega, h2⟩
            rw [e.1] at this; exact absurd this (by decide)
      · simp only [Bool.or_eq_true] at e
        rcases e with e | e
        · obtain ⟨c, h1, h2⟩ := hg_bs.mp e
          exact hg_bs.mpr ⟨c, by omega, h2⟩
        · exact hg_bs.mpr ⟨j, by omega, e⟩
    rw [ct, ← ih]
    by_cases g : gb N j = true
    · by_cases f : hg N j (phs N j) = true
      · have e : fg N j = false := by
          unfold fg
          rw [g, decide_eq_false]
          · rfl
          · intro h
            obtain ⟨c, h1, h2⟩ := hg_bs.mp f
            rw [h c h1] at h2; exact absurd h2 (by decide)
        rw [e, ct_congr (g := hg N j) P (fun p _ => by
          rw [split p]
          rcases e3 : gp N p j with _ | _
          · simp
          · unfold gp at e3
            simp only [Bool.and_eq_true, decide_eq_true_eq] at e3
            rw [← e3.2, f]; rfl)]
        rfl
      · have f' : hg N j (phs N j) = false := by simpa using f
        have e : fg N j = true := by
          unfold fg
          rw [g, decide_eq_true]
          · rfl
          · intro l hl
            rcases e3 : gp N (phs N j) l with _ | _
            · rfl
            · exact absurd (hg_bs.mpr ⟨l, hl, e3⟩) f
        rw [e, ct_congr (g := fun p => hg N j p || decide (p = phs N j)) P (fun p _ => by
          rw [split p]
          unfold gp
          rw [g]
          by_cases h : phs N j = p
          · subst h; simp
          · have : ¬ p = phs N j := fun e => h e.symm
            simp [h, this]), ct_ins f', if_pos (hb j (by omega))]
        rfl
    · have e : fg N j = false := by unfold fg; simp at g; rw [g]; rfl
      rw [e, ct_congr (g := hg N j) P (fun p _ => by
        rw [split p]
        unfold gp
        simp at g; rw [g]; simp)]
      rfl
theorem q_at0 {cnt P p : Nat} {N : sk_N} {M : sk_M} (h : QR cnt P N (M.1 1)) (hp : p < 2 ^ 31) : m_X1_goodClocksAt N (nI p) = some (nI (bset (gp N p) cnt)) ∧ m_X5_at M (nI p) = some (nI (bset (gp N p) cnt)) ∧ bset (gp N p) cnt < 1024 := ⟨(q_at h hp).1, (q_at h hp).2, bset_1024 h.1.1.1⟩
/-- the phase of a group, in the class -/
theorem q_phaseG {cnt P : Nat} {x : Int32} {N : sk_N} {M : sk_M} (h : QR cnt P N (M.1 1)) : (∃ p, p < P ∧ hg N cnt p = true ∧ x = nI (ct (hg N cnt) p) ∧ m_X1_phaseOfGroup N x = some (nI p)) ∨ (m_X1_phaseOfGroup N x = some (-1) ∧ ∀ p, p < P → hg N cnt p = true → x ≠ nI (ct (hg N cnt) p)) := by
  obtain ⟨h10, hP1, hP2, e0, e5, eP, eP'⟩ := h.1.ex
  refine lp_F (step := m_X1_phaseOfGroup_4_step N x) (fun y => (∃ p, p < P ∧ hg N cnt p = true ∧ x = nI (ct (hg N cnt) p) ∧ y = some (nI p)) ∨ (y = some (-1) ∧ ∀ p, p < P → hg N cnt p = true → x ≠ nI (ct (hg N cnt) p))) (fun j s => s = (nI (ct (hg N cnt) j), nI j) ∧ ∀ p, p < j → hg N cnt p = true → x ≠ nI (ct (hg N cnt) p)) P (by omega) (0, 0) ⟨rfl, fun p hp => absurd hp (by omega)⟩ ?_
  rintro k j s hj ⟨rfl, hno⟩
  unfold m_X1_phaseOfGroup_4_step
  dsimp only
  by_cases hjc : j = P
  · subst hjc
    left; right
    refine ⟨?_, hno⟩
    simp (disch := omega) only [pu_lit, pu_let, pu_some, pu_xb, pu_xe, pu_hb, pu_he, nI_add, pk_mul, pk_sub, nI_clamp, pu_inT, nI_leI, nI_ltI, nI_eq, if_pos, if_neg, ↓reduceIte, true_and, and_true, and_self, not_true_eq_false, not_false_eq_true, reduceCtorEq, eP]
  · obtain ⟨a1, a2, a3⟩ := q_at0 (p := j) h (by omega)
    by_cases hz : bset (gp N j) cnt = 0
    · right
      refine ⟨by omega, ?_⟩
      have hgf : hg N cnt j = false := by unfold hg; simp [hz]
      have hs : ct (hg N cnt) (j + 1) = ct (hg N cnt) j := by rw [ct, hgf]; rfl
      simp (disch := omega) only [pu_lit, pu_let, pu_some, pu_xb, pu_xe, pu_hb, pu_he, nI_add, pk_mul, pk_sub, nI_clamp, pu_inT, nI_leI, nI_ltI, nI_eq, if_pos, if_neg, ↓reduceIte, true_and, and_true, and_self, not_true_eq_false, not_false_eq_true, reduceCtorEq, eP, a1, hz]
      exact ⟨_, rfl, by rw [hs], fun p hp hgp => by
        by_cases e : p = j
        · subst e; rw [hgf] at hgp; exact absurd hgp (by decide)
        · exact hno p (by omega) hgp⟩
    · have hgt : hg N cnt j = true := by unfold hg; simp [hz]
      have hs : ct (hg N cnt) (j + 1) = ct (hg N cnt) j + 1 := by rw [ct, hgt]; rfl
      by_cases hx : nI (ct (hg N cnt) j) = x
      · left; left
        refine ⟨j, by omega, hgt, hx.symm, ?_⟩
        subst hx
        simp (disch := omega) only [pu_lit, pu_let, pu_some, pu_xb, pu_xe, pu_hb, pu_he, nI_add, pk_mul, pk_sub, nI_clamp, pu_inT, nI_leI, nI_ltI, nI_eq, if_pos, if_neg, ↓reduceIte, true_and, and_true, and_self, not_true_eq_false, not_false_eq_true, reduceCtorEq, eP, a1, hz]
      · right
        refine ⟨by omega, ?_⟩
        simp (disch := omega) only [pu_lit, pu_let, pu_some, pu_xb, pu_xe, pu_hb, pu_he, nI_add, pk_mul, pk_sub, nI_clamp, pu_inT, nI_leI, nI_ltI, nI_eq, if_pos, if_neg, ↓reduceIte, true_and, and_true, and_self, not_true_eq_false, not_false_eq_true, reduceCtorEq, eP, a1, hz, hx]
        exact ⟨_, rfl, by rw [hs], fun p hp hgp => by
          by_cases e : p = j
          · subst e; exact fun e => hx e.symm
          · exact hno p (by omega) hgp⟩
theorem pu_le1 {a b : Nat} (ha : a < 2 ^ 30) (hb : b < 2 ^ 30) : nI a ≤ nI b - nI 1 ↔ a < b := by
  rw [Int32.le_iff_toInt_le, nI_toInt (by omega), pk_sub_toInt hb (by omega)]
  omega
theorem pu_s1 {a : Nat} : nI a - nI 1 + nI 1 = nI a := by
  have : ∀ x y : Int32, x - y + y = x := fun x y => by
    apply Int32.toBitVec_inj.mp
    simp
  exact this _ _
/-- the phase of a group, in the model -/
theorem q_phaseM {cnt P i : Nat} {N : sk_N} {M : sk_M} (h : QR cnt P N (M.1 1)) (hi : i < ct (hg N cnt) P) : ∃ p, p < P ∧ hg N cnt p = true ∧ i = ct (hg N cnt) p ∧ m_X5_phaseOf M (nI i) = some (nI p) := by
  obtain ⟨h10, hP1, hP2, e0, e5, eP, eP'⟩ := h.1.ex
  have hle := ct_le (f := hg N cnt) P
  refine lp_F (step := m_X5_phaseOf_4_step M (nI i)) (fun y => ∃ p, p < P ∧ hg N cnt p = true ∧ i = ct (hg N cnt) p ∧ y = some (nI p)) (fun j s => s = (nI (ct (hg N cnt) j) - nI 1, nI j - nI 1) ∧ ct (hg N cnt) j ≤ i + 1 ∧ (ct (hg N cnt) j = i + 1 → ∃ p, j = p + 1 ∧ hg N cnt p = true)) P (by omega) (-1, -1) ⟨rfl, by rw [ct]; omega, fun e => by rw [ct] at e; omega⟩ ?_
  rintro k j s hj ⟨rfl, h1, h2⟩
  have hjle := ct_le (f := hg N cnt) j
  unfold m_X5_phaseOf_4_step
  dsimp only
  by_cases hd : i < ct (hg N cnt) j
  · left
    obtain ⟨p, rfl, hp⟩ := h2 (by omega)
    rw [if_pos ((pu_le1 (by omega) (by omega)).mpr hd)]
    refine ⟨p, by omega, hp, ?_, ?_⟩
    · rw [ct, if_pos hp] at hd h1; omega
    · rw [pk_sub (by omega)]; rfl
  · right
    have hjP : j < P := by
      rcases Nat.lt_or_ge j P with hh | hh
      · exact hh
      · have : j = P := by omega
        subst this; omega
    refine ⟨hjP, ?_⟩
    rw [if_neg (fun e => hd ((pu_le1 (by omega) (by omega)).mp e)), show (1 : Int32) = nI 1 from rfl, pu_s1]
    obtain ⟨a1, a2, a3⟩ := q_at0 (p := j) h (by omega)
    rw [a2, pu_some]
    have ej : nI j = nI (j + 1) - nI 1 := by rw [pk_sub (by omega)]; rfl
    by_cases hz : bset (gp N j) cnt = 0
    · have hgf : hg N cnt j = false := by unfold hg; simp [hz]
      have hs : ct (hg N cnt) (j + 1) = ct (hg N cnt) j := by rw [ct, hgf]; rfl
      rw [if_pos (by rw [hz]; rfl), pu_let]
      refine ⟨_, rfl, ?_, by rw [hs]; exact h1, fun e => by rw [hs] at e; omega⟩
      rw [hs, ← ej, show (0 : Int32) = nI 0 from rfl]
      congr 1
      have : ∀ x : Int32, x + nI 0 = x := fun x => by
        apply Int32.toBitVec_inj.mp
        simp [nI]
      exact this _
    · have hgt : hg N cnt j = true := by unfold hg; simp [hz]
      have hs : ct (hg N cnt) (j + 1) = ct (hg N cnt) j + 1 := by rw [ct, hgt]; rfl
      rw [if_neg (nI_ne0 (by omega) (by omega)), pu_let, pu_s1]
      refine ⟨_, rfl, ?_, by rw [hs]; omega, fun e => ⟨j, rfl, hgt⟩⟩
      rw [hs, ← ej, pk_sub (by omega)]
      rfl
theorem ct_uniq {f : Nat → Bool} {p q : Nat} (hp : f p = true) (hq : f q = true) (h : ct f p = ct f q) : p = q := by
  rcases Nat.lt_trichotomy p q with hl | hl | hl
  · have := ct_mono (f := f) (m := p + 1) q (by omega)
    rw [ct, if_pos hp] at this; omega
  · exact hl
  · have := ct_mono (f := f) (m := q + 1) p (by omega)
    rw [ct, if_pos hq] at this; omega
theorem QR.ct {cnt P : Nat} {N : sk_N} {w : Nat → Int32} (h : QR cnt P N w) : ct (hg N cnt) P = ct (fg N) cnt := ct_hg cnt (fun c hc => (h.ph hc).1)
/-- the number of a clock's group -/
theorem q_groupOf {cnt P c : Nat} {N : sk_N} {M : sk_M} (h : QR cnt P N (M.1 1)) (hc : c < cnt) : ∃ r, m_X1_numberOfGroup N (nI c) = some r ∧ m_X5_groupOf_22 (nI c) (M, 0, 0) = some (r, M) := by
  obtain ⟨h10, hP1, hP2, e0, e5, eP, eP'⟩ := h.1.ex
  obtain ⟨p1, p2, p3⟩ := h.ph hc
  have b28 := h.b28 hc
  have hmo : m_X5_groupOf_22 (nI c) (M, 0, 0) = some (if gb N c = true then nI (ct (hg N cnt) (phs N c)) else -1, M) := by
    refine lp_F (step := m_X5_groupOf_22_step (nI c)) (fun y => y = some (if gb N c = true then nI (ct (hg N cnt) (phs N c)) else -1, M)) (fun j s => s = (M, nI (ct (hg N cnt) j), nI j)) (phs N c) (by omega) _ rfl ?_
    rintro k j s hj rfl
    unfold m_X5_groupOf_22_step
    dsimp only
    by_cases hjc : j = phs N c
    · left
      rw [hjc]
      by_cases g : gb N c = true
      · rw [if_pos g] at b28
        rw [if_pos g]
        simp (disch := omega) only [pu_lit, pu_let, pu_some, pu_xb, pu_xe, pu_hb, pu_he, nI_add, pk_mul, pk_sub, nI_clamp, pu_inT, nI_leI, nI_ltI, nI_eq, if_pos, if_neg, ↓reduceIte, true_and, and_true, and_self, not_true_eq_false, not_false_eq_true, reduceCtorEq, p3, b28]
      · rw [if_neg g] at b28
        rw [if_neg g]
        simp (disch := omega) only [pu_lit, pu_let, pu_some, pu_xb, pu_xe, pu_hb, pu_he, nI_add, pk_mul, pk_sub, nI_clamp, pu_inT, nI_leI, nI_ltI, nI_eq, if_pos, if_neg, ↓reduceIte, true_and, and_true, and_self, not_true_eq_false, not_false_eq_true, reduceCtorEq, p3, b28]
    · right
      refine ⟨by omega, ?_⟩
      obtain ⟨a1, a2, a3⟩ := q_at0 (p := j) h (by omega)
      by_cases hz : bset (gp N j) cnt = 0
      · have hgf : hg N cnt j = false := by unfold hg; simp [hz]
        have hs : ct (hg N cnt) (j + 1) = ct (hg N cnt) j := by rw [ct, hgf]; rfl
        simp (disch := omega) only [pu_lit, pu_let, pu_some, pu_xb, pu_xe, pu_hb, pu_he, nI_add, pk_mul, pk_sub, nI_clamp, pu_inT, nI_leI, nI_ltI, nI_eq, if_pos, if_neg, ↓reduceIte, true_and, and_true, and_self, not_true_eq_false, not_false_eq_true, reduceCtorEq, p3, a2, hz, Nat.add_zero]
        exact ⟨_, rfl, by rw [hs]⟩
      · have hgt : hg N cnt j = true := by unfold hg; simp [hz]
        have hs : ct (hg N cnt) (j + 1) = ct (hg N cnt) j + 1 := by rw [ct, hgt]; rfl
        simp (disch := omega) only [pu_lit, pu_let, pu_some, pu_xb, pu_xe, pu_hb, pu_he, nI_add, pk_mul, pk_sub, nI_clamp, pu_inT, nI_leI, nI_ltI, nI_eq, if_pos, if_neg, ↓reduceIte, true_and, and_true, and_self, not_true_eq_false, not_false_eq_true, reduceCtorEq, p3, a2, hz]
        exact ⟨_, rfl, by rw [hs]⟩
  refine ⟨_, ?_, hmo⟩
  unfold m_X1_numberOfGroup
  rw [v_good' (by omega), pu_some]
  by_cases g : gb N c = true
  · rw [if_pos g, if_pos g, if_neg (nI_ne0 (by omega) (by omega))]
    refine lp_F (step := m_X1_numberOfGroup_14_step N (nI c)) (fun y => y = some (nI (ct (hg N cnt) (phs N c)))) (fun j s => s = (nI (ct (hg N cnt) j), nI j)) (phs N c) (by omega) _ rfl ?_
    rintro k j s hj rfl
    unfold m_X1_numberOfGroup_14_step
    dsimp only
    by_cases hjc : j = phs N c
    · left
      rw [hjc]
      simp (disch := omega) only [pu_lit, pu_let, pu_some, pu_xb, pu_xe, pu_hb, pu_he, nI_add, pk_mul, pk_sub, nI_clamp, pu_inT, nI_leI, nI_ltI, nI_eq, if_pos, if_neg, ↓reduceIte, true_and, and_true, and_self, not_true_eq_false, not_false_eq_true, reduceCtorEq, p2]
    · right
      refine ⟨by omega, ?_⟩
      obtain ⟨a1, a2, a3⟩ := q_at0 (p := j) h (by omega)
      by_cases hz : bset (gp N j) cnt = 0
      · have hgf : hg N cnt j = false := by unfold hg; simp [hz]
        have hs : ct (hg N cnt) (j + 1) = ct (hg N cnt) j := by rw [ct, hgf]; rfl
        simp (disch := omega) only [pu_lit, pu_let, pu_some, pu_xb, pu_xe, pu_hb, pu_he, nI_add, pk_mul, pk_sub, nI_clamp, pu_inT, nI_leI, nI_ltI, nI_eq, if_pos, if_neg, ↓reduceIte, true_and, and_true, and_self, not_true_eq_false, not_false_eq_true, reduceCtorEq, p2, a1, hz]
        exact ⟨_, rfl, by rw [hs]⟩
      · have hgt : hg N cnt j = true := by unfold hg; simp [hz]
        have hs : ct (hg N cnt) (j + 1) = ct (hg N cnt) j + 1 := by rw [ct, hgt]; rfl
        simp (disch := omega) only [pu_lit, pu_let, pu_some, pu_xb, pu_xe, pu_hb, pu_he, nI_add, pk_mul, pk_sub, nI_clamp, pu_inT, nI_leI, nI_ltI, nI_eq, if_pos, if_neg, ↓reduceIte, true_and, and_true, and_self, not_true_eq_false, not_false_eq_true, reduceCtorEq, p2, a1, hz]
        exact ⟨_, rfl, by rw [hs]⟩
  · rw [if_neg g, if_neg g, if_pos nI_0]
