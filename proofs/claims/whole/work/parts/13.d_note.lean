/-! the model's notes -/
/-- what a note leaves alone of the model -/
def FN (M M' : sk_M) : Prop := (∀ j, j ≠ 1 → M'.1 j = M.1 j) ∧ M'.2 = M.2 ∧ ∀ x, x ≠ 7 → x < 258 → M'.1 1 x = M.1 1 x
theorem FN.rf {M : sk_M} : FN M M := ⟨fun _ _ => rfl, rfl, fun _ _ _ => rfl⟩
theorem FN.tr {A B C : sk_M} (h : FN A B) (g : FN B C) : FN A C := ⟨fun j a => (g.1 j a).trans (h.1 j a), g.2.1.trans h.2.1, fun x a b => (g.2.2 x a b).trans (h.2.2 x a b)⟩
theorem pu_lit7 : ((7 : Int32)).toNatClampNeg = 7 := rfl
theorem pu_lit4 : ((4 : Int32)).toNatClampNeg = 4 := rfl
theorem n_put {nl : List (Nat × Nat)} {M : sk_M} {T c : Nat} (h : NT nl (M.1 1)) (hl : nl.length < 60) (hT : M.1 1 4 = nI T) :
    ∃ M', m_X5_notes_67 (nI c) M = some M' ∧ NT (nl ++ [(T, c)]) (M'.1 1) ∧ FN M M' := by
  obtain ⟨h1, h2, h3⟩ := h
  unfold m_X5_notes_67
  rw [if_pos (show sk_in (7 : Int32) 378 = true by decide), if_pos (show sk_in (4 : Int32) 378 = true by decide), pu_lit7, pu_lit4]
  have e1 : (258 : Int32) + ((2 : Int32) * (M.1 1 7)) = nI (258 + 2 * nl.length) := by
    rw [h2, show (258 : Int32) = nI 258 from rfl, show (2 : Int32) = nI 2 from rfl, pk_mul, nI_add]
  rw [e1, if_pos (pu_inT (show 258 + 2 * nl.length < 378 by omega) (by omega)), nI_clamp (by omega)]
  simp only [pu_let]
  have e2 : (md_up M 1 (258 + 2 * nl.length) (M.1 1 4)).1 1 7 = nI nl.length := by rw [pu_m, if_neg (by omega)]; exact h2
  have e3 : ((258 : Int32) + ((2 : Int32) * ((md_up M 1 (258 + 2 * nl.length) (M.1 1 4)).1 1 7))) + (1 : Int32) = nI (258 + 2 * nl.length + 1) := by
    rw [e2, show (258 : Int32) = nI 258 from rfl, show (2 : Int32) = nI 2 from rfl, pk_mul, nI_add, nI_1]
  rw [if_pos (show sk_in (7 : Int32) 378 = true by decide), e3, if_pos (pu_inT (show 258 + 2 * nl.length + 1 < 378 by omega) (by omega)), nI_clamp (by omega)]
  rw [if_pos (show sk_in (7 : Int32) 378 = true by decide), if_pos (show sk_in (7 : Int32) 378 = true by decide)]
  refine ⟨_, rfl, ⟨by simp; omega, ?_, fun k x hk => ?_⟩, ⟨fun j hj => ?_, rfl, fun x h7 hx => ?_⟩⟩
  · rw [pu_m, if_pos ⟨rfl, rfl⟩, pu_m, if_neg (by omega), e2, nI_1]
    simp
  · have hk60 : k < nl.length + 1 := by have := (List.getElem?_eq_some_iff.mp hk).1; simpa using this
    rw [pu_m, if_neg (by omega), pu_m, pu_m, pu_m, if_neg (show ¬ (1 = 1 ∧ 258 + 2 * k + 1 = 7) by omega), pu_m, pu_m]
    by_cases e : k = nl.length
    · subst e
      rw [List.getElem?_append_right (Nat.le_refl _), Nat.sub_self] at hk
      cases hk
      rw [if_neg (by omega), if_pos ⟨rfl, rfl⟩, if_pos ⟨rfl, rfl⟩]
      exact ⟨hT, rfl⟩
    · rw [List.getElem?_append_left (by omega)] at hk
      rw [if_neg (by omega), if_neg (by omega), if_neg (by omega), if_neg (by omega)]
      exact h3 k x hk
  · rw [pu_mrow hj, pu_mrow hj, pu_mrow hj]
  · rw [pu_m, if_neg (by omega), pu_m, if_neg (by omega), pu_m, if_neg (by omega)]
theorem n_shift {M : sk_M} (c : Nat) : ∃ M', m_X5_notes_22 (nI c) (M, 0) = m_X5_notes_67 (nI c) (md_up M' 1 7 (M.1 1 7 - 1)) ∧ FN M M' ∧ M'.1 1 7 = M.1 1 7 ∧ ∀ x, 258 ≤ x → x < 376 → M'.1 1 x = M.1 1 (x + 2) := by
  refine lp_F (step := m_X5_notes_22_step (nI c)) (fun y => ∃ M', y = m_X5_notes_67 (nI c) (md_up M' 1 7 (M.1 1 7 - 1)) ∧ FN M M' ∧ M'.1 1 7 = M.1 1 7 ∧ ∀ x, 258 ≤ x → x < 376 → M'.1 1 x = M.1 1 (x + 2))
    (fun j s => s.2 = nI j ∧ FN M s.1 ∧ s.1.1 1 7 = M.1 1 7 ∧ (∀ x, 258 ≤ x → x < 258 + j → s.1.1 1 x = M.1 1 (x + 2)) ∧ ∀ x, 258 + j ≤ x → s.1.1 1 x = M.1 1 x) 118 (by omega) _ ⟨rfl, FN.rf, rfl, fun x _ _ => absurd ‹_› (by omega), fun _ _ => rfl⟩ ?_
  rintro k j ⟨A, x⟩ hj ⟨rfl, h1, h7, h2, h3⟩
  dsimp only at h1 h7 h2 h3 ⊢
  unfold m_X5_notes_22_step
  dsimp only
  have c0 : (118 : Int32) ≤ nI j ↔ 118 ≤ j := nI_leI (a := 118) (by omega) (by omega)
  by_cases hjc : j = 118
  · subst hjc
    rw [if_pos (c0.mpr (Nat.le_refl _)), if_pos (show sk_in (7 : Int32) 378 = true by decide), if_pos (show sk_in (7 : Int32) 378 = true by decide), pu_lit7]
    simp only [pu_let]
    rw [h7]
    exact Or.inl ⟨A, rfl, h1, h7, fun x a b => h2 x a (by omega)⟩
  · have hlt : j < 118 := by omega
    right
    refine ⟨hlt, ?_⟩
    rw [if_neg (fun e => absurd (c0.mp e) (by omega))]
    have e1 : ((258 : Int32) + nI j) + (2 : Int32) = nI (258 + j + 2) := by rw [show (258 : Int32) = nI 258 from rfl, nI_add, show (2 : Int32) = nI 2 from rfl, nI_add]
    have e2 : (258 : Int32) + nI j = nI (258 + j) := by rw [show (258 : Int32) = nI 258 from rfl, nI_add]
    rw [e1, e2, if_pos (pu_inT (by omega) (by omega)), if_pos (pu_inT (by omega) (by omega)), nI_clamp (by omega), nI_clamp (by omega)]
    simp only [pu_let]
    refine ⟨_, rfl, nI_1 j, ?_⟩
    dsimp only
    refine ⟨h1.tr ⟨fun j hj => pu_mrow hj, rfl, fun x h7 hx => by rw [pu_m, if_neg (by omega)]⟩, by rw [pu_m, if_neg (by omega)]; exact h7, fun x a b => ?_, fun x a => ?_⟩
    · rw [pu_m]
      by_cases e : x = 258 + j
      · subst e
        rw [if_pos ⟨rfl, rfl⟩]
        exact h3 _ (by omega)
      · rw [if_neg (by omega)]
        exact h2 x a (by omega)
    · rw [pu_m, if_neg (by omega)]
      exact h3 x (by omega)
/-- one note more, if it isn't in thought -/
theorem n_note {nl : List (Nat × Nat)} {M : sk_M} {T c : Nat} (h : NT nl (M.1 1)) (hT : M.1 1 4 = nI T) (h0 : M.1 0 10 = 0) :
    ∃ M', m_X5_notes M (nI c) = some M' ∧ NT (nlA nl (T, c)) (M'.1 1) ∧ FN M M' := by
  unfold m_X5_notes
  rw [if_pos h0, if_pos (show sk_in (7 : Int32) 378 = true by decide), pu_lit7]
  have c0 : M.1 1 7 = (60 : Int32) ↔ nl.length = 60 := by rw [h.2.1]; exact nI_eq (b := 60) (by have := h.1; omega) (by omega)
  unfold nlA
  by_cases hl : nl.length = 60
  · rw [if_pos (c0.mpr hl), if_pos hl]
    obtain ⟨M1, e1, e2, e3, e4⟩ := n_shift (M := M) c
    rw [e1]
    have hlt : nl.tail.length = 59 := by rw [List.length_tail, hl]
    have hN : NT nl.tail ((md_up M1 1 7 (M.1 1 7 - 1)).1 1) := by
      refine ⟨by omega, ?_, fun k x hk => ?_⟩
      · rw [pu_m, if_pos ⟨rfl, rfl⟩, h.2.1, hl, hlt]; rfl
      · have hk1 : nl[k + 1]? = some x := by
          have hk' := hk
          rw [List.getElem?_tail] at hk'
          exact hk'
        have hkl : k + 1 < 60 := by have := (List.getElem?_eq_some_iff.mp hk1).1; omega
        obtain ⟨g1, g2⟩ := h.2.2 (k + 1) x hk1
        rw [pu_m, if_neg (by omega), pu_m, if_neg (by omega), e4 _ (by omega) (by omega), e4 _ (by omega) (by omega)]
        exact ⟨by rw [show 258 + 2 * k + 2 = 258 + 2 * (k + 1) by omega]; exact g1, by rw [show 258 + 2 * k + 1 + 2 = 258 + 2 * (k + 1) + 1 by omega]; exact g2⟩
    obtain ⟨M', g1, g2, g3⟩ := n_put (c := c) hN (by omega) (T := T) (by rw [pu_m, if_neg (by omega), e2.2.2 4 (by omega) (by omega)]; exact hT)
    exact ⟨M', g1, g2, (e2.tr ⟨fun j hj => pu_mrow hj, rfl, fun x h7 hx => by rw [pu_m, if_neg (by omega)]⟩).tr g3⟩
  · rw [if_neg (fun e => hl (c0.mp e)), if_neg hl]
    exact n_put h (by have := h.1; omega) hT
/-- the notes of a tick so far; nothing is said in thought -/
def NS (T : Nat) (nl : List (Nat × Nat)) (ol : List Nat) (M : sk_M) : Prop := (M.1 0 10 = 0 ∧ NT (ol.foldl (fun l o => nlA l (T, o)) nl) (M.1 1)) ∨ M.1 0 10 = 1
theorem n_fire {T c : Nat} {nl : List (Nat × Nat)} {ol : List Nat} {M : sk_M} (h : NS T nl ol M) (hT : M.1 1 4 = nI T) : ∃ M', m_X5_notes M (nI c) = some M' ∧ NS T nl (ol ++ [c]) M' ∧ FN M M' := by
  rcases h with ⟨h0, h⟩ | h0
  · obtain ⟨M', g1, g2, g3⟩ := n_note (c := c) h hT h0
    refine ⟨M', g1, Or.inl ⟨by rw [g3.1 0 (by omega)]; exact h0, ?_⟩, g3⟩
    rw [List.foldl_append]
    exact g2
  · refine ⟨M, ?_, Or.inr h0, FN.rf⟩
    unfold m_X5_notes
    rw [if_neg (by rw [h0]; decide)]
theorem TM.note {cnt P T1 T2 F : Nat} {ol : List Nat} {ar : Nat → Nat → Bool} {bd : Nat → Nat} {N : sk_N} {M M' : sk_M} (h : TM cnt P T1 T2 F ol ar bd N M) (g : FN M M') : TM cnt P T1 T2 F ol ar bd N M' := by
  obtain ⟨h1, h2, h3, ⟨f1, f2, f3, f4, f5, f6, f7, f8⟩, h5⟩ := h
  refine ⟨h1.keep rfl rfl rfl rfl rfl rfl rfl (fun x hx => g.2.2 x (by omega) (by omega)), h2.keep rfl (g.2.2 4 (by omega) (by omega)), h3.keep h1.1.1 rfl (fun x a b => g.2.2 x (by omega) (by omega)) (fun _ _ => Nat.le_refl _), ⟨f1, f2, by rw [g.2.2 6 (by omega) (by omega)]; exact f3, f4, by rw [g.1 0 (by omega)]; exact f5, f6, f7, fun k o hk => by rw [g.1 5 (by omega)]; exact f8 k o hk⟩, h5.keep rfl (fun x a b => g.2.2 x (by omega) (by omega))⟩
theorem FN.fm {M M' : sk_M} (g : FN M M') : FM M M' := ⟨fun j _ h1 _ => g.1 j h1, fun k _ => by rw [g.1 0 (by omega)], g.2.1, fun x hx => g.2.2 x (by omega) (by omega)⟩
