/-! the savings of the two -/
def SV (b : Nat) (S7 S8 S9 S10 S11 S12 S13 S14 S15 : sk_N) (M : sk_M) : Prop := ∃ nx cn : Nat, nx < 4 ∧ cn ≤ 4 ∧ S7 0 1 = nI nx ∧ S7 0 2 = nI cn ∧ M.1 0 3 = nI cn ∧ ∀ j, j < cn → RW b (nts S8 S9 S10 S11 S12 S13 S14 S15 ((nx + 4 - cn + j) % 4)).1 (nts S8 S9 S10 S11 S12 S13 S14 S15 ((nx + 4 - cn + j) % 4)).2 (fun x => M.1 2 (378 * j + x))
theorem SV.keep {b : Nat} {S7 S8 S9 S10 S11 S12 S13 S14 S15 : sk_N} {M M' : sk_M} (h : SV b S7 S8 S9 S10 S11 S12 S13 S14 S15 M) (h2 : M'.1 2 = M.1 2) (h3 : M'.1 0 3 = M.1 0 3) : SV b S7 S8 S9 S10 S11 S12 S13 S14 S15 M' := by
  obtain ⟨nx, cn, a1, a2, a3, a4, a5, a6⟩ := h
  exact ⟨nx, cn, a1, a2, a3, a4, h3.trans a5, fun j hj => by rw [h2]; exact a6 j hj⟩
theorem RW.mono {b b' : Nat} {N L : sk_N} {w : Nat → Int32} (h : RW b N L w) (hb : b ≤ b') : RW b' N L w := h.copy hb AG.rf AL.rf (fun _ _ => rfl)
theorem SV.mono {b b' : Nat} {S7 S8 S9 S10 S11 S12 S13 S14 S15 : sk_N} {M : sk_M} (h : SV b S7 S8 S9 S10 S11 S12 S13 S14 S15 M) (hb : b ≤ b') : SV b' S7 S8 S9 S10 S11 S12 S13 S14 S15 M := by
  obtain ⟨nx, cn, a1, a2, a3, a4, a5, a6⟩ := h
  exact ⟨nx, cn, a1, a2, a3, a4, a5, fun j hj => (a6 j hj).mono hb⟩
theorem s_save {b : Nat} {S7 S8 S9 S10 S11 S12 S13 S14 S15 N L : sk_N} {M : sk_M} (h : SV b S7 S8 S9 S10 S11 S12 S13 S14 S15 M) (hR : RW b N L (M.1 1)) : ∃ S7' S8' S9' S10' S11' S12' S13' S14' S15' M', m_X2_save S7 S8 S9 S10 S11 S12 S13 S14 S15 N L = some (S7', S8', S9', S10', S11', S12', S13', S14', S15') ∧ m_X5_saves M = some M' ∧ SV b S7' S8' S9' S10' S11' S12' S13' S14' S15' M' ∧ (∀ j, j ≠ 0 → j ≠ 2 → M'.1 j = M.1 j) ∧ ∀ k, k ≠ 3 → M'.1 0 k = M.1 0 k := by
  obtain ⟨nx, cn, a1, a2, a3, a4, a5, a6⟩ := h
  obtain ⟨S7', S8', S9', S10', S11', S12', S13', S14', S15', e1, e2, e3, e4, e5, e6⟩ := v_save (a := S8) (b := S9) (c := S10) (d := S11) (e := S12) (f := S13) (g := S14) (h := S15) (N := N) (L := L) a1 a2 a3 a4
  obtain ⟨M', c', d1, d2, d3, d4, d5, d6, d7, -⟩ := d_saves a2 a5
  refine ⟨S7', S8', S9', S10', S11', S12', S13', S14', S15', M', e1, d1, ⟨(nx + 1) % 4, c' + 1, by omega, ?_, e2, ?_, d3, fun j hj => ?_⟩, d6, d7⟩
  · by_cases h4 : cn = 4
    · rw [if_pos h4] at d2; omega
    · rw [if_neg h4] at d2; omega
  · rw [e3]
    by_cases h4 : cn = 4
    · rw [if_pos h4] at d2; rw [if_pos h4, d2]
    · rw [if_neg h4] at d2; rw [if_neg h4, d2]
  · have hc' : c' ≤ 3 := by
      by_cases h4 : cn = 4
      · rw [if_pos h4] at d2; omega
      · rw [if_neg h4] at d2; omega
    by_cases hjc : j = c'
    · subst hjc
      have ei : ((nx + 1) % 4 + 4 - (j + 1) + j) % 4 = nx := by omega
      rw [ei]
      exact hR.copy (Nat.le_refl _) e5 e6 d4
    · have hlt : j < c' := by omega
      have ne : ((nx + 1) % 4 + 4 - (c' + 1) + j) % 4 ≠ nx := by omega
      rw [e4 _ (by omega) ne]
      by_cases h4 : cn = 4
      · rw [if_pos h4] at d2
        have ei : ((nx + 1) % 4 + 4 - (c' + 1) + j) % 4 = (nx + 4 - cn + (j + 1)) % 4 := by omega
        rw [ei]
        refine (a6 (j + 1) (by omega)).copy (Nat.le_refl _) AG.rf AL.rf fun x hx => ?_
        rw [d5 _ (by omega), if_pos h4]
        exact congrArg _ (by omega)
      · rw [if_neg h4] at d2
        have ei : ((nx + 1) % 4 + 4 - (c' + 1) + j) % 4 = (nx + 4 - cn + j) % 4 := by omega
        rw [ei]
        refine (a6 j (by omega)).copy (Nat.le_refl _) AG.rf AL.rf fun x hx => ?_
        rw [d5 _ (by omega), if_neg h4]
/-- text and thought stand still -/
def KP (M M' : sk_M) : Prop := M'.1 0 10 = M.1 0 10 ∧ M'.1 4 = M.1 4 ∧ M'.1 0 6 = M.1 0 6
theorem KP.tr {A B C : sk_M} (h : KP A B) (g : KP B C) : KP A C := ⟨g.1.trans h.1, g.2.1.trans h.2.1, g.2.2.trans h.2.2⟩
theorem KP.u4 {M : sk_M} {v : Int32} : KP M (md_up M 0 4 v) := ⟨by rw [pu_m, if_neg (by omega)], pu_mrow (by omega), by rw [pu_m, if_neg (by omega)]⟩
theorem KP.fz {M M' : sk_M} (h : FZ M M') : KP M M' := ⟨h.2 10 (by omega), h.1 4 (by omega) (by omega) (by omega) (by omega), h.2 6 (by omega)⟩
theorem TXT.kp {len : Nat} {S : sk_N} {M M' : sk_M} (h : TXT len S M) (g : KP M M') : TXT len S M' := ⟨h.1, h.2.1, g.2.2.trans h.2.2.1, by rw [g.2.1]; exact h.2.2.2⟩
theorem SV.up {b : Nat} {S7 S8 S9 S10 S11 S12 S13 S14 S15 : sk_N} {M : sk_M} {v : Int32} (h : SV b S7 S8 S9 S10 S11 S12 S13 S14 S15 M) : SV b S7 S8 S9 S10 S11 S12 S13 S14 S15 (md_up M 0 4 v) := h.keep (pu_mrow (by omega)) (by rw [pu_m, if_neg (by omega)])
theorem SV.fz {b : Nat} {S7 S8 S9 S10 S11 S12 S13 S14 S15 : sk_N} {M M' : sk_M} (h : SV b S7 S8 S9 S10 S11 S12 S13 S14 S15 M) (g : FZ M M') : SV b S7 S8 S9 S10 S11 S12 S13 S14 S15 M' := h.keep (g.1 2 (by omega) (by omega) (by omega) (by omega)) (g.2 3 (by omega))
/-- a save before a change -/
theorem s_save0 {b : Nat} {S7 S8 S9 S10 S11 S12 S13 S14 S15 N L : sk_N} {M : sk_M} (h : SV b S7 S8 S9 S10 S11 S12 S13 S14 S15 M) (hR : RW b N L (M.1 1)) : ∃ S7' S8' S9' S10' S11' S12' S13' S14' S15' M1, m_X2_save S7 S8 S9 S10 S11 S12 S13 S14 S15 N L = some (S7', S8', S9', S10', S11', S12', S13', S14', S15') ∧ m_X5_saves (md_up M 0 4 0) = some M1 ∧ SV b S7' S8' S9' S10' S11' S12' S13' S14' S15' M1 ∧ M1.1 1 = M.1 1 ∧ KP M M1 ∧ M1.1 0 4 = 0 := by
  obtain ⟨S7', S8', S9', S10', S11', S12', S13', S14', S15', M1, e1, e2, e3, e4, e5⟩ := s_save h.up hR.up
  refine ⟨S7', S8', S9', S10', S11', S12', S13', S14', S15', M1, e1, e2, e3, ?_, ⟨?_, ?_, ?_⟩, ?_⟩
  · rw [e4 1 (by omega) (by omega), pu_mrow (by omega)]
  · rw [e5 10 (by omega), pu_m, if_neg (by omega)]
  · rw [e4 4 (by omega) (by omega), pu_mrow (by omega)]
  · rw [e5 6 (by omega), pu_m, if_neg (by omega)]
  · rw [e5 4 (by omega), pu_m, if_pos ⟨rfl, rfl⟩]
