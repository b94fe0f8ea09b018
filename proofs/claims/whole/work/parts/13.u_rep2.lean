theorem en_alike {cnt P T H m n : Nat} {K : Nat → sk_M} {R : Nat → Int32} (hK : TRJ cnt P T H K) (hm : m ≤ H) (hn : n ≤ H) (a : EN cnt (T + m) m ((K m).1 1) R) (b : EN cnt (T + n) n ((K n).1 1) R) : (∀ k, k < 120 → R (120 * m + k) = R (120 * n + k)) ↔ AK cnt K m n := by
  obtain ⟨hb, hA, -⟩ := hK
  obtain ⟨-, ⟨N, L, X⟩, s1⟩ := hA m hm
  obtain ⟨-, ⟨N', L', X'⟩, s2⟩ := hA n hn
  obtain ⟨h10, hP1, hP2, e0, e5, -⟩ := X.1.1.ex
  have hby : ∀ c, byc cnt ((K n).1 1) c = byc cnt ((K m).1 1) c := fun c => by
    unfold byc
    by_cases hc : c < cnt
    · rw [if_pos hc, if_pos hc, s1 (28 + c) (by unfold sx; omega), s1 (18 + c) (by unfold sx; omega), s1 (38 + c) (by unfold sx; omega), s2 (28 + c) (by unfold sx; omega), s2 (18 + c) (by unfold sx; omega), s2 (38 + c) (by unfold sx; omega)]
    · rw [if_neg hc, if_neg hc]
  have time : ∀ c, (sk_rem (nI (T + m)) (byc cnt ((K m).1 1) c) = sk_rem (nI (T + n)) (byc cnt ((K n).1 1) c)) ↔ (byc cnt ((K m).1 1) c).toInt ∣ ((m : Int) - n) := fun c => by
    obtain ⟨y1, y2, y3⟩ := byc_ok (c := c) X.1.1
    rw [hby c, srem_eq (by omega) (by omega) y1 y2 y3, show (((T + m : Nat) : Int) - ((T + n : Nat) : Int)) = (m : Int) - n by omega]
  have cyc : (∀ c, c < 10 → (byc cnt ((K m).1 1) c).toInt ∣ ((m : Int) - n)) ↔ CY cnt ((K 0).1 1) ((m : Int) - n) := by
    have one : (nI 1).toInt = 1 := by decide
    have each : ∀ c, c < cnt → ((byc cnt ((K m).1 1) c).toInt ∣ ((m : Int) - n) ↔ (((K 0).1 1 (28 + c) = 0 → (K 0).1 1 (18 + c) = 0 ∨ ((K 0).1 1 (18 + c)).toInt ∣ ((m : Int) - n)) ∧ ((K 0).1 1 (28 + c) ≠ 0 → ((K 0).1 1 (38 + c)).toInt ∣ ((m : Int) - n)))) := by
      intro c hc
      unfold byc
      rw [if_pos hc, s1 (28 + c) (by unfold sx; omega), s1 (18 + c) (by unfold sx; omega), s1 (38 + c) (by unfold sx; omega)]
      obtain ⟨g1, g2, g3, g4⟩ := X.1.1.2.2.2.2.1.1 c hc
      rw [s1 (28 + c) (by unfold sx; omega)] at g4
      rcases g4 with ⟨g5, g6⟩ | ⟨R, O, r1, r2, r3, r4, r5, r6, -⟩
      · have h1 : ¬ (K 0).1 1 (28 + c) = nI 1 := by rw [g6]; decide
        rw [if_neg h1, g6]
        by_cases hz : (K 0).1 1 (18 + c) = nI 0
        · rw [if_pos hz, one, hz]
          exact ⟨fun _ => ⟨fun _ => Or.inl rfl, fun e => absurd rfl e⟩, fun _ => Int.one_dvd _⟩
        · rw [if_neg hz]
          exact ⟨fun h => ⟨fun _ => Or.inr h, fun e => absurd rfl e⟩, fun h => (h.1 rfl).resolve_left hz⟩
      · have h1 : (K 0).1 1 (28 + c) = nI 1 := r5
        have h0 : (K 0).1 1 (28 + c) ≠ 0 := by rw [h1]; decide
        rw [if_pos h1]
        exact ⟨fun h => ⟨fun e => absurd e h0, fun _ => h⟩, fun h => h.2 h0⟩
    constructor
    · exact fun h c hc => (each c hc).mp (h c (by omega))
    · intro h c hc
      by_cases hcc : c < cnt
      · exact (each c hcc).mpr (h c hcc)
      · unfold byc
        rw [if_neg hcc, one]; exact Int.one_dvd _
  constructor
  · intro h
    refine ⟨fun c hc => ?_, fun k hk => ?_, cyc.mp (fun c hc => (time c).mp ?_)⟩
    · have := h c (by omega)
      rw [(a.1 c (by omega)).1, (b.1 c (by omega)).1, if_pos hc, if_pos hc] at this
      exact this
    · have := h (20 + k) (by omega)
      rw [← Nat.add_assoc, ← Nat.add_assoc, a.2 k hk, b.2 k hk] at this
      exact this
    · have := h (10 + c) (by omega)
      rw [← Nat.add_assoc, ← Nat.add_assoc, (a.1 c hc).2, (b.1 c hc).2] at this
      exact this
  · rintro ⟨h1, h2, h3⟩ k hk
    by_cases k10 : k < 10
    · rw [(a.1 k k10).1, (b.1 k k10).1]
      by_cases hc : k < cnt
      · rw [if_pos hc, if_pos hc]; exact h1 k hc
      · rw [if_neg hc, if_neg hc]
    · by_cases k20 : k < 20
      · have := (time (k - 10)).mpr (cyc.mpr h3 (k - 10) (by omega))
        rw [← (a.1 (k - 10) (by omega)).2, ← (b.1 (k - 10) (by omega)).2] at this
        rw [show 120 * m + 10 + (k - 10) = 120 * m + k by omega, show 120 * n + 10 + (k - 10) = 120 * n + k by omega] at this
        exact this
      · have := h2 (k - 20) (by omega)
        rw [← a.2 (k - 20) (by omega), ← b.2 (k - 20) (by omega)] at this
        rw [show 120 * m + 20 + (k - 20) = 120 * m + k by omega, show 120 * n + 20 + (k - 20) = 120 * n + k by omega] at this
        exact this
theorem EN.congr {cnt T n : Nat} {w w' R R' : Nat → Int32} (h10 : cnt ≤ 10) (h : EN cnt T n w R) (h1 : ∀ c, c < cnt → w' (8 + c) = w (8 + c)) (h2 : ∀ k, k < 100 → w' (158 + k) = w (158 + k)) (h3 : ∀ x, sx x → w' x = w x) (hR : ∀ x, 120 * n ≤ x → x < 120 * n + 120 → R' x = R x) : EN cnt T n w' R' := by
  have hby : ∀ c, byc cnt w' c = byc cnt w c := fun c => by
    unfold byc
    by_cases hc : c < cnt
    · rw [if_pos hc, if_pos hc, h3 (28 + c) (by unfold sx; omega), h3 (18 + c) (by unfold sx; omega), h3 (38 + c) (by unfold sx; omega)]
    · rw [if_neg hc, if_neg hc]
  refine ⟨fun c hc => ⟨?_, ?_⟩, fun k hk => ?_⟩
  · rw [hR _ (by omega) (by omega), (h.1 c hc).1]
    by_cases hcc : c < cnt
    · rw [if_pos hcc, if_pos hcc, h1 c hcc]
    · rw [if_neg hcc, if_neg hcc]
  · rw [hR _ (by omega) (by omega), (h.1 c hc).2, hby]
  · rw [hR _ (by omega) (by omega), h.2 k hk, h2 k hk]
/-- in thought: what the way back needs -/
def FH (M M' : sk_M) : Prop := M'.1 3 = M.1 3 ∧ M'.1 2 = M.1 2 ∧ M'.1 4 = M.1 4 ∧ ∀ k, k ≠ 8 → M'.1 0 k = M.1 0 k
theorem FH.rf {M : sk_M} : FH M M := ⟨rfl, rfl, rfl, fun _ _ => rfl⟩
theorem FH.tr {A B C : sk_M} (h : FH A B) (g : FH B C) : FH A C := ⟨g.1.trans h.1, g.2.1.trans h.2.1, g.2.2.1.trans h.2.2.1, fun k hk => (g.2.2.2 k hk).trans (h.2.2.2 k hk)⟩
theorem FT.fh {M M' : sk_M} (h : FT M M') : FH M M' := ⟨h.1 3 (by omega) (by omega) (by omega) (by omega), h.1 2 (by omega) (by omega) (by omega) (by omega), h.1 4 (by omega) (by omega) (by omega) (by omega), h.2.1⟩
/-- the model's search: the first repetition -/
theorem k_find {cnt P T H lim : Nat} {p2 : Int32} {M : sk_M} {K : Nat → sk_M} (hK : TRJ cnt P T H K) (hH : 400 ≤ H) (hl : lim ≤ 400) (h0 : K 0 = M) : ∃ (f : Int32) (n : Nat) (M' : sk_M), (m_X5_keepsSituation M 0).bind (fun r23 => m_X5_repeats_31 (nI lim) p2 (r23, -1, 0)) = m_X5_repeats_99 (nI lim) p2 (M', f, nI n) ∧ FH M M' ∧ ((f = -1 ∧ ∀ a b, a < b → b ≤ lim → ¬ AK cnt K a b) ∨ ∃ m : Nat, f = nI m ∧ m < n ∧ n ≤ lim ∧ AK cnt K m n ∧ ∀ a b, a < b → b < n → ¬ AK cnt K a b) := by
  obtain ⟨hb, hA, hB⟩ := id hK
  obtain ⟨i0, ⟨N0, L0, X0⟩, -⟩ := hA 0 (by omega)
  have h10 : cnt ≤ 10 := X0.1.1.1.1
  rw [h0] at X0 i0
  obtain ⟨M1, k1, k2, k3, k4, k5⟩ := k_keep (n := 0) X0.1.1 X0.1.2.1.2.2.2 (by omega)
  have z0 : (0 : Int32) = nI 0 := rfl
  rw [z0, k1, pu_some]
  have nm : ∀ v : Nat, v < 401 → ¬ nI v = -1 := fun v hv => by
    have : ∀ v : Fin 401, ¬ nI v.val = -1 := by decide +kernel
    exact this ⟨v, hv⟩
  refine lp_F (step := m_X5_repeats_31_step (nI lim) p2) (fun y => ∃ (f : Int32) (n : Nat) (M' : sk_M), y = m_X5_repeats_99 (nI lim) p2 (M', f, nI n) ∧ FH M M' ∧ ((f = -1 ∧ ∀ a b, a < b → b ≤ lim → ¬ AK cnt K a b) ∨ ∃ m : Nat, f = nI m ∧ m < n ∧ n ≤ lim ∧ AK cnt K m n ∧ ∀ a b, a < b → b < n → ¬ AK cnt K a b))
    (fun j s => s.2.2 = nI j ∧ FH M s.1 ∧ s.1.1 0 10 = 1 ∧ (∃ N L, RS cnt P (T + j) (T + j) N L (K j) ∧ RX cnt P (T + j) (T + j) N (s.1.1 1)) ∧ (∀ x, sx x → s.1.1 1 x = (K 0).1 1 x) ∧ (∀ i, i ≤ j → EN cnt (T + i) i ((K i).1 1) (s.1.1 7)) ∧ ((s.2.1 = -1 ∧ ∀ a b, a < b → b ≤ j → ¬ AK cnt K a b) ∨ ∃ m : Nat, s.2.1 = nI m ∧ m < j ∧ AK cnt K m j ∧ ∀ a b, a < b → b < j → ¬ AK cnt K a b)) lim (by omega) _ ⟨rfl, ⟨by rw [k4 3 (by omega)], by rw [k4 2 (by omega)], by rw [k4 4 (by omega)], fun k _ => by rw [k4 0 (by omega)]⟩, by rw [k4 0 (by omega)]; exact i0, ⟨N0, L0, by rw [h0]; exact X0, by rw [k4 1 (by omega)]; exact X0.1⟩, fun x _ => by rw [k4 1 (by omega), h0], fun i hi => by
      have : i = 0 := by omega
      subst this
      rw [h0]; exact k2, Or.inl ⟨rfl, fun a b a1 a2 => absurd a1 (by omega)⟩⟩ ?_
  rintro k j ⟨A, f, x⟩ hj ⟨rfl, hF, hth, ⟨N, L, hRS, hRX⟩, hsx, hEN, hfd⟩
  dsimp only at hF hth hRX hsx hEN hfd ⊢
  unfold m_X5_repeats_31_step
  dsimp only
  rcases hfd with ⟨rfl, hno⟩ | ⟨m, rfl, m1, m2, m3⟩
  · by_cases hjc : j = lim
    · left
      subst hjc
      refine ⟨-1, j, A, ?_, hF, Or.inl ⟨rfl, hno⟩⟩
      rw [if_pos ((nI_leI (by omega) (by omega)).mpr (Nat.le_refl _))]
    · right
      refine ⟨by omega, ?_⟩
      -- one tick more
      obtain ⟨N1, M2, F1, o1, a1, a2, a3, -, -, a6⟩ := t_tick (nl := []) hRX (Or.inr hth) (by omega) (by omega)
      obtain ⟨N2, M3, F2, o2, b1, b2, b3, -, -, b6⟩ := t_tick (nl := []) hRS.1 (Or.inr (hA j (by omega)).1) (by omega) (by omega)
      rw [a1] at b1
      cases b1
      obtain ⟨r3, t3⟩ := hB j (by omega)
      rw [t3] at b2
      simp only [Option.some.injEq, Prod.mk.injEq] at b2
      rw [← b2.2] at b3
      obtain ⟨M4, c1, c2, c3, c4, c5⟩ := k_keep (n := j + 1) a3.1 a3.2.1.2.2.2 (by omega)
      have hn1 : ¬ nI lim ≤ nI j := fun e => absurd ((nI_leI (by omega) (by omega)).mp e) (by omega)
      rw [if_neg hn1, if_pos rfl, a2, pu_some, nI_1, c1, pu_some]
      obtain ⟨-, ⟨N5, L5, d5⟩, s5⟩ := hA (j + 1) (by omega)
      have hsx4 : ∀ x, sx x → M2.1 1 x = (K 0).1 1 x := fun x hx => by rw [a6.2.2.2 x hx]; exact hsx x hx
      have hph4 : ∀ c, c < cnt → (K (j + 1)).1 1 (8 + c) = M2.1 1 (8 + c) := b3.2.2.1.uniq a3.2.2.1
      have hpu4 : ∀ k, k < 100 → (K (j + 1)).1 1 (158 + k) = M2.1 1 (158 + k) := b3.2.2.2.1.uniq a3.2.2.2.1
      have en4 : ∀ i, i ≤ j + 1 → EN cnt (T + i) i ((K i).1 1) (M4.1 7) := fun i hi => by
        by_cases e : i = j + 1
        · subst e
          exact c2.congr h10 hph4 hpu4 (fun x hx => by rw [s5 x hx, hsx4 x hx]) (fun _ _ _ => rfl)
        · exact (hEN i (by omega)).congr h10 (fun _ _ => rfl) (fun _ _ => rfl) (fun _ _ => rfl) (fun x h1 h2 => by rw [c3 x (by omega), a6.1 7 (by omega) (by omega) (by omega) (by omega)])
      have rs4 : ∃ N L, RS cnt P (T + (j + 1)) (T + (j + 1)) N L (K (j + 1)) ∧ RX cnt P (T + (j + 1)) (T + (j + 1)) N (M4.1 1) := by
        obtain ⟨r6, N6, L6, M6, g1, g2, g3, g4, g5, g6, g7⟩ := t_step hRS (by omega) (by omega)
        rw [a1] at g2
        cases g2
        rw [t3] at g5
        simp only [Option.some.injEq, Prod.mk.injEq] at g5
        rw [← g5.2] at g6
        exact ⟨_, L6, g6, by rw [c4 1 (by omega)]; exact a3⟩
      have fh4 : FH M M4 := (hF.tr a6.fh).tr ⟨by rw [c4 3 (by omega)], by rw [c4 2 (by omega)], by rw [c4 4 (by omega)], fun k _ => by rw [c4 0 (by omega)]⟩
      have th4 : M4.1 0 10 = 1 := by rw [c4 0 (by omega), a6.2.1 10 (by omega)]; exact hth
      have sx4 : ∀ x, sx x → M4.1 1 x = (K 0).1 1 x := fun x hx => by rw [c4 1 (by omega)]; exact hsx4 x hx
      -- the rows before
      have inner : ∃ f', m_X5_repeats_60 (nI lim) p2 k (M4, -1, nI (j + 1), 0) = k (M4, f', nI (j + 1)) ∧ ((f' = -1 ∧ ∀ m, m < j + 1 → ¬ AK cnt K m (j + 1)) ∨ ∃ m : Nat, f' = nI m ∧ m < j + 1 ∧ AK cnt K m (j + 1)) := by
        refine lp_F (step := m_X5_repeats_60_step (nI lim) p2 k) (fun y => ∃ f', y = k (M4, f', nI (j + 1)) ∧ ((f' = -1 ∧ ∀ m, m < j + 1 → ¬ AK cnt K m (j + 1)) ∨ ∃ m : Nat, f' = nI m ∧ m < j + 1 ∧ AK cnt K m (j + 1))) (fun i s => (s = (M4, -1, nI (j + 1), nI i) ∧ ∀ m, m < i → ¬ AK cnt K m (j + 1)) ∨ ∃ m : Nat, s = (M4, nI m, nI (j + 1), nI i) ∧ m < j + 1 ∧ AK cnt K m (j + 1)) (j + 1) (by omega) _ (Or.inl ⟨rfl, fun m hm => absurd hm (by omega)⟩) ?_
        rintro kk i s hi (⟨rfl, hI⟩ | ⟨m, rfl, m1, m2⟩)
        · unfold m_X5_repeats_60_step
          dsimp only
          by_cases hic : i = j + 1
          · left
            subst hic
            rw [if_pos ((nI_leI (by omega) (by omega)).mpr (Nat.le_refl _))]
            exact ⟨_, rfl, Or.inl ⟨rfl, hI⟩⟩
          · right
            refine ⟨by omega, ?_⟩
            rw [if_neg (fun e => absurd ((nI_leI (by omega) (by omega)).mp e) (by omega)), if_pos rfl]
            have iff := en_alike hK (m := i) (n := j + 1) (by omega) (by omega) (en4 i (by omega)) (en4 (j + 1) (by omega))
            rcases k_alike (m := i) (n := j + 1) (M := M4) (by omega) (by omega) with ⟨q1, q2⟩ | ⟨q1, q2⟩
            · rw [q1, pu_some, if_neg (nI_ne0 (by omega) (by omega)), nI_1]
              exact ⟨_, rfl, Or.inr ⟨i, rfl, by omega, iff.mp q2⟩⟩
            · rw [q1, pu_some, if_pos nI_0, nI_1]
              refine ⟨_, rfl, Or.inl ⟨rfl, fun m hm => ?_⟩⟩
              by_cases e : m = i
              · subst e; exact fun h => q2 (iff.mpr h)
              · exact hI m (by omega)
        · left
          unfold m_X5_repeats_60_step
          dsimp only
          refine ⟨nI m, ?_, Or.inr ⟨m, rfl, m1, m2⟩⟩
          by_cases hic : nI (j + 1) ≤ nI i
          · rw [if_pos hic]
          · rw [if_neg hic, if_neg (nm m (by omega))]
      obtain ⟨f', i1, i2⟩ := inner
      rw [i1]
      refine ⟨_, rfl, rfl, fh4, th4, rs4, sx4, en4, ?_⟩
      rcases i2 with ⟨rfl, i3⟩ | ⟨m, rfl, m1, m2⟩
      · left
        refine ⟨rfl, fun a b ab hb => ?_⟩
        by_cases e : b = j + 1
        · subst e; exact i3 a ab
        · exact hno a b ab (by omega)
      · right
        exact ⟨m, rfl, m1, m2, fun a b ab hb => hno a b ab (by omega)⟩
  · left
    refine ⟨nI m, j, A, ?_, hF, Or.inr ⟨m, rfl, m1, hj, m2, m3⟩⟩
    by_cases hc : nI lim ≤ nI j
    · rw [if_pos hc]
    · rw [if_neg hc, if_neg (nm m (by omega))]
/-! the search of the class finds the same -/
theorem rep_per {A : Nat → Nat → Prop} {H m n : Nat} (nx : ∀ i j, i < H → j < H → A i j → A (i + 1) (j + 1)) (hmn : m ≤ n) (h : A m n) : ∀ k, n + k ≤ H → A (m + k) (n + k)
  | 0, _ => h
  | k + 1, hk => nx (m + k) (n + k) (by omega) (by omega) (rep_per nx hmn h k (by omega))
theorem rep_mul {A : Nat → Nat → Prop} {H m n : Nat} (rf : ∀ i, A i i) (tr : ∀ i j k, A i j → A j k → A i k) (nx : ∀ i j, i < H → j < H → A i j → A (i + 1) (j + 1)) (hmn : m ≤ n) (h : A m n) (a : Nat) (ha : m ≤ a) : ∀ q, a + q * (n - m) ≤ H → A a (a + q * (n - m))
  | 0, _ => by rw [Nat.zero_mul]; exact rf a
  | q + 1, hq => by
    rw [Nat.succ_mul] at hq ⊢
    have h1 := rep_mul rf tr nx hmn h a ha q (by omega)
    have h2 := rep_per nx hmn h (a + q * (n - m) - m) (by omega)
    rw [show m + (a + q * (n - m) - m) = a + q * (n - m) by omega, show n + (a + q * (n - m) - m) = a + (q * (n - m) + (n - m)) by omega] at h2
    exact tr _ _ _ h1 h2
theorem rep_len {A : Nat → Nat → Prop} {H m n lim : Nat} (hH : 3 * lim ≤ H) (rf : ∀ i, A i i) (sy : ∀ i j, A i j → A j i) (tr : ∀ i j k, A i j → A j k → A i k) (nx : ∀ i j, i < H → j < H → A i j → A (i + 1) (j + 1)) (hmn : m < n) (hl : n ≤ lim) (h : A m n) (hmin : ∀ a b, a < b → b < n → ¬ A a b) : A (lim + (n - m)) lim ∧ ∀ e, 1 ≤ e → e < n - m → ¬ A (lim + e) lim := by
  constructor
  · have := rep_per nx (by omega) h (lim - m) (by omega)
    rw [show m + (lim - m) = lim by omega, show n + (lim - m) = lim + (n - m) by omega] at this
    exact sy _ _ this
  · intro e e1 e2 he
    -- a multiple of the period beyond lim
    have hd : 0 < n - m := by omega
    obtain ⟨q, q1, q2⟩ : ∃ q, lim ≤ m + q * (n - m) ∧ m + q * (n - m) < lim + (n - m) := by
      refine ⟨(lim - m + (n - m) - 1) / (n - m), ?_, ?_⟩
      · have := Nat.div_add_mod (lim - m + (n - m) - 1) (n - m)
        have hm := Nat.mod_lt (lim - m + (n - m) - 1) hd
        rw [Nat.mul_comm] at this
        omega
      · have := Nat.div_add_mod (lim - m + (n - m) - 1) (n - m)
        rw [Nat.mul_comm] at this
        omega
    have a1 := rep_mul rf tr nx (by omega) h m (Nat.le_refl _) q (by omega)
    have a2 := rep_mul rf tr nx (by omega) h (m + e) (by omega) q (by omega)
    have a3 := rep_per nx (by omega) (sy _ _ he) (m + q * (n - m) - lim) (by omega)
    rw [show lim + (m + q * (n - m) - lim) = m + q * (n - m) by omega, show lim + e + (m + q * (n - m) - lim) = m + e + q * (n - m) by omega] at a3
    exact hmin m (m + e) (by omega) (by omega) (tr _ _ _ a1 (tr _ _ _ a3 (sy _ _ a2)))
