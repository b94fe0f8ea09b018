/-! the spread -/
def far (P x p : Nat) : Nat := if x ≤ p then p - x else p + P - x
theorem far_lt {P x p : Nat} (hx : x < P) (hp : p < P) : far P x p < P := by unfold far; split <;> omega
theorem far_mod {P x p : Nat} (hx : x < P) (hp : p < P) : (p + P - x) % P = far P x p := by
  unfold far
  by_cases h : x ≤ p
  · rw [if_pos h, show p + P - x = p - x + P by omega, Nat.add_mod_right, Nat.mod_eq_of_lt (by omega)]
  · rw [if_neg h, Nat.mod_eq_of_lt (by omega)]
def mst (N : sk_N) (P x : Nat) : Nat → Nat
  | 0 => 0
  | n + 1 => if gb N n = true ∧ mst N P x n < far P x (phs N n) then far P x (phs N n) else mst N P x n
theorem pu_sa (a b c : Int32) : a - b + c = a + c - b := by
  rw [Int32.sub_eq_add_neg, Int32.sub_eq_add_neg, Int32.add_assoc, Int32.add_assoc, Int32.add_comm (-b)]
theorem pu_fa {p x P : Nat} (hx : x ≤ p + P) : nI p - nI x + nI P = nI (p + P - x) := by
  rw [pu_sa, nI_add, pk_sub hx]
theorem mst_lt {N : sk_N} {P x : Nat} (hx : x < P) (hp : ∀ n, (∀ c, c < n → phs N c < P) → mst N P x n < P) : True := trivial
theorem mst_le {N : sk_N} {P x : Nat} (hx : x < P) : ∀ n, (∀ c, c < n → phs N c < P) → mst N P x n < P
  | 0, _ => by rw [mst]; omega
  | n + 1, h => by
    have h1 := mst_le (N := N) hx n (fun c hc => h c (by omega))
    have h2 := far_lt hx (h n (by omega))
    rw [mst]; split <;> omega
theorem mst_ge {N : sk_N} {P x c : Nat} : ∀ n, c < n → gb N c = true → far P x (phs N c) ≤ mst N P x n
  | 0, h, _ => absurd h (by omega)
  | n + 1, h, hg => by
    rw [mst]
    by_cases e : c = n
    · subst e
      split
      · exact Nat.le_refl _
      · rename_i hh
        have : ¬ mst N P x c < far P x (phs N c) := fun e => hh ⟨hg, e⟩
        omega
    · have := mst_ge (N := N) (P := P) (x := x) n (show c < n by omega) hg
      split <;> omega
theorem mst_ex {N : sk_N} {P x : Nat} : ∀ n, mst N P x n = 0 ∨ ∃ c, c < n ∧ gb N c = true ∧ mst N P x n = far P x (phs N c)
  | 0 => Or.inl rfl
  | n + 1 => by
    rw [mst]
    by_cases h : gb N n = true ∧ mst N P x n < far P x (phs N n)
    · rw [if_pos h]; exact Or.inr ⟨n, by omega, h.1, rfl⟩
    · rw [if_neg h]
      rcases mst_ex (N := N) (P := P) (x := x) n with e | ⟨c, c1, c2, c3⟩
      · exact Or.inl e
      · exact Or.inr ⟨c, by omega, c2, c3⟩
theorem q_stretch {cnt P x : Nat} {N : sk_N} {w : Nat → Int32} (h : QR cnt P N w) (hx : x < P) : m_X1_stretchFrom N (nI x) = some (nI (mst N P x cnt)) := by
  obtain ⟨h10, hP1, hP2, e0, e5, eP, eP'⟩ := h.1.ex
  refine lp_F (step := m_X1_stretchFrom_4_step N (nI x)) (fun y => y = some (nI (mst N P x cnt))) (fun j s => s = (nI (mst N P x j), nI j)) cnt (by omega) (0, 0) rfl ?_
  rintro k j s hj rfl
  unfold m_X1_stretchFrom_4_step m_X1_stretchFrom_48
  dsimp only
  by_cases hjc : j = cnt
  · subst hjc
    left
    simp (disch := omega) only [pu_lit, pu_let, pu_some, pu_xb, pu_xe, pu_hb, pu_he, nI_add, pk_mul, pk_sub, nI_clamp, pu_inT, nI_leI, nI_ltI, nI_eq, if_pos, if_neg, ↓reduceIte, true_and, and_true, and_self, not_true_eq_false, not_false_eq_true, reduceCtorEq, e0]
  · right
    have hlt : j < cnt := by omega
    refine ⟨hlt, ?_⟩
    obtain ⟨p1, p2, p3⟩ := h.ph hlt
    have hm := mst_le (N := N) hx j (fun c hc => (h.ph (show c < cnt by omega)).1)
    have hf := far_lt hx p1
    by_cases g : gb N j = true
    · have hs : mst N P x (j + 1) = if mst N P x j < far P x (phs N j) then far P x (phs N j) else mst N P x j := by
        rw [mst]; simp [g]
      have hmax : ∀ v, v = far P x (phs N j) → sk_max (nI (mst N P x j)) (nI v) = nI (mst N P x (j + 1)) := fun v hv => by
        unfold sk_max
        rw [hv, hs]
        by_cases hh : mst N P x j < far P x (phs N j)
        · rw [if_pos hh, if_pos (nI_lt hh (by omega))]
        · rw [if_neg hh, if_neg (nI_nlt (by omega) (by omega))]
      by_cases hxp : x ≤ phs N j
      · have hv := hmax (phs N j - x) (by unfold far; rw [if_pos hxp])
        simp (disch := omega) only [pu_lit, pu_let, pu_some, pu_xb, pu_xe, pu_hb, pu_he, nI_add, pk_mul, pk_sub, nI_clamp, pu_inT, nI_leI, nI_ltI, nI_eq, if_pos, if_neg, ↓reduceIte, true_and, and_true, and_self, not_true_eq_false, not_false_eq_true, reduceCtorEq, e0, v_good', g, p2, hv]
        exact ⟨_, rfl, rfl⟩
      · have hn : nI (phs N j) - nI x < nI 0 := pk_sneg (by omega) (by omega)
        have hv := hmax (phs N j + P - x) (by unfold far; rw [if_neg hxp])
        have hfa := pu_fa (p := phs N j) (x := x) (P := P) (by omega)
        simp (disch := omega) only [pu_lit, pu_let, pu_some, pu_xb, pu_xe, pu_hb, pu_he, nI_add, pk_mul, pk_sub, nI_clamp, pu_inT, nI_leI, nI_ltI, nI_eq, if_pos, if_neg, ↓reduceIte, true_and, and_true, and_self, not_true_eq_false, not_false_eq_true, reduceCtorEq, e0, v_good', g, p2, hn, eP, hfa, hv]
        exact ⟨_, rfl, rfl⟩
    · have hs : mst N P x (j + 1) = mst N P x j := by rw [mst, if_neg (fun e => g e.1)]
      simp (disch := omega) only [pu_lit, pu_let, pu_some, pu_xb, pu_xe, pu_hb, pu_he, nI_add, pk_mul, pk_sub, nI_clamp, pu_inT, nI_leI, nI_ltI, nI_eq, if_pos, if_neg, ↓reduceIte, true_and, and_true, and_self, not_true_eq_false, not_false_eq_true, reduceCtorEq, e0, v_good', g]
      exact ⟨_, rfl, by rw [hs]⟩
/-- the class's spread -/
theorem q_spreadC {cnt P : Nat} {N : sk_N} {w : Nat → Int32} (h : QR cnt P N w) : ∃ v : Nat, m_X1_spreadOfGood N = some (nI v) ∧ (((∀ c, c < cnt → gb N c = false) ∧ v = 0) ∨ ((∃ c, c < cnt ∧ gb N c = true ∧ v = mst N P (phs N c) cnt) ∧ ∀ c, c < cnt → gb N c = true → v ≤ mst N P (phs N c) cnt)) := by
  obtain ⟨h10, hP1, hP2, e0, e5, eP, eP'⟩ := h.1.ex
  have hb : ∀ c, c < cnt → mst N P (phs N c) cnt < P := fun c hc => mst_le (h.ph hc).1 cnt (fun c hc => (h.ph hc).1)
  refine lp_F (step := m_X1_spreadOfGood_4_step N) (fun y => ∃ v : Nat, y = some (nI v) ∧ (((∀ c, c < cnt → gb N c = false) ∧ v = 0) ∨ ((∃ c, c < cnt ∧ gb N c = true ∧ v = mst N P (phs N c) cnt) ∧ ∀ c, c < cnt → gb N c = true → v ≤ mst N P (phs N c) cnt)))
    (fun j s => s.2 = nI j ∧ ((s.1 = -nI 1 ∧ ∀ c, c < j → gb N c = false) ∨ ∃ v : Nat, s.1 = nI v ∧ (∃ c, c < j ∧ gb N c = true ∧ v = mst N P (phs N c) cnt) ∧ ∀ c, c < j → gb N c = true → v ≤ mst N P (phs N c) cnt)) cnt (by omega) (-1, 0) ⟨rfl, Or.inl ⟨rfl, fun c hc => absurd hc (by omega)⟩⟩ ?_
  rintro k j ⟨l, y⟩ hj ⟨rfl, hI⟩
  dsimp only at hI ⊢
  have nm : ∀ v : Nat, v < 100 → ¬ nI v = -nI 1 := fun v hv => by
    have : ∀ v : Fin 100, ¬ nI v.val = -nI 1 := by decide
    exact this ⟨v, hv⟩
  unfold m_X1_spreadOfGood_4_step
  dsimp only
  by_cases hjc : j = cnt
  · left
    subst hjc
    rcases hI with ⟨rfl, hno⟩ | ⟨v, rfl, ⟨c, c1, c2, c3⟩, hall⟩
    · refine ⟨0, ?_, Or.inl ⟨hno, rfl⟩⟩
      simp (disch := omega) only [pu_lit, pu_let, pu_some, pu_xb, pu_xe, pu_hb, pu_he, nI_add, pk_mul, pk_sub, nI_clamp, pu_inT, nI_leI, nI_ltI, nI_eq, if_pos, if_neg, ↓reduceIte, true_and, and_true, and_self, not_true_eq_false, not_false_eq_true, reduceCtorEq, e0]
    · have := hb c c1
      have hne := nm v (by omega)
      refine ⟨v, ?_, Or.inr ⟨⟨c, c1, c2, c3⟩, hall⟩⟩
      simp (disch := omega) only [pu_lit, pu_let, pu_some, pu_xb, pu_xe, pu_hb, pu_he, nI_add, pk_mul, pk_sub, nI_clamp, pu_inT, nI_leI, nI_ltI, nI_eq, if_pos, if_neg, ↓reduceIte, true_and, and_true, and_self, not_true_eq_false, not_false_eq_true, reduceCtorEq, e0, hne]
  · right
    have hlt : j < cnt := by omega
    refine ⟨hlt, ?_⟩
    obtain ⟨p1, p2, -⟩ := h.ph hlt
    have hbj := hb j hlt
    by_cases g : gb N j = true
    · have hq := q_stretch h p1
      rcases hI with ⟨rfl, hno⟩ | ⟨v, rfl, ⟨c, c1, c2, c3⟩, hall⟩
      · simp (disch := omega) only [pu_lit, pu_let, pu_some, pu_xb, pu_xe, pu_hb, pu_he, nI_add, pk_mul, pk_sub, nI_clamp, pu_inT, nI_leI, nI_ltI, nI_eq, if_pos, if_neg, ↓reduceIte, true_and, and_true, and_self, not_true_eq_false, not_false_eq_true, reduceCtorEq, e0, v_good', g, p2, hq]
        refine ⟨_, rfl, rfl, Or.inr ⟨_, rfl, ⟨j, by omega, g, rfl⟩, fun c hc hgc => ?_⟩⟩
        by_cases e : c = j
        · subst e; exact Nat.le_refl _
        · rw [hno c (by omega)] at hgc; exact absurd hgc (by decide)
      · have hbc := hb c (by omega)
        have hne := nm v (by omega)
        have hmin : sk_min (nI v) (nI (mst N P (phs N j) cnt)) = nI (if mst N P (phs N j) cnt < v then mst N P (phs N j) cnt else v) := by
          unfold sk_min
          by_cases hh : mst N P (phs N j) cnt < v
          · rw [if_pos hh, if_pos (nI_lt hh (by omega))]
          · rw [if_neg hh, if_neg (nI_nlt (by omega) (by omega))]
        simp (disch := omega) only [pu_lit, pu_let, pu_some, pu_xb, pu_xe, pu_hb, pu_he, nI_add, pk_mul, pk_sub, nI_clamp, pu_inT, nI_leI, nI_ltI, nI_eq, if_pos, if_neg, ↓reduceIte, true_and, and_true, and_self, not_true_eq_false, not_false_eq_true, reduceCtorEq, e0, v_good', g, p2, hq, hne, hmin]
        refine ⟨_, rfl, rfl, Or.inr ⟨_, rfl, ?_, fun c' hc' hgc => ?_⟩⟩
        · by_cases hh : mst N P (phs N j) cnt < v
          · rw [if_pos hh]; exact ⟨j, by omega, g, rfl⟩
          · rw [if_neg hh]; exact ⟨c, by omega, c2, c3⟩
        · by_cases e : c' = j
          · subst e; split <;> omega
          · have := hall c' (by omega) hgc
            split <;> omega
    · simp (disch := omega) only [pu_lit, pu_let, pu_some, pu_xb, pu_xe, pu_hb, pu_he, nI_add, pk_mul, pk_sub, nI_clamp, pu_inT, nI_leI, nI_ltI, nI_eq, if_pos, if_neg, ↓reduceIte, true_and, and_true, and_self, not_true_eq_false, not_false_eq_true, reduceCtorEq, e0, v_good', g]
      refine ⟨_, rfl, rfl, ?_⟩
      have g' : gb N j = false := by simpa using g
      rcases hI with ⟨rfl, hno⟩ | ⟨v, rfl, ⟨c, c1, c2, c3⟩, hall⟩
      · exact Or.inl ⟨rfl, fun c hc => by
          by_cases e : c = j
          · subst e; exact g'
          · exact hno c (by omega)⟩
      · exact Or.inr ⟨v, rfl, ⟨c, by omega, c2, c3⟩, fun c' hc' hgc => by
          by_cases e : c' = j
          · subst e; exact absurd hgc g
          · exact hall c' (by omega) hgc⟩
/-- the model's spread -/
theorem q_spreadM {cnt P : Nat} {N : sk_N} {M : sk_M} (h : QR cnt P N (M.1 1)) : ∃ v : Nat, m_X5_spreadOf M = some (nI v) ∧ (∃ x, x < P ∧ v = mst N P x cnt) ∧ ∀ x, x < P → v ≤ mst N P x cnt := by
  obtain ⟨h10, hP1, hP2, e0, e5, eP, eP'⟩ := h.1.ex
  have hb : ∀ x, x < P → ∀ j, j ≤ cnt → mst N P x j < P := fun x hx j hj => mst_le hx j (fun c hc => (h.ph (show c < cnt by omega)).1)
  have nm : ∀ v : Nat, v < 100 → ¬ nI v = -nI 1 := fun v hv => by
    have : ∀ v : Fin 100, ¬ nI v.val = -nI 1 := by decide
    exact this ⟨v, hv⟩
  refine lp_F (step := m_X5_spreadOf_4_step M) (fun y => ∃ v : Nat, y = some (nI v) ∧ (∃ x, x < P ∧ v = mst N P x cnt) ∧ ∀ x, x < P → v ≤ mst N P x cnt)
    (fun j s => s.2 = nI j ∧ ((s.1 = -nI 1 ∧ j = 0) ∨ ∃ v : Nat, s.1 = nI v ∧ (∃ x, x < j ∧ v = mst N P x cnt) ∧ ∀ x, x < j → v ≤ mst N P x cnt)) P (by omega) (-1, 0) ⟨rfl, Or.inl ⟨rfl, rfl⟩⟩ ?_
  rintro k j ⟨l, y⟩ hj ⟨rfl, hI⟩
  dsimp only at hI ⊢
  unfold m_X5_spreadOf_4_step
  dsimp only
  by_cases hjc : j = P
  · left
    subst hjc
    rcases hI with ⟨rfl, hz⟩ | ⟨v, rfl, hex, hall⟩
    · omega
    · refine ⟨v, ?_, hex, hall⟩
      simp (disch := omega) only [pu_lit, pu_let, pu_some, pu_xb, pu_xe, pu_hb, pu_he, nI_add, pk_mul, pk_sub, nI_clamp, pu_inT, nI_leI, nI_ltI, nI_eq, if_pos, if_neg, ↓reduceIte, true_and, and_true, and_self, not_true_eq_false, not_false_eq_true, reduceCtorEq, eP']
  · right
    have hlt : j < P := by omega
    refine ⟨hlt, ?_⟩
    have hbj := hb j hlt cnt (Nat.le_refl _)
    have inner : m_X5_spreadOf_19 M k (l, nI j, 0, 0) = (if l = -nI 1 then k (nI (mst N P j cnt), nI (j + 1)) else if l ≤ nI (mst N P j cnt) then k (l, nI (j + 1)) else k (nI (mst N P j cnt), nI (j + 1))) := by
      refine lp_F (step := m_X5_spreadOf_19_step M k) (fun y => y = (if l = -nI 1 then k (nI (mst N P j cnt), nI (j + 1)) else if l ≤ nI (mst N P j cnt) then k (l, nI (j + 1)) else k (nI (mst N P j cnt), nI (j + 1)))) (fun c s => s = (l, nI j, nI (mst N P j c), nI c)) cnt (by omega) _ rfl ?_
      rintro kk c s hc rfl
      unfold m_X5_spreadOf_19_step m_X5_spreadOf_100
      dsimp only
      by_cases hcc : c = cnt
      · left
        subst hcc
        simp (disch := omega) only [pu_lit, pu_let, pu_some, pu_xb, pu_xe, pu_hb, pu_he, nI_add, pk_mul, pk_sub, nI_clamp, pu_inT, nI_leI, nI_ltI, nI_eq, if_pos, if_neg, ↓reduceIte, true_and, and_true, and_self, not_true_eq_false, not_false_eq_true, reduceCtorEq, e5]
      · right
        have hclt : c < cnt := by omega
        refine ⟨hclt, ?_⟩
        obtain ⟨p1, p2, p3⟩ := h.ph hclt
        have b28 := h.b28 hclt
        have hfa := pu_fa (p := phs N c) (x := j) (P := P) (by omega)
        have hfm := far_mod hlt p1
        have hf := far_lt hlt p1
        have hm := hb j hlt c (by omega)
        have hrem : sk_rem (nI (phs N c + P - j)) (nI P) = nI (far P j (phs N c)) := by rw [pu_rem (by omega) (by omega) (by omega), hfm]
        by_cases g : gb N c = true
        · rw [if_pos g] at b28
          by_cases hh : mst N P j c < far P j (phs N c)
          · have hs : mst N P j (c + 1) = far P j (phs N c) := by rw [mst, if_pos ⟨g, hh⟩]
            simp (disch := omega) only [pu_lit, pu_let, pu_some, pu_xb, pu_xe, pu_hb, pu_he, nI_add, pk_mul, pk_sub, nI_clamp, pu_inT, nI_leI, nI_ltI, nI_eq, if_pos, if_neg, ↓reduceIte, true_and, and_true, and_self, not_true_eq_false, not_false_eq_true, reduceCtorEq, e5, p3, eP', hfa, hrem, b28]
            exact ⟨_, rfl, by rw [hs]⟩
          · have hs : mst N P j (c + 1) = mst N P j c := by rw [mst, if_neg (fun e => hh e.2)]
            simp (disch := omega) only [pu_lit, pu_let, pu_some, pu_xb, pu_xe, pu_hb, pu_he, nI_add, pk_mul, pk_sub, nI_clamp, pu_inT, nI_leI, nI_ltI, nI_eq, if_pos, if_neg, ↓reduceIte, true_and, and_true, and_self, not_true_eq_false, not_false_eq_true, reduceCtorEq, e5, p3, eP', hfa, hrem, b28]
            exact ⟨_, rfl, by rw [hs]⟩
        · rw [if_neg g] at b28
          have hs : mst N P j (c + 1) = mst N P j c := by rw [mst, if_neg (fun e => g e.1)]
          simp (disch := omega) only [pu_lit, pu_let, pu_some, pu_xb, pu_xe, pu_hb, pu_he, nI_add, pk_mul, pk_sub, nI_clamp, pu_inT, nI_leI, nI_ltI, nI_eq, if_pos, if_neg, ↓reduceIte, true_and, and_true, and_self, not_true_eq_false, not_false_eq_true, reduceCtorEq, e5, p3, eP', hfa, hrem, b28]
          exact ⟨_, rfl, by rw [hs]⟩
    have z0 : nI 0 = (0 : Int32) := rfl
    simp (disch := omega) only [pu_lit, pu_let, pu_some, pu_xb, pu_xe, pu_hb, pu_he, nI_add, pk_mul, pk_sub, nI_clamp, pu_inT, nI_leI, nI_ltI, nI_eq, if_pos, if_neg, ↓reduceIte, true_and, and_true, and_self, not_true_eq_false, not_false_eq_true, reduceCtorEq, eP']
    rw [z0, inner]
    rcases hI with ⟨rfl, hz⟩ | ⟨v, rfl, ⟨x, x1, x2⟩, hall⟩
    · rw [if_pos rfl]
      refine ⟨_, rfl, rfl, Or.inr ⟨_, rfl, ⟨j, by omega, rfl⟩, fun x hx => ?_⟩⟩
      have : x = j := by omega
      subst this; exact Nat.le_refl _
    · have hbx := hb x (by omega) cnt (Nat.le_refl _)
      rw [if_neg (nm v (by omega))]
      by_cases hh : v ≤ mst N P j cnt
      · rw [if_pos (nI_le hh (by omega))]
        refine ⟨_, rfl, rfl, Or.inr ⟨v, rfl, ⟨x, by omega, x2⟩, fun x' hx' => ?_⟩⟩
        by_cases e : x' = j
        · subst e; exact hh
        · exact hall x' (by omega)
      · rw [if_neg (nI_ge (by omega) (by omega))]
        refine ⟨_, rfl, rfl, Or.inr ⟨_, rfl, ⟨j, by omega, rfl⟩, fun x' hx' => ?_⟩⟩
        by_cases e : x' = j
        · subst e; exact Nat.le_refl _
        · have := hall x' (by omega); omega
theorem q_spread {cnt P : Nat} {N : sk_N} {M : sk_M} (h : QR cnt P N (M.1 1)) : ∃ r, m_X1_spreadOfGood N = some r ∧ m_X5_spreadOf M = some r := by
  obtain ⟨v, a1, a2⟩ := q_spreadC h
  obtain ⟨u, b1, ⟨x, x1, x2⟩, b3⟩ := q_spreadM h
  have hv : v = u := by
    rcases a2 with ⟨hno, hv⟩ | ⟨⟨c, c1, c2, c3⟩, hall⟩
    · rw [hv, x2]
      rcases mst_ex (N := N) (P := P) (x := x) cnt with e | ⟨c, c1, c2, c3⟩
      · exact e.symm
      · rw [hno c c1] at c2; exact absurd c2 (by decide)
    · have h1 := b3 (phs N c) (h.ph c1).1
      -- the nearest good clock from x on
      obtain ⟨m, ⟨c', d1, d2, d3⟩, dmin⟩ := pk_least (fun m => ∃ c, c < cnt ∧ gb N c = true ∧ far P x (phs N c) = m) ⟨_, c, c1, c2, rfl⟩
      have hle : mst N P (phs N c') cnt ≤ mst N P x cnt := by
        rcases mst_ex (N := N) (P := P) (x := phs N c') cnt with e | ⟨e, e1, e2, e3⟩
        · omega
        · rw [e3]
          have g1 := mst_ge (N := N) (P := P) (x := x) cnt e1 e2
          have g2 : ¬ far P x (phs N e) < m := fun hh => dmin _ hh ⟨e, e1, e2, rfl⟩
          have p1 := (h.ph e1).1
          have p2 := (h.ph d1).1
          unfold far at g1 g2 d3 ⊢
          split <;> split at g1 <;> split at d3 <;> simp_all <;> omega
      have h2 := hall c' d1 d2
      omega
  exact ⟨_, a1, by rw [hv]; exact b1⟩
