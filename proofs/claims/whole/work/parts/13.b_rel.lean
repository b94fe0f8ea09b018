/-! the relation between a network of the class (N) and the model's row (w) -/
def RR (N : sk_N) (w : Nat → Int32) : Prop := ∃ r k d : Nat, r ≤ 99 ∧ k ≤ 32 ∧ d ≤ 2 ∧ N 1 0 = nI r ∧ w 1 = nI r ∧ N 1 1 = nI k ∧ w 2 = nI k ∧ N 1 2 = nI d ∧ w 3 = nI d
/-- a clock's drift, and whether it blinks -/
def RK (cnt : Nat) (N : sk_N) (w : Nat → Int32) : Prop :=
  (∀ c, c < cnt → N 3 c = w (18 + c) ∧ -9 ≤ (N 3 c).toInt ∧ (N 3 c).toInt ≤ 9 ∧
    ((N 4 c = 0 ∧ w (28 + c) = 0) ∨ ∃ R O : Nat, 1 ≤ R ∧ R ≤ 99 ∧ O ≤ 98 ∧ N 4 c = nI R ∧ w (28 + c) = 1 ∧ w (38 + c) = nI R ∧ N 5 c = nI O ∧ w (48 + c) = nI O)) ∧
  ∀ c, cnt ≤ c → c < 10 → N 3 c = 0 ∧ N 4 c = 0
def RD (cnt : Nat) (N : sk_N) (w : Nat → Int32) : Prop := ∀ a b, a < 10 → b < 10 →
  N 6 (10 * a + b) = w (58 + (10 * a + b)) ∧ (N 6 (10 * a + b) = -1 ∨ ∃ d : Nat, d ≤ 9 ∧ N 6 (10 * a + b) = nI d) ∧ N 6 (10 * a + b) = N 6 (10 * b + a) ∧ N 6 (10 * a + a) = -1 ∧ (cnt ≤ a ∨ cnt ≤ b → N 6 (10 * a + b) = -1)
def ST (cnt P : Nat) (N : sk_N) (w : Nat → Int32) : Prop :=
  (cnt ≤ 10 ∧ 10 ≤ P ∧ P ≤ 100) ∧ (N 0 0 = nI cnt ∧ w 5 = nI cnt) ∧ (N 0 1 = nI P ∧ w 0 = nI P) ∧ RR N w ∧ RK cnt N w ∧ RD cnt N w
/-- the phases, below a bound each -/
def PH (cnt : Nat) (bd : Nat → Nat) (N : sk_N) (w : Nat → Int32) : Prop := ∀ c, c < cnt → ∃ p : Nat, p < bd c ∧ N 2 c = nI p ∧ w (8 + c) = nI p
/-- a slot's set of pulses that reach a clock -/
def dd (N : sk_N) (s b : Nat) : Nat := (N 7 (s * 10 + b)).toNatClampNeg
/-- the pulses under way; ar: those that arrive in this tick and have not been handed out yet -/
def PU (cnt T : Nat) (ar : Nat → Nat → Bool) (N : sk_N) (w : Nat → Int32) : Prop :=
  (∀ s b, s < 16 → b < 10 → N 7 (s * 10 + b) = nI (dd N s b) ∧ dd N s b < 1024) ∧
  ∀ a b, a < 10 → b < 10 → ∃ q : Nat, q < 1024 ∧ w (158 + (10 * a + b)) = nI q ∧ q.testBit 0 = false ∧ (q ≠ 0 → a < cnt ∧ b < cnt) ∧ (ar a b = true → a < cnt ∧ b < cnt) ∧
    ∀ d, d < 16 → (dd N ((T + d) % 16) b).testBit a = (if d = 0 then ar a b else q.testBit d)
/-- who has fired in this tick, and in which order -/
def FD (cnt F : Nat) (ol : List Nat) (N : sk_N) (M : sk_M) : Prop :=
  F < 1024 ∧ N 0 4 = nI F ∧ M.1 1 6 = nI F ∧ N 0 13 = nI ol.length ∧ M.1 0 8 = nI ol.length ∧ ol.length = pu_pc F ∧ (∀ i, F.testBit i = true → i < cnt) ∧
  ∀ (k o : Nat), ol[k]? = some o → o < cnt ∧ N 8 k = nI o ∧ M.1 5 k = nI o
/-- the model's notes, the earliest first -/
def NT (nl : List (Nat × Nat)) (w : Nat → Int32) : Prop := nl.length ≤ 60 ∧ w 7 = nI nl.length ∧ ∀ (k : Nat) (x : Nat × Nat), nl[k]? = some x → w (258 + 2 * k) = nI x.1 ∧ w (258 + 2 * k + 1) = nI x.2
def nlA (nl : List (Nat × Nat)) (x : Nat × Nat) : List (Nat × Nat) := (if nl.length = 60 then nl.tail else nl) ++ [x]
def TK (T1 T2 : Nat) (N : sk_N) (w : Nat → Int32) : Prop := T1 < 2 ^ 30 ∧ T2 < 2 ^ 30 ∧ N 0 3 = nI T1 ∧ w 4 = nI T2
/-- in the midst of a tick -/
def TM (cnt P T1 T2 F : Nat) (ol : List Nat) (ar : Nat → Nat → Bool) (bd : Nat → Nat) (N : sk_N) (M : sk_M) : Prop :=
  ST cnt P N (M.1 1) ∧ TK T1 T2 N (M.1 1) ∧ PH cnt bd N (M.1 1) ∧ FD cnt F ol N M ∧ PU cnt T1 ar N (M.1 1)
/-- what of the model a tick leaves alone -/
def FM (M M' : sk_M) : Prop := (∀ j, j ≠ 0 → j ≠ 1 → j ≠ 5 → M'.1 j = M.1 j) ∧ (∀ k, k ≠ 8 → M'.1 0 k = M.1 0 k) ∧ M'.2 = M.2 ∧ ∀ x, x < 4 ∨ x = 5 ∨ (18 ≤ x ∧ x < 158) → M'.1 1 x = M.1 1 x
theorem FM.rf {M : sk_M} : FM M M := ⟨fun _ _ _ _ => rfl, fun _ _ => rfl, rfl, fun _ _ => rfl⟩
theorem FM.tr {A B C : sk_M} (h : FM A B) (g : FM B C) : FM A C := ⟨fun j a b c => (g.1 j a b c).trans (h.1 j a b c), fun k a => (g.2.1 k a).trans (h.2.1 k a), g.2.2.1.trans h.2.2.1, fun x hx => (g.2.2.2 x hx).trans (h.2.2.2 x hx)⟩
/-! writes that keep parts -/
theorem ST.keep {cnt P : Nat} {N N' : sk_N} {w w' : Nat → Int32} (h : ST cnt P N w) (h0 : N' 0 0 = N 0 0) (h1 : N' 0 1 = N 0 1) (hr : N' 1 = N 1) (h3 : N' 3 = N 3) (h4 : N' 4 = N 4) (h5 : N' 5 = N 5) (h6 : N' 6 = N 6) (hw : ∀ x, x < 4 ∨ x = 5 ∨ (18 ≤ x ∧ x < 158) → w' x = w x) : ST cnt P N' w' := by
  obtain ⟨a, b, c, ⟨r, k, d, d1, d2, d3, d4, d5, d6, d7, d8, d9⟩, ⟨e1, e2⟩, f⟩ := h
  refine ⟨a, ⟨by rw [h0]; exact b.1, by rw [hw 5 (by omega)]; exact b.2⟩, ⟨by rw [h1]; exact c.1, by rw [hw 0 (by omega)]; exact c.2⟩, ⟨r, k, d, d1, d2, d3, by rw [hr]; exact d4, by rw [hw 1 (by omega)]; exact d5, by rw [hr]; exact d6, by rw [hw 2 (by omega)]; exact d7, by rw [hr]; exact d8, by rw [hw 3 (by omega)]; exact d9⟩, ⟨fun c hc => ?_, fun c hc hc2 => by rw [h3, h4]; exact e2 c hc hc2⟩, fun a b ha hb => ?_⟩
  · have hc10 : c < 10 := by omega
    obtain ⟨g1, g2, g3, g4⟩ := e1 c hc
    rw [h3, h4, h5, hw (18 + c) (by omega), hw (28 + c) (by omega), hw (38 + c) (by omega), hw (48 + c) (by omega)]
    exact ⟨g1, g2, g3, g4⟩
  · rw [h6, hw (58 + (10 * a + b)) (by omega)]
    exact f a b ha hb
theorem TK.keep {T1 T2 : Nat} {N N' : sk_N} {w w' : Nat → Int32} (h : TK T1 T2 N w) (h0 : N' 0 3 = N 0 3) (h1 : w' 4 = w 4) : TK T1 T2 N' w' := ⟨h.1, h.2.1, by rw [h0]; exact h.2.2.1, by rw [h1]; exact h.2.2.2⟩
theorem PH.keep {cnt : Nat} {bd bd' : Nat → Nat} {N N' : sk_N} {w w' : Nat → Int32} (hc : cnt ≤ 10) (h : PH cnt bd N w) (h0 : N' 2 = N 2) (h1 : ∀ x, 8 ≤ x → x < 18 → w' x = w x) (hb : ∀ c, c < cnt → bd c ≤ bd' c) : PH cnt bd' N' w' := fun c hc' => by
  obtain ⟨p, h2, h3, h4⟩ := h c hc'
  exact ⟨p, Nat.lt_of_lt_of_le h2 (hb c hc'), by rw [h0]; exact h3, by rw [h1 _ (by omega) (by omega)]; exact h4⟩
theorem PU.keep {cnt T : Nat} {ar : Nat → Nat → Bool} {N N' : sk_N} {w w' : Nat → Int32} (h : PU cnt T ar N w) (h0 : N' 7 = N 7) (h1 : ∀ x, 158 ≤ x → x < 258 → w' x = w x) : PU cnt T ar N' w' := by
  have hd : dd N' = dd N := by funext s b; unfold dd; rw [h0]
  refine ⟨fun s b hs hb => by rw [hd, h0]; exact h.1 s b hs hb, fun a b ha hb => ?_⟩
  rw [hd, h1 _ (by omega) (by omega)]
  exact h.2 a b ha hb
/-- a pulse begins -/
theorem PU.put {cnt T c o d : Nat} {ar : Nat → Nat → Bool} {N : sk_N} {w : Nat → Int32} (h : PU cnt T ar N w) (hc : c < cnt) (ho : o < cnt) (h10 : cnt ≤ 10) (h1 : 1 ≤ d) (h9 : d ≤ 9) :
    PU cnt T ar (sk_up N 7 ((T + d) % 16 * 10 + o) (N 7 ((T + d) % 16 * 10 + o) ||| nI (2 ^ c))) (upd w (158 + (10 * c + o)) (w (158 + (10 * c + o)) ||| nI (2 ^ d))) := by
  obtain ⟨ha, hb⟩ := h
  have hs : (T + d) % 16 < 16 := Nat.mod_lt _ (by omega)
  obtain ⟨e1, e2⟩ := ha ((T + d) % 16) o hs (by omega)
  have hc2 : (2 : Nat) ^ c < 2 ^ 10 := Nat.pow_lt_pow_right (by omega) (by omega)
  have hd2 : (2 : Nat) ^ d < 2 ^ 10 := Nat.pow_lt_pow_right (by omega) (by omega)
  have key : ∀ s b, s < 16 → b < 10 → dd (sk_up N 7 ((T + d) % 16 * 10 + o) (N 7 ((T + d) % 16 * 10 + o) ||| nI (2 ^ c))) s b = if s = (T + d) % 16 ∧ b = o then dd N s b ||| 2 ^ c else dd N s b := by
    intro s b hs' hb'
    show (sk_up N 7 _ _ 7 (s * 10 + b)).toNatClampNeg = _
    rw [pu_sup]
    by_cases hh : s = (T + d) % 16 ∧ b = o
    · obtain ⟨rfl, rfl⟩ := hh
      rw [if_pos ⟨rfl, rfl⟩, if_pos ⟨rfl, rfl⟩, e1, pu_or (by omega) (by omega), nI_clamp (by have := pu_or_lt e2 (show c < 10 by omega); omega)]
    · rw [if_neg hh, if_neg (by omega)]
      rfl
  refine ⟨fun s b hs' hb' => ?_, fun a b ha' hb' => ?_⟩
  · rw [key s b hs' hb', pu_sup]
    by_cases hh : s = (T + d) % 16 ∧ b = o
    · obtain ⟨rfl, rfl⟩ := hh
      rw [if_pos ⟨rfl, rfl⟩, if_pos ⟨rfl, rfl⟩, e1, pu_or (by omega) (by omega)]
      exact ⟨rfl, pu_or_lt e2 (by omega)⟩
    · rw [if_neg hh, if_neg (by omega)]
      exact ha s b hs' hb'
  · obtain ⟨q, q1, q2, q3, q4, q5, q6⟩ := hb a b ha' hb'
    have hm : ∀ d', (T + d') % 16 < 16 := fun d' => Nat.mod_lt _ (by omega)
    by_cases hh : a = c ∧ b = o
    · obtain ⟨rfl, rfl⟩ := hh
      refine ⟨q ||| 2 ^ d, pu_or_lt q1 (by omega), ?_, ?_, fun _ => ⟨hc, ho⟩, q5, fun d' hd' => ?_⟩
      · rw [pu_upd, if_pos rfl, q2, pu_or (by omega) (by omega)]
      · rw [pu_or_bit, q3]; simp; omega
      · rw [key _ _ (hm d') hb']
        by_cases h0 : d' = 0
        · rw [if_neg (by omega), if_pos h0]
          have := q6 d' hd'
          rw [if_pos h0] at this
          exact this
        · rw [if_neg h0, pu_or_bit]
          have := q6 d' hd'
          rw [if_neg h0] at this
          by_cases he : d = d'
          · subst he
            rw [if_pos ⟨rfl, rfl⟩, pu_or_bit, this]
            simp
          · rw [if_neg (by omega), this]
            simp [he]
    · refine ⟨q, q1, ?_, q3, q4, q5, fun d' hd' => ?_⟩
      · rw [pu_upd, if_neg (by omega)]; exact q2
      · rw [← q6 d' hd', key _ _ (hm d') hb']
        by_cases h2 : (T + d') % 16 = (T + d) % 16 ∧ b = o
        · rw [if_pos h2, pu_or_bit]
          have : ¬ c = a := fun e => hh ⟨e.symm, h2.2⟩
          simp [this]
        · rw [if_neg h2]
theorem pu_pc_or {F c : Nat} (hF : F < 1024) (hc : c < 10) (h : F.testBit c = false) : pu_pc (F ||| 2 ^ c) = pu_pc F + 1 := by
  have : ∀ F : Fin 1024, ∀ c : Fin 10, F.val.testBit c.val = false → pu_pc (F.val ||| 2 ^ c.val) = pu_pc F.val + 1 := by decide +kernel
  exact this ⟨F, hF⟩ ⟨c, hc⟩ h
theorem pu_pc_le {F : Nat} : pu_pc F ≤ 10 := by
  unfold pu_pc
  exact Nat.le_trans (List.length_filter_le _ _) (by simp)
theorem pu_pc_lt {F c : Nat} (hF : F < 1024) (hc : c < 10) (h : F.testBit c = false) : pu_pc F < 10 := by
  have := pu_pc_or hF hc h
  have := pu_pc_le (F := F ||| 2 ^ c)
  omega
