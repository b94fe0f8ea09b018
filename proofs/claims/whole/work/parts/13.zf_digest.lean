/-! the digest -/
def hx (h : Int64) (p : Int32) : Int64 := (31 : Int64) * h + p.toInt64
theorem mx_c (h : Int64) (p : Int32) : m_X4_mix h p = some (hx h p) := by unfold m_X4_mix hx; rfl
theorem mx_m (M : sk_M) (h : Int64) (p : Int32) : m_X5_mix (md_upl M h) p = some (md_upl M (hx h p)) := by
  unfold m_X5_mix hx
  rw [pu_let]
  rfl
theorem ml_1 (M : sk_M) (h : Int64) : (md_upl M h).1 = M.1 := rfl
theorem ml_2 (M : sk_M) (h : Int64) : (md_upl M h).2 = h := rfl
def hfold (f : Nat → Int32) : Nat → Int64 → Int64
  | 0, h => h
  | n + 1, h => hx (hfold f n h) (f n)
def abv (N : sk_N) (c x : Nat) : Int32 := (m_X1_about N (nI c) (nI x)).getD 0
def dlv (N : sk_N) (c o : Nat) : Int32 := N 6 (10 * c + o)
def cfold (N : sk_N) (cnt : Nat) : Nat → Int64 → Int64
  | 0, h => h
  | n + 1, h => hfold (dlv N n) cnt (hfold (abv N n) 7 (cfold N cnt n h))
theorem abv_eq {cnt P T c x : Nat} {N : sk_N} {M : sk_M} (h : RX cnt P T T N (M.1 1)) (hc : c < cnt) (hx : x < 7) : m_X1_about N (nI c) (nI x) = some (abv N c x) ∧ m_X5_told M (nI c) (nI x) = some (abv N c x) := by
  obtain ⟨r, r1, r2⟩ := q_about h hc hx
  unfold abv
  rw [r1]
  exact ⟨rfl, r2⟩
theorem dc_27 {cnt P T c : Nat} {N : sk_N} {M : sk_M} (h : RX cnt P T T N (M.1 1)) (hc : c < cnt) (p1 g : Int64) (K : Int32 × Int64 × Int32 → Option Int64) : m_X4_mixClocks_27 N p1 K (nI cnt, g, nI c, 0) = m_X4_mixClocks_61 N p1 K (nI cnt, hfold (abv N c) 7 g, nI c, 0) := by
  unfold m_X4_mixClocks_27
  refine lp_F (step := m_X4_mixClocks_27_step N p1 K) (fun y => y = m_X4_mixClocks_61 N p1 K (nI cnt, hfold (abv N c) 7 g, nI c, 0)) (fun j s => s = (nI cnt, hfold (abv N c) j g, nI c, nI j)) 7 (by omega) _ rfl ?_
  rintro k j s hj rfl
  unfold m_X4_mixClocks_27_step
  dsimp only
  by_cases hjc : j = 7
  · subst hjc
    left
    rw [if_pos (show (6 : Int32) < nI 7 by decide)]
  · right
    have lt : ¬ (6 : Int32) < nI j := fun h => by have := (nI_ltI (a := 6) (by omega) (by omega)).mp h; omega
    refine ⟨by omega, (nI cnt, hfold (abv N c) (j + 1) g, nI c, nI (j + 1)), ?_, rfl⟩
    rw [if_neg lt, (abv_eq h hc (by omega)).1, pu_some, mx_c, pu_some, nI_1]
    rfl
theorem dc_61 {cnt P T c : Nat} {N : sk_N} {M : sk_M} (h : RX cnt P T T N (M.1 1)) (hc : c < cnt) (p1 g : Int64) (K : Int32 × Int64 × Int32 → Option Int64) : m_X4_mixClocks_61 N p1 K (nI cnt, g, nI c, 0) = K (nI cnt, hfold (dlv N c) cnt g, nI (c + 1)) := by
  have h10 := h.1.1.1
  unfold m_X4_mixClocks_61
  refine lp_F (step := m_X4_mixClocks_61_step N p1 K) (fun y => y = K (nI cnt, hfold (dlv N c) cnt g, nI (c + 1))) (fun j s => s = (nI cnt, hfold (dlv N c) j g, nI c, nI j)) cnt (by omega) _ rfl ?_
  rintro k j s hj rfl
  unfold m_X4_mixClocks_61_step
  dsimp only
  by_cases hjc : j = cnt
  · subst hjc
    left
    rw [if_pos ((nI_leI (by omega) (by omega)).mpr (Nat.le_refl _)), nI_1]
  · right
    refine ⟨by omega, (nI cnt, hfold (dlv N c) (j + 1) g, nI c, nI (j + 1)), ?_, rfl⟩
    rw [if_neg (nI_ge (by omega) (by omega)), v_delayBetween (by omega) (by omega), pu_some, mx_c, pu_some, nI_1]
    rfl
theorem dc_18 {cnt P T : Nat} {N : sk_N} {M : sk_M} (h : RX cnt P T T N (M.1 1)) (p1 g : Int64) : m_X4_mixClocks_18 N p1 (nI cnt, g, 0) = some (cfold N cnt cnt g) := by
  have h10 := h.1.1.1
  unfold m_X4_mixClocks_18
  refine lp_F (step := m_X4_mixClocks_18_step N p1) (fun y => y = some (cfold N cnt cnt g)) (fun j s => s = (nI cnt, cfold N cnt j g, nI j)) cnt (by omega) _ rfl ?_
  rintro k j s hj rfl
  unfold m_X4_mixClocks_18_step
  dsimp only
  by_cases hjc : j = cnt
  · subst hjc
    left
    rw [if_pos ((nI_leI (by omega) (by omega)).mpr (Nat.le_refl _))]
  · right
    refine ⟨by omega, (nI cnt, cfold N cnt (j + 1) g, nI (j + 1)), ?_, rfl⟩
    rw [if_neg (nI_ge (by omega) (by omega)), dc_27 h (by omega), dc_61 h (by omega)]
    rfl
theorem dm_86 {cnt P T c : Nat} {N : sk_N} {M : sk_M} (h : RX cnt P T T N (M.1 1)) (hc : c < cnt) (g : Int64) (K : sk_M × Int32 → Option (Int64 × sk_M)) : m_X5_digest_86 K (md_upl M g, nI c, 0) = m_X5_digest_110 K (md_upl M (hfold (abv N c) 7 g), nI c, 0) := by
  unfold m_X5_digest_86
  refine lp_F (step := m_X5_digest_86_step K) (fun y => y = m_X5_digest_110 K (md_upl M (hfold (abv N c) 7 g), nI c, 0)) (fun j s => s = (md_upl M (hfold (abv N c) j g), nI c, nI j)) 7 (by omega) _ rfl ?_
  rintro k j s hj rfl
  unfold m_X5_digest_86_step
  dsimp only
  by_cases hjc : j = 7
  · subst hjc
    left
    rw [if_pos (show (7 : Int32) ≤ nI 7 by decide)]
  · right
    refine ⟨by omega, (md_upl M (hfold (abv N c) (j + 1) g), nI c, nI (j + 1)), ?_, rfl⟩
    have ab := (abv_eq (M := md_upl M (hfold (abv N c) j g)) h hc (x := j) (by omega)).2
    rw [if_neg (show ¬ (7 : Int32) ≤ nI j from nI_ge (b := 7) (by omega) (by omega)), ab, pu_some, mx_m, pu_some, nI_1]
    rfl
theorem dm_110 {cnt P T c : Nat} {N : sk_N} {M : sk_M} (h : RX cnt P T T N (M.1 1)) (hc : c < cnt) (g : Int64) (K : sk_M × Int32 → Option (Int64 × sk_M)) : m_X5_digest_110 K (md_upl M g, nI c, 0) = K (md_upl M (hfold (dlv N c) cnt g), nI (c + 1)) := by
  obtain ⟨h10, -, -, -, e5, -⟩ := h.1.ex
  unfold m_X5_digest_110
  refine lp_F (step := m_X5_digest_110_step K) (fun y => y = K (md_upl M (hfold (dlv N c) cnt g), nI (c + 1))) (fun j s => s = (md_upl M (hfold (dlv N c) j g), nI c, nI j)) cnt (by omega) _ rfl ?_
  rintro k j s hj rfl
  have e5' : (md_upl M (hfold (dlv N c) j g)).1 1 5 = nI cnt := e5
  unfold m_X5_digest_110_step
  dsimp only
  rw [if_pos in_5, cl_5, e5']
  by_cases hjc : j = cnt
  · subst hjc
    left
    rw [if_pos ((nI_leI (by omega) (by omega)).mpr (Nat.le_refl _)), nI_1]
  · right
    refine ⟨by omega, (md_upl M (hfold (dlv N c) (j + 1) g), nI c, nI (j + 1)), ?_, rfl⟩
    have g1 := (h.1.2.2.2.2.2 c j (by omega) (by omega)).1
    have dl : m_X5_delay (md_upl M (hfold (dlv N c) j g)) (nI c) (nI j) = some (dlv N c j) := by
      rw [v_delay (by omega) (by omega)]
      exact congrArg some g1.symm
    rw [if_neg (nI_ge (by omega) (by omega)), dl, pu_some, mx_m, pu_some, nI_1]
    rfl
def dg_rest (B : sk_M) : Option (Int64 × sk_M) := (m_X5_mix B (B.1 1 6)).bind (fun r150 => (m_X5_pulses r150).bind (fun r155 => (m_X5_mix r150 r155).bind (fun r158 => (m_X5_groupMany r158).bind (fun r163 => (m_X5_mix r158 r163).bind (fun r166 => (m_X5_digest_171 (r166, (0 : Int32))))))))
theorem dm_74 {cnt P T : Nat} {N : sk_N} {M : sk_M} (h : RX cnt P T T N (M.1 1)) (g : Int64) : m_X5_digest_74 (md_upl M g, 0) = dg_rest (md_upl M (cfold N cnt cnt g)) := by
  obtain ⟨h10, -, -, -, e5, -⟩ := h.1.ex
  unfold m_X5_digest_74
  refine lp_F (step := m_X5_digest_74_step) (fun y => y = dg_rest (md_upl M (cfold N cnt cnt g))) (fun j s => s = (md_upl M (cfold N cnt j g), nI j)) cnt (by omega) _ rfl ?_
  rintro k j s hj rfl
  have e5' : (md_upl M (cfold N cnt j g)).1 1 5 = nI cnt := e5
  unfold m_X5_digest_74_step
  dsimp only
  rw [if_pos in_5, cl_5, e5']
  by_cases hjc : j = cnt
  · subst hjc
    left
    rw [if_pos ((nI_leI (by omega) (by omega)).mpr (Nat.le_refl _)), if_pos (show sk_in (6 : Int32) 378 = true by decide)]
    rfl
  · right
    refine ⟨by omega, (md_upl M (cfold N cnt (j + 1) g), nI (j + 1)), ?_, rfl⟩
    rw [if_neg (nI_ge (by omega) (by omega)), dm_86 h (by omega), dm_110 h (by omega)]
    rfl
/-! its groups -/
def gfold (N : sk_N) (cnt : Nat) : Nat → Int64 → Int64
  | 0, h => h
  | n + 1, h => if hg N cnt n = true then hx (hx (gfold N cnt n h) (nI n)) (nI (bset (gp N n) cnt)) else gfold N cnt n h
theorem gf_same {N : sk_N} {cnt p : Nat} {h : Int64} : ∀ d, ct (hg N cnt) (p + d) = ct (hg N cnt) p → gfold N cnt (p + d) h = gfold N cnt p h
  | 0, _ => rfl
  | d + 1, e => by
    have e' : ct (hg N cnt) (p + d) + (if hg N cnt (p + d) = true then 1 else 0) = ct (hg N cnt) p := e
    have mono : ct (hg N cnt) p ≤ ct (hg N cnt) (p + d) := by
      clear e e'
      induction d with
      | zero => exact Nat.le_refl _
      | succ d ih => exact Nat.le_trans ih (Nat.le_add_right _ _)
    have hf : ¬ hg N cnt (p + d) = true := fun hf => by rw [if_pos hf] at e'; omega
    rw [if_neg hf] at e'
    have ih := gf_same (h := h) d (by omega)
    show gfold N cnt (p + d + 1) h = _
    rw [gfold, if_neg hf]
    exact ih
theorem gf_eq {N : sk_N} {cnt p q : Nat} {h : Int64} (e : ct (hg N cnt) p = ct (hg N cnt) q) : gfold N cnt p h = gfold N cnt q h := by
  rcases Nat.le_total p q with l | l
  · have := gf_same (N := N) (cnt := cnt) (p := p) (h := h) (q - p) (by rw [show p + (q - p) = q by omega]; exact e.symm)
    rw [show p + (q - p) = q by omega] at this
    exact this.symm
  · have := gf_same (N := N) (cnt := cnt) (p := q) (h := h) (p - q) (by rw [show q + (p - q) = p by omega]; exact e)
    rw [show q + (p - q) = p by omega] at this
    exact this
theorem bs_ltx {f : Nat → Bool} : ∀ n, bset f n < 2 ^ n
  | 0 => Nat.lt_add_one 0
  | n + 1 => by
    have ih := bs_ltx (f := f) n
    have e : 2 ^ n < 2 ^ (n + 1) := Nat.pow_lt_pow_right (by omega) (by omega)
    unfold bset
    split
    · exact Nat.or_lt_two_pow (by omega) e
    · rw [Nat.or_zero]; omega
theorem dc_17 {cnt P T : Nat} {N : sk_N} {M : sk_M} (h : RX cnt P T T N (M.1 1)) (p1 g : Int64) : m_X4_mixGroups_17 N p1 (g, 0) = some (gfold N cnt P g) := by
  obtain ⟨h10, hP1, hP2, e0, e5, eP, eP'⟩ := h.1.ex
  unfold m_X4_mixGroups_17
  refine lp_F (step := m_X4_mixGroups_17_step N p1) (fun y => y = some (gfold N cnt P g)) (fun j s => s = (gfold N cnt j g, nI j)) P (by omega) _ rfl ?_
  rintro k j s hj rfl
  unfold m_X4_mixGroups_17_step
  dsimp only
  rw [eP]
  by_cases hjc : j = P
  · subst hjc
    left
    rw [if_pos ((nI_leI (by omega) (by omega)).mpr (Nat.le_refl _))]
  · right
    refine ⟨by omega, (gfold N cnt (j + 1) g, nI (j + 1)), ?_, rfl⟩
    have hb : bset (gp N j) cnt < 2 ^ 31 := Nat.lt_of_lt_of_le (bs_ltx cnt) (Nat.pow_le_pow_right (by omega) (by omega))
    rw [if_neg (nI_ge (by omega) (by omega)), (q_at h.qr (by omega)).1, pu_some, gfold]
    by_cases hz : bset (gp N j) cnt = 0
    · rw [if_pos (show nI (bset (gp N j) cnt) = 0 by rw [hz]; rfl), nI_1, if_neg (show ¬ hg N cnt j = true by unfold hg; simp [hz])]
    · rw [if_neg (nI_ne0 (by omega) hb), mx_c, pu_some, mx_c, pu_some, nI_1, if_pos (show hg N cnt j = true by unfold hg; simp [hz])]
/-! its notes -/
theorem d_notes {cnt P T : Nat} {nl : List (Nat × Nat)} {N L : sk_N} {M : sk_M} (l : LG nl L) (n : NT nl (M.1 1)) (p1 g : Int64) : ∃ g', m_X4_mixNotes_5 N L p1 (g, 0) = some g' ∧ m_X5_digest_225 (md_upl M g, nI nl.length - 1) = some (hx (hx g' (M.1 0 6)) (M.1 0 3), md_upl M (hx (hx g' (M.1 0 6)) (M.1 0 3))) := by
  obtain ⟨l1, l2, nx, l3, l4, l5⟩ := l
  obtain ⟨n1, n2, n3⟩ := n
  unfold m_X4_mixNotes_5 m_X5_digest_225
  refine lp_LF (step := m_X4_mixNotes_5_step N L p1) (step' := m_X5_digest_225_step) (fun y y' => ∃ g', y = some g' ∧ y' = some (hx (hx g' (M.1 0 6)) (M.1 0 3), md_upl M (hx (hx g' (M.1 0 6)) (M.1 0 3)))) (fun j s s' => s.2 = nI j ∧ s' = (md_upl M s.1, nI (nl.length - j) - 1)) nl.length (by omega) _ _ ⟨rfl, rfl⟩ ?_
  rintro k k' j ⟨g, z⟩ s' hj ⟨rfl, rfl⟩
  unfold m_X4_mixNotes_5_step m_X5_digest_225_step
  dsimp only
  rw [l2]
  by_cases hjc : j = nl.length
  · left
    have ez : nI (nl.length - j) - 1 < 0 := by rw [show nl.length - j = 0 by omega]; decide
    rw [if_pos ((nI_leI (by omega) (by omega)).mpr (by omega)), if_pos ez, mx_m, pu_some, mx_m, pu_some]
    exact ⟨g, rfl, rfl⟩
  · right
    have hlt : nl.length - 1 - j < nl.length := by omega
    obtain ⟨q, hq⟩ : ∃ q, nl[nl.length - 1 - j]? = some q := ⟨_, List.getElem?_eq_getElem hlt⟩
    obtain ⟨g1, g2⟩ := l5 j q (by omega) hq
    obtain ⟨m1, m2⟩ := n3 _ q hq
    have hm : (nx + 59 - j) % 60 < 60 := Nat.mod_lt _ (by omega)
    have ex : nI (nl.length - j) - 1 = nI (nl.length - 1 - j) := by rw [show (1 : Int32) = nI 1 from rfl, pk_sub (by omega)]; exact congrArg nI (by omega)
    have e : (258 : Int32) + (2 : Int32) * nI (nl.length - 1 - j) = nI (258 + 2 * (nl.length - 1 - j)) := by
      rw [show (2 : Int32) = nI 2 from rfl, pk_mul, show (258 : Int32) = nI 258 from rfl, nI_add]
    have m1' : (md_upl M g).1 1 (258 + 2 * (nl.length - 1 - j)) = nI q.1 := m1
    have m2' : (md_upl M (hx g (nI q.1))).1 1 (258 + 2 * (nl.length - 1 - j) + 1) = nI q.2 := m2
    have en : nI (nl.length - 1 - j) + -1 = nI (nl.length - (j + 1)) - 1 := by
      rw [show nl.length - 1 - j = nl.length - (j + 1) by omega, Int32.sub_eq_add_neg]
    refine ⟨by omega, (hx (hx g (nI q.1)) (nI q.2), nI (j + 1)), (md_upl M (hx (hx g (nI q.1)) (nI q.2)), nI (nl.length - (j + 1)) - 1), ?_, ?_, rfl, rfl⟩
    · rw [if_neg (nI_ge (by omega) (by omega)), v_place l3 l1 (by omega) l2 l4, pu_some, if_neg (nm_ne (by omega)), if_pos (pu_inT hm (by omega)), nI_clamp (by omega), g1, mx_c, pu_some, if_pos (pu_inT hm (by omega)), g2, mx_c, pu_some, nI_1]
    · rw [ex, if_neg (nI_pos (by omega)), e, if_pos (pu_inT (by omega) (by omega)), nI_clamp (by omega), m1', mx_m, pu_some, nI_1, if_pos (pu_inT (by omega) (by omega)), nI_clamp (by omega), m2', mx_m, pu_some, en]
theorem dm_171 {cnt P T : Nat} {N : sk_N} {M : sk_M} (h : RX cnt P T T N (M.1 1)) (g : Int64) {sp : Int32} (hs : m_X5_spreadOf M = some sp) {nl : List (Nat × Nat)} (n : NT nl (M.1 1)) : m_X5_digest_171 (md_upl M g, 0) = m_X5_digest_225 (md_upl M (hx (gfold N cnt P g) sp), nI nl.length - 1) := by
  obtain ⟨h10, hP1, hP2, e0, e5, eP, eP'⟩ := h.1.ex
  have hct : ct (hg N cnt) P = ct (fg N) cnt := h.qr.ct
  have hcl : ct (fg N) cnt ≤ cnt := ct_le cnt
  unfold m_X5_digest_171
  refine lp_F (step := m_X5_digest_171_step) (fun y => y = m_X5_digest_225 (md_upl M (hx (gfold N cnt P g) sp), nI nl.length - 1)) (fun j s => ∃ p, ct (hg N cnt) p = j ∧ s = (md_upl M (gfold N cnt p g), nI j)) (ct (fg N) cnt) (by omega) _ ⟨0, rfl, rfl⟩ ?_
  rintro k j s hj ⟨p, hp, rfl⟩
  have hQ : ∀ x, QR cnt P N ((md_upl M x).1 1) := fun x => h.qr
  unfold m_X5_digest_171_step
  dsimp only
  rw [q_many (hQ _), pu_some]
  by_cases hjc : j = ct (fg N) cnt
  · left
    have hs' : m_X5_spreadOf (md_upl M (gfold N cnt p g)) = some sp := by
      obtain ⟨r, -, r2⟩ := q_spread (hQ (gfold N cnt p g))
      obtain ⟨r', r1', r2'⟩ := q_spread (M := M) h.qr
      obtain ⟨r'', r1'', r2''⟩ := q_spread (hQ (gfold N cnt p g))
      rw [r2''] 
      rw [r1'] at r1''
      rw [r2'] at hs
      rw [← Option.some.inj r1'', Option.some.inj hs]
    have n2 : (md_upl M (hx (gfold N cnt p g) sp)).1 1 7 = nI nl.length := n.2.1
    rw [if_pos ((nI_leI (by omega) (by omega)).mpr (by omega)), hs', pu_some, mx_m, pu_some, if_pos (show sk_in (7 : Int32) 378 = true by decide), show ((7 : Int32)).toNatClampNeg = 7 from rfl, n2, pu_let, gf_eq (show ct (hg N cnt) p = ct (hg N cnt) P by omega)]
  · right
    obtain ⟨p', q1, q2, q3, -⟩ := q_phaseM (M := M) (i := j) h.qr (by omega)
    have ph : ∀ x, m_X5_phaseOf (md_upl M x) (nI j) = some (nI p') := fun x => by
      obtain ⟨p'', t1, t2, t3, t4⟩ := q_phaseM (M := md_upl M x) (i := j) h.qr (by omega)
      rw [t4, ct_uniq t2 q2 (by omega)]
    have at' : ∀ x, m_X5_at (md_upl M x) (nI p') = some (nI (bset (gp N p') cnt)) := fun x => (q_at (M := md_upl M x) h.qr (by omega)).2
    refine ⟨by omega, (md_upl M (gfold N cnt (p' + 1) g), nI (j + 1)), ?_, p' + 1, ?_, rfl⟩
    · rw [if_neg (nI_ge (by omega) (by omega)), ph, pu_some, mx_m, pu_some, ph, pu_some, at', pu_some, mx_m, pu_some, nI_1, gfold, if_pos q2, gf_eq (show ct (hg N cnt) p = ct (hg N cnt) p' by omega)]
    · show ct (hg N cnt) p' + (if hg N cnt p' = true then 1 else 0) = j + 1
      rw [if_pos q2, ← q3]
theorem g_digest {b len : Nat} {S1 S2 S7 S8 S9 S10 S11 S12 S13 S14 S15 S16 : sk_N} {M : sk_M} (hR : RW b S1 S2 (M.1 1)) (hS : SV b S7 S8 S9 S10 S11 S12 S13 S14 S15 M) (hT : TXT len S16 M) : ∃ r M', m_X4_digest S1 S2 S7 S16 = some r ∧ m_X5_digest M = some (r, M') ∧ M'.1 = (md_up M 0 4 0).1 := by
  obtain ⟨cnt, P, T, nl, a1, a2, ⟨F, f1, f2, f3⟩, a4, a5⟩ := hR
  obtain ⟨h10, hP1, hP2, e0, e5, eP, eP'⟩ := a2.1.ex
  obtain ⟨-, -, k3, k4⟩ := a2.2.1
  obtain ⟨rr, rk, rd, r1, r2, r3, u0, w1, u1, w2, u2, w3⟩ := a2.1.2.2.2.1
  obtain ⟨nx, cn, -, -, -, s2, s3, -⟩ := hS
  obtain ⟨-, t2, t3, -⟩ := hT
  have b2 : RX cnt P T T S1 ((md_up M 0 4 0).1 1) := a2.u4
  have b5 : NT nl ((md_up M 0 4 0).1 1) := by rw [up_row]; exact a5
  obtain ⟨sp, sp1, sp2⟩ := q_spread (M := md_up M 0 4 0) b2.qr
  obtain ⟨pl, pl1, pl2⟩ := q_under (M := md_up M 0 4 0) b2.1 b2.2.2.2.1
  have gc : m_X1_groupCount S1 10 = some (nI (ct (fg S1) cnt)) := q_count10 a2.qr
  have row : ∀ (x : Int64) k, (md_upl (md_up M 0 4 0) x).1 1 k = M.1 1 k := fun x k => by rw [ml_1, up_row]
  have pl2' : ∀ x, m_X5_pulses (md_upl (md_up M 0 4 0) x) = some pl := fun x => by
    obtain ⟨r, y1, y2⟩ := q_under (M := md_upl (md_up M 0 4 0) x) b2.1 b2.2.2.2.1
    rw [y2, ← y1, pl1]
  have gm : ∀ x, m_X5_groupMany (md_upl (md_up M 0 4 0) x) = some (nI (ct (fg S1) cnt)) := fun x => q_many (M := md_upl (md_up M 0 4 0) x) b2.qr
  obtain ⟨g', n1, n2⟩ := d_notes (cnt := cnt) (P := P) (T := T) (N := S1) (M := md_up M 0 4 0) a4 b5 (hx (gfold S1 cnt P (hx (hx (hx (cfold S1 cnt cnt (hx (hx (hx (hx (hx (hx 1858 (nI P)) (nI rr)) (nI rk)) (nI rd)) (nI T)) (nI cnt))) (nI F)) pl) (nI (ct (fg S1) cnt)))) sp) (hx (gfold S1 cnt P (hx (hx (hx (cfold S1 cnt cnt (hx (hx (hx (hx (hx (hx 1858 (nI P)) (nI rr)) (nI rk)) (nI rd)) (nI T)) (nI cnt))) (nI F)) pl) (nI (ct (fg S1) cnt)))) sp)
  have m6 : (md_up M 0 4 0).1 0 6 = nI len := by rw [pu_m, if_neg (by omega)]; exact t3
  have m3 : (md_up M 0 4 0).1 0 3 = nI cn := by rw [pu_m, if_neg (by omega)]; exact s3
  rw [m6, m3] at n2
  refine ⟨hx (hx g' (nI len)) (nI cn), md_upl (md_up M 0 4 0) (hx (hx g' (nI len)) (nI cn)), ?_, ?_, rfl⟩
  · unfold m_X4_digest m_X4_mixClocks m_X4_mixGroups m_X4_mixNotes
    rw [pu_let, mx_c, pu_some, if_pos (by decide), show ((0 : Int32)).toNatClampNeg = 0 from rfl, mx_c, pu_some, if_pos (by decide), show ((1 : Int32)).toNatClampNeg = 1 from rfl, mx_c, pu_some, if_pos (by decide), show ((2 : Int32)).toNatClampNeg = 2 from rfl, mx_c, pu_some, mx_c, pu_some, pu_let, mx_c, pu_some, eP, u0, u1, u2, k3, e0, dc_18 a2, pu_some, mx_c, pu_some, f2, pl1, pu_some, mx_c, pu_some, gc, pu_some, mx_c, pu_some, dc_17 a2, pu_some, sp1, pu_some, mx_c, pu_some, n1, pu_some, mx_c, pu_some, mx_c, pu_some, t2, s2]
  · unfold m_X5_digest
    rw [pu_let, pu_let, if_pos (by decide), show ((0 : Int32)).toNatClampNeg = 0 from rfl, row, mx_m, pu_some, if_pos (by decide), show ((1 : Int32)).toNatClampNeg = 1 from rfl, row, mx_m, pu_some, if_pos (by decide), show ((2 : Int32)).toNatClampNeg = 2 from rfl, row, mx_m, pu_some, if_pos (by decide), show ((3 : Int32)).toNatClampNeg = 3 from rfl, row, mx_m, pu_some, if_pos (by decide), show ((4 : Int32)).toNatClampNeg = 4 from rfl, row, mx_m, pu_some, if_pos (by decide), show ((5 : Int32)).toNatClampNeg = 5 from rfl, row, mx_m, pu_some, eP', w1, w2, w3, k4, e5, dm_74 b2]
    unfold dg_rest
    rw [row, f3, mx_m, pu_some, pl2', pu_some, mx_m, pu_some, gm, pu_some, mx_m, pu_some, dm_171 b2 _ sp2 b5, n2]
