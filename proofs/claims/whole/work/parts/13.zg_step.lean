/-! the law's steps -/
theorem lg_self {O : sk_O} {x : Int64} : lg_cmp (vp_updL O ((0 : Int32)).toNatClampNeg x ((0 : Int32)).toNatClampNeg) x = 0 := by
  rw [pk_uLs]
  unfold lg_cmp
  rw [if_neg (Int64.lt_irrefl), if_pos rfl]
theorem lg_same {x : Int64} : lg_cmp x x = 0 := by
  unfold lg_cmp
  rw [if_neg (Int64.lt_irrefl), if_pos rfl]
theorem in_01 : sk_in (0 : Int32) 1 = true := by decide
def REL (b : Nat) (S1 S2 S4 S6 S7 S8 S9 S10 S11 S12 S13 S14 S15 S16 : sk_N) (M : sk_M) : Prop := RW b S1 S2 (M.1 1) ∧ SV b S7 S8 S9 S10 S11 S12 S13 S14 S15 M ∧ LX S4 ∧ LX S6 ∧ M.1 0 10 = 0 ∧ ∃ len, TXT len S16 M
def GO (b i : Nat) (k : lw_σ → Option Int32) (y : Option Int32) : Prop := ∃ (S1 S2 S3 S4 S5 S6 S7 S8 S9 S10 S11 S12 S13 S14 S15 S16 : sk_N) (S17 : sk_M) (S18 : sk_O), y = k (S1, S2, S3, S4, S5, S6, S7, S8, S9, S10, S11, S12, S13, S14, S15, S16, S17, S18, nI i) ∧ REL b S1 S2 S4 S6 S7 S8 S9 S10 S11 S12 S13 S14 S15 S16 S17
theorem u4_v {M : sk_M} {v : Int32} : (md_up M 0 4 v).1 0 4 = v := by rw [pu_m, if_pos ⟨rfl, rfl⟩]
theorem REL.u4 {b b' : Nat} {S1 S2 S4 S6 S7 S8 S9 S10 S11 S12 S13 S14 S15 S16 : sk_N} {M : sk_M} {v : Int32} (h : REL b S1 S2 S4 S6 S7 S8 S9 S10 S11 S12 S13 S14 S15 S16 M) (hb : b ≤ b') : REL b' S1 S2 S4 S6 S7 S8 S9 S10 S11 S12 S13 S14 S15 S16 (md_up M 0 4 v) := by
  obtain ⟨hR, hS, h4, h6, h0, len, hT⟩ := h
  exact ⟨hR.up.mono hb, hS.up.mono hb, h4, h6, up_10 h0, len, hT.kp KP.u4⟩
theorem REL.fb {b b' : Nat} {S1 S2 S4 S6 S4' S6' S7 S8 S9 S10 S11 S12 S13 S14 S15 S16 : sk_N} {M M' : sk_M} (h : REL b S1 S2 S4 S6 S7 S8 S9 S10 S11 S12 S13 S14 S15 S16 M) (hb : b ≤ b') (g : FB (md_up M 0 4 0) M') (h4' : LX S4') (h6' : LX S6') : REL b' S1 S2 S4' S6' S7 S8 S9 S10 S11 S12 S13 S14 S15 S16 M' := by
  obtain ⟨hR, hS, h4, h6, h0, len, hT⟩ := h
  refine ⟨(RW.fb hR.up g).mono hb, (hS.up.keep g.2.1 (g.2.2.2.1 3 (by omega) (by omega))).mono hb, h4', h6', g.2.2.2.2, len, ?_⟩
  exact (hT.kp KP.u4).kp ⟨g.2.2.2.2.trans (up_10 h0).symm, g.2.2.1, g.2.2.2.1 6 (by omega) (by omega)⟩
theorem w_add {b : Nat} {S1 S2 S7 S8 S9 S10 S11 S12 S13 S14 S15 : sk_N} {M : sk_M} (hR : RW b S1 S2 (M.1 1)) (hS : SV b S7 S8 S9 S10 S11 S12 S13 S14 S15 M) (O : sk_O) (x : Int32) : ∃ code r S1' S7' S8' S9' S10' S11' S12' S13' S14' S15' O' M', m_L_add S1 S2 S7 S8 S9 S10 S11 S12 S13 S14 S15 O x = some (code, S1', S7', S8', S9', S10', S11', S12', S13', S14', S15', O') ∧ m_X5_add M x = some (r, M') ∧ M'.1 0 4 = code ∧ (code = 0 → lg_cmp (O' ((0 : Int32)).toNatClampNeg) r.toInt64 = 0) ∧ RW b S1' S2 (M'.1 1) ∧ SV b S7' S8' S9' S10' S11' S12' S13' S14' S15' M' ∧ KP M M' := by
  unfold m_L_add
  rcases g_add hR hS x with ⟨e, v, h1, h2, h3⟩ | ⟨r, S1', S7', S8', S9', S10', S11', S12', S13', S14', S15', M', h1, h2, h3, h4, h5, h6⟩
  · rw [h1, pu_he, h2]
    rcases h3 with ⟨rfl, rfl⟩ | ⟨rfl, rfl⟩
    · rw [if_pos rfl]
      exact ⟨1, 0, S1, S7, S8, S9, S10, S11, S12, S13, S14, S15, O, _, rfl, rfl, u4_v, fun h => absurd h ne_10, hR.up, hS.up, KP.u4⟩
    · rw [if_neg (by decide), if_pos rfl]
      exact ⟨2, 0, S1, S7, S8, S9, S10, S11, S12, S13, S14, S15, O, _, rfl, rfl, u4_v, fun h => absurd h ne_20, hR.up, hS.up, KP.u4⟩
  · rw [h1, pu_hb, if_pos in_01, pu_let, h2]
    exact ⟨0, r, S1', S7', S8', S9', S10', S11', S12', S13', S14', S15', _, M', rfl, rfl, h6, fun _ => lg_self, h3, h4, h5⟩
theorem w_setPhase {b : Nat} {S1 S2 S7 S8 S9 S10 S11 S12 S13 S14 S15 : sk_N} {M : sk_M} (hR : RW b S1 S2 (M.1 1)) (hS : SV b S7 S8 S9 S10 S11 S12 S13 S14 S15 M) (O : sk_O) (x y : Int32) : ∃ code r S1' S7' S8' S9' S10' S11' S12' S13' S14' S15' O' M', m_L_setPhase S1 S2 S7 S8 S9 S10 S11 S12 S13 S14 S15 O x y = some (code, S1', S7', S8', S9', S10', S11', S12', S13', S14', S15', O') ∧ m_X5_setPhase M x y = some (r, M') ∧ M'.1 0 4 = code ∧ (code = 0 → lg_cmp (O' ((0 : Int32)).toNatClampNeg) r.toInt64 = 0) ∧ RW b S1' S2 (M'.1 1) ∧ SV b S7' S8' S9' S10' S11' S12' S13' S14' S15' M' ∧ KP M M' := by
  unfold m_L_setPhase
  rcases g_setPhase hR hS x y with ⟨e, v, h1, h2, h3⟩ | ⟨r, S1', S7', S8', S9', S10', S11', S12', S13', S14', S15', M', h1, h2, h3, h4, h5, h6⟩
  · rw [h1, pu_he, h2]
    rcases h3 with ⟨rfl, rfl⟩ | ⟨rfl, rfl⟩
    · rw [if_pos rfl]
      exact ⟨1, 0, S1, S7, S8, S9, S10, S11, S12, S13, S14, S15, O, _, rfl, rfl, u4_v, fun h => absurd h ne_10, hR.up, hS.up, KP.u4⟩
    · rw [if_neg (by decide), if_pos rfl]
      exact ⟨2, 0, S1, S7, S8, S9, S10, S11, S12, S13, S14, S15, O, _, rfl, rfl, u4_v, fun h => absurd h ne_20, hR.up, hS.up, KP.u4⟩
  · rw [h1, pu_hb, if_pos in_01, pu_let, h2]
    exact ⟨0, r, S1', S7', S8', S9', S10', S11', S12', S13', S14', S15', _, M', rfl, rfl, h6, fun _ => lg_self, h3, h4, h5⟩
theorem w_setDrift {b : Nat} {S1 S2 S7 S8 S9 S10 S11 S12 S13 S14 S15 : sk_N} {M : sk_M} (hR : RW b S1 S2 (M.1 1)) (hS : SV b S7 S8 S9 S10 S11 S12 S13 S14 S15 M) (O : sk_O) (x y : Int32) : ∃ code r S1' S7' S8' S9' S10' S11' S12' S13' S14' S15' O' M', m_L_setDrift S1 S2 S7 S8 S9 S10 S11 S12 S13 S14 S15 O x y = some (code, S1', S7', S8', S9', S10', S11', S12', S13', S14', S15', O') ∧ m_X5_setDrift M x y = some (r, M') ∧ M'.1 0 4 = code ∧ (code = 0 → lg_cmp (O' ((0 : Int32)).toNatClampNeg) r.toInt64 = 0) ∧ RW b S1' S2 (M'.1 1) ∧ SV b S7' S8' S9' S10' S11' S12' S13' S14' S15' M' ∧ KP M M' := by
  unfold m_L_setDrift
  rcases g_setDrift hR hS x y with ⟨e, v, h1, h2, h3⟩ | ⟨r, S1', S7', S8', S9', S10', S11', S12', S13', S14', S15', M', h1, h2, h3, h4, h5, h6⟩
  · rw [h1, pu_he, h2]
    rcases h3 with ⟨rfl, rfl⟩ | ⟨rfl, rfl⟩
    · rw [if_pos rfl]
      exact ⟨1, 0, S1, S7, S8, S9, S10, S11, S12, S13, S14, S15, O, _, rfl, rfl, u4_v, fun h => absurd h ne_10, hR.up, hS.up, KP.u4⟩
    · rw [if_neg (by decide), if_pos rfl]
      exact ⟨2, 0, S1, S7, S8, S9, S10, S11, S12, S13, S14, S15, O, _, rfl, rfl, u4_v, fun h => absurd h ne_20, hR.up, hS.up, KP.u4⟩
  · rw [h1, pu_hb, if_pos in_01, pu_let, h2]
    exact ⟨0, r, S1', S7', S8', S9', S10', S11', S12', S13', S14', S15', _, M', rfl, rfl, h6, fun _ => lg_self, h3, h4, h5⟩
theorem w_blink {b : Nat} {S1 S2 S7 S8 S9 S10 S11 S12 S13 S14 S15 : sk_N} {M : sk_M} (hR : RW b S1 S2 (M.1 1)) (hS : SV b S7 S8 S9 S10 S11 S12 S13 S14 S15 M) (O : sk_O) (x y z : Int32) : ∃ code r S1' S7' S8' S9' S10' S11' S12' S13' S14' S15' O' M', m_L_blink S1 S2 S7 S8 S9 S10 S11 S12 S13 S14 S15 O x y z = some (code, S1', S7', S8', S9', S10', S11', S12', S13', S14', S15', O') ∧ m_X5_blink M x y z = some (r, M') ∧ M'.1 0 4 = code ∧ (code = 0 → lg_cmp (O' ((0 : Int32)).toNatClampNeg) r.toInt64 = 0) ∧ RW b S1' S2 (M'.1 1) ∧ SV b S7' S8' S9' S10' S11' S12' S13' S14' S15' M' ∧ KP M M' := by
  unfold m_L_blink
  rcases g_blink hR hS x y z with ⟨e, v, h1, h2, h3⟩ | ⟨r, S1', S7', S8', S9', S10', S11', S12', S13', S14', S15', M', h1, h2, h3, h4, h5, h6⟩
  · rw [h1, pu_he, h2]
    rcases h3 with ⟨rfl, rfl⟩ | ⟨rfl, rfl⟩
    · rw [if_pos rfl]
      exact ⟨1, 0, S1, S7, S8, S9, S10, S11, S12, S13, S14, S15, O, _, rfl, rfl, u4_v, fun h => absurd h ne_10, hR.up, hS.up, KP.u4⟩
    · rw [if_neg (by decide), if_pos rfl]
      exact ⟨2, 0, S1, S7, S8, S9, S10, S11, S12, S13, S14, S15, O, _, rfl, rfl, u4_v, fun h => absurd h ne_20, hR.up, hS.up, KP.u4⟩
  · rw [h1, pu_hb, if_pos in_01, pu_let, h2]
    exact ⟨0, r, S1', S7', S8', S9', S10', S11', S12', S13', S14', S15', _, M', rfl, rfl, h6, fun _ => lg_self, h3, h4, h5⟩
theorem w_mend {b : Nat} {S1 S2 S7 S8 S9 S10 S11 S12 S13 S14 S15 : sk_N} {M : sk_M} (hR : RW b S1 S2 (M.1 1)) (hS : SV b S7 S8 S9 S10 S11 S12 S13 S14 S15 M) (O : sk_O) (x : Int32) : ∃ code r S1' S7' S8' S9' S10' S11' S12' S13' S14' S15' O' M', m_L_mend S1 S2 S7 S8 S9 S10 S11 S12 S13 S14 S15 O x = some (code, S1', S7', S8', S9', S10', S11', S12', S13', S14', S15', O') ∧ m_X5_mend M x = some (r, M') ∧ M'.1 0 4 = code ∧ (code = 0 → lg_cmp (O' ((0 : Int32)).toNatClampNeg) r.toInt64 = 0) ∧ RW b S1' S2 (M'.1 1) ∧ SV b S7' S8' S9' S10' S11' S12' S13' S14' S15' M' ∧ KP M M' := by
  unfold m_L_mend
  rcases g_mend hR hS x with ⟨e, v, h1, h2, h3⟩ | ⟨r, S1', S7', S8', S9', S10', S11', S12', S13', S14', S15', M', h1, h2, h3, h4, h5, h6⟩
  · rw [h1, pu_he, h2]
    rcases h3 with ⟨rfl, rfl⟩ | ⟨rfl, rfl⟩
    · rw [if_pos rfl]
      exact ⟨1, 0, S1, S7, S8, S9, S10, S11, S12, S13, S14, S15, O, _, rfl, rfl, u4_v, fun h => absurd h ne_10, hR.up, hS.up, KP.u4⟩
    · rw [if_neg (by decide), if_pos rfl]
      exact ⟨2, 0, S1, S7, S8, S9, S10, S11, S12, S13, S14, S15, O, _, rfl, rfl, u4_v, fun h => absurd h ne_20, hR.up, hS.up, KP.u4⟩
  · rw [h1, pu_hb, if_pos in_01, pu_let, h2]
    exact ⟨0, r, S1', S7', S8', S9', S10', S11', S12', S13', S14', S15', _, M', rfl, rfl, h6, fun _ => lg_self, h3, h4, h5⟩
theorem w_link {b : Nat} {S1 S2 S7 S8 S9 S10 S11 S12 S13 S14 S15 : sk_N} {M : sk_M} (hR : RW b S1 S2 (M.1 1)) (hS : SV b S7 S8 S9 S10 S11 S12 S13 S14 S15 M) (O : sk_O) (x y z : Int32) : ∃ code r S1' S7' S8' S9' S10' S11' S12' S13' S14' S15' O' M', m_L_link S1 S2 S7 S8 S9 S10 S11 S12 S13 S14 S15 O x y z = some (code, S1', S7', S8', S9', S10', S11', S12', S13', S14', S15', O') ∧ m_X5_link M x y z = some (r, M') ∧ M'.1 0 4 = code ∧ (code = 0 → lg_cmp (O' ((0 : Int32)).toNatClampNeg) r.toInt64 = 0) ∧ RW b S1' S2 (M'.1 1) ∧ SV b S7' S8' S9' S10' S11' S12' S13' S14' S15' M' ∧ KP M M' := by
  unfold m_L_link
  rcases g_link hR hS x y z with ⟨e, v, h1, h2, h3⟩ | ⟨r, S1', S7', S8', S9', S10', S11', S12', S13', S14', S15', M', h1, h2, h3, h4, h5, h6⟩
  · rw [h1, pu_he, h2]
    rcases h3 with ⟨rfl, rfl⟩ | ⟨rfl, rfl⟩
    · rw [if_pos rfl]
      exact ⟨1, 0, S1, S7, S8, S9, S10, S11, S12, S13, S14, S15, O, _, rfl, rfl, u4_v, fun h => absurd h ne_10, hR.up, hS.up, KP.u4⟩
    · rw [if_neg (by decide), if_pos rfl]
      exact ⟨2, 0, S1, S7, S8, S9, S10, S11, S12, S13, S14, S15, O, _, rfl, rfl, u4_v, fun h => absurd h ne_20, hR.up, hS.up, KP.u4⟩
  · rw [h1, pu_hb, if_pos in_01, pu_let, h2]
    exact ⟨0, r, S1', S7', S8', S9', S10', S11', S12', S13', S14', S15', _, M', rfl, rfl, h6, fun _ => lg_self, h3, h4, h5⟩
theorem w_unlink {b : Nat} {S1 S2 S7 S8 S9 S10 S11 S12 S13 S14 S15 : sk_N} {M : sk_M} (hR : RW b S1 S2 (M.1 1)) (hS : SV b S7 S8 S9 S10 S11 S12 S13 S14 S15 M) (O : sk_O) (x y : Int32) : ∃ code r S1' S7' S8' S9' S10' S11' S12' S13' S14' S15' O' M', m_L_unlink S1 S2 S7 S8 S9 S10 S11 S12 S13 S14 S15 O x y = some (code, S1', S7', S8', S9', S10', S11', S12', S13', S14', S15', O') ∧ m_X5_unlink M x y = some (r, M') ∧ M'.1 0 4 = code ∧ (code = 0 → lg_cmp (O' ((0 : Int32)).toNatClampNeg) r.toInt64 = 0) ∧ RW b S1' S2 (M'.1 1) ∧ SV b S7' S8' S9' S10' S11' S12' S13' S14' S15' M' ∧ KP M M' := by
  unfold m_L_unlink
  rcases g_unlink hR hS x y with ⟨e, v, h1, h2, h3⟩ | ⟨r, S1', S7', S8', S9', S10', S11', S12', S13', S14', S15', M', h1, h2, h3, h4, h5, h6⟩
  · rw [h1, pu_he, h2]
    rcases h3 with ⟨rfl, rfl⟩ | ⟨rfl, rfl⟩
    · rw [if_pos rfl]
      exact ⟨1, 0, S1, S7, S8, S9, S10, S11, S12, S13, S14, S15, O, _, rfl, rfl, u4_v, fun h => absurd h ne_10, hR.up, hS.up, KP.u4⟩
    · rw [if_neg (by decide), if_pos rfl]
      exact ⟨2, 0, S1, S7, S8, S9, S10, S11, S12, S13, S14, S15, O, _, rfl, rfl, u4_v, fun h => absurd h ne_20, hR.up, hS.up, KP.u4⟩
  · rw [h1, pu_hb, if_pos in_01, pu_let, h2]
    exact ⟨0, r, S1', S7', S8', S9', S10', S11', S12', S13', S14', S15', _, M', rfl, rfl, h6, fun _ => lg_self, h3, h4, h5⟩
theorem w_setPeriod {b : Nat} {S1 S2 S7 S8 S9 S10 S11 S12 S13 S14 S15 : sk_N} {M : sk_M} (hR : RW b S1 S2 (M.1 1)) (hS : SV b S7 S8 S9 S10 S11 S12 S13 S14 S15 M) (O : sk_O) (x : Int32) : ∃ code r S1' S7' S8' S9' S10' S11' S12' S13' S14' S15' O' M', m_L_setPeriod S1 S2 S7 S8 S9 S10 S11 S12 S13 S14 S15 O x = some (code, S1', S7', S8', S9', S10', S11', S12', S13', S14', S15', O') ∧ m_X5_setPeriod M x = some (r, M') ∧ M'.1 0 4 = code ∧ (code = 0 → lg_cmp (O' ((0 : Int32)).toNatClampNeg) r.toInt64 = 0) ∧ RW b S1' S2 (M'.1 1) ∧ SV b S7' S8' S9' S10' S11' S12' S13' S14' S15' M' ∧ KP M M' := by
  unfold m_L_setPeriod
  rcases g_setPeriod hR hS x with ⟨e, v, h1, h2, h3⟩ | ⟨r, S1', S7', S8', S9', S10', S11', S12', S13', S14', S15', M', h1, h2, h3, h4, h5, h6⟩
  · rw [h1, pu_he, h2]
    obtain ⟨rfl, rfl⟩ := h3
    rw [if_pos rfl]
    exact ⟨1, 0, S1, S7, S8, S9, S10, S11, S12, S13, S14, S15, O, _, rfl, rfl, u4_v, fun h => absurd h ne_10, hR.up, hS.up, KP.u4⟩
  · rw [h1, pu_hb, if_pos in_01, pu_let, h2]
    exact ⟨0, r, S1', S7', S8', S9', S10', S11', S12', S13', S14', S15', _, M', rfl, rfl, h6, fun _ => lg_self, h3, h4, h5⟩
theorem w_setResponse {b : Nat} {S1 S2 S7 S8 S9 S10 S11 S12 S13 S14 S15 : sk_N} {M : sk_M} (hR : RW b S1 S2 (M.1 1)) (hS : SV b S7 S8 S9 S10 S11 S12 S13 S14 S15 M) (O : sk_O) (x y : Int32) : ∃ code r S1' S7' S8' S9' S10' S11' S12' S13' S14' S15' O' M', m_L_setResponse S1 S2 S7 S8 S9 S10 S11 S12 S13 S14 S15 O x y = some (code, S1', S7', S8', S9', S10', S11', S12', S13', S14', S15', O') ∧ m_X5_setResponse M x y = some (r, M') ∧ M'.1 0 4 = code ∧ (code = 0 → lg_cmp (O' ((0 : Int32)).toNatClampNeg) r.toInt64 = 0) ∧ RW b S1' S2 (M'.1 1) ∧ SV b S7' S8' S9' S10' S11' S12' S13' S14' S15' M' ∧ KP M M' := by
  unfold m_L_setResponse
  rcases g_setResponse hR hS x y with ⟨e, v, h1, h2, h3⟩ | ⟨r, S1', S7', S8', S9', S10', S11', S12', S13', S14', S15', M', h1, h2, h3, h4, h5, h6⟩
  · rw [h1, pu_he, h2]
    obtain ⟨rfl, rfl⟩ := h3
    rw [if_pos rfl]
    exact ⟨1, 0, S1, S7, S8, S9, S10, S11, S12, S13, S14, S15, O, _, rfl, rfl, u4_v, fun h => absurd h ne_10, hR.up, hS.up, KP.u4⟩
  · rw [h1, pu_hb, if_pos in_01, pu_let, h2]
    exact ⟨0, r, S1', S7', S8', S9', S10', S11', S12', S13', S14', S15', _, M', rfl, rfl, h6, fun _ => lg_self, h3, h4, h5⟩
theorem w_tick {b : Nat} {S1 S2 S7 S8 S9 S10 S11 S12 S13 S14 S15 : sk_N} {M : sk_M} (hR : RW b S1 S2 (M.1 1)) (hS : SV b S7 S8 S9 S10 S11 S12 S13 S14 S15 M) (h0 : M.1 0 10 = 0) (hb : b < 2 ^ 28) (O : sk_O) (x : Int32) : ∃ code r S1' S2' S7' S8' S9' S10' S11' S12' S13' S14' S15' O' M', m_L_tick S1 S2 S7 S8 S9 S10 S11 S12 S13 S14 S15 O x = some (code, S1', S2', S7', S8', S9', S10', S11', S12', S13', S14', S15', O') ∧ m_X5_tick M x = some (r, M') ∧ M'.1 0 4 = code ∧ (code = 0 → lg_cmp (O' ((0 : Int32)).toNatClampNeg) r.toInt64 = 0) ∧ RW (b + 99) S1' S2' (M'.1 1) ∧ SV (b + 99) S7' S8' S9' S10' S11' S12' S13' S14' S15' M' ∧ KP M M' := by
  unfold m_L_tick
  rcases g_tick hR hS h0 hb x with ⟨h1, h2⟩ | ⟨r, S1', S2', S7', S8', S9', S10', S11', S12', S13', S14', S15', M', h1, h2, h3, h4, h5, h6⟩
  · rw [h1, pu_he, h2, if_pos rfl]
    exact ⟨1, 0, S1, S2, S7, S8, S9, S10, S11, S12, S13, S14, S15, O, _, rfl, rfl, u4_v, fun h => absurd h ne_10, hR.up.mono (by omega), hS.up.mono (by omega), KP.u4⟩
  · rw [h1, pu_hb, if_pos in_01, pu_let, h2]
    exact ⟨0, r, S1', S2', S7', S8', S9', S10', S11', S12', S13', S14', S15', _, M', rfl, rfl, h6, fun _ => lg_self, h3, h4, h5⟩
theorem w_undo {b : Nat} {S1 S2 S7 S8 S9 S10 S11 S12 S13 S14 S15 : sk_N} {M : sk_M} (hR : RW b S1 S2 (M.1 1)) (hS : SV b S7 S8 S9 S10 S11 S12 S13 S14 S15 M) (O : sk_O) : ∃ code r S1' S2' S7' O' M', m_L_undo S1 S2 S7 S8 S9 S10 S11 S12 S13 S14 S15 O = some (code, S1', S2', S7', O') ∧ m_X5_undo M = some (r, M') ∧ M'.1 0 4 = code ∧ (code = 0 → lg_cmp (O' ((0 : Int32)).toNatClampNeg) r.toInt64 = 0) ∧ RW b S1' S2' (M'.1 1) ∧ SV b S7' S8 S9 S10 S11 S12 S13 S14 S15 M' ∧ KP M M' := by
  unfold m_L_undo
  rcases g_undo (S1 := S1) (S2 := S2) hS with ⟨h1, h2⟩ | ⟨r, S1', S2', S7', M', h1, h2, h3, h4, h5, h6⟩
  · rw [h1, pu_he, h2, if_pos rfl]
    exact ⟨1, 0, S1, S2, S7, O, _, rfl, rfl, u4_v, fun h => absurd h ne_10, hR.up, hS.up, KP.u4⟩
  · rw [h1, pu_hb, if_pos in_01, pu_let, h2]
    exact ⟨0, r, S1', S2', S7', _, M', rfl, rfl, h6, fun _ => lg_self, h3, h4, h5⟩
theorem w_append {len : Nat} {S : sk_N} {M : sk_M} (hT : TXT len S M) (O : sk_O) (x : Int32) : ∃ code r S' O' M' len', m_L_append S O x = some (code, S', O') ∧ m_X5_append M x = some (r, M') ∧ M'.1 0 4 = code ∧ (code = 0 → lg_cmp (O' ((0 : Int32)).toNatClampNeg) r.toInt64 = 0) ∧ TXT len' S' M' ∧ (∀ j, j ≠ 0 → j ≠ 4 → M'.1 j = M.1 j) ∧ (∀ k, k ≠ 4 → k ≠ 6 → M'.1 0 k = M.1 0 k) := by
  unfold m_L_append
  rcases g_append hT x with ⟨e, v, h1, h2, h3⟩ | ⟨r, S', M', len', h1, h2, h3, h4, h5, h6⟩
  · rw [h1, pu_he, h2]
    have k1 : ∀ j, j ≠ 0 → j ≠ 4 → (md_up M 0 4 v).1 j = M.1 j := fun j a _ => pu_mrow a
    have k2 : ∀ k, k ≠ 4 → k ≠ 6 → (md_up M 0 4 v).1 0 k = M.1 0 k := fun k a _ => by rw [pu_m, if_neg (by omega)]
    rcases h3 with ⟨rfl, rfl⟩ | ⟨rfl, rfl⟩
    · rw [if_pos rfl]
      exact ⟨1, 0, S, O, _, len, rfl, rfl, u4_v, fun h => absurd h ne_10, hT.kp KP.u4, k1, k2⟩
    · rw [if_neg (by decide), if_pos rfl]
      exact ⟨2, 0, S, O, _, len, rfl, rfl, u4_v, fun h => absurd h ne_20, hT.kp KP.u4, k1, k2⟩
  · rw [h1, pu_hb, if_pos in_01, pu_let, h2]
    exact ⟨0, r, S', _, M', len', rfl, rfl, h6, fun _ => lg_self, h3, h4, h5⟩
theorem w_clock {b : Nat} {S1 S2 : sk_N} {M : sk_M} (hR : RW b S1 S2 (M.1 1)) (O : sk_O) (x y : Int32) : ∃ code r O', m_L_clock S1 O x y = some (code, O') ∧ m_X5_clock M x y = some (r, md_up M 0 4 code) ∧ (code = 0 → lg_cmp (O' ((0 : Int32)).toNatClampNeg) r.toInt64 = 0) := by
  unfold m_L_clock
  rcases g_clock hR x y with ⟨e, v, h1, h2, h3⟩ | ⟨r, h1, h2⟩
  · rw [h1, pu_he, h2]
    rcases h3 with ⟨rfl, rfl⟩ | ⟨rfl, rfl⟩
    · rw [if_pos rfl]
      exact ⟨1, 0, O, rfl, rfl, fun h => absurd h ne_10⟩
    · rw [if_neg (by decide), if_pos rfl]
      exact ⟨2, 0, O, rfl, rfl, fun h => absurd h ne_20⟩
  · rw [h1, pu_hb, if_pos in_01, pu_let, h2]
    exact ⟨0, r, _, rfl, rfl, fun _ => lg_self⟩
theorem w_linkOf {b : Nat} {S1 S2 : sk_N} {M : sk_M} (hR : RW b S1 S2 (M.1 1)) (O : sk_O) (x y : Int32) : ∃ code r O', m_L_linkOf S1 O x y = some (code, O') ∧ m_X5_linkOf M x y = some (r, md_up M 0 4 code) ∧ (code = 0 → lg_cmp (O' ((0 : Int32)).toNatClampNeg) r.toInt64 = 0) := by
  unfold m_L_linkOf
  rcases g_linkOf hR x y with ⟨e, v, h1, h2, h3⟩ | ⟨r, h1, h2⟩
  · rw [h1, pu_he, h2]
    obtain ⟨rfl, rfl⟩ := h3
    rw [if_pos rfl]
    exact ⟨1, 0, O, rfl, rfl, fun h => absurd h ne_10⟩
  · rw [h1, pu_hb, if_pos in_01, pu_let, h2]
    exact ⟨0, r, _, rfl, rfl, fun _ => lg_self⟩
theorem w_distance {b : Nat} {S1 S2 : sk_N} {M : sk_M} (hR : RW b S1 S2 (M.1 1)) (O : sk_O) (x y : Int32) : ∃ code r O', m_L_distance S1 O x y = some (code, O') ∧ m_X5_distance M x y = some (r, md_up M 0 4 code) ∧ (code = 0 → lg_cmp (O' ((0 : Int32)).toNatClampNeg) r.toInt64 = 0) := by
  unfold m_L_distance
  rcases g_distance hR x y with ⟨e, v, h1, h2, h3⟩ | ⟨r, h1, h2⟩
  · rw [h1, pu_he, h2]
    obtain ⟨rfl, rfl⟩ := h3
    rw [if_pos rfl]
    exact ⟨1, 0, O, rfl, rfl, fun h => absurd h ne_10⟩
  · rw [h1, pu_hb, if_pos in_01, pu_let, h2]
    exact ⟨0, r, _, rfl, rfl, fun _ => lg_self⟩
theorem w_group {b : Nat} {S1 S2 : sk_N} {M : sk_M} (hR : RW b S1 S2 (M.1 1)) (O : sk_O) (x y : Int32) : ∃ code r O', m_L_group S1 O x y = some (code, O') ∧ m_X5_group M x y = some (r, md_up M 0 4 code) ∧ (code = 0 → lg_cmp (O' ((0 : Int32)).toNatClampNeg) r.toInt64 = 0) := by
  unfold m_L_group
  rcases g_group hR x y with ⟨e, v, h1, h2, h3⟩ | ⟨r, h1, h2⟩
  · rw [h1, pu_he, h2]
    obtain ⟨rfl, rfl⟩ := h3
    rw [if_pos rfl]
    exact ⟨1, 0, O, rfl, rfl, fun h => absurd h ne_10⟩
  · rw [h1, pu_hb, if_pos in_01, pu_let, h2]
    exact ⟨0, r, _, rfl, rfl, fun _ => lg_self⟩
theorem w_groupOf {b : Nat} {S1 S2 : sk_N} {M : sk_M} (hR : RW b S1 S2 (M.1 1)) (O : sk_O) (x : Int32) : ∃ code r O', m_L_groupOf S1 O x = some (code, O') ∧ m_X5_groupOf M x = some (r, md_up M 0 4 code) ∧ (code = 0 → lg_cmp (O' ((0 : Int32)).toNatClampNeg) r.toInt64 = 0) := by
  unfold m_L_groupOf
  rcases g_groupOf hR x with ⟨e, v, h1, h2, h3⟩ | ⟨r, h1, h2⟩
  · rw [h1, pu_he, h2]
    obtain ⟨rfl, rfl⟩ := h3
    rw [if_pos rfl]
    exact ⟨1, 0, O, rfl, rfl, fun h => absurd h ne_10⟩
  · rw [h1, pu_hb, if_pos in_01, pu_let, h2]
    exact ⟨0, r, _, rfl, rfl, fun _ => lg_self⟩
theorem w_ticksUntil {b : Nat} {S1 S2 S3 S4 S6 S7 S8 S9 S10 S11 S12 S13 S14 S15 S16 : sk_N} {M : sk_M} (h : REL b S1 S2 S4 S6 S7 S8 S9 S10 S11 S12 S13 S14 S15 S16 M) (hb : b < 2 ^ 28) (O : sk_O) (x y : Int32) : ∃ code r S3' S4' O' M', m_L_ticksUntil S1 S2 S3 S4 O x y = some (code, S3', S4', O') ∧ m_X5_ticksUntil M x y = some (r, M') ∧ M'.1 0 4 = code ∧ (code = 0 → lg_cmp (O' ((0 : Int32)).toNatClampNeg) r.toInt64 = 0) ∧ REL b S1 S2 S4' S6 S7 S8 S9 S10 S11 S12 S13 S14 S15 S16 M' := by
  obtain ⟨hR, hS, h4, h6, h0, len, hT⟩ := id h
  unfold m_L_ticksUntil
  rcases g_ticksUntil (S3 := S3) (S4 := S4) hR hb x y with ⟨h1, h2⟩ | ⟨r, S3', S4', M', h1, h2, h3, h5⟩
  · rw [h1, pu_he, h2, if_pos rfl]
    exact ⟨1, 0, S3, S4, O, _, rfl, rfl, u4_v, fun h => absurd h ne_10, h.u4 (Nat.le_refl _)⟩
  · rw [h1, pu_hb, if_pos in_01, pu_let, h2]
    exact ⟨0, r, S3', S4', _, M', rfl, rfl, h5.up, fun _ => lg_self, h.fb (Nat.le_refl _) h5 h3 h6⟩
theorem w_groupsAfter {b : Nat} {S1 S2 S3 S4 S6 S7 S8 S9 S10 S11 S12 S13 S14 S15 S16 : sk_N} {M : sk_M} (h : REL b S1 S2 S4 S6 S7 S8 S9 S10 S11 S12 S13 S14 S15 S16 M) (hb : b < 2 ^ 28) (O : sk_O) (x : Int32) : ∃ code r S3' S4' O' M', m_L_groupsAfter S1 S2 S3 S4 O x = some (code, S3', S4', O') ∧ m_X5_groupsAfter M x = some (r, M') ∧ M'.1 0 4 = code ∧ (code = 0 → lg_cmp (O' ((0 : Int32)).toNatClampNeg) r.toInt64 = 0) ∧ REL b S1 S2 S4' S6 S7 S8 S9 S10 S11 S12 S13 S14 S15 S16 M' := by
  obtain ⟨hR, hS, h4, h6, h0, len, hT⟩ := id h
  unfold m_L_groupsAfter
  rcases g_groupsAfter (S3 := S3) (S4 := S4) hR hb x with ⟨h1, h2⟩ | ⟨r, S3', S4', M', h1, h2, h3, h5⟩
  · rw [h1, pu_he, h2, if_pos rfl]
    exact ⟨1, 0, S3, S4, O, _, rfl, rfl, u4_v, fun h => absurd h ne_10, h.u4 (Nat.le_refl _)⟩
  · rw [h1, pu_hb, if_pos in_01, pu_let, h2]
    exact ⟨0, r, S3', S4', _, M', rfl, rfl, h5.up, fun _ => lg_self, h.fb (Nat.le_refl _) h5 h3 h6⟩
theorem w_leastStrength {b : Nat} {S1 S2 S3 S4 S6 S7 S8 S9 S10 S11 S12 S13 S14 S15 S16 : sk_N} {M : sk_M} (h : REL b S1 S2 S4 S6 S7 S8 S9 S10 S11 S12 S13 S14 S15 S16 M) (hb : b < 2 ^ 28) (O : sk_O) (x : Int32) : ∃ code r S3' S4' O' M', m_L_leastStrength S1 S2 S3 S4 O x = some (code, S3', S4', O') ∧ m_X5_leastStrength M x = some (r, M') ∧ M'.1 0 4 = code ∧ (code = 0 → lg_cmp (O' ((0 : Int32)).toNatClampNeg) r.toInt64 = 0) ∧ REL b S1 S2 S4' S6 S7 S8 S9 S10 S11 S12 S13 S14 S15 S16 M' := by
  obtain ⟨hR, hS, h4, h6, h0, len, hT⟩ := id h
  unfold m_L_leastStrength
  rcases g_leastStrength (S3 := S3) (S4 := S4) hR h0 hb h4 x with ⟨h1, h2⟩ | ⟨r, S3', S4', M', h1, h2, h3, h5⟩
  · rw [h1, pu_he, h2, if_pos rfl]
    exact ⟨1, 0, S3, S4, O, _, rfl, rfl, u4_v, fun h => absurd h ne_10, h.u4 (Nat.le_refl _)⟩
  · rw [h1, pu_hb, if_pos in_01, pu_let, h2]
    exact ⟨0, r, S3', S4', _, M', rfl, rfl, h5.up, fun _ => lg_self, h.fb (Nat.le_refl _) h5 h3 h6⟩
theorem w_basin {b : Nat} {S1 S2 S3 S4 S6 S7 S8 S9 S10 S11 S12 S13 S14 S15 S16 : sk_N} {M : sk_M} (h : REL b S1 S2 S4 S6 S7 S8 S9 S10 S11 S12 S13 S14 S15 S16 M) (hb : b < 2 ^ 28) (O : sk_O) (x y : Int32) : ∃ code r S3' S4' O' M', m_L_basin S1 S2 S3 S4 O x y = some (code, S3', S4', O') ∧ m_X5_basin M x y = some (r, M') ∧ M'.1 0 4 = code ∧ (code = 0 → lg_cmp (O' ((0 : Int32)).toNatClampNeg) r.toInt64 = 0) ∧ REL b S1 S2 S4' S6 S7 S8 S9 S10 S11 S12 S13 S14 S15 S16 M' := by
  obtain ⟨hR, hS, h4, h6, h0, len, hT⟩ := id h
  unfold m_L_basin
  rcases g_basin (S3 := S3) (S4 := S4) hR h0 hb h4 x y with ⟨h1, h2⟩ | ⟨h1, h2⟩ | ⟨r, S3', S4', M', h1, h2, h3, h5⟩
  · rw [h1, pu_he, h2, if_pos rfl]
    exact ⟨1, 0, S3, S4, O, _, rfl, rfl, u4_v, fun h => absurd h ne_10, h.u4 (Nat.le_refl _)⟩
  · rw [h1, pu_he, h2, if_neg (by decide), if_pos rfl]
    exact ⟨2, 0, S3, S4, O, _, rfl, rfl, u4_v, fun h => absurd h ne_20, h.u4 (Nat.le_refl _)⟩
  · rw [h1, pu_hb, if_pos in_01, pu_let, h2]
    exact ⟨0, r, S3', S4', _, M', rfl, rfl, h5.up, fun _ => lg_self, h.fb (Nat.le_refl _) h5 h3 h6⟩
theorem w_worstPhase {b : Nat} {S1 S2 S3 S4 S6 S7 S8 S9 S10 S11 S12 S13 S14 S15 S16 : sk_N} {M : sk_M} (h : REL b S1 S2 S4 S6 S7 S8 S9 S10 S11 S12 S13 S14 S15 S16 M) (hb : b < 2 ^ 28) (O : sk_O) (x y : Int32) : ∃ code r S3' S4' O' M', m_L_worstPhase S1 S2 S3 S4 O x y = some (code, S3', S4', O') ∧ m_X5_worstPhase M x y = some (r, M') ∧ M'.1 0 4 = code ∧ (code = 0 → lg_cmp (O' ((0 : Int32)).toNatClampNeg) r.toInt64 = 0) ∧ REL b S1 S2 S4' S6 S7 S8 S9 S10 S11 S12 S13 S14 S15 S16 M' := by
  obtain ⟨hR, hS, h4, h6, h0, len, hT⟩ := id h
  unfold m_L_worstPhase
  rcases g_worstPhase (S3 := S3) (S4 := S4) hR h0 hb h4 x y with ⟨h1, h2⟩ | ⟨h1, h2⟩ | ⟨r, S3', S4', M', h1, h2, h3, h5⟩
  · rw [h1, pu_he, h2, if_pos rfl]
    exact ⟨1, 0, S3, S4, O, _, rfl, rfl, u4_v, fun h => absurd h ne_10, h.u4 (Nat.le_refl _)⟩
  · rw [h1, pu_he, h2, if_neg (by decide), if_pos rfl]
    exact ⟨2, 0, S3, S4, O, _, rfl, rfl, u4_v, fun h => absurd h ne_20, h.u4 (Nat.le_refl _)⟩
  · rw [h1, pu_hb, if_pos in_01, pu_let, h2]
    exact ⟨0, r, S3', S4', _, M', rfl, rfl, h5.up, fun _ => lg_self, h.fb (Nat.le_refl _) h5 h3 h6⟩
theorem w_blamed {b : Nat} {S1 S2 S3 S4 S6 S7 S8 S9 S10 S11 S12 S13 S14 S15 S16 : sk_N} {M : sk_M} (h : REL b S1 S2 S4 S6 S7 S8 S9 S10 S11 S12 S13 S14 S15 S16 M) (hb : b < 2 ^ 28) (O : sk_O) (x : Int32) : ∃ code r S3' S4' O' M', m_L_blamed S1 S2 S3 S4 O x = some (code, S3', S4', O') ∧ m_X5_blamed M x = some (r, M') ∧ M'.1 0 4 = code ∧ (code = 0 → lg_cmp (O' ((0 : Int32)).toNatClampNeg) r.toInt64 = 0) ∧ REL b S1 S2 S4' S6 S7 S8 S9 S10 S11 S12 S13 S14 S15 S16 M' := by
  obtain ⟨hR, hS, h4, h6, h0, len, hT⟩ := id h
  unfold m_L_blamed
  rcases g_blamed (S3 := S3) (S4 := S4) hR h0 hb h4 x with ⟨h1, h2⟩ | ⟨r, S3', S4', M', h1, h2, h3, h5⟩
  · rw [h1, pu_he, h2, if_pos rfl]
    exact ⟨1, 0, S3, S4, O, _, rfl, rfl, u4_v, fun h => absurd h ne_10, h.u4 (Nat.le_refl _)⟩
  · rw [h1, pu_hb, if_pos in_01, pu_let, h2]
    exact ⟨0, r, S3', S4', _, M', rfl, rfl, h5.up, fun _ => lg_self, h.fb (Nat.le_refl _) h5 h3 h6⟩
theorem w_firesIn {b : Nat} {S1 S2 S3 S4 S6 S7 S8 S9 S10 S11 S12 S13 S14 S15 S16 : sk_N} {M : sk_M} (h : REL b S1 S2 S4 S6 S7 S8 S9 S10 S11 S12 S13 S14 S15 S16 M) (hb : b < 2 ^ 28) (O : sk_O) (x y : Int32) : ∃ code r S3' S4' O' M', m_L_firesIn S1 S2 S3 S4 O x y = some (code, S3', S4', O') ∧ m_X5_firesIn M x y = some (r, M') ∧ M'.1 0 4 = code ∧ (code = 0 → lg_cmp (O' ((0 : Int32)).toNatClampNeg) r.toInt64 = 0) ∧ REL b S1 S2 S4' S6 S7 S8 S9 S10 S11 S12 S13 S14 S15 S16 M' := by
  obtain ⟨hR, hS, h4, h6, h0, len, hT⟩ := id h
  unfold m_L_firesIn
  rcases g_firesIn (S3 := S3) (S4 := S4) hR hb x y with ⟨h1, h2⟩ | ⟨h1, h2⟩ | ⟨r, S3', S4', M', h1, h2, h3, h5⟩
  · rw [h1, pu_he, h2, if_pos rfl]
    exact ⟨1, 0, S3, S4, O, _, rfl, rfl, u4_v, fun h => absurd h ne_10, h.u4 (Nat.le_refl _)⟩
  · rw [h1, pu_he, h2, if_neg (by decide), if_pos rfl]
    exact ⟨2, 0, S3, S4, O, _, rfl, rfl, u4_v, fun h => absurd h ne_20, h.u4 (Nat.le_refl _)⟩
  · rw [h1, pu_hb, if_pos in_01, pu_let, h2]
    exact ⟨0, r, S3', S4', _, M', rfl, rfl, h5.up, fun _ => lg_self, h.fb (Nat.le_refl _) h5 h3 h6⟩
theorem w_repeats {b : Nat} {S1 S2 S3 S4 S5 S6 S7 S8 S9 S10 S11 S12 S13 S14 S15 S16 : sk_N} {M : sk_M} (h : REL b S1 S2 S4 S6 S7 S8 S9 S10 S11 S12 S13 S14 S15 S16 M) (hb : b < 2 ^ 28) (O : sk_O) (x y : Int32) : ∃ code r S5' S6' S3' S4' O' M', m_L_repeats S5 S6 S1 S2 S3 S4 O x y = some (code, S5', S6', S3', S4', O') ∧ m_X5_repeats M x y = some (r, M') ∧ M'.1 0 4 = code ∧ (code = 0 → lg_cmp (O' ((0 : Int32)).toNatClampNeg) r.toInt64 = 0) ∧ REL b S1 S2 S4' S6' S7 S8 S9 S10 S11 S12 S13 S14 S15 S16 M' := by
  obtain ⟨hR, hS, h4, h6, h0, len, hT⟩ := id h
  unfold m_L_repeats
  rcases g_repeats (S3 := S3) (S4 := S4) (S5 := S5) (S6 := S6) hR hb x y with ⟨h1, h2⟩ | ⟨r, S5', S6', S3', S4', M', h1, h2, h3, h3', h5⟩
  · rw [h1, pu_he, h2, if_pos rfl]
    exact ⟨1, 0, S5, S6, S3, S4, O, _, rfl, rfl, u4_v, fun h => absurd h ne_10, h.u4 (Nat.le_refl _)⟩
  · rw [h1, pu_hb, if_pos in_01, pu_let, h2]
    exact ⟨0, r, S5', S6', S3', S4', _, M', rfl, rfl, h5.up, fun _ => lg_self, h.fb (Nat.le_refl _) h5 h3' h3⟩
theorem REL.mono {b b' : Nat} {S1 S2 S4 S6 S7 S8 S9 S10 S11 S12 S13 S14 S15 S16 : sk_N} {M : sk_M} (h : REL b S1 S2 S4 S6 S7 S8 S9 S10 S11 S12 S13 S14 S15 S16 M) (hb : b ≤ b') : REL b' S1 S2 S4 S6 S7 S8 S9 S10 S11 S12 S13 S14 S15 S16 M := ⟨h.1.mono hb, h.2.1.mono hb, h.2.2⟩
theorem st_0 {b i L : Nat} {xs : Nat → Int32} {k : lw_σ → Option Int32} {S1 S2 S3 S4 S5 S6 S7 S8 S9 S10 S11 S12 S13 S14 S15 S16 : sk_N} {S17 : sk_M} {S18 : sk_O} (h : REL b S1 S2 S4 S6 S7 S8 S9 S10 S11 S12 S13 S14 S15 S16 S17) (hi : i + 4 ≤ L) (hL : L ≤ 2048) (hb : b + 4000 < 2 ^ 28) : GO (b + 4000) (i + 4) k (m_L_c0 L xs k S1 S2 S3 S4 S5 S6 S7 S8 S9 S10 S11 S12 S13 S14 S15 S16 S17 S18 (nI i)) := by
  obtain ⟨hR, hS, h4, h6, h0, len, hT⟩ := id h
  have e4 : nI i + (4 : Int32) = nI (i + 4) := by rw [show (4 : Int32) = nI 4 from rfl, nI_add]
  have i1 : sk_in (nI (i + 1)) L = true := pu_inT (by omega) (by omega)
  have e1 : nI i + (1 : Int32) = nI (i + 1) := by rw [show (1 : Int32) = nI 1 from rfl, nI_add]
  have c1 : (nI (i + 1)).toNatClampNeg = i + 1 := nI_clamp (by omega)
  obtain ⟨code, r, S1', S7', S8', S9', S10', S11', S12', S13', S14', S15', O', M', hw, hm, ht, ho, q1, q2, q3⟩ := w_add hR hS S18 (xs (i + 1))
  have th : m_X5_thrown M' = some (M'.1 0 4) := rfl
  unfold m_L_c0
  rw [e1, e4, if_pos i1, c1, hw, pu_some, if_pos i1, hm, pu_some, th, pu_some, if_pos ht]
  by_cases hc : code = 0
  · rw [if_pos hc, if_pos in_01, if_pos (ho hc)]
    exact ⟨S1', S2, S3, S4, S5, S6, S7', S8', S9', S10', S11', S12', S13', S14', S15', S16, M', O', rfl, ⟨q1.mono (by omega), q2.mono (by omega), h4, h6, q3.1.trans h0, len, hT.kp q3⟩⟩
  · rw [if_neg hc]
    exact ⟨S1', S2, S3, S4, S5, S6, S7', S8', S9', S10', S11', S12', S13', S14', S15', S16, M', O', rfl, ⟨q1.mono (by omega), q2.mono (by omega), h4, h6, q3.1.trans h0, len, hT.kp q3⟩⟩
theorem st_1 {b i L : Nat} {xs : Nat → Int32} {k : lw_σ → Option Int32} {S1 S2 S3 S4 S5 S6 S7 S8 S9 S10 S11 S12 S13 S14 S15 S16 : sk_N} {S17 : sk_M} {S18 : sk_O} (h : REL b S1 S2 S4 S6 S7 S8 S9 S10 S11 S12 S13 S14 S15 S16 S17) (hi : i + 4 ≤ L) (hL : L ≤ 2048) (hb : b + 4000 < 2 ^ 28) : GO (b + 4000) (i + 4) k (m_L_c1 L xs k S1 S2 S3 S4 S5 S6 S7 S8 S9 S10 S11 S12 S13 S14 S15 S16 S17 S18 (nI i)) := by
  obtain ⟨hR, hS, h4, h6, h0, len, hT⟩ := id h
  have e4 : nI i + (4 : Int32) = nI (i + 4) := by rw [show (4 : Int32) = nI 4 from rfl, nI_add]
  have i1 : sk_in (nI (i + 1)) L = true := pu_inT (by omega) (by omega)
  have e1 : nI i + (1 : Int32) = nI (i + 1) := by rw [show (1 : Int32) = nI 1 from rfl, nI_add]
  have c1 : (nI (i + 1)).toNatClampNeg = i + 1 := nI_clamp (by omega)
  have i2 : sk_in (nI (i + 2)) L = true := pu_inT (by omega) (by omega)
  have e2 : nI i + (2 : Int32) = nI (i + 2) := by rw [show (2 : Int32) = nI 2 from rfl, nI_add]
  have c2 : (nI (i + 2)).toNatClampNeg = i + 2 := nI_clamp (by omega)
  obtain ⟨code, r, S1', S7', S8', S9', S10', S11', S12', S13', S14', S15', O', M', hw, hm, ht, ho, q1, q2, q3⟩ := w_setPhase hR hS S18 (xs (i + 1)) (xs (i + 2))
  have th : m_X5_thrown M' = some (M'.1 0 4) := rfl
  unfold m_L_c1
  rw [e1, e2, e4, if_pos i1, if_pos i2, c1, c2, hw, pu_some, if_pos i1, if_pos i2, hm, pu_some, th, pu_some, if_pos ht]
  by_cases hc : code = 0
  · rw [if_pos hc, if_pos in_01, if_pos (ho hc)]
    exact ⟨S1', S2, S3, S4, S5, S6, S7', S8', S9', S10', S11', S12', S13', S14', S15', S16, M', O', rfl, ⟨q1.mono (by omega), q2.mono (by omega), h4, h6, q3.1.trans h0, len, hT.kp q3⟩⟩
  · rw [if_neg hc]
    exact ⟨S1', S2, S3, S4, S5, S6, S7', S8', S9', S10', S11', S12', S13', S14', S15', S16, M', O', rfl, ⟨q1.mono (by omega), q2.mono (by omega), h4, h6, q3.1.trans h0, len, hT.kp q3⟩⟩
theorem st_2 {b i L : Nat} {xs : Nat → Int32} {k : lw_σ → Option Int32} {S1 S2 S3 S4 S5 S6 S7 S8 S9 S10 S11 S12 S13 S14 S15 S16 : sk_N} {S17 : sk_M} {S18 : sk_O} (h : REL b S1 S2 S4 S6 S7 S8 S9 S10 S11 S12 S13 S14 S15 S16 S17) (hi : i + 4 ≤ L) (hL : L ≤ 2048) (hb : b + 4000 < 2 ^ 28) : GO (b + 4000) (i + 4) k (m_L_c2 L xs k S1 S2 S3 S4 S5 S6 S7 S8 S9 S10 S11 S12 S13 S14 S15 S16 S17 S18 (nI i)) := by
  obtain ⟨hR, hS, h4, h6, h0, len, hT⟩ := id h
  have e4 : nI i + (4 : Int32) = nI (i + 4) := by rw [show (4 : Int32) = nI 4 from rfl, nI_add]
  have i1 : sk_in (nI (i + 1)) L = true := pu_inT (by omega) (by omega)
  have e1 : nI i + (1 : Int32) = nI (i + 1) := by rw [show (1 : Int32) = nI 1 from rfl, nI_add]
  have c1 : (nI (i + 1)).toNatClampNeg = i + 1 := nI_clamp (by omega)
  have i2 : sk_in (nI (i + 2)) L = true := pu_inT (by omega) (by omega)
  have e2 : nI i + (2 : Int32) = nI (i + 2) := by rw [show (2 : Int32) = nI 2 from rfl, nI_add]
  have c2 : (nI (i + 2)).toNatClampNeg = i + 2 := nI_clamp (by omega)
  obtain ⟨code, r, S1', S7', S8', S9', S10', S11', S12', S13', S14', S15', O', M', hw, hm, ht, ho, q1, q2, q3⟩ := w_setDrift hR hS S18 (xs (i + 1)) (xs (i + 2))
  have th : m_X5_thrown M' = some (M'.1 0 4) := rfl
  unfold m_L_c2
  rw [e1, e2, e4, if_pos i1, if_pos i2, c1, c2, hw, pu_some, if_pos i1, if_pos i2, hm, pu_some, th, pu_some, if_pos ht]
  by_cases hc : code = 0
  · rw [if_pos hc, if_pos in_01, if_pos (ho hc)]
    exact ⟨S1', S2, S3, S4, S5, S6, S7', S8', S9', S10', S11', S12', S13', S14', S15', S16, M', O', rfl, ⟨q1.mono (by omega), q2.mono (by omega), h4, h6, q3.1.trans h0, len, hT.kp q3⟩⟩
  · rw [if_neg hc]
    exact ⟨S1', S2, S3, S4, S5, S6, S7', S8', S9', S10', S11', S12', S13', S14', S15', S16, M', O', rfl, ⟨q1.mono (by omega), q2.mono (by omega), h4, h6, q3.1.trans h0, len, hT.kp q3⟩⟩
theorem st_3 {b i L : Nat} {xs : Nat → Int32} {k : lw_σ → Option Int32} {S1 S2 S3 S4 S5 S6 S7 S8 S9 S10 S11 S12 S13 S14 S15 S16 : sk_N} {S17 : sk_M} {S18 : sk_O} (h : REL b S1 S2 S4 S6 S7 S8 S9 S10 S11 S12 S13 S14 S15 S16 S17) (hi : i + 4 ≤ L) (hL : L ≤ 2048) (hb : b + 4000 < 2 ^ 28) : GO (b + 4000) (i + 4) k (m_L_c3 L xs k S1 S2 S3 S4 S5 S6 S7 S8 S9 S10 S11 S12 S13 S14 S15 S16 S17 S18 (nI i)) := by
  obtain ⟨hR, hS, h4, h6, h0, len, hT⟩ := id h
  have e4 : nI i + (4 : Int32) = nI (i + 4) := by rw [show (4 : Int32) = nI 4 from rfl, nI_add]
  have i1 : sk_in (nI (i + 1)) L = true := pu_inT (by omega) (by omega)
  have e1 : nI i + (1 : Int32) = nI (i + 1) := by rw [show (1 : Int32) = nI 1 from rfl, nI_add]
  have c1 : (nI (i + 1)).toNatClampNeg = i + 1 := nI_clamp (by omega)
  have i2 : sk_in (nI (i + 2)) L = true := pu_inT (by omega) (by omega)
  have e2 : nI i + (2 : Int32) = nI (i + 2) := by rw [show (2 : Int32) = nI 2 from rfl, nI_add]
  have c2 : (nI (i + 2)).toNatClampNeg = i + 2 := nI_clamp (by omega)
  have i3 : sk_in (nI (i + 3)) L = true := pu_inT (by omega) (by omega)
  have e3 : nI i + (3 : Int32) = nI (i + 3) := by rw [show (3 : Int32) = nI 3 from rfl, nI_add]
  have c3 : (nI (i + 3)).toNatClampNeg = i + 3 := nI_clamp (by omega)
  obtain ⟨code, r, S1', S7', S8', S9', S10', S11', S12', S13', S14', S15', O', M', hw, hm, ht, ho, q1, q2, q3⟩ := w_blink hR hS S18 (xs (i + 1)) (xs (i + 2)) (xs (i + 3))
  have th : m_X5_thrown M' = some (M'.1 0 4) := rfl
  unfold m_L_c3
  rw [e1, e2, e3, e4, if_pos i1, if_pos i2, if_pos i3, c1, c2, c3, hw, pu_some, if_pos i1, if_pos i2, if_pos i3, hm, pu_some, th, pu_some, if_pos ht]
  by_cases hc : code = 0
  · rw [if_pos hc, if_pos in_01, if_pos (ho hc)]
    exact ⟨S1', S2, S3, S4, S5, S6, S7', S8', S9', S10', S11', S12', S13', S14', S15', S16, M', O', rfl, ⟨q1.mono (by omega), q2.mono (by omega), h4, h6, q3.1.trans h0, len, hT.kp q3⟩⟩
  · rw [if_neg hc]
    exact ⟨S1', S2, S3, S4, S5, S6, S7', S8', S9', S10', S11', S12', S13', S14', S15', S16, M', O', rfl, ⟨q1.mono (by omega), q2.mono (by omega), h4, h6, q3.1.trans h0, len, hT.kp q3⟩⟩
theorem st_4 {b i L : Nat} {xs : Nat → Int32} {k : lw_σ → Option Int32} {S1 S2 S3 S4 S5 S6 S7 S8 S9 S10 S11 S12 S13 S14 S15 S16 : sk_N} {S17 : sk_M} {S18 : sk_O} (h : REL b S1 S2 S4 S6 S7 S8 S9 S10 S11 S12 S13 S14 S15 S16 S17) (hi : i + 4 ≤ L) (hL : L ≤ 2048) (hb : b + 4000 < 2 ^ 28) : GO (b + 4000) (i + 4) k (m_L_c4 L xs k S1 S2 S3 S4 S5 S6 S7 S8 S9 S10 S11 S12 S13 S14 S15 S16 S17 S18 (nI i)) := by
  obtain ⟨hR, hS, h4, h6, h0, len, hT⟩ := id h
  have e4 : nI i + (4 : Int32) = nI (i + 4) := by rw [show (4 : Int32) = nI 4 from rfl, nI_add]
  have i1 : sk_in (nI (i + 1)) L = true := pu_inT (by omega) (by omega)
  have e1 : nI i + (1 : Int32) = nI (i + 1) := by rw [show (1 : Int32) = nI 1 from rfl, nI_add]
  have c1 : (nI (i + 1)).toNatClampNeg = i + 1 := nI_clamp (by omega)
  obtain ⟨code, r, S1', S7', S8', S9', S10', S11', S12', S13', S14', S15', O', M', hw, hm, ht, ho, q1, q2, q3⟩ := w_mend hR hS S18 (xs (i + 1))
  have th : m_X5_thrown M' = some (M'.1 0 4) := rfl
  unfold m_L_c4
  rw [e1, e4, if_pos i1, c1, hw, pu_some, if_pos i1, hm, pu_some, th, pu_some, if_pos ht]
  by_cases hc : code = 0
  · rw [if_pos hc, if_pos in_01, if_pos (ho hc)]
    exact ⟨S1', S2, S3, S4, S5, S6, S7', S8', S9', S10', S11', S12', S13', S14', S15', S16, M', O', rfl, ⟨q1.mono (by omega), q2.mono (by omega), h4, h6, q3.1.trans h0, len, hT.kp q3⟩⟩
  · rw [if_neg hc]
    exact ⟨S1', S2, S3, S4, S5, S6, S7', S8', S9', S10', S11', S12', S13', S14', S15', S16, M', O', rfl, ⟨q1.mono (by omega), q2.mono (by omega), h4, h6, q3.1.trans h0, len, hT.kp q3⟩⟩
theorem st_5 {b i L : Nat} {xs : Nat → Int32} {k : lw_σ → Option Int32} {S1 S2 S3 S4 S5 S6 S7 S8 S9 S10 S11 S12 S13 S14 S15 S16 : sk_N} {S17 : sk_M} {S18 : sk_O} (h : REL b S1 S2 S4 S6 S7 S8 S9 S10 S11 S12 S13 S14 S15 S16 S17) (hi : i + 4 ≤ L) (hL : L ≤ 2048) (hb : b + 4000 < 2 ^ 28) : GO (b + 4000) (i + 4) k (m_L_c5 L xs k S1 S2 S3 S4 S5 S6 S7 S8 S9 S10 S11 S12 S13 S14 S15 S16 S17 S18 (nI i)) := by
  obtain ⟨hR, hS, h4, h6, h0, len, hT⟩ := id h
  have e4 : nI i + (4 : Int32) = nI (i + 4) := by rw [show (4 : Int32) = nI 4 from rfl, nI_add]
  have i1 : sk_in (nI (i + 1)) L = true := pu_inT (by omega) (by omega)
  have e1 : nI i + (1 : Int32) = nI (i + 1) := by rw [show (1 : Int32) = nI 1 from rfl, nI_add]
  have c1 : (nI (i + 1)).toNatClampNeg = i + 1 := nI_clamp (by omega)
  have i2 : sk_in (nI (i + 2)) L = true := pu_inT (by omega) (by omega)
  have e2 : nI i + (2 : Int32) = nI (i + 2) := by rw [show (2 : Int32) = nI 2 from rfl, nI_add]
  have c2 : (nI (i + 2)).toNatClampNeg = i + 2 := nI_clamp (by omega)
  have i3 : sk_in (nI (i + 3)) L = true := pu_inT (by omega) (by omega)
  have e3 : nI i + (3 : Int32) = nI (i + 3) := by rw [show (3 : Int32) = nI 3 from rfl, nI_add]
  have c3 : (nI (i + 3)).toNatClampNeg = i + 3 := nI_clamp (by omega)
  obtain ⟨code, r, S1', S7', S8', S9', S10', S11', S12', S13', S14', S15', O', M', hw, hm, ht, ho, q1, q2, q3⟩ := w_link hR hS S18 (xs (i + 1)) (xs (i + 2)) (xs (i + 3))
  have th : m_X5_thrown M' = some (M'.1 0 4) := rfl
  unfold m_L_c5
  rw [e1, e2, e3, e4, if_pos i1, if_pos i2, if_pos i3, c1, c2, c3, hw, pu_some, if_pos i1, if_pos i2, if_pos i3, hm, pu_some, th, pu_some, if_pos ht]
  by_cases hc : code = 0
  · rw [if_pos hc, if_pos in_01, if_pos (ho hc)]
    exact ⟨S1', S2, S3, S4, S5, S6, S7', S8', S9', S10', S11', S12', S13', S14', S15', S16, M', O', rfl, ⟨q1.mono (by omega), q2.mono (by omega), h4, h6, q3.1.trans h0, len, hT.kp q3⟩⟩
  · rw [if_neg hc]
    exact ⟨S1', S2, S3, S4, S5, S6, S7', S8', S9', S10', S11', S12', S13', S14', S15', S16, M', O', rfl, ⟨q1.mono (by omega), q2.mono (by omega), h4, h6, q3.1.trans h0, len, hT.kp q3⟩⟩
theorem st_6 {b i L : Nat} {xs : Nat → Int32} {k : lw_σ → Option Int32} {S1 S2 S3 S4 S5 S6 S7 S8 S9 S10 S11 S12 S13 S14 S15 S16 : sk_N} {S17 : sk_M} {S18 : sk_O} (h : REL b S1 S2 S4 S6 S7 S8 S9 S10 S11 S12 S13 S14 S15 S16 S17) (hi : i + 4 ≤ L) (hL : L ≤ 2048) (hb : b + 4000 < 2 ^ 28) : GO (b + 4000) (i + 4) k (m_L_c6 L xs k S1 S2 S3 S4 S5 S6 S7 S8 S9 S10 S11 S12 S13 S14 S15 S16 S17 S18 (nI i)) := by
  obtain ⟨hR, hS, h4, h6, h0, len, hT⟩ := id h
  have e4 : nI i + (4 : Int32) = nI (i + 4) := by rw [show (4 : Int32) = nI 4 from rfl, nI_add]
  have i1 : sk_in (nI (i + 1)) L = true := pu_inT (by omega) (by omega)
  have e1 : nI i + (1 : Int32) = nI (i + 1) := by rw [show (1 : Int32) = nI 1 from rfl, nI_add]
  have c1 : (nI (i + 1)).toNatClampNeg = i + 1 := nI_clamp (by omega)
  have i2 : sk_in (nI (i + 2)) L = true := pu_inT (by omega) (by omega)
  have e2 : nI i + (2 : Int32) = nI (i + 2) := by rw [show (2 : Int32) = nI 2 from rfl, nI_add]
  have c2 : (nI (i + 2)).toNatClampNeg = i + 2 := nI_clamp (by omega)
  obtain ⟨code, r, S1', S7', S8', S9', S10', S11', S12', S13', S14', S15', O', M', hw, hm, ht, ho, q1, q2, q3⟩ := w_unlink hR hS S18 (xs (i + 1)) (xs (i + 2))
  have th : m_X5_thrown M' = some (M'.1 0 4) := rfl
  unfold m_L_c6
  rw [e1, e2, e4, if_pos i1, if_pos i2, c1, c2, hw, pu_some, if_pos i1, if_pos i2, hm, pu_some, th, pu_some, if_pos ht]
  by_cases hc : code = 0
  · rw [if_pos hc, if_pos in_01, if_pos (ho hc)]
    exact ⟨S1', S2, S3, S4, S5, S6, S7', S8', S9', S10', S11', S12', S13', S14', S15', S16, M', O', rfl, ⟨q1.mono (by omega), q2.mono (by omega), h4, h6, q3.1.trans h0, len, hT.kp q3⟩⟩
  · rw [if_neg hc]
    exact ⟨S1', S2, S3, S4, S5, S6, S7', S8', S9', S10', S11', S12', S13', S14', S15', S16, M', O', rfl, ⟨q1.mono (by omega), q2.mono (by omega), h4, h6, q3.1.trans h0, len, hT.kp q3⟩⟩
theorem st_7 {b i L : Nat} {xs : Nat → Int32} {k : lw_σ → Option Int32} {S1 S2 S3 S4 S5 S6 S7 S8 S9 S10 S11 S12 S13 S14 S15 S16 : sk_N} {S17 : sk_M} {S18 : sk_O} (h : REL b S1 S2 S4 S6 S7 S8 S9 S10 S11 S12 S13 S14 S15 S16 S17) (hi : i + 4 ≤ L) (hL : L ≤ 2048) (hb : b + 4000 < 2 ^ 28) : GO (b + 4000) (i + 4) k (m_L_c7 L xs k S1 S2 S3 S4 S5 S6 S7 S8 S9 S10 S11 S12 S13 S14 S15 S16 S17 S18 (nI i)) := by
  obtain ⟨hR, hS, h4, h6, h0, len, hT⟩ := id h
  have e4 : nI i + (4 : Int32) = nI (i + 4) := by rw [show (4 : Int32) = nI 4 from rfl, nI_add]
  have i1 : sk_in (nI (i + 1)) L = true := pu_inT (by omega) (by omega)
  have e1 : nI i + (1 : Int32) = nI (i + 1) := by rw [show (1 : Int32) = nI 1 from rfl, nI_add]
  have c1 : (nI (i + 1)).toNatClampNeg = i + 1 := nI_clamp (by omega)
  obtain ⟨code, r, S1', S7', S8', S9', S10', S11', S12', S13', S14', S15', O', M', hw, hm, ht, ho, q1, q2, q3⟩ := w_setPeriod hR hS S18 (xs (i + 1))
  have th : m_X5_thrown M' = some (M'.1 0 4) := rfl
  unfold m_L_c7
  rw [e1, e4, if_pos i1, c1, hw, pu_some, if_pos i1, hm, pu_some, th, pu_some, if_pos ht]
  by_cases hc : code = 0
  · rw [if_pos hc, if_pos in_01, if_pos (ho hc)]
    exact ⟨S1', S2, S3, S4, S5, S6, S7', S8', S9', S10', S11', S12', S13', S14', S15', S16, M', O', rfl, ⟨q1.mono (by omega), q2.mono (by omega), h4, h6, q3.1.trans h0, len, hT.kp q3⟩⟩
  · rw [if_neg hc]
    exact ⟨S1', S2, S3, S4, S5, S6, S7', S8', S9', S10', S11', S12', S13', S14', S15', S16, M', O', rfl, ⟨q1.mono (by omega), q2.mono (by omega), h4, h6, q3.1.trans h0, len, hT.kp q3⟩⟩
theorem st_8 {b i L : Nat} {xs : Nat → Int32} {k : lw_σ → Option Int32} {S1 S2 S3 S4 S5 S6 S7 S8 S9 S10 S11 S12 S13 S14 S15 S16 : sk_N} {S17 : sk_M} {S18 : sk_O} (h : REL b S1 S2 S4 S6 S7 S8 S9 S10 S11 S12 S13 S14 S15 S16 S17) (hi : i + 4 ≤ L) (hL : L ≤ 2048) (hb : b + 4000 < 2 ^ 28) : GO (b + 4000) (i + 4) k (m_L_c8 L xs k S1 S2 S3 S4 S5 S6 S7 S8 S9 S10 S11 S12 S13 S14 S15 S16 S17 S18 (nI i)) := by
  obtain ⟨hR, hS, h4, h6, h0, len, hT⟩ := id h
  have e4 : nI i + (4 : Int32) = nI (i + 4) := by rw [show (4 : Int32) = nI 4 from rfl, nI_add]
  have i1 : sk_in (nI (i + 1)) L = true := pu_inT (by omega) (by omega)
  have e1 : nI i + (1 : Int32) = nI (i + 1) := by rw [show (1 : Int32) = nI 1 from rfl, nI_add]
  have c1 : (nI (i + 1)).toNatClampNeg = i + 1 := nI_clamp (by omega)
  have i2 : sk_in (nI (i + 2)) L = true := pu_inT (by omega) (by omega)
  have e2 : nI i + (2 : Int32) = nI (i + 2) := by rw [show (2 : Int32) = nI 2 from rfl, nI_add]
  have c2 : (nI (i + 2)).toNatClampNeg = i + 2 := nI_clamp (by omega)
  obtain ⟨code, r, S1', S7', S8', S9', S10', S11', S12', S13', S14', S15', O', M', hw, hm, ht, ho, q1, q2, q3⟩ := w_setResponse hR hS S18 (xs (i + 1)) (xs (i + 2))
  have th : m_X5_thrown M' = some (M'.1 0 4) := rfl
  unfold m_L_c8
  rw [e1, e2, e4, if_pos i1, if_pos i2, c1, c2, hw, pu_some, if_pos i1, if_pos i2, hm, pu_some, th, pu_some, if_pos ht]
  by_cases hc : code = 0
  · rw [if_pos hc, if_pos in_01, if_pos (ho hc)]
    exact ⟨S1', S2, S3, S4, S5, S6, S7', S8', S9', S10', S11', S12', S13', S14', S15', S16, M', O', rfl, ⟨q1.mono (by omega), q2.mono (by omega), h4, h6, q3.1.trans h0, len, hT.kp q3⟩⟩
  · rw [if_neg hc]
    exact ⟨S1', S2, S3, S4, S5, S6, S7', S8', S9', S10', S11', S12', S13', S14', S15', S16, M', O', rfl, ⟨q1.mono (by omega), q2.mono (by omega), h4, h6, q3.1.trans h0, len, hT.kp q3⟩⟩
theorem st_15 {b i L : Nat} {xs : Nat → Int32} {k : lw_σ → Option Int32} {S1 S2 S3 S4 S5 S6 S7 S8 S9 S10 S11 S12 S13 S14 S15 S16 : sk_N} {S17 : sk_M} {S18 : sk_O} (h : REL b S1 S2 S4 S6 S7 S8 S9 S10 S11 S12 S13 S14 S15 S16 S17) (hi : i + 4 ≤ L) (hL : L ≤ 2048) (hb : b + 4000 < 2 ^ 28) : GO (b + 4000) (i + 4) k (m_L_c15 L xs k S1 S2 S3 S4 S5 S6 S7 S8 S9 S10 S11 S12 S13 S14 S15 S16 S17 S18 (nI i)) := by
  obtain ⟨hR, hS, h4, h6, h0, len, hT⟩ := id h
  have e4 : nI i + (4 : Int32) = nI (i + 4) := by rw [show (4 : Int32) = nI 4 from rfl, nI_add]
  have i1 : sk_in (nI (i + 1)) L = true := pu_inT (by omega) (by omega)
  have e1 : nI i + (1 : Int32) = nI (i + 1) := by rw [show (1 : Int32) = nI 1 from rfl, nI_add]
  have c1 : (nI (i + 1)).toNatClampNeg = i + 1 := nI_clamp (by omega)
  obtain ⟨code, r, S1', S2', S7', S8', S9', S10', S11', S12', S13', S14', S15', O', M', hw, hm, ht, ho, q1, q2, q3⟩ := w_tick hR hS h0 (by omega) S18 (xs (i + 1))
  have th : m_X5_thrown M' = some (M'.1 0 4) := rfl
  unfold m_L_c15
  rw [e1, e4, if_pos i1, c1, hw, pu_some, if_pos i1, hm, pu_some, th, pu_some, if_pos ht]
  by_cases hc : code = 0
  · rw [if_pos hc, if_pos in_01, if_pos (ho hc)]
    exact ⟨S1', S2', S3, S4, S5, S6, S7', S8', S9', S10', S11', S12', S13', S14', S15', S16, M', O', rfl, ⟨q1.mono (by omega), q2.mono (by omega), h4, h6, q3.1.trans h0, len, hT.kp q3⟩⟩
  · rw [if_neg hc]
    exact ⟨S1', S2', S3, S4, S5, S6, S7', S8', S9', S10', S11', S12', S13', S14', S15', S16, M', O', rfl, ⟨q1.mono (by omega), q2.mono (by omega), h4, h6, q3.1.trans h0, len, hT.kp q3⟩⟩
theorem st_35 {b i L : Nat} {xs : Nat → Int32} {k : lw_σ → Option Int32} {S1 S2 S3 S4 S5 S6 S7 S8 S9 S10 S11 S12 S13 S14 S15 S16 : sk_N} {S17 : sk_M} {S18 : sk_O} (h : REL b S1 S2 S4 S6 S7 S8 S9 S10 S11 S12 S13 S14 S15 S16 S17) (hi : i + 4 ≤ L) (hL : L ≤ 2048) (hb : b + 4000 < 2 ^ 28) : GO (b + 4000) (i + 4) k (m_L_c35 L xs k S1 S2 S3 S4 S5 S6 S7 S8 S9 S10 S11 S12 S13 S14 S15 S16 S17 S18 (nI i)) := by
  obtain ⟨hR, hS, h4, h6, h0, len, hT⟩ := id h
  have e4 : nI i + (4 : Int32) = nI (i + 4) := by rw [show (4 : Int32) = nI 4 from rfl, nI_add]
  obtain ⟨code, r, S1', S2', S7', O', M', hw, hm, ht, ho, q1, q2, q3⟩ := w_undo hR hS S18
  have th : m_X5_thrown M' = some (M'.1 0 4) := rfl
  unfold m_L_c35
  rw [e4, hw, pu_some, hm, pu_some, th, pu_some, if_pos ht]
  by_cases hc : code = 0
  · rw [if_pos hc, if_pos in_01, if_pos (ho hc)]
    exact ⟨S1', S2', S3, S4, S5, S6, S7', S8, S9, S10, S11, S12, S13, S14, S15, S16, M', O', rfl, ⟨q1.mono (by omega), q2.mono (by omega), h4, h6, q3.1.trans h0, len, hT.kp q3⟩⟩
  · rw [if_neg hc]
    exact ⟨S1', S2', S3, S4, S5, S6, S7', S8, S9, S10, S11, S12, S13, S14, S15, S16, M', O', rfl, ⟨q1.mono (by omega), q2.mono (by omega), h4, h6, q3.1.trans h0, len, hT.kp q3⟩⟩
theorem st_32 {b i L : Nat} {xs : Nat → Int32} {k : lw_σ → Option Int32} {S1 S2 S3 S4 S5 S6 S7 S8 S9 S10 S11 S12 S13 S14 S15 S16 : sk_N} {S17 : sk_M} {S18 : sk_O} (h : REL b S1 S2 S4 S6 S7 S8 S9 S10 S11 S12 S13 S14 S15 S16 S17) (hi : i + 4 ≤ L) (hL : L ≤ 2048) (hb : b + 4000 < 2 ^ 28) : GO (b + 4000) (i + 4) k (m_L_c32 L xs k S1 S2 S3 S4 S5 S6 S7 S8 S9 S10 S11 S12 S13 S14 S15 S16 S17 S18 (nI i)) := by
  obtain ⟨hR, hS, h4, h6, h0, len, hT⟩ := id h
  have e4 : nI i + (4 : Int32) = nI (i + 4) := by rw [show (4 : Int32) = nI 4 from rfl, nI_add]
  have i1 : sk_in (nI (i + 1)) L = true := pu_inT (by omega) (by omega)
  have e1 : nI i + (1 : Int32) = nI (i + 1) := by rw [show (1 : Int32) = nI 1 from rfl, nI_add]
  have c1 : (nI (i + 1)).toNatClampNeg = i + 1 := nI_clamp (by omega)
  obtain ⟨code, r, S16', O', M', len', hw, hm, ht, ho, q1, q2, q3⟩ := w_append hT S18 (xs (i + 1))
  have th : m_X5_thrown M' = some (M'.1 0 4) := rfl
  unfold m_L_c32
  rw [e1, e4, if_pos i1, c1, hw, pu_some, if_pos i1, hm, pu_some, th, pu_some, if_pos ht]
  by_cases hc : code = 0
  · rw [if_pos hc, if_pos in_01, if_pos (ho hc)]
    exact ⟨S1, S2, S3, S4, S5, S6, S7, S8, S9, S10, S11, S12, S13, S14, S15, S16', M', O', rfl, ⟨by rw [q2 1 (by omega) (by omega)]; exact hR.mono (by omega), (hS.keep (q2 2 (by omega) (by omega)) (q3 3 (by omega) (by omega))).mono (by omega), h4, h6, (q3 10 (by omega) (by omega)).trans h0, len', q1⟩⟩
  · rw [if_neg hc]
    exact ⟨S1, S2, S3, S4, S5, S6, S7, S8, S9, S10, S11, S12, S13, S14, S15, S16', M', O', rfl, ⟨by rw [q2 1 (by omega) (by omega)]; exact hR.mono (by omega), (hS.keep (q2 2 (by omega) (by omega)) (q3 3 (by omega) (by omega))).mono (by omega), h4, h6, (q3 10 (by omega) (by omega)).trans h0, len', q1⟩⟩
theorem st_10 {b i L : Nat} {xs : Nat → Int32} {k : lw_σ → Option Int32} {S1 S2 S3 S4 S5 S6 S7 S8 S9 S10 S11 S12 S13 S14 S15 S16 : sk_N} {S17 : sk_M} {S18 : sk_O} (h : REL b S1 S2 S4 S6 S7 S8 S9 S10 S11 S12 S13 S14 S15 S16 S17) (hi : i + 4 ≤ L) (hL : L ≤ 2048) (hb : b + 4000 < 2 ^ 28) : GO (b + 4000) (i + 4) k (m_L_c10 L xs k S1 S2 S3 S4 S5 S6 S7 S8 S9 S10 S11 S12 S13 S14 S15 S16 S17 S18 (nI i)) := by
  obtain ⟨hR, hS, h4, h6, h0, len, hT⟩ := id h
  have e4 : nI i + (4 : Int32) = nI (i + 4) := by rw [show (4 : Int32) = nI 4 from rfl, nI_add]
  have i1 : sk_in (nI (i + 1)) L = true := pu_inT (by omega) (by omega)
  have e1 : nI i + (1 : Int32) = nI (i + 1) := by rw [show (1 : Int32) = nI 1 from rfl, nI_add]
  have c1 : (nI (i + 1)).toNatClampNeg = i + 1 := nI_clamp (by omega)
  have i2 : sk_in (nI (i + 2)) L = true := pu_inT (by omega) (by omega)
  have e2 : nI i + (2 : Int32) = nI (i + 2) := by rw [show (2 : Int32) = nI 2 from rfl, nI_add]
  have c2 : (nI (i + 2)).toNatClampNeg = i + 2 := nI_clamp (by omega)
  obtain ⟨code, r, O', hw, hm, ho⟩ := w_clock hR S18 (xs (i + 1)) (xs (i + 2))
  have th : m_X5_thrown (md_up S17 0 4 code) = some ((md_up S17 0 4 code).1 0 4) := rfl
  unfold m_L_c10
  rw [e1, e2, e4, if_pos i1, if_pos i2, c1, c2, hw, pu_some, if_pos i1, if_pos i2, hm, pu_some, th, pu_some, if_pos u4_v]
  by_cases hc : code = 0
  · rw [if_pos hc, if_pos in_01, if_pos (ho hc)]
    exact ⟨S1, S2, S3, S4, S5, S6, S7, S8, S9, S10, S11, S12, S13, S14, S15, S16, md_up S17 0 4 code, O', rfl, h.u4 (by omega)⟩
  · rw [if_neg hc]
    exact ⟨S1, S2, S3, S4, S5, S6, S7, S8, S9, S10, S11, S12, S13, S14, S15, S16, md_up S17 0 4 code, O', rfl, h.u4 (by omega)⟩
theorem st_11 {b i L : Nat} {xs : Nat → Int32} {k : lw_σ → Option Int32} {S1 S2 S3 S4 S5 S6 S7 S8 S9 S10 S11 S12 S13 S14 S15 S16 : sk_N} {S17 : sk_M} {S18 : sk_O} (h : REL b S1 S2 S4 S6 S7 S8 S9 S10 S11 S12 S13 S14 S15 S16 S17) (hi : i + 4 ≤ L) (hL : L ≤ 2048) (hb : b + 4000 < 2 ^ 28) : GO (b + 4000) (i + 4) k (m_L_c11 L xs k S1 S2 S3 S4 S5 S6 S7 S8 S9 S10 S11 S12 S13 S14 S15 S16 S17 S18 (nI i)) := by
  obtain ⟨hR, hS, h4, h6, h0, len, hT⟩ := id h
  have e4 : nI i + (4 : Int32) = nI (i + 4) := by rw [show (4 : Int32) = nI 4 from rfl, nI_add]
  have i1 : sk_in (nI (i + 1)) L = true := pu_inT (by omega) (by omega)
  have e1 : nI i + (1 : Int32) = nI (i + 1) := by rw [show (1 : Int32) = nI 1 from rfl, nI_add]
  have c1 : (nI (i + 1)).toNatClampNeg = i + 1 := nI_clamp (by omega)
  have i2 : sk_in (nI (i + 2)) L = true := pu_inT (by omega) (by omega)
  have e2 : nI i + (2 : Int32) = nI (i + 2) := by rw [show (2 : Int32) = nI 2 from rfl, nI_add]
  have c2 : (nI (i + 2)).toNatClampNeg = i + 2 := nI_clamp (by omega)
  obtain ⟨code, r, O', hw, hm, ho⟩ := w_linkOf hR S18 (xs (i + 1)) (xs (i + 2))
  have th : m_X5_thrown (md_up S17 0 4 code) = some ((md_up S17 0 4 code).1 0 4) := rfl
  unfold m_L_c11
  rw [e1, e2, e4, if_pos i1, if_pos i2, c1, c2, hw, pu_some, if_pos i1, if_pos i2, hm, pu_some, th, pu_some, if_pos u4_v]
  by_cases hc : code = 0
  · rw [if_pos hc, if_pos in_01, if_pos (ho hc)]
    exact ⟨S1, S2, S3, S4, S5, S6, S7, S8, S9, S10, S11, S12, S13, S14, S15, S16, md_up S17 0 4 code, O', rfl, h.u4 (by omega)⟩
  · rw [if_neg hc]
    exact ⟨S1, S2, S3, S4, S5, S6, S7, S8, S9, S10, S11, S12, S13, S14, S15, S16, md_up S17 0 4 code, O', rfl, h.u4 (by omega)⟩
theorem st_12 {b i L : Nat} {xs : Nat → Int32} {k : lw_σ → Option Int32} {S1 S2 S3 S4 S5 S6 S7 S8 S9 S10 S11 S12 S13 S14 S15 S16 : sk_N} {S17 : sk_M} {S18 : sk_O} (h : REL b S1 S2 S4 S6 S7 S8 S9 S10 S11 S12 S13 S14 S15 S16 S17) (hi : i + 4 ≤ L) (hL : L ≤ 2048) (hb : b + 4000 < 2 ^ 28) : GO (b + 4000) (i + 4) k (m_L_c12 L xs k S1 S2 S3 S4 S5 S6 S7 S8 S9 S10 S11 S12 S13 S14 S15 S16 S17 S18 (nI i)) := by
  obtain ⟨hR, hS, h4, h6, h0, len, hT⟩ := id h
  have e4 : nI i + (4 : Int32) = nI (i + 4) := by rw [show (4 : Int32) = nI 4 from rfl, nI_add]
  have i1 : sk_in (nI (i + 1)) L = true := pu_inT (by omega) (by omega)
  have e1 : nI i + (1 : Int32) = nI (i + 1) := by rw [show (1 : Int32) = nI 1 from rfl, nI_add]
  have c1 : (nI (i + 1)).toNatClampNeg = i + 1 := nI_clamp (by omega)
  have i2 : sk_in (nI (i + 2)) L = true := pu_inT (by omega) (by omega)
  have e2 : nI i + (2 : Int32) = nI (i + 2) := by rw [show (2 : Int32) = nI 2 from rfl, nI_add]
  have c2 : (nI (i + 2)).toNatClampNeg = i + 2 := nI_clamp (by omega)
  obtain ⟨code, r, O', hw, hm, ho⟩ := w_distance hR S18 (xs (i + 1)) (xs (i + 2))
  have th : m_X5_thrown (md_up S17 0 4 code) = some ((md_up S17 0 4 code).1 0 4) := rfl
  unfold m_L_c12
  rw [e1, e2, e4, if_pos i1, if_pos i2, c1, c2, hw, pu_some, if_pos i1, if_pos i2, hm, pu_some, th, pu_some, if_pos u4_v]
  by_cases hc : code = 0
  · rw [if_pos hc, if_pos in_01, if_pos (ho hc)]
    exact ⟨S1, S2, S3, S4, S5, S6, S7, S8, S9, S10, S11, S12, S13, S14, S15, S16, md_up S17 0 4 code, O', rfl, h.u4 (by omega)⟩
  · rw [if_neg hc]
    exact ⟨S1, S2, S3, S4, S5, S6, S7, S8, S9, S10, S11, S12, S13, S14, S15, S16, md_up S17 0 4 code, O', rfl, h.u4 (by omega)⟩
theorem st_22 {b i L : Nat} {xs : Nat → Int32} {k : lw_σ → Option Int32} {S1 S2 S3 S4 S5 S6 S7 S8 S9 S10 S11 S12 S13 S14 S15 S16 : sk_N} {S17 : sk_M} {S18 : sk_O} (h : REL b S1 S2 S4 S6 S7 S8 S9 S10 S11 S12 S13 S14 S15 S16 S17) (hi : i + 4 ≤ L) (hL : L ≤ 2048) (hb : b + 4000 < 2 ^ 28) : GO (b + 4000) (i + 4) k (m_L_c22 L xs k S1 S2 S3 S4 S5 S6 S7 S8 S9 S10 S11 S12 S13 S14 S15 S16 S17 S18 (nI i)) := by
  obtain ⟨hR, hS, h4, h6, h0, len, hT⟩ := id h
  have e4 : nI i + (4 : Int32) = nI (i + 4) := by rw [show (4 : Int32) = nI 4 from rfl, nI_add]
  have i1 : sk_in (nI (i + 1)) L = true := pu_inT (by omega) (by omega)
  have e1 : nI i + (1 : Int32) = nI (i + 1) := by rw [show (1 : Int32) = nI 1 from rfl, nI_add]
  have c1 : (nI (i + 1)).toNatClampNeg = i + 1 := nI_clamp (by omega)
  obtain ⟨code, r, O', hw, hm, ho⟩ := w_groupOf hR S18 (xs (i + 1))
  have th : m_X5_thrown (md_up S17 0 4 code) = some ((md_up S17 0 4 code).1 0 4) := rfl
  unfold m_L_c22
  rw [e1, e4, if_pos i1, c1, hw, pu_some, if_pos i1, hm, pu_some, th, pu_some, if_pos u4_v]
  by_cases hc : code = 0
  · rw [if_pos hc, if_pos in_01, if_pos (ho hc)]
    exact ⟨S1, S2, S3, S4, S5, S6, S7, S8, S9, S10, S11, S12, S13, S14, S15, S16, md_up S17 0 4 code, O', rfl, h.u4 (by omega)⟩
  · rw [if_neg hc]
    exact ⟨S1, S2, S3, S4, S5, S6, S7, S8, S9, S10, S11, S12, S13, S14, S15, S16, md_up S17 0 4 code, O', rfl, h.u4 (by omega)⟩
theorem st_21 {b i L : Nat} {xs : Nat → Int32} {k : lw_σ → Option Int32} {S1 S2 S3 S4 S5 S6 S7 S8 S9 S10 S11 S12 S13 S14 S15 S16 : sk_N} {S17 : sk_M} {S18 : sk_O} (h : REL b S1 S2 S4 S6 S7 S8 S9 S10 S11 S12 S13 S14 S15 S16 S17) (hi : i + 4 ≤ L) (hL : L ≤ 2048) (hb : b + 4000 < 2 ^ 28) : GO (b + 4000) (i + 4) k (m_L_c21 L xs k S1 S2 S3 S4 S5 S6 S7 S8 S9 S10 S11 S12 S13 S14 S15 S16 S17 S18 (nI i)) := by
  obtain ⟨hR, hS, h4, h6, h0, len, hT⟩ := id h
  have e4 : nI i + (4 : Int32) = nI (i + 4) := by rw [show (4 : Int32) = nI 4 from rfl, nI_add]
  have i1 : sk_in (nI (i + 1)) L = true := pu_inT (by omega) (by omega)
  have e1 : nI i + (1 : Int32) = nI (i + 1) := by rw [show (1 : Int32) = nI 1 from rfl, nI_add]
  have c1 : (nI (i + 1)).toNatClampNeg = i + 1 := nI_clamp (by omega)
  have i2 : sk_in (nI (i + 2)) L = true := pu_inT (by omega) (by omega)
  have e2 : nI i + (2 : Int32) = nI (i + 2) := by rw [show (2 : Int32) = nI 2 from rfl, nI_add]
  have c2 : (nI (i + 2)).toNatClampNeg = i + 2 := nI_clamp (by omega)
  unfold m_L_c21
  rw [e1, e2, e4, if_pos i1, if_pos i2, c1, c2]
  by_cases hz : xs (i + 2) = 0
  · obtain ⟨code, r, O', hw, hm, ho⟩ := w_group hR S18 (xs (i + 1)) 0
    have th : m_X5_thrown (md_up S17 0 4 code) = some ((md_up S17 0 4 code).1 0 4) := rfl
    rw [if_pos hz, hw, pu_some, if_pos i1, if_pos i2, if_pos hz, hm, pu_some, th, pu_some, if_pos u4_v]
    by_cases hc : code = 0
    · rw [if_pos hc, if_pos in_01, if_pos (ho hc)]
      exact ⟨S1, S2, S3, S4, S5, S6, S7, S8, S9, S10, S11, S12, S13, S14, S15, S16, md_up S17 0 4 code, O', rfl, h.u4 (by omega)⟩
    · rw [if_neg hc]
      exact ⟨S1, S2, S3, S4, S5, S6, S7, S8, S9, S10, S11, S12, S13, S14, S15, S16, md_up S17 0 4 code, O', rfl, h.u4 (by omega)⟩
  · obtain ⟨code, r, O', hw, hm, ho⟩ := w_group hR S18 (xs (i + 1)) 1
    have th : m_X5_thrown (md_up S17 0 4 code) = some ((md_up S17 0 4 code).1 0 4) := rfl
    rw [if_neg hz, hw, pu_some, if_pos i1, if_pos i2, if_neg hz, hm, pu_some, th, pu_some, if_pos u4_v]
    by_cases hc : code = 0
    · rw [if_pos hc, if_pos in_01, if_pos (ho hc)]
      exact ⟨S1, S2, S3, S4, S5, S6, S7, S8, S9, S10, S11, S12, S13, S14, S15, S16, md_up S17 0 4 code, O', rfl, h.u4 (by omega)⟩
    · rw [if_neg hc]
      exact ⟨S1, S2, S3, S4, S5, S6, S7, S8, S9, S10, S11, S12, S13, S14, S15, S16, md_up S17 0 4 code, O', rfl, h.u4 (by omega)⟩
theorem st_26 {b i L : Nat} {xs : Nat → Int32} {k : lw_σ → Option Int32} {S1 S2 S3 S4 S5 S6 S7 S8 S9 S10 S11 S12 S13 S14 S15 S16 : sk_N} {S17 : sk_M} {S18 : sk_O} (h : REL b S1 S2 S4 S6 S7 S8 S9 S10 S11 S12 S13 S14 S15 S16 S17) (hi : i + 4 ≤ L) (hL : L ≤ 2048) (hb : b + 4000 < 2 ^ 28) : GO (b + 4000) (i + 4) k (m_L_c26 L xs k S1 S2 S3 S4 S5 S6 S7 S8 S9 S10 S11 S12 S13 S14 S15 S16 S17 S18 (nI i)) := by
  obtain ⟨hR, hS, h4, h6, h0, len, hT⟩ := id h
  have e4 : nI i + (4 : Int32) = nI (i + 4) := by rw [show (4 : Int32) = nI 4 from rfl, nI_add]
  have i1 : sk_in (nI (i + 1)) L = true := pu_inT (by omega) (by omega)
  have e1 : nI i + (1 : Int32) = nI (i + 1) := by rw [show (1 : Int32) = nI 1 from rfl, nI_add]
  have c1 : (nI (i + 1)).toNatClampNeg = i + 1 := nI_clamp (by omega)
  have i2 : sk_in (nI (i + 2)) L = true := pu_inT (by omega) (by omega)
  have e2 : nI i + (2 : Int32) = nI (i + 2) := by rw [show (2 : Int32) = nI 2 from rfl, nI_add]
  have c2 : (nI (i + 2)).toNatClampNeg = i + 2 := nI_clamp (by omega)
  unfold m_L_c26
  rw [e1, e2, e4, if_pos i1, if_pos i2, c1, c2]
  by_cases hz : xs (i + 2) = 0
  · obtain ⟨code, r, S5', S6', S3', S4', O', M', hw, hm, ht, ho, q⟩ := w_repeats (S3 := S3) (S5 := S5) h (by omega) S18 (xs (i + 1)) 0
    have th : m_X5_thrown M' = some (M'.1 0 4) := rfl
    rw [if_pos hz, hw, pu_some, if_pos i1, if_pos i2, if_pos hz, hm, pu_some, th, pu_some, if_pos ht]
    by_cases hc : code = 0
    · rw [if_pos hc, if_pos in_01, if_pos (ho hc)]
      exact ⟨S1, S2, S3', S4', S5', S6', S7, S8, S9, S10, S11, S12, S13, S14, S15, S16, M', O', rfl, q.mono (by omega)⟩
    · rw [if_neg hc]
      exact ⟨S1, S2, S3', S4', S5', S6', S7, S8, S9, S10, S11, S12, S13, S14, S15, S16, M', O', rfl, q.mono (by omega)⟩
  · obtain ⟨code, r, S5', S6', S3', S4', O', M', hw, hm, ht, ho, q⟩ := w_repeats (S3 := S3) (S5 := S5) h (by omega) S18 (xs (i + 1)) 1
    have th : m_X5_thrown M' = some (M'.1 0 4) := rfl
    rw [if_neg hz, hw, pu_some, if_pos i1, if_pos i2, if_neg hz, hm, pu_some, th, pu_some, if_pos ht]
    by_cases hc : code = 0
    · rw [if_pos hc, if_pos in_01, if_pos (ho hc)]
      exact ⟨S1, S2, S3', S4', S5', S6', S7, S8, S9, S10, S11, S12, S13, S14, S15, S16, M', O', rfl, q.mono (by omega)⟩
    · rw [if_neg hc]
      exact ⟨S1, S2, S3', S4', S5', S6', S7, S8, S9, S10, S11, S12, S13, S14, S15, S16, M', O', rfl, q.mono (by omega)⟩
theorem st_17 {b i L : Nat} {xs : Nat → Int32} {k : lw_σ → Option Int32} {S1 S2 S3 S4 S5 S6 S7 S8 S9 S10 S11 S12 S13 S14 S15 S16 : sk_N} {S17 : sk_M} {S18 : sk_O} (h : REL b S1 S2 S4 S6 S7 S8 S9 S10 S11 S12 S13 S14 S15 S16 S17) (hi : i + 4 ≤ L) (hL : L ≤ 2048) (hb : b + 4000 < 2 ^ 28) : GO (b + 4000) (i + 4) k (m_L_c17 L xs k S1 S2 S3 S4 S5 S6 S7 S8 S9 S10 S11 S12 S13 S14 S15 S16 S17 S18 (nI i)) := by
  obtain ⟨hR, hS, h4, h6, h0, len, hT⟩ := id h
  have e4 : nI i + (4 : Int32) = nI (i + 4) := by rw [show (4 : Int32) = nI 4 from rfl, nI_add]
  have i1 : sk_in (nI (i + 1)) L = true := pu_inT (by omega) (by omega)
  have e1 : nI i + (1 : Int32) = nI (i + 1) := by rw [show (1 : Int32) = nI 1 from rfl, nI_add]
  have c1 : (nI (i + 1)).toNatClampNeg = i + 1 := nI_clamp (by omega)
  have i2 : sk_in (nI (i + 2)) L = true := pu_inT (by omega) (by omega)
  have e2 : nI i + (2 : Int32) = nI (i + 2) := by rw [show (2 : Int32) = nI 2 from rfl, nI_add]
  have c2 : (nI (i + 2)).toNatClampNeg = i + 2 := nI_clamp (by omega)
  unfold m_L_c17
  rw [e1, e2, e4, if_pos i1, if_pos i2, c1, c2]
  by_cases hz : xs (i + 2) = 0
  · obtain ⟨r, hw, hm⟩ := g_noted hR (xs (i + 1)) 0
    rw [if_pos hz, hw, pu_some, if_pos i1, if_pos i2, if_pos hz, hm, pu_some, if_pos rfl]
    exact ⟨S1, S2, S3, S4, S5, S6, S7, S8, S9, S10, S11, S12, S13, S14, S15, S16, md_up S17 0 4 0, S18, rfl, h.u4 (by omega)⟩
  · obtain ⟨r, hw, hm⟩ := g_noted hR (xs (i + 1)) 1
    rw [if_neg hz, hw, pu_some, if_pos i1, if_pos i2, if_neg hz, hm, pu_some, if_pos rfl]
    exact ⟨S1, S2, S3, S4, S5, S6, S7, S8, S9, S10, S11, S12, S13, S14, S15, S16, md_up S17 0 4 0, S18, rfl, h.u4 (by omega)⟩
theorem st_24 {b i L : Nat} {xs : Nat → Int32} {k : lw_σ → Option Int32} {S1 S2 S3 S4 S5 S6 S7 S8 S9 S10 S11 S12 S13 S14 S15 S16 : sk_N} {S17 : sk_M} {S18 : sk_O} (h : REL b S1 S2 S4 S6 S7 S8 S9 S10 S11 S12 S13 S14 S15 S16 S17) (hi : i + 4 ≤ L) (hL : L ≤ 2048) (hb : b + 4000 < 2 ^ 28) : GO (b + 4000) (i + 4) k (m_L_c24 L xs k S1 S2 S3 S4 S5 S6 S7 S8 S9 S10 S11 S12 S13 S14 S15 S16 S17 S18 (nI i)) := by
  obtain ⟨hR, hS, h4, h6, h0, len, hT⟩ := id h
  have e4 : nI i + (4 : Int32) = nI (i + 4) := by rw [show (4 : Int32) = nI 4 from rfl, nI_add]
  have i1 : sk_in (nI (i + 1)) L = true := pu_inT (by omega) (by omega)
  have e1 : nI i + (1 : Int32) = nI (i + 1) := by rw [show (1 : Int32) = nI 1 from rfl, nI_add]
  have c1 : (nI (i + 1)).toNatClampNeg = i + 1 := nI_clamp (by omega)
  have i2 : sk_in (nI (i + 2)) L = true := pu_inT (by omega) (by omega)
  have e2 : nI i + (2 : Int32) = nI (i + 2) := by rw [show (2 : Int32) = nI 2 from rfl, nI_add]
  have c2 : (nI (i + 2)).toNatClampNeg = i + 2 := nI_clamp (by omega)
  obtain ⟨code, r, S3', S4', O', M', hw, hm, ht, ho, q⟩ := w_ticksUntil (S3 := S3) h (by omega) S18 (xs (i + 1)) (xs (i + 2))
  have th : m_X5_thrown M' = some (M'.1 0 4) := rfl
  unfold m_L_c24
  rw [e1, e2, e4, if_pos i1, if_pos i2, c1, c2, hw, pu_some, if_pos i1, if_pos i2, hm, pu_some, th, pu_some, if_pos ht]
  by_cases hc : code = 0
  · rw [if_pos hc, if_pos in_01, if_pos (ho hc)]
    exact ⟨S1, S2, S3', S4', S5, S6, S7, S8, S9, S10, S11, S12, S13, S14, S15, S16, M', O', rfl, q.mono (by omega)⟩
  · rw [if_neg hc]
    exact ⟨S1, S2, S3', S4', S5, S6, S7, S8, S9, S10, S11, S12, S13, S14, S15, S16, M', O', rfl, q.mono (by omega)⟩
theorem st_25 {b i L : Nat} {xs : Nat → Int32} {k : lw_σ → Option Int32} {S1 S2 S3 S4 S5 S6 S7 S8 S9 S10 S11 S12 S13 S14 S15 S16 : sk_N} {S17 : sk_M} {S18 : sk_O} (h : REL b S1 S2 S4 S6 S7 S8 S9 S10 S11 S12 S13 S14 S15 S16 S17) (hi : i + 4 ≤ L) (hL : L ≤ 2048) (hb : b + 4000 < 2 ^ 28) : GO (b + 4000) (i + 4) k (m_L_c25 L xs k S1 S2 S3 S4 S5 S6 S7 S8 S9 S10 S11 S12 S13 S14 S15 S16 S17 S18 (nI i)) := by
  obtain ⟨hR, hS, h4, h6, h0, len, hT⟩ := id h
  have e4 : nI i + (4 : Int32) = nI (i + 4) := by rw [show (4 : Int32) = nI 4 from rfl, nI_add]
  have i1 : sk_in (nI (i + 1)) L = true := pu_inT (by omega) (by omega)
  have e1 : nI i + (1 : Int32) = nI (i + 1) := by rw [show (1 : Int32) = nI 1 from rfl, nI_add]
  have c1 : (nI (i + 1)).toNatClampNeg = i + 1 := nI_clamp (by omega)
  obtain ⟨code, r, S3', S4', O', M', hw, hm, ht, ho, q⟩ := w_groupsAfter (S3 := S3) h (by omega) S18 (xs (i + 1))
  have th : m_X5_thrown M' = some (M'.1 0 4) := rfl
  unfold m_L_c25
  rw [e1, e4, if_pos i1, c1, hw, pu_some, if_pos i1, hm, pu_some, th, pu_some, if_pos ht]
  by_cases hc : code = 0
  · rw [if_pos hc, if_pos in_01, if_pos (ho hc)]
    exact ⟨S1, S2, S3', S4', S5, S6, S7, S8, S9, S10, S11, S12, S13, S14, S15, S16, M', O', rfl, q.mono (by omega)⟩
  · rw [if_neg hc]
    exact ⟨S1, S2, S3', S4', S5, S6, S7, S8, S9, S10, S11, S12, S13, S14, S15, S16, M', O', rfl, q.mono (by omega)⟩
theorem st_27 {b i L : Nat} {xs : Nat → Int32} {k : lw_σ → Option Int32} {S1 S2 S3 S4 S5 S6 S7 S8 S9 S10 S11 S12 S13 S14 S15 S16 : sk_N} {S17 : sk_M} {S18 : sk_O} (h : REL b S1 S2 S4 S6 S7 S8 S9 S10 S11 S12 S13 S14 S15 S16 S17) (hi : i + 4 ≤ L) (hL : L ≤ 2048) (hb : b + 4000 < 2 ^ 28) : GO (b + 4000) (i + 4) k (m_L_c27 L xs k S1 S2 S3 S4 S5 S6 S7 S8 S9 S10 S11 S12 S13 S14 S15 S16 S17 S18 (nI i)) := by
  obtain ⟨hR, hS, h4, h6, h0, len, hT⟩ := id h
  have e4 : nI i + (4 : Int32) = nI (i + 4) := by rw [show (4 : Int32) = nI 4 from rfl, nI_add]
  have i1 : sk_in (nI (i + 1)) L = true := pu_inT (by omega) (by omega)
  have e1 : nI i + (1 : Int32) = nI (i + 1) := by rw [show (1 : Int32) = nI 1 from rfl, nI_add]
  have c1 : (nI (i + 1)).toNatClampNeg = i + 1 := nI_clamp (by omega)
  obtain ⟨code, r, S3', S4', O', M', hw, hm, ht, ho, q⟩ := w_leastStrength (S3 := S3) h (by omega) S18 (xs (i + 1))
  have th : m_X5_thrown M' = some (M'.1 0 4) := rfl
  unfold m_L_c27
  rw [e1, e4, if_pos i1, c1, hw, pu_some, if_pos i1, hm, pu_some, th, pu_some, if_pos ht]
  by_cases hc : code = 0
  · rw [if_pos hc, if_pos in_01, if_pos (ho hc)]
    exact ⟨S1, S2, S3', S4', S5, S6, S7, S8, S9, S10, S11, S12, S13, S14, S15, S16, M', O', rfl, q.mono (by omega)⟩
  · rw [if_neg hc]
    exact ⟨S1, S2, S3', S4', S5, S6, S7, S8, S9, S10, S11, S12, S13, S14, S15, S16, M', O', rfl, q.mono (by omega)⟩
theorem st_28 {b i L : Nat} {xs : Nat → Int32} {k : lw_σ → Option Int32} {S1 S2 S3 S4 S5 S6 S7 S8 S9 S10 S11 S12 S13 S14 S15 S16 : sk_N} {S17 : sk_M} {S18 : sk_O} (h : REL b S1 S2 S4 S6 S7 S8 S9 S10 S11 S12 S13 S14 S15 S16 S17) (hi : i + 4 ≤ L) (hL : L ≤ 2048) (hb : b + 4000 < 2 ^ 28) : GO (b + 4000) (i + 4) k (m_L_c28 L xs k S1 S2 S3 S4 S5 S6 S7 S8 S9 S10 S11 S12 S13 S14 S15 S16 S17 S18 (nI i)) := by
  obtain ⟨hR, hS, h4, h6, h0, len, hT⟩ := id h
  have e4 : nI i + (4 : Int32) = nI (i + 4) := by rw [show (4 : Int32) = nI 4 from rfl, nI_add]
  have i1 : sk_in (nI (i + 1)) L = true := pu_inT (by omega) (by omega)
  have e1 : nI i + (1 : Int32) = nI (i + 1) := by rw [show (1 : Int32) = nI 1 from rfl, nI_add]
  have c1 : (nI (i + 1)).toNatClampNeg = i + 1 := nI_clamp (by omega)
  have i2 : sk_in (nI (i + 2)) L = true := pu_inT (by omega) (by omega)
  have e2 : nI i + (2 : Int32) = nI (i + 2) := by rw [show (2 : Int32) = nI 2 from rfl, nI_add]
  have c2 : (nI (i + 2)).toNatClampNeg = i + 2 := nI_clamp (by omega)
  obtain ⟨code, r, S3', S4', O', M', hw, hm, ht, ho, q⟩ := w_basin (S3 := S3) h (by omega) S18 (xs (i + 1)) (xs (i + 2))
  have th : m_X5_thrown M' = some (M'.1 0 4) := rfl
  unfold m_L_c28
  rw [e1, e2, e4, if_pos i1, if_pos i2, c1, c2, hw, pu_some, if_pos i1, if_pos i2, hm, pu_some, th, pu_some, if_pos ht]
  by_cases hc : code = 0
  · rw [if_pos hc, if_pos in_01, if_pos (ho hc)]
    exact ⟨S1, S2, S3', S4', S5, S6, S7, S8, S9, S10, S11, S12, S13, S14, S15, S16, M', O', rfl, q.mono (by omega)⟩
  · rw [if_neg hc]
    exact ⟨S1, S2, S3', S4', S5, S6, S7, S8, S9, S10, S11, S12, S13, S14, S15, S16, M', O', rfl, q.mono (by omega)⟩
theorem st_29 {b i L : Nat} {xs : Nat → Int32} {k : lw_σ → Option Int32} {S1 S2 S3 S4 S5 S6 S7 S8 S9 S10 S11 S12 S13 S14 S15 S16 : sk_N} {S17 : sk_M} {S18 : sk_O} (h : REL b S1 S2 S4 S6 S7 S8 S9 S10 S11 S12 S13 S14 S15 S16 S17) (hi : i + 4 ≤ L) (hL : L ≤ 2048) (hb : b + 4000 < 2 ^ 28) : GO (b + 4000) (i + 4) k (m_L_c29 L xs k S1 S2 S3 S4 S5 S6 S7 S8 S9 S10 S11 S12 S13 S14 S15 S16 S17 S18 (nI i)) := by
  obtain ⟨hR, hS, h4, h6, h0, len, hT⟩ := id h
  have e4 : nI i + (4 : Int32) = nI (i + 4) := by rw [show (4 : Int32) = nI 4 from rfl, nI_add]
  have i1 : sk_in (nI (i + 1)) L = true := pu_inT (by omega) (by omega)
  have e1 : nI i + (1 : Int32) = nI (i + 1) := by rw [show (1 : Int32) = nI 1 from rfl, nI_add]
  have c1 : (nI (i + 1)).toNatClampNeg = i + 1 := nI_clamp (by omega)
  have i2 : sk_in (nI (i + 2)) L = true := pu_inT (by omega) (by omega)
  have e2 : nI i + (2 : Int32) = nI (i + 2) := by rw [show (2 : Int32) = nI 2 from rfl, nI_add]
  have c2 : (nI (i + 2)).toNatClampNeg = i + 2 := nI_clamp (by omega)
  obtain ⟨code, r, S3', S4', O', M', hw, hm, ht, ho, q⟩ := w_worstPhase (S3 := S3) h (by omega) S18 (xs (i + 1)) (xs (i + 2))
  have th : m_X5_thrown M' = some (M'.1 0 4) := rfl
  unfold m_L_c29
  rw [e1, e2, e4, if_pos i1, if_pos i2, c1, c2, hw, pu_some, if_pos i1, if_pos i2, hm, pu_some, th, pu_some, if_pos ht]
  by_cases hc : code = 0
  · rw [if_pos hc, if_pos in_01, if_pos (ho hc)]
    exact ⟨S1, S2, S3', S4', S5, S6, S7, S8, S9, S10, S11, S12, S13, S14, S15, S16, M', O', rfl, q.mono (by omega)⟩
  · rw [if_neg hc]
    exact ⟨S1, S2, S3', S4', S5, S6, S7, S8, S9, S10, S11, S12, S13, S14, S15, S16, M', O', rfl, q.mono (by omega)⟩
theorem st_30 {b i L : Nat} {xs : Nat → Int32} {k : lw_σ → Option Int32} {S1 S2 S3 S4 S5 S6 S7 S8 S9 S10 S11 S12 S13 S14 S15 S16 : sk_N} {S17 : sk_M} {S18 : sk_O} (h : REL b S1 S2 S4 S6 S7 S8 S9 S10 S11 S12 S13 S14 S15 S16 S17) (hi : i + 4 ≤ L) (hL : L ≤ 2048) (hb : b + 4000 < 2 ^ 28) : GO (b + 4000) (i + 4) k (m_L_c30 L xs k S1 S2 S3 S4 S5 S6 S7 S8 S9 S10 S11 S12 S13 S14 S15 S16 S17 S18 (nI i)) := by
  obtain ⟨hR, hS, h4, h6, h0, len, hT⟩ := id h
  have e4 : nI i + (4 : Int32) = nI (i + 4) := by rw [show (4 : Int32) = nI 4 from rfl, nI_add]
  have i1 : sk_in (nI (i + 1)) L = true := pu_inT (by omega) (by omega)
  have e1 : nI i + (1 : Int32) = nI (i + 1) := by rw [show (1 : Int32) = nI 1 from rfl, nI_add]
  have c1 : (nI (i + 1)).toNatClampNeg = i + 1 := nI_clamp (by omega)
  obtain ⟨code, r, S3', S4', O', M', hw, hm, ht, ho, q⟩ := w_blamed (S3 := S3) h (by omega) S18 (xs (i + 1))
  have th : m_X5_thrown M' = some (M'.1 0 4) := rfl
  unfold m_L_c30
  rw [e1, e4, if_pos i1, c1, hw, pu_some, if_pos i1, hm, pu_some, th, pu_some, if_pos ht]
  by_cases hc : code = 0
  · rw [if_pos hc, if_pos in_01, if_pos (ho hc)]
    exact ⟨S1, S2, S3', S4', S5, S6, S7, S8, S9, S10, S11, S12, S13, S14, S15, S16, M', O', rfl, q.mono (by omega)⟩
  · rw [if_neg hc]
    exact ⟨S1, S2, S3', S4', S5, S6, S7, S8, S9, S10, S11, S12, S13, S14, S15, S16, M', O', rfl, q.mono (by omega)⟩
theorem st_31 {b i L : Nat} {xs : Nat → Int32} {k : lw_σ → Option Int32} {S1 S2 S3 S4 S5 S6 S7 S8 S9 S10 S11 S12 S13 S14 S15 S16 : sk_N} {S17 : sk_M} {S18 : sk_O} (h : REL b S1 S2 S4 S6 S7 S8 S9 S10 S11 S12 S13 S14 S15 S16 S17) (hi : i + 4 ≤ L) (hL : L ≤ 2048) (hb : b + 4000 < 2 ^ 28) : GO (b + 4000) (i + 4) k (m_L_c31 L xs k S1 S2 S3 S4 S5 S6 S7 S8 S9 S10 S11 S12 S13 S14 S15 S16 S17 S18 (nI i)) := by
  obtain ⟨hR, hS, h4, h6, h0, len, hT⟩ := id h
  have e4 : nI i + (4 : Int32) = nI (i + 4) := by rw [show (4 : Int32) = nI 4 from rfl, nI_add]
  have i1 : sk_in (nI (i + 1)) L = true := pu_inT (by omega) (by omega)
  have e1 : nI i + (1 : Int32) = nI (i + 1) := by rw [show (1 : Int32) = nI 1 from rfl, nI_add]
  have c1 : (nI (i + 1)).toNatClampNeg = i + 1 := nI_clamp (by omega)
  have i2 : sk_in (nI (i + 2)) L = true := pu_inT (by omega) (by omega)
  have e2 : nI i + (2 : Int32) = nI (i + 2) := by rw [show (2 : Int32) = nI 2 from rfl, nI_add]
  have c2 : (nI (i + 2)).toNatClampNeg = i + 2 := nI_clamp (by omega)
  obtain ⟨code, r, S3', S4', O', M', hw, hm, ht, ho, q⟩ := w_firesIn (S3 := S3) h (by omega) S18 (xs (i + 1)) (xs (i + 2))
  have th : m_X5_thrown M' = some (M'.1 0 4) := rfl
  unfold m_L_c31
  rw [e1, e2, e4, if_pos i1, if_pos i2, c1, c2, hw, pu_some, if_pos i1, if_pos i2, hm, pu_some, th, pu_some, if_pos ht]
  by_cases hc : code = 0
  · rw [if_pos hc, if_pos in_01, if_pos (ho hc)]
    exact ⟨S1, S2, S3', S4', S5, S6, S7, S8, S9, S10, S11, S12, S13, S14, S15, S16, M', O', rfl, q.mono (by omega)⟩
  · rw [if_neg hc]
    exact ⟨S1, S2, S3', S4', S5, S6, S7, S8, S9, S10, S11, S12, S13, S14, S15, S16, M', O', rfl, q.mono (by omega)⟩
theorem st_9 {b i L : Nat} {xs : Nat → Int32} {k : lw_σ → Option Int32} {S1 S2 S3 S4 S5 S6 S7 S8 S9 S10 S11 S12 S13 S14 S15 S16 : sk_N} {S17 : sk_M} {S18 : sk_O} (h : REL b S1 S2 S4 S6 S7 S8 S9 S10 S11 S12 S13 S14 S15 S16 S17) (hi : i + 4 ≤ L) (hL : L ≤ 2048) (hb : b + 4000 < 2 ^ 28) : GO (b + 4000) (i + 4) k (m_L_c9 L xs k S1 S2 S3 S4 S5 S6 S7 S8 S9 S10 S11 S12 S13 S14 S15 S16 S17 S18 (nI i)) := by
  obtain ⟨hR, hS, h4, h6, h0, len, hT⟩ := id h
  have e4 : nI i + (4 : Int32) = nI (i + 4) := by rw [show (4 : Int32) = nI 4 from rfl, nI_add]
  obtain ⟨r, hw, hm⟩ := g_clocks hR
  unfold m_L_c9
  rw [e4, hw, pu_some, hm, pu_some, if_pos rfl]
  exact ⟨S1, S2, S3, S4, S5, S6, S7, S8, S9, S10, S11, S12, S13, S14, S15, S16, md_up S17 0 4 0, S18, rfl, h.u4 (by omega)⟩
theorem st_13 {b i L : Nat} {xs : Nat → Int32} {k : lw_σ → Option Int32} {S1 S2 S3 S4 S5 S6 S7 S8 S9 S10 S11 S12 S13 S14 S15 S16 : sk_N} {S17 : sk_M} {S18 : sk_O} (h : REL b S1 S2 S4 S6 S7 S8 S9 S10 S11 S12 S13 S14 S15 S16 S17) (hi : i + 4 ≤ L) (hL : L ≤ 2048) (hb : b + 4000 < 2 ^ 28) : GO (b + 4000) (i + 4) k (m_L_c13 L xs k S1 S2 S3 S4 S5 S6 S7 S8 S9 S10 S11 S12 S13 S14 S15 S16 S17 S18 (nI i)) := by
  obtain ⟨hR, hS, h4, h6, h0, len, hT⟩ := id h
  have e4 : nI i + (4 : Int32) = nI (i + 4) := by rw [show (4 : Int32) = nI 4 from rfl, nI_add]
  obtain ⟨r, hw, hm⟩ := g_components hR
  unfold m_L_c13
  rw [e4, hw, pu_some, hm, pu_some, if_pos rfl]
  exact ⟨S1, S2, S3, S4, S5, S6, S7, S8, S9, S10, S11, S12, S13, S14, S15, S16, md_up S17 0 4 0, S18, rfl, h.u4 (by omega)⟩
theorem st_16 {b i L : Nat} {xs : Nat → Int32} {k : lw_σ → Option Int32} {S1 S2 S3 S4 S5 S6 S7 S8 S9 S10 S11 S12 S13 S14 S15 S16 : sk_N} {S17 : sk_M} {S18 : sk_O} (h : REL b S1 S2 S4 S6 S7 S8 S9 S10 S11 S12 S13 S14 S15 S16 S17) (hi : i + 4 ≤ L) (hL : L ≤ 2048) (hb : b + 4000 < 2 ^ 28) : GO (b + 4000) (i + 4) k (m_L_c16 L xs k S1 S2 S3 S4 S5 S6 S7 S8 S9 S10 S11 S12 S13 S14 S15 S16 S17 S18 (nI i)) := by
  obtain ⟨hR, hS, h4, h6, h0, len, hT⟩ := id h
  have e4 : nI i + (4 : Int32) = nI (i + 4) := by rw [show (4 : Int32) = nI 4 from rfl, nI_add]
  obtain ⟨r, hw, hm⟩ := g_now hR
  unfold m_L_c16
  rw [e4, hw, pu_some, hm, pu_some, if_pos rfl]
  exact ⟨S1, S2, S3, S4, S5, S6, S7, S8, S9, S10, S11, S12, S13, S14, S15, S16, md_up S17 0 4 0, S18, rfl, h.u4 (by omega)⟩
theorem st_18 {b i L : Nat} {xs : Nat → Int32} {k : lw_σ → Option Int32} {S1 S2 S3 S4 S5 S6 S7 S8 S9 S10 S11 S12 S13 S14 S15 S16 : sk_N} {S17 : sk_M} {S18 : sk_O} (h : REL b S1 S2 S4 S6 S7 S8 S9 S10 S11 S12 S13 S14 S15 S16 S17) (hi : i + 4 ≤ L) (hL : L ≤ 2048) (hb : b + 4000 < 2 ^ 28) : GO (b + 4000) (i + 4) k (m_L_c18 L xs k S1 S2 S3 S4 S5 S6 S7 S8 S9 S10 S11 S12 S13 S14 S15 S16 S17 S18 (nI i)) := by
  obtain ⟨hR, hS, h4, h6, h0, len, hT⟩ := id h
  have e4 : nI i + (4 : Int32) = nI (i + 4) := by rw [show (4 : Int32) = nI 4 from rfl, nI_add]
  obtain ⟨r, hw, hm⟩ := g_fired hR
  unfold m_L_c18
  rw [e4, hw, pu_some, hm, pu_some, if_pos rfl]
  exact ⟨S1, S2, S3, S4, S5, S6, S7, S8, S9, S10, S11, S12, S13, S14, S15, S16, md_up S17 0 4 0, S18, rfl, h.u4 (by omega)⟩
theorem st_19 {b i L : Nat} {xs : Nat → Int32} {k : lw_σ → Option Int32} {S1 S2 S3 S4 S5 S6 S7 S8 S9 S10 S11 S12 S13 S14 S15 S16 : sk_N} {S17 : sk_M} {S18 : sk_O} (h : REL b S1 S2 S4 S6 S7 S8 S9 S10 S11 S12 S13 S14 S15 S16 S17) (hi : i + 4 ≤ L) (hL : L ≤ 2048) (hb : b + 4000 < 2 ^ 28) : GO (b + 4000) (i + 4) k (m_L_c19 L xs k S1 S2 S3 S4 S5 S6 S7 S8 S9 S10 S11 S12 S13 S14 S15 S16 S17 S18 (nI i)) := by
  obtain ⟨hR, hS, h4, h6, h0, len, hT⟩ := id h
  have e4 : nI i + (4 : Int32) = nI (i + 4) := by rw [show (4 : Int32) = nI 4 from rfl, nI_add]
  obtain ⟨r, hw, hm⟩ := g_underWay hR
  unfold m_L_c19
  rw [e4, hw, pu_some, hm, pu_some, if_pos rfl]
  exact ⟨S1, S2, S3, S4, S5, S6, S7, S8, S9, S10, S11, S12, S13, S14, S15, S16, md_up S17 0 4 0, S18, rfl, h.u4 (by omega)⟩
theorem st_20 {b i L : Nat} {xs : Nat → Int32} {k : lw_σ → Option Int32} {S1 S2 S3 S4 S5 S6 S7 S8 S9 S10 S11 S12 S13 S14 S15 S16 : sk_N} {S17 : sk_M} {S18 : sk_O} (h : REL b S1 S2 S4 S6 S7 S8 S9 S10 S11 S12 S13 S14 S15 S16 S17) (hi : i + 4 ≤ L) (hL : L ≤ 2048) (hb : b + 4000 < 2 ^ 28) : GO (b + 4000) (i + 4) k (m_L_c20 L xs k S1 S2 S3 S4 S5 S6 S7 S8 S9 S10 S11 S12 S13 S14 S15 S16 S17 S18 (nI i)) := by
  obtain ⟨hR, hS, h4, h6, h0, len, hT⟩ := id h
  have e4 : nI i + (4 : Int32) = nI (i + 4) := by rw [show (4 : Int32) = nI 4 from rfl, nI_add]
  obtain ⟨r, hw, hm⟩ := g_groups hR
  unfold m_L_c20
  rw [e4, hw, pu_some, hm, pu_some, if_pos rfl]
  exact ⟨S1, S2, S3, S4, S5, S6, S7, S8, S9, S10, S11, S12, S13, S14, S15, S16, md_up S17 0 4 0, S18, rfl, h.u4 (by omega)⟩
theorem st_23 {b i L : Nat} {xs : Nat → Int32} {k : lw_σ → Option Int32} {S1 S2 S3 S4 S5 S6 S7 S8 S9 S10 S11 S12 S13 S14 S15 S16 : sk_N} {S17 : sk_M} {S18 : sk_O} (h : REL b S1 S2 S4 S6 S7 S8 S9 S10 S11 S12 S13 S14 S15 S16 S17) (hi : i + 4 ≤ L) (hL : L ≤ 2048) (hb : b + 4000 < 2 ^ 28) : GO (b + 4000) (i + 4) k (m_L_c23 L xs k S1 S2 S3 S4 S5 S6 S7 S8 S9 S10 S11 S12 S13 S14 S15 S16 S17 S18 (nI i)) := by
  obtain ⟨hR, hS, h4, h6, h0, len, hT⟩ := id h
  have e4 : nI i + (4 : Int32) = nI (i + 4) := by rw [show (4 : Int32) = nI 4 from rfl, nI_add]
  obtain ⟨r, hw, hm⟩ := g_spread hR
  unfold m_L_c23
  rw [e4, hw, pu_some, hm, pu_some, if_pos rfl]
  exact ⟨S1, S2, S3, S4, S5, S6, S7, S8, S9, S10, S11, S12, S13, S14, S15, S16, md_up S17 0 4 0, S18, rfl, h.u4 (by omega)⟩
theorem st_14 {b i L : Nat} {xs : Nat → Int32} {k : lw_σ → Option Int32} {S1 S2 S3 S4 S5 S6 S7 S8 S9 S10 S11 S12 S13 S14 S15 S16 : sk_N} {S17 : sk_M} {S18 : sk_O} (h : REL b S1 S2 S4 S6 S7 S8 S9 S10 S11 S12 S13 S14 S15 S16 S17) (hi : i + 4 ≤ L) (hL : L ≤ 2048) (hb : b + 4000 < 2 ^ 28) : GO (b + 4000) (i + 4) k (m_L_c14 L xs k S1 S2 S3 S4 S5 S6 S7 S8 S9 S10 S11 S12 S13 S14 S15 S16 S17 S18 (nI i)) := by
  obtain ⟨hR, hS, h4, h6, h0, len, hT⟩ := id h
  have e4 : nI i + (4 : Int32) = nI (i + 4) := by rw [show (4 : Int32) = nI 4 from rfl, nI_add]
  have i1 : sk_in (nI (i + 1)) L = true := pu_inT (by omega) (by omega)
  have e1 : nI i + (1 : Int32) = nI (i + 1) := by rw [show (1 : Int32) = nI 1 from rfl, nI_add]
  have c1 : (nI (i + 1)).toNatClampNeg = i + 1 := nI_clamp (by omega)
  unfold m_L_c14 m_L_isNeeded
  rw [e1, e4, if_pos i1, c1]
  rcases g_isNeeded hR (xs (i + 1)) with ⟨h1, h2⟩ | ⟨r, r01, h1, h2⟩
  · have th : m_X5_thrown (md_up S17 0 4 1) = some ((md_up S17 0 4 1).1 0 4) := rfl
    rw [h1, pu_he, if_pos rfl, pu_some, if_pos i1, h2, pu_some, th, pu_some, if_pos u4_v, if_neg ne_10]
    exact ⟨S1, S2, S3, S4, S5, S6, S7, S8, S9, S10, S11, S12, S13, S14, S15, S16, md_up S17 0 4 1, S18, rfl, h.u4 (by omega)⟩
  · have th : m_X5_thrown (md_up S17 0 4 0) = some ((md_up S17 0 4 0).1 0 4) := rfl
    unfold m_L_isNeeded_15
    rcases r01 with rfl | rfl
    · rw [h1, pu_hb, if_pos rfl, if_pos in_01, pu_let, pu_some, if_pos i1, h2, pu_some, th, pu_some, if_pos u4_v, if_pos rfl, if_pos in_01, if_pos rfl, if_pos lg_self]
      exact ⟨S1, S2, S3, S4, S5, S6, S7, S8, S9, S10, S11, S12, S13, S14, S15, S16, md_up S17 0 4 0, _, rfl, h.u4 (by omega)⟩
    · rw [h1, pu_hb, if_neg ne_10, if_pos in_01, pu_let, pu_some, if_pos i1, h2, pu_some, th, pu_some, if_pos u4_v, if_pos rfl, if_pos in_01, if_neg ne_10, if_pos lg_self]
      exact ⟨S1, S2, S3, S4, S5, S6, S7, S8, S9, S10, S11, S12, S13, S14, S15, S16, md_up S17 0 4 0, _, rfl, h.u4 (by omega)⟩
theorem st_33 {b i L : Nat} {xs : Nat → Int32} {k : lw_σ → Option Int32} {S1 S2 S3 S4 S5 S6 S7 S8 S9 S10 S11 S12 S13 S14 S15 S16 : sk_N} {S17 : sk_M} {S18 : sk_O} (h : REL b S1 S2 S4 S6 S7 S8 S9 S10 S11 S12 S13 S14 S15 S16 S17) (hi : i + 4 ≤ L) (hL : L ≤ 2048) (hb : b + 4000 < 2 ^ 28) : GO (b + 4000) (i + 4) k (m_L_c33 L xs k S1 S2 S3 S4 S5 S6 S7 S8 S9 S10 S11 S12 S13 S14 S15 S16 S17 S18 (nI i)) := by
  obtain ⟨hR, hS, h4, h6, h0, len, hT⟩ := id h
  have e4 : nI i + (4 : Int32) = nI (i + 4) := by rw [show (4 : Int32) = nI 4 from rfl, nI_add]
  obtain ⟨r, S16', M', hw, hm, q1, q2, q3⟩ := g_clearText hT
  unfold m_L_c33
  rw [e4, hw, pu_some, hm, pu_some, if_pos rfl]
  exact ⟨S1, S2, S3, S4, S5, S6, S7, S8, S9, S10, S11, S12, S13, S14, S15, S16', M', S18, rfl, by rw [q2 1 (by omega)]; exact hR.mono (by omega), (hS.keep (q2 2 (by omega)) (q3 3 (by omega) (by omega))).mono (by omega), h4, h6, (q3 10 (by omega) (by omega)).trans h0, 0, q1⟩
theorem st_34 {b i L : Nat} {xs : Nat → Int32} {k : lw_σ → Option Int32} {S1 S2 S3 S4 S5 S6 S7 S8 S9 S10 S11 S12 S13 S14 S15 S16 : sk_N} {S17 : sk_M} {S18 : sk_O} (h : REL b S1 S2 S4 S6 S7 S8 S9 S10 S11 S12 S13 S14 S15 S16 S17) (hi : i + 4 ≤ L) (hL : L ≤ 2048) (hb : b + 4000 < 2 ^ 28) : GO (b + 4000) (i + 4) k (m_L_c34 L xs k S1 S2 S3 S4 S5 S6 S7 S8 S9 S10 S11 S12 S13 S14 S15 S16 S17 S18 (nI i)) := by
  obtain ⟨hR, hS, h4, h6, h0, len, hT⟩ := id h
  have e4 : nI i + (4 : Int32) = nI (i + 4) := by rw [show (4 : Int32) = nI 4 from rfl, nI_add]
  obtain ⟨r, S1', S2', S7', S8', S9', S10', S11', S12', S13', S14', S15', S16', S3', S4', M', hw, hm, q1, q2, q3, q4, q5⟩ := g_execute (S3 := S3) hR hS h0 hT h4 hb
  unfold m_L_c34
  rw [e4, hw, pu_some, hm, pu_some, if_pos rfl]
  exact ⟨S1', S2', S3', S4', S5, S6, S7', S8', S9', S10', S11', S12', S13', S14', S15', S16', M', S18, rfl, q1, q2, q3, h6, q4, len, q5⟩
theorem st_36 {b i L : Nat} {xs : Nat → Int32} {k : lw_σ → Option Int32} {S1 S2 S3 S4 S5 S6 S7 S8 S9 S10 S11 S12 S13 S14 S15 S16 : sk_N} {S17 : sk_M} {S18 : sk_O} (h : REL b S1 S2 S4 S6 S7 S8 S9 S10 S11 S12 S13 S14 S15 S16 S17) (hi : i + 4 ≤ L) (hL : L ≤ 2048) (hb : b + 4000 < 2 ^ 28) : GO (b + 4000) (i + 4) k (m_L_c36 L xs k S1 S2 S3 S4 S5 S6 S7 S8 S9 S10 S11 S12 S13 S14 S15 S16 S17 S18 (nI i)) := by
  obtain ⟨hR, hS, h4, h6, h0, len, hT⟩ := id h
  have e4 : nI i + (4 : Int32) = nI (i + 4) := by rw [show (4 : Int32) = nI 4 from rfl, nI_add]
  obtain ⟨r, M', hw, hm, q1⟩ := g_digest hR hS hT
  unfold m_L_c36
  rw [e4, hw, pu_some, hm, pu_some, if_pos lg_same]
  have hu := h.u4 (v := 0) (Nat.le_add_right b 4000)
  refine ⟨S1, S2, S3, S4, S5, S6, S7, S8, S9, S10, S11, S12, S13, S14, S15, S16, M', S18, rfl, ?_⟩
  obtain ⟨u1, u2, u3, u4, u5, len', u6⟩ := hu
  exact ⟨by rw [q1]; exact u1, u2.keep (by rw [q1]) (by rw [q1]), u3, u4, by rw [q1]; exact u5, len', u6.kp ⟨by rw [q1], by rw [q1], by rw [q1]⟩⟩
