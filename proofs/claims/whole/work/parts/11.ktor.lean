def z0 : sk_N := fun _ _ => 0
theorem df_X0 : ∀ j, j < 4 → defaultValue (tyX0 j) = vp_V [.null, .null, .int 0, .int 0] j := by
  intro j hj
  match j, hj with
  | 0, _ => rfl
  | 1, _ => rfl
  | 2, _ => rfl
  | 3, _ => rfl
  | j + 4, hj => exact absurd hj (by omega)
theorem df_X1 : ∀ j, j < 14 → defaultValue (tyX1 j) = vp_V [.int 0, .int 0, .null, .int 0, .int 0, .null, .null, .null, .null, .null, .null, .null, .null, .int 0] j := by
  intro j hj
  match j, hj with
  | 0, _ => rfl
  | 1, _ => rfl
  | 2, _ => rfl
  | 3, _ => rfl
  | 4, _ => rfl
  | 5, _ => rfl
  | 6, _ => rfl
  | 7, _ => rfl
  | 8, _ => rfl
  | 9, _ => rfl
  | 10, _ => rfl
  | 11, _ => rfl
  | 12, _ => rfl
  | 13, _ => rfl
  | j + 14, hj => exact absurd hj (by omega)
theorem df_X2 : ∀ j, j < 3 → defaultValue (tyX2 j) = vp_V [.null, .int 0, .int 0] j := by
  intro j hj
  match j, hj with
  | 0, _ => rfl
  | 1, _ => rfl
  | 2, _ => rfl
  | j + 3, hj => exact absurd hj (by omega)
theorem df_X3 : ∀ j, j < 6 → defaultValue (tyX3 j) = vp_V [.int 0, .int 0, .int 0, .null, .null, .null] j := by
  intro j hj
  match j, hj with
  | 0, _ => rfl
  | 1, _ => rfl
  | 2, _ => rfl
  | 3, _ => rfl
  | 4, _ => rfl
  | 5, _ => rfl
  | j + 6, hj => exact absurd hj (by omega)
theorem df_X4 : ∀ j, j < 5 → defaultValue (tyX4 j) = vp_V [.null, .null, .null, .null, .null] j := by
  intro j hj
  match j, hj with
  | 0, _ => rfl
  | 1, _ => rfl
  | 2, _ => rfl
  | 3, _ => rfl
  | 4, _ => rfl
  | j + 5, hj => exact absurd hj (by omega)
theorem df_X5 : ∀ j, j < 16 → defaultValue (tyX5 j) = vp_V [.null, .null, .null, .int 0, .int 0, .null, .int 0, .null, .int 0, .null, .int 0, .null, .null, .int 0, .int 0, .long 0] j := by
  intro j hj
  match j, hj with
  | 0, _ => rfl
  | 1, _ => rfl
  | 2, _ => rfl
  | 3, _ => rfl
  | 4, _ => rfl
  | 5, _ => rfl
  | 6, _ => rfl
  | 7, _ => rfl
  | 8, _ => rfl
  | 9, _ => rfl
  | 10, _ => rfl
  | 11, _ => rfl
  | 12, _ => rfl
  | 13, _ => rfl
  | 14, _ => rfl
  | 15, _ => rfl
  | j + 16, hj => exact absurd hj (by omega)
theorem sk_rep {ρ : Type} {Γ : sk_K} {Φ : ρ → State → Prop} {k n : Nat} {f : Option ρ} {bs bs' : sk_B} {lv : List (Option Value)} {pc : Nat} {st : List Value} (i j : Nat) {w : va_W} {a : Nat} {cA : ClassId} {x x' : vp_A} (hw : bs[i]? = some w) (ha : w[j]? = some (a, .inl (cA, x))) (hx : vp_cell cA x = vp_cell cA x') (hbs : bs.set i (w.set j (a, .inl (cA, x'))) = bs') (kk : sk_S Γ Φ k n f bs' lv pc st) : sk_S Γ Φ k n f bs lv pc st := by
  obtain ⟨p, l', e, R, s, m, args, below, meth, c, G', nL', A⟩ := Γ
  intro r hf H locs ls hP hD hS hl
  subst hbs
  obtain ⟨n0, h0, h1⟩ := sk_flat hw ha
  have hP1 := hP.set (e := .inl (cA, x')) hD h0 (by show H[a]? = some (vp_cell cA x'); rw [← hx]; exact hP n0 _ h0) (fun _ _ => rfl)
  have hD1 := hD.set (e := .inl (cA, x')) h0
  rw [h1] at hP1 hD1
  exact kk r hf H locs ls hP1 hD1 hS hl
theorem sv_cell (cA : ClassId) (b0 b1 b2 b3 : Nat) : vp_cell cA (4, .inr (.inr (.inr (.inr (va_up (va_up (va_up (va_up (fun _ => none) 0 (some b0)) 1 (some b1)) 2 (some b2)) 3 (some b3)))))) = vp_cell cA (4, .inr (.inr (.inr (.inr (sv_f b0 b1 b2 b3))))) := by
  rfl
def kr_X0 : Room := { frames := 1, cells := 2, slots := 120, locals := 12 }
set_option maxHeartbeats 4000000 in
set_option maxRecDepth 100000 in
theorem k_X0 (l : Launch) (G : sk_G) (a : Nat) : sk_ktr l G yX0_init cX0_init 1 kr_X0 2 120 a [(a, .inr (0, [.null, .null, .int 0, .int 0]))] (fun x : Nat → Nat => [lg_W G (va_up x 0 a) z0]) := by
  refine sk_kentry (own := RX0) (ρ := Unit) (f := some ()) (r := ()) rfl (bsf := fun _ => fun x : Nat → Nat => [lg_W G (va_up x 0 a) z0]) rfl (by decide) rfl rfl (lv0 := [some (.ref a)]) rfl (Nat.le_of_ble_eq_true rfl) ?_
  intro Γ sz X AA IN EK Z
  refine sk_aload_n (pc' := 1) X rfl dX0_init_0 rfl ?_
  refine sk_objI (pc' := 4) X q_112 (Nat.le_of_ble_eq_true rfl) (Nat.le_of_ble_eq_true rfl) dX0_init_1 rfl ?_
  refine sk_aload_n (pc' := 5) X rfl dX0_init_4 rfl ?_
  refine sk_bipush (v := 60) (pc' := 7) X (by decide) dX0_init_5 rfl ?_
  refine sk_newa_int (N := 60) (bs2 := fun q1 => [[(a, .inr (0, [.null, .null, .int 0, .int 0]))], [(q1, .inl (G.2 0, 60, .inl (fun _ => 0)))]]) (pc' := 9) X AA (by decide) (by decide) (Nat.le_of_ble_eq_true rfl) (fun _ => rfl) (Nat.le_of_ble_eq_true rfl) (Nat.le_of_ble_eq_true rfl) dX0_init_7 rfl (fun q1 => ?_)
  refine sk_putF (bs' := [[(a, .inr (0, [.ref q1, .null, .int 0, .int 0]))], [(q1, .inl (G.2 0, 60, .inl (fun _ => 0)))]]) (pc' := 12) X IN 0 0 0 in_RX0 tyX0 tyX0_ok nmX0 rfl rfl rfl (Nat.le_of_ble_eq_true rfl) fk_RX0_9 rfl rfl (tyX0_ok 0 (Nat.le_of_ble_eq_true rfl)) rfl rfl (Nat.le_of_ble_eq_true rfl) rfl dX0_init_9 rfl ?_
  refine sk_aload_n (pc' := 13) X rfl dX0_init_12 rfl ?_
  refine sk_bipush (v := 60) (pc' := 15) X (by decide) dX0_init_13 rfl ?_
  refine sk_newa_int (N := 60) (bs2 := fun q2 => [[(a, .inr (0, [.ref q1, .null, .int 0, .int 0]))], [(q1, .inl (G.2 0, 60, .inl (fun _ => 0)))], [(q2, .inl (G.2 0, 60, .inl (fun _ => 0)))]]) (pc' := 17) X AA (by decide) (by decide) (Nat.le_of_ble_eq_true rfl) (fun _ => rfl) (Nat.le_of_ble_eq_true rfl) (Nat.le_of_ble_eq_true rfl) dX0_init_15 rfl (fun q2 => ?_)
  refine sk_putF (bs' := [[(a, .inr (0, [.ref q1, .ref q2, .int 0, .int 0]))], [(q1, .inl (G.2 0, 60, .inl (fun _ => 0)))], [(q2, .inl (G.2 0, 60, .inl (fun _ => 0)))]]) (pc' := 20) X IN 0 0 1 in_RX0 tyX0 tyX0_ok nmX0 rfl rfl rfl (Nat.le_of_ble_eq_true rfl) fk_RX0_15 rfl rfl (tyX0_ok 1 (Nat.le_of_ble_eq_true rfl)) rfl rfl (Nat.le_of_ble_eq_true rfl) rfl dX0_init_17 rfl ?_
  exact sk_kret X Z (fun k : Nat => (if k = 1 then q1 else (if k = 2 then q2 else a))) [0, 1, 2] rfl (by decide) (Nat.le_of_ble_eq_true rfl) (Nat.le_of_ble_eq_true rfl) dX0_init_20
def kr_X3 : Room := { frames := 1, cells := 3, slots := 236, locals := 12 }
set_option maxHeartbeats 4000000 in
set_option maxRecDepth 100000 in
theorem k_X3 (l : Launch) (G : sk_G) (a : Nat) : sk_ktr l G yX3_init cX3_init 1 kr_X3 3 236 a [(a, .inr (3, [.int 0, .int 0, .int 0, .null, .null, .null]))] (fun x : Nat → Nat => [sc_W G (va_up x 0 a) z0]) := by
  refine sk_kentry (own := RX3) (ρ := Unit) (f := some ()) (r := ()) rfl (bsf := fun _ => fun x : Nat → Nat => [sc_W G (va_up x 0 a) z0]) rfl (by decide) rfl rfl (lv0 := [some (.ref a)]) rfl (Nat.le_of_ble_eq_true rfl) ?_
  intro Γ sz X AA IN EK Z
  refine sk_aload_n (pc' := 1) X rfl dX3_init_0 rfl ?_
  refine sk_objI (pc' := 4) X q_204 (Nat.le_of_ble_eq_true rfl) (Nat.le_of_ble_eq_true rfl) dX3_init_1 rfl ?_
  refine sk_aload_n (pc' := 5) X rfl dX3_init_4 rfl ?_
  refine sk_bipush (v := 100) (pc' := 7) X (by decide) dX3_init_5 rfl ?_
  refine sk_newa_byte (N := 100) (bs2 := fun q3 => [[(a, .inr (3, [.int 0, .int 0, .int 0, .null, .null, .null]))], [(q3, .inl (G.2 2, 100, .inl (fun _ => 0)))]]) (pc' := 9) X AA (by decide) (by decide) (Nat.le_of_ble_eq_true rfl) (fun _ => rfl) (Nat.le_of_ble_eq_true rfl) (Nat.le_of_ble_eq_true rfl) dX3_init_7 rfl (fun q3 => ?_)
  refine sk_putF (bs' := [[(a, .inr (3, [.int 0, .int 0, .int 0, .ref q3, .null, .null]))], [(q3, .inl (G.2 2, 100, .inl (fun _ => 0)))]]) (pc' := 12) X IN 0 0 3 in_RX3 tyX3 tyX3_ok nmX3 rfl rfl rfl (Nat.le_of_ble_eq_true rfl) fk_RX3_9 rfl rfl (tyX3_ok 3 (Nat.le_of_ble_eq_true rfl)) rfl rfl (Nat.le_of_ble_eq_true rfl) rfl dX3_init_9 rfl ?_
  refine sk_aload_n (pc' := 13) X rfl dX3_init_12 rfl ?_
  refine sk_bipush (v := 34) (pc' := 15) X (by decide) dX3_init_13 rfl ?_
  refine sk_newa_int (N := 34) (bs2 := fun q4 => [[(a, .inr (3, [.int 0, .int 0, .int 0, .ref q3, .null, .null]))], [(q3, .inl (G.2 2, 100, .inl (fun _ => 0)))], [(q4, .inl (G.2 0, 34, .inl (fun _ => 0)))]]) (pc' := 17) X AA (by decide) (by decide) (Nat.le_of_ble_eq_true rfl) (fun _ => rfl) (Nat.le_of_ble_eq_true rfl) (Nat.le_of_ble_eq_true rfl) dX3_init_15 rfl (fun q4 => ?_)
  refine sk_putF (bs' := [[(a, .inr (3, [.int 0, .int 0, .int 0, .ref q3, .ref q4, .null]))], [(q3, .inl (G.2 2, 100, .inl (fun _ => 0)))], [(q4, .inl (G.2 0, 34, .inl (fun _ => 0)))]]) (pc' := 20) X IN 0 0 4 in_RX3 tyX3 tyX3_ok nmX3 rfl rfl rfl (Nat.le_of_ble_eq_true rfl) fk_RX3_15 rfl rfl (tyX3_ok 4 (Nat.le_of_ble_eq_true rfl)) rfl rfl (Nat.le_of_ble_eq_true rfl) rfl dX3_init_17 rfl ?_
  refine sk_aload_n (pc' := 21) X rfl dX3_init_20 rfl ?_
  refine sk_bipush (v := 102) (pc' := 23) X (by decide) dX3_init_21 rfl ?_
  refine sk_newa_int (N := 102) (bs2 := fun q5 => [[(a, .inr (3, [.int 0, .int 0, .int 0, .ref q3, .ref q4, .null]))], [(q3, .inl (G.2 2, 100, .inl (fun _ => 0)))], [(q4, .inl (G.2 0, 34, .inl (fun _ => 0)))], [(q5, .inl (G.2 0, 102, .inl (fun _ => 0)))]]) (pc' := 25) X AA (by decide) (by decide) (Nat.le_of_ble_eq_true rfl) (fun _ => rfl) (Nat.le_of_ble_eq_true rfl) (Nat.le_of_ble_eq_true rfl) dX3_init_23 rfl (fun q5 => ?_)
  refine sk_putF (bs' := [[(a, .inr (3, [.int 0, .int 0, .int 0, .ref q3, .ref q4, .ref q5]))], [(q3, .inl (G.2 2, 100, .inl (fun _ => 0)))], [(q4, .inl (G.2 0, 34, .inl (fun _ => 0)))], [(q5, .inl (G.2 0, 102, .inl (fun _ => 0)))]]) (pc' := 28) X IN 0 0 5 in_RX3 tyX3 tyX3_ok nmX3 rfl rfl rfl (Nat.le_of_ble_eq_true rfl) fk_RX3_19 rfl rfl (tyX3_ok 5 (Nat.le_of_ble_eq_true rfl)) rfl rfl (Nat.le_of_ble_eq_true rfl) rfl dX3_init_25 rfl ?_
  exact sk_kret X Z (fun k : Nat => (if k = 1 then q3 else (if k = 2 then q4 else (if k = 3 then q5 else a)))) [0, 1, 2, 3] rfl (by decide) (Nat.le_of_ble_eq_true rfl) (Nat.le_of_ble_eq_true rfl) dX3_init_28
def m_X1_init_step (k99 : (Nat → Int32) × Int32 → Option (Nat → Int32)) (s99 : (Nat → Int32) × Int32) : Option (Nat → Int32) := if (100 : Int32) ≤ s99.2 then some s99.1 else if sk_in s99.2 100 then k99 (upd s99.1 (s99.2).toNatClampNeg (-1), s99.2 + 1) else none
def m_X1_init : Option (Nat → Int32) := sk_lp m_X1_init_step sk_fuel (fun _ => 0, 0)
def nt_D : Nat → Int32 := fun k => if k < 100 then -1 else 0
theorem kf_lp1 : ∀ (j n : Nat), j ≤ 100 → 100 - j < n → sk_lp m_X1_init_step n ((fun k => if k < j then -1 else 0), nI j) = some nt_D
  | j, 0, _, h => absurd h (by omega)
  | j, n + 1, hj, hn => by
    rw [sk_lp, m_X1_init_step]
    by_cases h : j = 100
    · subst h
      rw [if_pos (by decide)]
      rfl
    · have hlt : j < 100 := by omega
      have h1 : ¬ (100 : Int32) ≤ nI j := nI_ge (b := 100) hlt (by decide)
      have h2 : sk_in (nI j) 100 = true := sk_in_iff.mpr (vp_in_nI hlt (by decide))
      rw [if_neg h1, if_pos h2]
      have h3 : (upd (fun k => if k < j then (-1 : Int32) else 0) (nI j).toNatClampNeg (-1), nI j + 1) = ((fun k => if k < j + 1 then (-1 : Int32) else 0), nI (j + 1)) := by
        rw [nI_clamp (by omega), nI_1]
        congr 1
        funext k
        unfold upd
        by_cases e1 : k = j
        · subst e1; simp
        · by_cases e2 : k < j
          · simp [e1, e2, Nat.lt_succ_of_lt e2]
          · have : ¬ k < j + 1 := by omega
            simp [e1, e2, this]
      dsimp only at h3 ⊢
      rw [h3]
      exact kf_lp1 (j + 1) n (by omega) (by omega)
theorem kf_X1 : m_X1_init = some nt_D := kf_lp1 0 sk_fuel (by omega) (by unfold sk_fuel; omega)
def nt_S (r : Nat → Int32) : sk_N := fun j => if j = 0 then (fun k => if k = 1 then 40 else 0) else if j = 1 then upd (upd (upd (fun _ => 0) ((0 : Int32)).toNatClampNeg 0) ((1 : Int32)).toNatClampNeg 4) ((2 : Int32)).toNatClampNeg 0 else if j = 6 then r else fun _ => 0
def kr_X1 : Room := { frames := 2, cells := 11, slots := 437, locals := 32 }
set_option maxHeartbeats 4000000 in
set_option maxRecDepth 100000 in
theorem k_X1 (l : Launch) (G : sk_G) (a : Nat) : sk_ktr l G yX1_init cX1_init 2 kr_X1 11 437 a [(a, .inr (1, [.int 0, .int 0, .null, .int 0, .int 0, .null, .null, .null, .null, .null, .null, .null, .null, .int 0]))] (fun x : (Nat → Nat) × (Nat → Nat) => [nt_W G (va_up x.1 0 a) (x.2 0) (nt_S nt_D), lg_W G x.2 z0]) := by
  refine sk_kentry (own := RX1) (ρ := Nat → Int32) (f := m_X1_init) (r := nt_D) kf_X1 (bsf := fun r => fun x : (Nat → Nat) × (Nat → Nat) => [nt_W G (va_up x.1 0 a) (x.2 0) (nt_S r), lg_W G x.2 z0]) rfl (by decide) rfl rfl (lv0 := [some (.ref a), none]) rfl (Nat.le_of_ble_eq_true rfl) ?_
  intro Γ sz X AA IN EK Z
  refine sk_aload_n (pc' := 1) X rfl dX1_init_0 rfl ?_
  refine sk_objI (pc' := 4) X q_106 (Nat.le_of_ble_eq_true rfl) (Nat.le_of_ble_eq_true rfl) dX1_init_1 rfl ?_
  refine sk_aload_n (pc' := 5) X rfl dX1_init_4 rfl ?_
  refine sk_bipush (v := 40) (pc' := 7) X (by decide) dX1_init_5 rfl ?_
  refine sk_putf (bs' := [[(a, .inr (1, [.int 0, .int (40 : Int32), .null, .int 0, .int 0, .null, .null, .null, .null, .null, .null, .null, .null, .int 0]))]]) (pc' := 10) X 0 0 1 in_RX1 tyX1 tyX1_ok nmX1 rfl rfl rfl (Nat.le_of_ble_eq_true rfl) fk_RX1_9 rfl (tyX1_ok 1 (Nat.le_of_ble_eq_true rfl)) rfl rfl (Nat.le_of_ble_eq_true rfl) rfl dX1_init_7 rfl ?_
  refine sk_aload_n (pc' := 11) X rfl dX1_init_10 rfl ?_
  refine sk_iconst (v := 3) (pc' := 12) X (by decide) dX1_init_11 rfl ?_
  refine sk_newa_int (N := 3) (bs2 := fun q6 => [[(a, .inr (1, [.int 0, .int (40 : Int32), .null, .int 0, .int 0, .null, .null, .null, .null, .null, .null, .null, .null, .int 0]))], [(q6, .inl (G.2 0, 3, .inl (fun _ => 0)))]]) (pc' := 14) X AA (by decide) (by decide) (Nat.le_of_ble_eq_true rfl) (fun _ => rfl) (Nat.le_of_ble_eq_true rfl) (Nat.le_of_ble_eq_true rfl) dX1_init_12 rfl (fun q6 => ?_)
  refine sk_dup (pc' := 15) X rfl dX1_init_14 rfl ?_
  refine sk_iconst (v := 0) (pc' := 16) X (by decide) dX1_init_15 rfl ?_
  refine sk_iconst (v := 0) (pc' := 17) X (by decide) dX1_init_16 rfl ?_
  refine sk_true (c := sk_in (0 : Int32) 3 = true) (by decide) (f2 := none) ?_
  refine sk_iast (bs' := [[(a, .inr (1, [.int 0, .int (40 : Int32), .null, .int 0, .int 0, .null, .null, .null, .null, .null, .null, .null, .null, .int 0]))], [(q6, .inl (G.2 0, 3, .inl (upd (fun _ => 0) ((0 : Int32)).toNatClampNeg (0 : Int32))))]]) (pc' := 18) X 1 0 rfl rfl rfl dX1_init_17 rfl ?_
  refine sk_dup (pc' := 19) X rfl dX1_init_18 rfl ?_
  refine sk_iconst (v := 1) (pc' := 20) X (by decide) dX1_init_19 rfl ?_
  refine sk_iconst (v := 4) (pc' := 21) X (by decide) dX1_init_20 rfl ?_
  refine sk_true (c := sk_in (1 : Int32) 3 = true) (by decide) (f2 := none) ?_
  refine sk_iast (bs' := [[(a, .inr (1, [.int 0, .int (40 : Int32), .null, .int 0, .int 0, .null, .null, .null, .null, .null, .null, .null, .null, .int 0]))], [(q6, .inl (G.2 0, 3, .inl (upd (upd (fun _ => 0) ((0 : Int32)).toNatClampNeg (0 : Int32)) ((1 : Int32)).toNatClampNeg (4 : Int32))))]]) (pc' := 22) X 1 0 rfl rfl rfl dX1_init_21 rfl ?_
  refine sk_dup (pc' := 23) X rfl dX1_init_22 rfl ?_
  refine sk_iconst (v := 2) (pc' := 24) X (by decide) dX1_init_23 rfl ?_
  refine sk_iconst (v := 0) (pc' := 25) X (by decide) dX1_init_24 rfl ?_
  refine sk_true (c := sk_in (2 : Int32) 3 = true) (by decide) (f2 := none) ?_
  refine sk_iast (bs' := [[(a, .inr (1, [.int 0, .int (40 : Int32), .null, .int 0, .int 0, .null, .null, .null, .null, .null, .null, .null, .null, .int 0]))], [(q6, .inl (G.2 0, 3, .inl (upd (upd (upd (fun _ => 0) ((0 : Int32)).toNatClampNeg (0 : Int32)) ((1 : Int32)).toNatClampNeg (4 : Int32)) ((2 : Int32)).toNatClampNeg (0 : Int32))))]]) (pc' := 26) X 1 0 rfl rfl rfl dX1_init_25 rfl ?_
  refine sk_putF (bs' := [[(a, .inr (1, [.int 0, .int (40 : Int32), .ref q6, .int 0, .int 0, .null, .null, .null, .null, .null, .null, .null, .null, .int 0]))], [(q6, .inl (G.2 0, 3, .inl (upd (upd (upd (fun _ => 0) ((0 : Int32)).toNatClampNeg (0 : Int32)) ((1 : Int32)).toNatClampNeg (4 : Int32)) ((2 : Int32)).toNatClampNeg (0 : Int32))))]]) (pc' := 29) X IN 0 0 2 in_RX1 tyX1 tyX1_ok nmX1 rfl rfl rfl (Nat.le_of_ble_eq_true rfl) fk_RX1_15 rfl rfl (tyX1_ok 2 (Nat.le_of_ble_eq_true rfl)) rfl rfl (Nat.le_of_ble_eq_true rfl) rfl dX1_init_26 rfl ?_
  refine sk_aload_n (pc' := 30) X rfl dX1_init_29 rfl ?_
  refine sk_new (bs2 := fun q7 => [[(a, .inr (1, [.int 0, .int (40 : Int32), .ref q6, .int 0, .int 0, .null, .null, .null, .null, .null, .null, .null, .null, .int 0]))], [(q6, .inl (G.2 0, 3, .inl (upd (upd (upd (fun _ => 0) ((0 : Int32)).toNatClampNeg (0 : Int32)) ((1 : Int32)).toNatClampNeg (4 : Int32)) ((2 : Int32)).toNatClampNeg (0 : Int32))))], [(q7, .inr (0, [.null, .null, .int 0, .int 0]))]]) (pc' := 33) X AA 0 in_RX0 tyX0 tyX0_ok rfl q_107 q_108 q_80 df_X0 (fun _ => rfl) (Nat.le_of_ble_eq_true rfl) (Nat.le_of_ble_eq_true rfl) dX1_init_30 rfl (fun q7 => ?_)
  refine sk_dup (pc' := 34) X rfl dX1_init_33 rfl ?_
  refine sk_callN (bs2 := fun x8 => [[(a, .inr (1, [.int 0, .int (40 : Int32), .ref q6, .int 0, .int 0, .null, .null, .null, .null, .null, .null, .null, .null, .int 0]))], [(q6, .inl (G.2 0, 3, .inl (upd (upd (upd (fun _ => 0) ((0 : Int32)).toNatClampNeg (0 : Int32)) ((1 : Int32)).toNatClampNeg (4 : Int32)) ((2 : Int32)).toNatClampNeg (0 : Int32))))], (lg_W G (va_up x8 0 q7) z0)]) (bs0 := [[(a, .inr (1, [.int 0, .int (40 : Int32), .ref q6, .int 0, .int 0, .null, .null, .null, .null, .null, .null, .null, .null, .int 0]))], [(q6, .inl (G.2 0, 3, .inl (upd (upd (upd (fun _ => 0) ((0 : Int32)).toNatClampNeg (0 : Int32)) ((1 : Int32)).toNatClampNeg (4 : Int32)) ((2 : Int32)).toNatClampNeg (0 : Int32))))]]) (pc' := 37) X AA EK (k_X0 l G q7) ki_RX1_21 rfl rfl ⟨(Nat.le_of_ble_eq_true rfl), (Nat.le_of_ble_eq_true rfl)⟩ ⟨rfl, rfl⟩ ⟨(Nat.le_of_ble_eq_true rfl), (Nat.le_of_ble_eq_true rfl)⟩ (Nat.le_of_ble_eq_true rfl) dX1_init_34 rfl (fun _ => rfl) (fun x8 => ?_)
  refine sk_putF (bs' := [[(a, .inr (1, [.int 0, .int (40 : Int32), .ref q6, .int 0, .int 0, .ref q7, .null, .null, .null, .null, .null, .null, .null, .int 0]))], [(q6, .inl (G.2 0, 3, .inl (upd (upd (upd (fun _ => 0) ((0 : Int32)).toNatClampNeg (0 : Int32)) ((1 : Int32)).toNatClampNeg (4 : Int32)) ((2 : Int32)).toNatClampNeg (0 : Int32))))], (lg_W G (va_up x8 0 q7) z0)]) (pc' := 40) X IN 0 0 5 in_RX1 tyX1 tyX1_ok nmX1 rfl rfl rfl (Nat.le_of_ble_eq_true rfl) fk_RX1_22 rfl rfl (tyX1_ok 5 (Nat.le_of_ble_eq_true rfl)) rfl rfl (Nat.le_of_ble_eq_true rfl) rfl dX1_init_37 rfl ?_
  refine sk_aload_n (pc' := 41) X rfl dX1_init_40 rfl ?_
  refine sk_bipush (v := 10) (pc' := 43) X (by decide) dX1_init_41 rfl ?_
  refine sk_newa_int (N := 10) (bs2 := fun q9 => [[(a, .inr (1, [.int 0, .int (40 : Int32), .ref q6, .int 0, .int 0, .ref q7, .null, .null, .null, .null, .null, .null, .null, .int 0]))], [(q6, .inl (G.2 0, 3, .inl (upd (upd (upd (fun _ => 0) ((0 : Int32)).toNatClampNeg (0 : Int32)) ((1 : Int32)).toNatClampNeg (4 : Int32)) ((2 : Int32)).toNatClampNeg (0 : Int32))))], (lg_W G (va_up x8 0 q7) z0), [(q9, .inl (G.2 0, 10, .inl (fun _ => 0)))]]) (pc' := 45) X AA (by decide) (by decide) (Nat.le_of_ble_eq_true rfl) (fun _ => rfl) (Nat.le_of_ble_eq_true rfl) (Nat.le_of_ble_eq_true rfl) dX1_init_43 rfl (fun q9 => ?_)
  refine sk_putF (bs' := [[(a, .inr (1, [.int 0, .int (40 : Int32), .ref q6, .int 0, .int 0, .ref q7, .ref q9, .null, .null, .null, .null, .null, .null, .int 0]))], [(q6, .inl (G.2 0, 3, .inl (upd (upd (upd (fun _ => 0) ((0 : Int32)).toNatClampNeg (0 : Int32)) ((1 : Int32)).toNatClampNeg (4 : Int32)) ((2 : Int32)).toNatClampNeg (0 : Int32))))], (lg_W G (va_up x8 0 q7) z0), [(q9, .inl (G.2 0, 10, .inl (fun _ => 0)))]]) (pc' := 48) X IN 0 0 6 in_RX1 tyX1 tyX1_ok nmX1 rfl rfl rfl (Nat.le_of_ble_eq_true rfl) fk_RX1_26 rfl rfl (tyX1_ok 6 (Nat.le_of_ble_eq_true rfl)) rfl rfl (Nat.le_of_ble_eq_true rfl) rfl dX1_init_45 rfl ?_
  refine sk_aload_n (pc' := 49) X rfl dX1_init_48 rfl ?_
  refine sk_bipush (v := 10) (pc' := 51) X (by decide) dX1_init_49 rfl ?_
  refine sk_newa_int (N := 10) (bs2 := fun q10 => [[(a, .inr (1, [.int 0, .int (40 : Int32), .ref q6, .int 0, .int 0, .ref q7, .ref q9, .null, .null, .null, .null, .null, .null, .int 0]))], [(q6, .inl (G.2 0, 3, .inl (upd (upd (upd (fun _ => 0) ((0 : Int32)).toNatClampNeg (0 : Int32)) ((1 : Int32)).toNatClampNeg (4 : Int32)) ((2 : Int32)).toNatClampNeg (0 : Int32))))], (lg_W G (va_up x8 0 q7) z0), [(q9, .inl (G.2 0, 10, .inl (fun _ => 0)))], [(q10, .inl (G.2 0, 10, .inl (fun _ => 0)))]]) (pc' := 53) X AA (by decide) (by decide) (Nat.le_of_ble_eq_true rfl) (fun _ => rfl) (Nat.le_of_ble_eq_true rfl) (Nat.le_of_ble_eq_true rfl) dX1_init_51 rfl (fun q10 => ?_)
  refine sk_putF (bs' := [[(a, .inr (1, [.int 0, .int (40 : Int32), .ref q6, .int 0, .int 0, .ref q7, .ref q9, .ref q10, .null, .null, .null, .null, .null, .int 0]))], [(q6, .inl (G.2 0, 3, .inl (upd (upd (upd (fun _ => 0) ((0 : Int32)).toNatClampNeg (0 : Int32)) ((1 : Int32)).toNatClampNeg (4 : Int32)) ((2 : Int32)).toNatClampNeg (0 : Int32))))], (lg_W G (va_up x8 0 q7) z0), [(q9, .inl (G.2 0, 10, .inl (fun _ => 0)))], [(q10, .inl (G.2 0, 10, .inl (fun _ => 0)))]]) (pc' := 56) X IN 0 0 7 in_RX1 tyX1 tyX1_ok nmX1 rfl rfl rfl (Nat.le_of_ble_eq_true rfl) fk_RX1_29 rfl rfl (tyX1_ok 7 (Nat.le_of_ble_eq_true rfl)) rfl rfl (Nat.le_of_ble_eq_true rfl) rfl dX1_init_53 rfl ?_
  refine sk_aload_n (pc' := 57) X rfl dX1_init_56 rfl ?_
  refine sk_bipush (v := 10) (pc' := 59) X (by decide) dX1_init_57 rfl ?_
  refine sk_newa_int (N := 10) (bs2 := fun q11 => [[(a, .inr (1, [.int 0, .int (40 : Int32), .ref q6, .int 0, .int 0, .ref q7, .ref q9, .ref q10, .null, .null, .null, .null, .null, .int 0]))], [(q6, .inl (G.2 0, 3, .inl (upd (upd (upd (fun _ => 0) ((0 : Int32)).toNatClampNeg (0 : Int32)) ((1 : Int32)).toNatClampNeg (4 : Int32)) ((2 : Int32)).toNatClampNeg (0 : Int32))))], (lg_W G (va_up x8 0 q7) z0), [(q9, .inl (G.2 0, 10, .inl (fun _ => 0)))], [(q10, .inl (G.2 0, 10, .inl (fun _ => 0)))], [(q11, .inl (G.2 0, 10, .inl (fun _ => 0)))]]) (pc' := 61) X AA (by decide) (by decide) (Nat.le_of_ble_eq_true rfl) (fun _ => rfl) (Nat.le_of_ble_eq_true rfl) (Nat.le_of_ble_eq_true rfl) dX1_init_59 rfl (fun q11 => ?_)
  refine sk_putF (bs' := [[(a, .inr (1, [.int 0, .int (40 : Int32), .ref q6, .int 0, .int 0, .ref q7, .ref q9, .ref q10, .ref q11, .null, .null, .null, .null, .int 0]))], [(q6, .inl (G.2 0, 3, .inl (upd (upd (upd (fun _ => 0) ((0 : Int32)).toNatClampNeg (0 : Int32)) ((1 : Int32)).toNatClampNeg (4 : Int32)) ((2 : Int32)).toNatClampNeg (0 : Int32))))], (lg_W G (va_up x8 0 q7) z0), [(q9, .inl (G.2 0, 10, .inl (fun _ => 0)))], [(q10, .inl (G.2 0, 10, .inl (fun _ => 0)))], [(q11, .inl (G.2 0, 10, .inl (fun _ => 0)))]]) (pc' := 64) X IN 0 0 8 in_RX1 tyX1 tyX1_ok nmX1 rfl rfl rfl (Nat.le_of_ble_eq_true rfl) fk_RX1_32 rfl rfl (tyX1_ok 8 (Nat.le_of_ble_eq_true rfl)) rfl rfl (Nat.le_of_ble_eq_true rfl) rfl dX1_init_61 rfl ?_
  refine sk_aload_n (pc' := 65) X rfl dX1_init_64 rfl ?_
  refine sk_bipush (v := 10) (pc' := 67) X (by decide) dX1_init_65 rfl ?_
  refine sk_newa_int (N := 10) (bs2 := fun q12 => [[(a, .inr (1, [.int 0, .int (40 : Int32), .ref q6, .int 0, .int 0, .ref q7, .ref q9, .ref q10, .ref q11, .null, .null, .null, .null, .int 0]))], [(q6, .inl (G.2 0, 3, .inl (upd (upd (upd (fun _ => 0) ((0 : Int32)).toNatClampNeg (0 : Int32)) ((1 : Int32)).toNatClampNeg (4 : Int32)) ((2 : Int32)).toNatClampNeg (0 : Int32))))], (lg_W G (va_up x8 0 q7) z0), [(q9, .inl (G.2 0, 10, .inl (fun _ => 0)))], [(q10, .inl (G.2 0, 10, .inl (fun _ => 0)))], [(q11, .inl (G.2 0, 10, .inl (fun _ => 0)))], [(q12, .inl (G.2 0, 10, .inl (fun _ => 0)))]]) (pc' := 69) X AA (by decide) (by decide) (Nat.le_of_ble_eq_true rfl) (fun _ => rfl) (Nat.le_of_ble_eq_true rfl) (Nat.le_of_ble_eq_true rfl) dX1_init_67 rfl (fun q12 => ?_)
  refine sk_putF (bs' := [[(a, .inr (1, [.int 0, .int (40 : Int32), .ref q6, .int 0, .int 0, .ref q7, .ref q9, .ref q10, .ref q11, .ref q12, .null, .null, .null, .int 0]))], [(q6, .inl (G.2 0, 3, .inl (upd (upd (upd (fun _ => 0) ((0 : Int32)).toNatClampNeg (0 : Int32)) ((1 : Int32)).toNatClampNeg (4 : Int32)) ((2 : Int32)).toNatClampNeg (0 : Int32))))], (lg_W G (va_up x8 0 q7) z0), [(q9, .inl (G.2 0, 10, .inl (fun _ => 0)))], [(q10, .inl (G.2 0, 10, .inl (fun _ => 0)))], [(q11, .inl (G.2 0, 10, .inl (fun _ => 0)))], [(q12, .inl (G.2 0, 10, .inl (fun _ => 0)))]]) (pc' := 72) X IN 0 0 9 in_RX1 tyX1 tyX1_ok nmX1 rfl rfl rfl (Nat.le_of_ble_eq_true rfl) fk_RX1_35 rfl rfl (tyX1_ok 9 (Nat.le_of_ble_eq_true rfl)) rfl rfl (Nat.le_of_ble_eq_true rfl) rfl dX1_init_69 rfl ?_
  refine sk_aload_n (pc' := 73) X rfl dX1_init_72 rfl ?_
  refine sk_bipush (v := 100) (pc' := 75) X (by decide) dX1_init_73 rfl ?_
  refine sk_newa_int (N := 100) (bs2 := fun q13 => [[(a, .inr (1, [.int 0, .int (40 : Int32), .ref q6, .int 0, .int 0, .ref q7, .ref q9, .ref q10, .ref q11, .ref q12, .null, .null, .null, .int 0]))], [(q6, .inl (G.2 0, 3, .inl (upd (upd (upd (fun _ => 0) ((0 : Int32)).toNatClampNeg (0 : Int32)) ((1 : Int32)).toNatClampNeg (4 : Int32)) ((2 : Int32)).toNatClampNeg (0 : Int32))))], (lg_W G (va_up x8 0 q7) z0), [(q9, .inl (G.2 0, 10, .inl (fun _ => 0)))], [(q10, .inl (G.2 0, 10, .inl (fun _ => 0)))], [(q11, .inl (G.2 0, 10, .inl (fun _ => 0)))], [(q12, .inl (G.2 0, 10, .inl (fun _ => 0)))], [(q13, .inl (G.2 0, 100, .inl (fun _ => 0)))]]) (pc' := 77) X AA (by decide) (by decide) (Nat.le_of_ble_eq_true rfl) (fun _ => rfl) (Nat.le_of_ble_eq_true rfl) (Nat.le_of_ble_eq_true rfl) dX1_init_75 rfl (fun q13 => ?_)
  refine sk_putF (bs' := [[(a, .inr (1, [.int 0, .int (40 : Int32), .ref q6, .int 0, .int 0, .ref q7, .ref q9, .ref q10, .ref q11, .ref q12, .ref q13, .null, .null, .int 0]))], [(q6, .inl (G.2 0, 3, .inl (upd (upd (upd (fun _ => 0) ((0 : Int32)).toNatClampNeg (0 : Int32)) ((1 : Int32)).toNatClampNeg (4 : Int32)) ((2 : Int32)).toNatClampNeg (0 : Int32))))], (lg_W G (va_up x8 0 q7) z0), [(q9, .inl (G.2 0, 10, .inl (fun _ => 0)))], [(q10, .inl (G.2 0, 10, .inl (fun _ => 0)))], [(q11, .inl (G.2 0, 10, .inl (fun _ => 0)))], [(q12, .inl (G.2 0, 10, .inl (fun _ => 0)))], [(q13, .inl (G.2 0, 100, .inl (fun _ => 0)))]]) (pc' := 80) X IN 0 0 10 in_RX1 tyX1 tyX1_ok nmX1 rfl rfl rfl (Nat.le_of_ble_eq_true rfl) fk_RX1_38 rfl rfl (tyX1_ok 10 (Nat.le_of_ble_eq_true rfl)) rfl rfl (Nat.le_of_ble_eq_true rfl) rfl dX1_init_77 rfl ?_
  refine sk_aload_n (pc' := 81) X rfl dX1_init_80 rfl ?_
  refine sk_sipush (v := 160) (pc' := 84) X (by decide) dX1_init_81 rfl ?_
  refine sk_newa_int (N := 160) (bs2 := fun q14 => [[(a, .inr (1, [.int 0, .int (40 : Int32), .ref q6, .int 0, .int 0, .ref q7, .ref q9, .ref q10, .ref q11, .ref q12, .ref q13, .null, .null, .int 0]))], [(q6, .inl (G.2 0, 3, .inl (upd (upd (upd (fun _ => 0) ((0 : Int32)).toNatClampNeg (0 : Int32)) ((1 : Int32)).toNatClampNeg (4 : Int32)) ((2 : Int32)).toNatClampNeg (0 : Int32))))], (lg_W G (va_up x8 0 q7) z0), [(q9, .inl (G.2 0, 10, .inl (fun _ => 0)))], [(q10, .inl (G.2 0, 10, .inl (fun _ => 0)))], [(q11, .inl (G.2 0, 10, .inl (fun _ => 0)))], [(q12, .inl (G.2 0, 10, .inl (fun _ => 0)))], [(q13, .inl (G.2 0, 100, .inl (fun _ => 0)))], [(q14, .inl (G.2 0, 160, .inl (fun _ => 0)))]]) (pc' := 86) X AA (by decide) (by decide) (Nat.le_of_ble_eq_true rfl) (fun _ => rfl) (Nat.le_of_ble_eq_true rfl) (Nat.le_of_ble_eq_true rfl) dX1_init_84 rfl (fun q14 => ?_)
  refine sk_putF (bs' := [[(a, .inr (1, [.int 0, .int (40 : Int32), .ref q6, .int 0, .int 0, .ref q7, .ref q9, .ref q10, .ref q11, .ref q12, .ref q13, .ref q14, .null, .int 0]))], [(q6, .inl (G.2 0, 3, .inl (upd (upd (upd (fun _ => 0) ((0 : Int32)).toNatClampNeg (0 : Int32)) ((1 : Int32)).toNatClampNeg (4 : Int32)) ((2 : Int32)).toNatClampNeg (0 : Int32))))], (lg_W G (va_up x8 0 q7) z0), [(q9, .inl (G.2 0, 10, .inl (fun _ => 0)))], [(q10, .inl (G.2 0, 10, .inl (fun _ => 0)))], [(q11, .inl (G.2 0, 10, .inl (fun _ => 0)))], [(q12, .inl (G.2 0, 10, .inl (fun _ => 0)))], [(q13, .inl (G.2 0, 100, .inl (fun _ => 0)))], [(q14, .inl (G.2 0, 160, .inl (fun _ => 0)))]]) (pc' := 89) X IN 0 0 11 in_RX1 tyX1 tyX1_ok nmX1 rfl rfl rfl (Nat.le_of_ble_eq_true rfl) fk_RX1_41 rfl rfl (tyX1_ok 11 (Nat.le_of_ble_eq_true rfl)) rfl rfl (Nat.le_of_ble_eq_true rfl) rfl dX1_init_86 rfl ?_
  refine sk_aload_n (pc' := 90) X rfl dX1_init_89 rfl ?_
  refine sk_bipush (v := 10) (pc' := 92) X (by decide) dX1_init_90 rfl ?_
  refine sk_newa_int (N := 10) (bs2 := fun q15 => [[(a, .inr (1, [.int 0, .int (40 : Int32), .ref q6, .int 0, .int 0, .ref q7, .ref q9, .ref q10, .ref q11, .ref q12, .ref q13, .ref q14, .null, .int 0]))], [(q6, .inl (G.2 0, 3, .inl (upd (upd (upd (fun _ => 0) ((0 : Int32)).toNatClampNeg (0 : Int32)) ((1 : Int32)).toNatClampNeg (4 : Int32)) ((2 : Int32)).toNatClampNeg (0 : Int32))))], (lg_W G (va_up x8 0 q7) z0), [(q9, .inl (G.2 0, 10, .inl (fun _ => 0)))], [(q10, .inl (G.2 0, 10, .inl (fun _ => 0)))], [(q11, .inl (G.2 0, 10, .inl (fun _ => 0)))], [(q12, .inl (G.2 0, 10, .inl (fun _ => 0)))], [(q13, .inl (G.2 0, 100, .inl (fun _ => 0)))], [(q14, .inl (G.2 0, 160, .inl (fun _ => 0)))], [(q15, .inl (G.2 0, 10, .inl (fun _ => 0)))]]) (pc' := 94) X AA (by decide) (by decide) (Nat.le_of_ble_eq_true rfl) (fun _ => rfl) (Nat.le_of_ble_eq_true rfl) (Nat.le_of_ble_eq_true rfl) dX1_init_92 rfl (fun q15 => ?_)
  refine sk_putF (bs' := [[(a, .inr (1, [.int 0, .int (40 : Int32), .ref q6, .int 0, .int 0, .ref q7, .ref q9, .ref q10, .ref q11, .ref q12, .ref q13, .ref q14, .ref q15, .int 0]))], [(q6, .inl (G.2 0, 3, .inl (upd (upd (upd (fun _ => 0) ((0 : Int32)).toNatClampNeg (0 : Int32)) ((1 : Int32)).toNatClampNeg (4 : Int32)) ((2 : Int32)).toNatClampNeg (0 : Int32))))], (lg_W G (va_up x8 0 q7) z0), [(q9, .inl (G.2 0, 10, .inl (fun _ => 0)))], [(q10, .inl (G.2 0, 10, .inl (fun _ => 0)))], [(q11, .inl (G.2 0, 10, .inl (fun _ => 0)))], [(q12, .inl (G.2 0, 10, .inl (fun _ => 0)))], [(q13, .inl (G.2 0, 100, .inl (fun _ => 0)))], [(q14, .inl (G.2 0, 160, .inl (fun _ => 0)))], [(q15, .inl (G.2 0, 10, .inl (fun _ => 0)))]]) (pc' := 97) X IN 0 0 12 in_RX1 tyX1 tyX1_ok nmX1 rfl rfl rfl (Nat.le_of_ble_eq_true rfl) fk_RX1_44 rfl rfl (tyX1_ok 12 (Nat.le_of_ble_eq_true rfl)) rfl rfl (Nat.le_of_ble_eq_true rfl) rfl dX1_init_94 rfl ?_
  refine sk_iconst (v := 0) (pc' := 98) X (by decide) dX1_init_97 rfl ?_
  refine sk_istore_n (lv' := [some (.ref a), some (.int (0 : Int32))]) (pc' := 99) X (Nat.le_of_ble_eq_true rfl) rfl rfl dX1_init_98 rfl ?_
  refine sk_loop (step := m_X1_init_step) (bsf := fun s99 : (Nat → Int32) × Int32 => [[(a, .inr (1, [.int 0, .int (40 : Int32), .ref q6, .int 0, .int 0, .ref q7, .ref q9, .ref q10, .ref q11, .ref q12, .ref q13, .ref q14, .ref q15, .int 0]))], [(q6, .inl (G.2 0, 3, .inl (upd (upd (upd (fun _ => 0) ((0 : Int32)).toNatClampNeg (0 : Int32)) ((1 : Int32)).toNatClampNeg (4 : Int32)) ((2 : Int32)).toNatClampNeg (0 : Int32))))], (lg_W G (va_up x8 0 q7) z0), [(q9, .inl (G.2 0, 10, .inl (fun _ => 0)))], [(q10, .inl (G.2 0, 10, .inl (fun _ => 0)))], [(q11, .inl (G.2 0, 10, .inl (fun _ => 0)))], [(q12, .inl (G.2 0, 10, .inl (fun _ => 0)))], [(q13, .inl (G.2 0, 100, .inl (s99.1)))], [(q14, .inl (G.2 0, 160, .inl (fun _ => 0)))], [(q15, .inl (G.2 0, 10, .inl (fun _ => 0)))]]) (lvf := fun s99 => [some (.ref a), some (.int s99.2)]) ?_ sk_fuel (fun _ => 0, 0)
  intro k99 s99 ih99
  unfold m_X1_init_step
  refine sk_iload_n (pc' := 100) X rfl dX1_init_99 rfl ?_
  refine sk_aload_n (pc' := 101) X rfl dX1_init_100 rfl ?_
  refine sk_getf (pc' := 104) X 0 0 10 in_RX1 rfl rfl rfl (Nat.le_of_ble_eq_true rfl) fk_RX1_38 rfl dX1_init_101 rfl ?_
  refine sk_alen (v := 100) (pc' := 105) X 7 0 0 rfl rfl rfl rfl dX1_init_104 rfl ?_
  refine sk_icmp_ge (tgt := 121) (pc' := 108) X dX1_init_105 rfl rfl ?_ ?_
  · exact sk_kret (r := s99.1) X Z ((fun k : Nat => (if k = 1 then q6 else (if k = 2 then q9 else (if k = 3 then q10 else (if k = 4 then q11 else (if k = 5 then q12 else (if k = 6 then q13 else (if k = 7 then q14 else (if k = 8 then q15 else a))))))))), va_up x8 0 q7) [0, 1, 5, 6, 7, 8, 9, 10, 11, 2, 3, 4] rfl (by decide) (Nat.le_of_ble_eq_true rfl) (Nat.le_of_ble_eq_true rfl) dX1_init_121
  · refine sk_aload_n (pc' := 109) X rfl dX1_init_108 rfl ?_
    refine sk_getf (pc' := 112) X 0 0 10 in_RX1 rfl rfl rfl (Nat.le_of_ble_eq_true rfl) fk_RX1_38 rfl dX1_init_109 rfl ?_
    refine sk_iload_n (pc' := 113) X rfl dX1_init_112 rfl ?_
    refine sk_iconst (v := -1) (pc' := 114) X (by decide) dX1_init_113 rfl ?_
    refine sk_iast (bs' := [[(a, .inr (1, [.int 0, .int (40 : Int32), .ref q6, .int 0, .int 0, .ref q7, .ref q9, .ref q10, .ref q11, .ref q12, .ref q13, .ref q14, .ref q15, .int 0]))], [(q6, .inl (G.2 0, 3, .inl (upd (upd (upd (fun _ => 0) ((0 : Int32)).toNatClampNeg (0 : Int32)) ((1 : Int32)).toNatClampNeg (4 : Int32)) ((2 : Int32)).toNatClampNeg (0 : Int32))))], (lg_W G (va_up x8 0 q7) z0), [(q9, .inl (G.2 0, 10, .inl (fun _ => 0)))], [(q10, .inl (G.2 0, 10, .inl (fun _ => 0)))], [(q11, .inl (G.2 0, 10, .inl (fun _ => 0)))], [(q12, .inl (G.2 0, 10, .inl (fun _ => 0)))], [(q13, .inl (G.2 0, 100, .inl (upd (s99.1) (s99.2).toNatClampNeg (-1 : Int32))))], [(q14, .inl (G.2 0, 160, .inl (fun _ => 0)))], [(q15, .inl (G.2 0, 10, .inl (fun _ => 0)))]]) (pc' := 115) X 7 0 rfl rfl rfl dX1_init_114 rfl ?_
    refine sk_iinc (lv' := [some (.ref a), some (.int (s99.2 + (1 : Int32)))]) (d := 1) (pc' := 118) X rfl (by decide) (Nat.le_of_ble_eq_true rfl) rfl rfl dX1_init_115 rfl ?_
    refine sk_goto (tgt := 99) X dX1_init_118 rfl ?_
    exact ih99 (upd s99.1 (s99.2).toNatClampNeg (-1), s99.2 + 1)
def md_N0 : Nat → Int32 := upd (upd (fun _ => 0) ((0 : Int32)).toNatClampNeg (40 : Int32)) ((2 : Int32)).toNatClampNeg (4 : Int32)
def m_X5_init_step (k89 : (Nat → Int32) × Int32 → Option (Nat → Int32)) (s89 : (Nat → Int32) × Int32) : Option (Nat → Int32) := if (100 : Int32) ≤ s89.2 then some s89.1 else if sk_in ((58 : Int32) + s89.2) 378 then k89 (upd s89.1 (((58 : Int32) + s89.2)).toNatClampNeg (-1), s89.2 + 1) else none
def m_X5_init : Option (Nat → Int32) := sk_lp m_X5_init_step sk_fuel (md_N0, 0)
def md_D (j : Nat) : Nat → Int32 := fun k => if 58 ≤ k ∧ k < 58 + j then -1 else md_N0 k
theorem kf_lp5 : ∀ (j n : Nat), j ≤ 100 → 100 - j < n → sk_lp m_X5_init_step n (md_D j, nI j) = some (md_D 100)
  | j, 0, _, h => absurd h (by omega)
  | j, n + 1, hj, hn => by
    rw [sk_lp, m_X5_init_step]
    by_cases h : j = 100
    · subst h
      rw [if_pos (by decide)]
    · have hlt : j < 100 := by omega
      have h1 : ¬ (100 : Int32) ≤ nI j := nI_ge (b := 100) hlt (by decide)
      have h0 : (58 : Int32) + nI j = nI (58 + j) := nI_add 58 j
      have h2 : sk_in ((58 : Int32) + nI j) 378 = true := by rw [h0]; exact sk_in_iff.mpr (vp_in_nI (by omega) (by decide))
      rw [if_neg h1, if_pos h2]
      have h3 : (upd (md_D j) ((58 : Int32) + nI j).toNatClampNeg (-1), nI j + 1) = (md_D (j + 1), nI (j + 1)) := by
        rw [h0, nI_clamp (by omega), nI_1]
        congr 1
        funext k
        unfold upd md_D
        by_cases e1 : k = 58 + j
        · subst e1; simp
        · by_cases e2 : 58 ≤ k ∧ k < 58 + j
          · have : 58 ≤ k ∧ k < 58 + (j + 1) := by omega
            simp only [if_neg e1, if_pos e2, if_pos this]
          · have : ¬ (58 ≤ k ∧ k < 58 + (j + 1)) := by omega
            simp only [if_neg e1, if_neg e2, if_neg this]
      dsimp only at h3 ⊢
      rw [h3]
      exact kf_lp5 (j + 1) n (by omega) (by omega)
theorem md_D0 : md_D 0 = md_N0 := by
  funext k
  unfold md_D
  rw [if_neg (by omega)]
theorem kf_X5 : m_X5_init = some (md_D 100) := by
  unfold m_X5_init
  rw [← md_D0]
  exact kf_lp5 0 sk_fuel (by omega) (by unfold sk_fuel; omega)
def md_S (r : Nat → Int32) : sk_M := ((fun j => if j = 1 then r else fun _ => 0), 0)
def kr_X5 : Room := { frames := 1, cells := 8, slots := 50798, locals := 12 }
set_option maxHeartbeats 4000000 in
set_option maxRecDepth 100000 in
theorem k_X5 (l : Launch) (G : sk_G) (a : Nat) : sk_ktr l G yX5_init cX5_init 2 kr_X5 8 50798 a [(a, .inr (5, [.null, .null, .null, .int 0, .int 0, .null, .int 0, .null, .int 0, .null, .int 0, .null, .null, .int 0, .int 0, .long 0]))] (fun x : Nat → Nat => [md_W G (va_up x 0 a) (md_S (md_D 100))]) := by
  refine sk_kentry (own := RX5) (ρ := Nat → Int32) (f := m_X5_init) (r := (md_D 100)) kf_X5 (bsf := fun r => fun x : Nat → Nat => [md_W G (va_up x 0 a) (md_S r)]) rfl (by decide) rfl rfl (lv0 := [some (.ref a), none]) rfl (Nat.le_of_ble_eq_true rfl) ?_
  intro Γ sz X AA IN EK Z
  refine sk_aload_n (pc' := 1) X rfl dX5_init_0 rfl ?_
  refine sk_objI (pc' := 4) X q_943 (Nat.le_of_ble_eq_true rfl) (Nat.le_of_ble_eq_true rfl) dX5_init_1 rfl ?_
  refine sk_aload_n (pc' := 5) X rfl dX5_init_4 rfl ?_
  refine sk_sipush (v := 378) (pc' := 8) X (by decide) dX5_init_5 rfl ?_
  refine sk_newa_int (N := 378) (bs2 := fun q16 => [[(a, .inr (5, [.null, .null, .null, .int 0, .int 0, .null, .int 0, .null, .int 0, .null, .int 0, .null, .null, .int 0, .int 0, .long 0]))], [(q16, .inl (G.2 0, 378, .inl (fun _ => 0)))]]) (pc' := 10) X AA (by decide) (by decide) (Nat.le_of_ble_eq_true rfl) (fun _ => rfl) (Nat.le_of_ble_eq_true rfl) (Nat.le_of_ble_eq_true rfl) dX5_init_8 rfl (fun q16 => ?_)
  refine sk_putF (bs' := [[(a, .inr (5, [.ref q16, .null, .null, .int 0, .int 0, .null, .int 0, .null, .int 0, .null, .int 0, .null, .null, .int 0, .int 0, .long 0]))], [(q16, .inl (G.2 0, 378, .inl (fun _ => 0)))]]) (pc' := 13) X IN 0 0 0 in_RX5 tyX5 tyX5_ok nmX5 rfl rfl rfl (Nat.le_of_ble_eq_true rfl) fk_RX5_7 rfl rfl (tyX5_ok 0 (Nat.le_of_ble_eq_true rfl)) rfl rfl (Nat.le_of_ble_eq_true rfl) rfl dX5_init_10 rfl ?_
  refine sk_aload_n (pc' := 14) X rfl dX5_init_13 rfl ?_
  refine sk_sipush (v := 1512) (pc' := 17) X (by decide) dX5_init_14 rfl ?_
  refine sk_newa_int (N := 1512) (bs2 := fun q17 => [[(a, .inr (5, [.ref q16, .null, .null, .int 0, .int 0, .null, .int 0, .null, .int 0, .null, .int 0, .null, .null, .int 0, .int 0, .long 0]))], [(q16, .inl (G.2 0, 378, .inl (fun _ => 0)))], [(q17, .inl (G.2 0, 1512, .inl (fun _ => 0)))]]) (pc' := 19) X AA (by decide) (by decide) (Nat.le_of_ble_eq_true rfl) (fun _ => rfl) (Nat.le_of_ble_eq_true rfl) (Nat.le_of_ble_eq_true rfl) dX5_init_17 rfl (fun q17 => ?_)
  refine sk_putF (bs' := [[(a, .inr (5, [.ref q16, .ref q17, .null, .int 0, .int 0, .null, .int 0, .null, .int 0, .null, .int 0, .null, .null, .int 0, .int 0, .long 0]))], [(q16, .inl (G.2 0, 378, .inl (fun _ => 0)))], [(q17, .inl (G.2 0, 1512, .inl (fun _ => 0)))]]) (pc' := 22) X IN 0 0 1 in_RX5 tyX5 tyX5_ok nmX5 rfl rfl rfl (Nat.le_of_ble_eq_true rfl) fk_RX5_13 rfl rfl (tyX5_ok 1 (Nat.le_of_ble_eq_true rfl)) rfl rfl (Nat.le_of_ble_eq_true rfl) rfl dX5_init_19 rfl ?_
  refine sk_aload_n (pc' := 23) X rfl dX5_init_22 rfl ?_
  refine sk_sipush (v := 378) (pc' := 26) X (by decide) dX5_init_23 rfl ?_
  refine sk_newa_int (N := 378) (bs2 := fun q18 => [[(a, .inr (5, [.ref q16, .ref q17, .null, .int 0, .int 0, .null, .int 0, .null, .int 0, .null, .int 0, .null, .null, .int 0, .int 0, .long 0]))], [(q16, .inl (G.2 0, 378, .inl (fun _ => 0)))], [(q17, .inl (G.2 0, 1512, .inl (fun _ => 0)))], [(q18, .inl (G.2 0, 378, .inl (fun _ => 0)))]]) (pc' := 28) X AA (by decide) (by decide) (Nat.le_of_ble_eq_true rfl) (fun _ => rfl) (Nat.le_of_ble_eq_true rfl) (Nat.le_of_ble_eq_true rfl) dX5_init_26 rfl (fun q18 => ?_)
  refine sk_putF (bs' := [[(a, .inr (5, [.ref q16, .ref q17, .ref q18, .int 0, .int 0, .null, .int 0, .null, .int 0, .null, .int 0, .null, .null, .int 0, .int 0, .long 0]))], [(q16, .inl (G.2 0, 378, .inl (fun _ => 0)))], [(q17, .inl (G.2 0, 1512, .inl (fun _ => 0)))], [(q18, .inl (G.2 0, 378, .inl (fun _ => 0)))]]) (pc' := 31) X IN 0 0 2 in_RX5 tyX5 tyX5_ok nmX5 rfl rfl rfl (Nat.le_of_ble_eq_true rfl) fk_RX5_16 rfl rfl (tyX5_ok 2 (Nat.le_of_ble_eq_true rfl)) rfl rfl (Nat.le_of_ble_eq_true rfl) rfl dX5_init_28 rfl ?_
  refine sk_aload_n (pc' := 32) X rfl dX5_init_31 rfl ?_
  refine sk_bipush (v := 100) (pc' := 34) X (by decide) dX5_init_32 rfl ?_
  refine sk_newa_int (N := 100) (bs2 := fun q19 => [[(a, .inr (5, [.ref q16, .ref q17, .ref q18, .int 0, .int 0, .null, .int 0, .null, .int 0, .null, .int 0, .null, .null, .int 0, .int 0, .long 0]))], [(q16, .inl (G.2 0, 378, .inl (fun _ => 0)))], [(q17, .inl (G.2 0, 1512, .inl (fun _ => 0)))], [(q18, .inl (G.2 0, 378, .inl (fun _ => 0)))], [(q19, .inl (G.2 0, 100, .inl (fun _ => 0)))]]) (pc' := 36) X AA (by decide) (by decide) (Nat.le_of_ble_eq_true rfl) (fun _ => rfl) (Nat.le_of_ble_eq_true rfl) (Nat.le_of_ble_eq_true rfl) dX5_init_34 rfl (fun q19 => ?_)
  refine sk_putF (bs' := [[(a, .inr (5, [.ref q16, .ref q17, .ref q18, .int 0, .int 0, .ref q19, .int 0, .null, .int 0, .null, .int 0, .null, .null, .int 0, .int 0, .long 0]))], [(q16, .inl (G.2 0, 378, .inl (fun _ => 0)))], [(q17, .inl (G.2 0, 1512, .inl (fun _ => 0)))], [(q18, .inl (G.2 0, 378, .inl (fun _ => 0)))], [(q19, .inl (G.2 0, 100, .inl (fun _ => 0)))]]) (pc' := 39) X IN 0 0 5 in_RX5 tyX5 tyX5_ok nmX5 rfl rfl rfl (Nat.le_of_ble_eq_true rfl) fk_RX5_19 rfl rfl (tyX5_ok 5 (Nat.le_of_ble_eq_true rfl)) rfl rfl (Nat.le_of_ble_eq_true rfl) rfl dX5_init_36 rfl ?_
  refine sk_aload_n (pc' := 40) X rfl dX5_init_39 rfl ?_
  refine sk_bipush (v := 10) (pc' := 42) X (by decide) dX5_init_40 rfl ?_
  refine sk_newa_int (N := 10) (bs2 := fun q20 => [[(a, .inr (5, [.ref q16, .ref q17, .ref q18, .int 0, .int 0, .ref q19, .int 0, .null, .int 0, .null, .int 0, .null, .null, .int 0, .int 0, .long 0]))], [(q16, .inl (G.2 0, 378, .inl (fun _ => 0)))], [(q17, .inl (G.2 0, 1512, .inl (fun _ => 0)))], [(q18, .inl (G.2 0, 378, .inl (fun _ => 0)))], [(q19, .inl (G.2 0, 100, .inl (fun _ => 0)))], [(q20, .inl (G.2 0, 10, .inl (fun _ => 0)))]]) (pc' := 44) X AA (by decide) (by decide) (Nat.le_of_ble_eq_true rfl) (fun _ => rfl) (Nat.le_of_ble_eq_true rfl) (Nat.le_of_ble_eq_true rfl) dX5_init_42 rfl (fun q20 => ?_)
  refine sk_putF (bs' := [[(a, .inr (5, [.ref q16, .ref q17, .ref q18, .int 0, .int 0, .ref q19, .int 0, .ref q20, .int 0, .null, .int 0, .null, .null, .int 0, .int 0, .long 0]))], [(q16, .inl (G.2 0, 378, .inl (fun _ => 0)))], [(q17, .inl (G.2 0, 1512, .inl (fun _ => 0)))], [(q18, .inl (G.2 0, 378, .inl (fun _ => 0)))], [(q19, .inl (G.2 0, 100, .inl (fun _ => 0)))], [(q20, .inl (G.2 0, 10, .inl (fun _ => 0)))]]) (pc' := 47) X IN 0 0 7 in_RX5 tyX5 tyX5_ok nmX5 rfl rfl rfl (Nat.le_of_ble_eq_true rfl) fk_RX5_22 rfl rfl (tyX5_ok 7 (Nat.le_of_ble_eq_true rfl)) rfl rfl (Nat.le_of_ble_eq_true rfl) rfl dX5_init_44 rfl ?_
  refine sk_aload_n (pc' := 48) X rfl dX5_init_47 rfl ?_
  refine sk_bipush (v := 100) (pc' := 50) X (by decide) dX5_init_48 rfl ?_
  refine sk_newa_int (N := 100) (bs2 := fun q21 => [[(a, .inr (5, [.ref q16, .ref q17, .ref q18, .int 0, .int 0, .ref q19, .int 0, .ref q20, .int 0, .null, .int 0, .null, .null, .int 0, .int 0, .long 0]))], [(q16, .inl (G.2 0, 378, .inl (fun _ => 0)))], [(q17, .inl (G.2 0, 1512, .inl (fun _ => 0)))], [(q18, .inl (G.2 0, 378, .inl (fun _ => 0)))], [(q19, .inl (G.2 0, 100, .inl (fun _ => 0)))], [(q20, .inl (G.2 0, 10, .inl (fun _ => 0)))], [(q21, .inl (G.2 0, 100, .inl (fun _ => 0)))]]) (pc' := 52) X AA (by decide) (by decide) (Nat.le_of_ble_eq_true rfl) (fun _ => rfl) (Nat.le_of_ble_eq_true rfl) (Nat.le_of_ble_eq_true rfl) dX5_init_50 rfl (fun q21 => ?_)
  refine sk_putF (bs' := [[(a, .inr (5, [.ref q16, .ref q17, .ref q18, .int 0, .int 0, .ref q19, .int 0, .ref q20, .int 0, .ref q21, .int 0, .null, .null, .int 0, .int 0, .long 0]))], [(q16, .inl (G.2 0, 378, .inl (fun _ => 0)))], [(q17, .inl (G.2 0, 1512, .inl (fun _ => 0)))], [(q18, .inl (G.2 0, 378, .inl (fun _ => 0)))], [(q19, .inl (G.2 0, 100, .inl (fun _ => 0)))], [(q20, .inl (G.2 0, 10, .inl (fun _ => 0)))], [(q21, .inl (G.2 0, 100, .inl (fun _ => 0)))]]) (pc' := 55) X IN 0 0 9 in_RX5 tyX5 tyX5_ok nmX5 rfl rfl rfl (Nat.le_of_ble_eq_true rfl) fk_RX5_25 rfl rfl (tyX5_ok 9 (Nat.le_of_ble_eq_true rfl)) rfl rfl (Nat.le_of_ble_eq_true rfl) rfl dX5_init_52 rfl ?_
  refine sk_aload_n (pc' := 56) X rfl dX5_init_55 rfl ?_
  refine sk_ldc (pc' := 58) X q_944 dX5_init_56 rfl ?_
  refine sk_newa_int (N := 48120) (bs2 := fun q22 => [[(a, .inr (5, [.ref q16, .ref q17, .ref q18, .int 0, .int 0, .ref q19, .int 0, .ref q20, .int 0, .ref q21, .int 0, .null, .null, .int 0, .int 0, .long 0]))], [(q16, .inl (G.2 0, 378, .inl (fun _ => 0)))], [(q17, .inl (G.2 0, 1512, .inl (fun _ => 0)))], [(q18, .inl (G.2 0, 378, .inl (fun _ => 0)))], [(q19, .inl (G.2 0, 100, .inl (fun _ => 0)))], [(q20, .inl (G.2 0, 10, .inl (fun _ => 0)))], [(q21, .inl (G.2 0, 100, .inl (fun _ => 0)))], [(q22, .inl (G.2 0, 48120, .inl (fun _ => 0)))]]) (pc' := 60) X AA (by decide) (by decide) (Nat.le_of_ble_eq_true rfl) (fun _ => rfl) (Nat.le_of_ble_eq_true rfl) (Nat.le_of_ble_eq_true rfl) dX5_init_58 rfl (fun q22 => ?_)
  refine sk_putF (bs' := [[(a, .inr (5, [.ref q16, .ref q17, .ref q18, .int 0, .int 0, .ref q19, .int 0, .ref q20, .int 0, .ref q21, .int 0, .ref q22, .null, .int 0, .int 0, .long 0]))], [(q16, .inl (G.2 0, 378, .inl (fun _ => 0)))], [(q17, .inl (G.2 0, 1512, .inl (fun _ => 0)))], [(q18, .inl (G.2 0, 378, .inl (fun _ => 0)))], [(q19, .inl (G.2 0, 100, .inl (fun _ => 0)))], [(q20, .inl (G.2 0, 10, .inl (fun _ => 0)))], [(q21, .inl (G.2 0, 100, .inl (fun _ => 0)))], [(q22, .inl (G.2 0, 48120, .inl (fun _ => 0)))]]) (pc' := 63) X IN 0 0 11 in_RX5 tyX5 tyX5_ok nmX5 rfl rfl rfl (Nat.le_of_ble_eq_true rfl) fk_RX5_29 rfl rfl (tyX5_ok 11 (Nat.le_of_ble_eq_true rfl)) rfl rfl (Nat.le_of_ble_eq_true rfl) rfl dX5_init_60 rfl ?_
  refine sk_aload_n (pc' := 64) X rfl dX5_init_63 rfl ?_
  refine sk_sipush (v := 200) (pc' := 67) X (by decide) dX5_init_64 rfl ?_
  refine sk_newa_int (N := 200) (bs2 := fun q23 => [[(a, .inr (5, [.ref q16, .ref q17, .ref q18, .int 0, .int 0, .ref q19, .int 0, .ref q20, .int 0, .ref q21, .int 0, .ref q22, .null, .int 0, .int 0, .long 0]))], [(q16, .inl (G.2 0, 378, .inl (fun _ => 0)))], [(q17, .inl (G.2 0, 1512, .inl (fun _ => 0)))], [(q18, .inl (G.2 0, 378, .inl (fun _ => 0)))], [(q19, .inl (G.2 0, 100, .inl (fun _ => 0)))], [(q20, .inl (G.2 0, 10, .inl (fun _ => 0)))], [(q21, .inl (G.2 0, 100, .inl (fun _ => 0)))], [(q22, .inl (G.2 0, 48120, .inl (fun _ => 0)))], [(q23, .inl (G.2 0, 200, .inl (fun _ => 0)))]]) (pc' := 69) X AA (by decide) (by decide) (Nat.le_of_ble_eq_true rfl) (fun _ => rfl) (Nat.le_of_ble_eq_true rfl) (Nat.le_of_ble_eq_true rfl) dX5_init_67 rfl (fun q23 => ?_)
  refine sk_putF (bs' := [[(a, .inr (5, [.ref q16, .ref q17, .ref q18, .int 0, .int 0, .ref q19, .int 0, .ref q20, .int 0, .ref q21, .int 0, .ref q22, .ref q23, .int 0, .int 0, .long 0]))], [(q16, .inl (G.2 0, 378, .inl (fun _ => 0)))], [(q17, .inl (G.2 0, 1512, .inl (fun _ => 0)))], [(q18, .inl (G.2 0, 378, .inl (fun _ => 0)))], [(q19, .inl (G.2 0, 100, .inl (fun _ => 0)))], [(q20, .inl (G.2 0, 10, .inl (fun _ => 0)))], [(q21, .inl (G.2 0, 100, .inl (fun _ => 0)))], [(q22, .inl (G.2 0, 48120, .inl (fun _ => 0)))], [(q23, .inl (G.2 0, 200, .inl (fun _ => 0)))]]) (pc' := 72) X IN 0 0 12 in_RX5 tyX5 tyX5_ok nmX5 rfl rfl rfl (Nat.le_of_ble_eq_true rfl) fk_RX5_32 rfl rfl (tyX5_ok 12 (Nat.le_of_ble_eq_true rfl)) rfl rfl (Nat.le_of_ble_eq_true rfl) rfl dX5_init_69 rfl ?_
  refine sk_aload_n (pc' := 73) X rfl dX5_init_72 rfl ?_
  refine sk_getf (pc' := 76) X 0 0 0 in_RX5 rfl rfl rfl (Nat.le_of_ble_eq_true rfl) fk_RX5_7 rfl dX5_init_73 rfl ?_
  refine sk_iconst (v := 0) (pc' := 77) X (by decide) dX5_init_76 rfl ?_
  refine sk_bipush (v := 40) (pc' := 79) X (by decide) dX5_init_77 rfl ?_
  refine sk_true (c := sk_in (0 : Int32) 378 = true) (by decide) (f2 := none) ?_
  refine sk_iast (bs' := [[(a, .inr (5, [.ref q16, .ref q17, .ref q18, .int 0, .int 0, .ref q19, .int 0, .ref q20, .int 0, .ref q21, .int 0, .ref q22, .ref q23, .int 0, .int 0, .long 0]))], [(q16, .inl (G.2 0, 378, .inl (upd (fun _ => 0) ((0 : Int32)).toNatClampNeg (40 : Int32))))], [(q17, .inl (G.2 0, 1512, .inl (fun _ => 0)))], [(q18, .inl (G.2 0, 378, .inl (fun _ => 0)))], [(q19, .inl (G.2 0, 100, .inl (fun _ => 0)))], [(q20, .inl (G.2 0, 10, .inl (fun _ => 0)))], [(q21, .inl (G.2 0, 100, .inl (fun _ => 0)))], [(q22, .inl (G.2 0, 48120, .inl (fun _ => 0)))], [(q23, .inl (G.2 0, 200, .inl (fun _ => 0)))]]) (pc' := 80) X 1 0 rfl rfl rfl dX5_init_79 rfl ?_
  refine sk_aload_n (pc' := 81) X rfl dX5_init_80 rfl ?_
  refine sk_getf (pc' := 84) X 0 0 0 in_RX5 rfl rfl rfl (Nat.le_of_ble_eq_true rfl) fk_RX5_7 rfl dX5_init_81 rfl ?_
  refine sk_iconst (v := 2) (pc' := 85) X (by decide) dX5_init_84 rfl ?_
  refine sk_iconst (v := 4) (pc' := 86) X (by decide) dX5_init_85 rfl ?_
  refine sk_true (c := sk_in (2 : Int32) 378 = true) (by decide) (f2 := none) ?_
  refine sk_iast (bs' := [[(a, .inr (5, [.ref q16, .ref q17, .ref q18, .int 0, .int 0, .ref q19, .int 0, .ref q20, .int 0, .ref q21, .int 0, .ref q22, .ref q23, .int 0, .int 0, .long 0]))], [(q16, .inl (G.2 0, 378, .inl (upd (upd (fun _ => 0) ((0 : Int32)).toNatClampNeg (40 : Int32)) ((2 : Int32)).toNatClampNeg (4 : Int32))))], [(q17, .inl (G.2 0, 1512, .inl (fun _ => 0)))], [(q18, .inl (G.2 0, 378, .inl (fun _ => 0)))], [(q19, .inl (G.2 0, 100, .inl (fun _ => 0)))], [(q20, .inl (G.2 0, 10, .inl (fun _ => 0)))], [(q21, .inl (G.2 0, 100, .inl (fun _ => 0)))], [(q22, .inl (G.2 0, 48120, .inl (fun _ => 0)))], [(q23, .inl (G.2 0, 200, .inl (fun _ => 0)))]]) (pc' := 87) X 1 0 rfl rfl rfl dX5_init_86 rfl ?_
  refine sk_iconst (v := 0) (pc' := 88) X (by decide) dX5_init_87 rfl ?_
  refine sk_istore_n (lv' := [some (.ref a), some (.int (0 : Int32))]) (pc' := 89) X (Nat.le_of_ble_eq_true rfl) rfl rfl dX5_init_88 rfl ?_
  refine sk_loop (step := m_X5_init_step) (bsf := fun s89 : (Nat → Int32) × Int32 => [[(a, .inr (5, [.ref q16, .ref q17, .ref q18, .int 0, .int 0, .ref q19, .int 0, .ref q20, .int 0, .ref q21, .int 0, .ref q22, .ref q23, .int 0, .int 0, .long 0]))], [(q16, .inl (G.2 0, 378, .inl (s89.1)))], [(q17, .inl (G.2 0, 1512, .inl (fun _ => 0)))], [(q18, .inl (G.2 0, 378, .inl (fun _ => 0)))], [(q19, .inl (G.2 0, 100, .inl (fun _ => 0)))], [(q20, .inl (G.2 0, 10, .inl (fun _ => 0)))], [(q21, .inl (G.2 0, 100, .inl (fun _ => 0)))], [(q22, .inl (G.2 0, 48120, .inl (fun _ => 0)))], [(q23, .inl (G.2 0, 200, .inl (fun _ => 0)))]]) (lvf := fun s89 => [some (.ref a), some (.int s89.2)]) ?_ sk_fuel (md_N0, 0)
  intro k89 s89 ih89
  unfold m_X5_init_step
  refine sk_iload_n (pc' := 90) X rfl dX5_init_89 rfl ?_
  refine sk_bipush (v := 100) (pc' := 92) X (by decide) dX5_init_90 rfl ?_
  refine sk_icmp_ge (tgt := 111) (pc' := 95) X dX5_init_92 rfl rfl ?_ ?_
  · exact sk_kret (r := s89.1) X Z (fun k : Nat => (if k = 1 then q16 else (if k = 2 then q17 else (if k = 3 then q18 else (if k = 4 then q19 else (if k = 5 then q20 else (if k = 6 then q21 else (if k = 7 then q22 else (if k = 8 then q23 else a))))))))) [0, 1, 2, 3, 4, 5, 6, 7, 8] rfl (by decide) (Nat.le_of_ble_eq_true rfl) (Nat.le_of_ble_eq_true rfl) dX5_init_111
  · refine sk_aload_n (pc' := 96) X rfl dX5_init_95 rfl ?_
    refine sk_getf (pc' := 99) X 0 0 0 in_RX5 rfl rfl rfl (Nat.le_of_ble_eq_true rfl) fk_RX5_7 rfl dX5_init_96 rfl ?_
    refine sk_bipush (v := 58) (pc' := 101) X (by decide) dX5_init_99 rfl ?_
    refine sk_iload_n (pc' := 102) X rfl dX5_init_101 rfl ?_
    refine sk_iadd (pc' := 103) X dX5_init_102 rfl ?_
    refine sk_iconst (v := -1) (pc' := 104) X (by decide) dX5_init_103 rfl ?_
    refine sk_iast (bs' := [[(a, .inr (5, [.ref q16, .ref q17, .ref q18, .int 0, .int 0, .ref q19, .int 0, .ref q20, .int 0, .ref q21, .int 0, .ref q22, .ref q23, .int 0, .int 0, .long 0]))], [(q16, .inl (G.2 0, 378, .inl (upd (s89.1) (((58 : Int32) + s89.2)).toNatClampNeg (-1 : Int32))))], [(q17, .inl (G.2 0, 1512, .inl (fun _ => 0)))], [(q18, .inl (G.2 0, 378, .inl (fun _ => 0)))], [(q19, .inl (G.2 0, 100, .inl (fun _ => 0)))], [(q20, .inl (G.2 0, 10, .inl (fun _ => 0)))], [(q21, .inl (G.2 0, 100, .inl (fun _ => 0)))], [(q22, .inl (G.2 0, 48120, .inl (fun _ => 0)))], [(q23, .inl (G.2 0, 200, .inl (fun _ => 0)))]]) (pc' := 105) X 1 0 rfl rfl rfl dX5_init_104 rfl ?_
    refine sk_iinc (lv' := [some (.ref a), some (.int (s89.2 + (1 : Int32)))]) (d := 1) (pc' := 108) X rfl (by decide) (Nat.le_of_ble_eq_true rfl) rfl rfl dX5_init_105 rfl ?_
    refine sk_goto (tgt := 89) X dX5_init_108 rfl ?_
    exact ih89 (upd s89.1 (((58 : Int32) + s89.2)).toNatClampNeg (-1), s89.2 + 1)
def kr_X2 : Room := { frames := 3, cells := 49, slots := 1808, locals := 53 }
set_option maxHeartbeats 4000000 in
set_option maxRecDepth 100000 in
theorem k_X2 (l : Launch) (G : sk_G) (a : Nat) : sk_ktr l G yX2_init cX2_init 2 kr_X2 49 1808 a [(a, .inr (2, [.null, .int 0, .int 0]))] (fun x : Nat → Nat → Nat => [sv_W G (va_up (x 0) 0 a) (x 1 0) (x 3 0) (x 5 0) (x 7 0) z0, nt_W G (x 1) (x 2 0) (nt_S nt_D), lg_W G (x 2) z0, nt_W G (x 3) (x 4 0) (nt_S nt_D), lg_W G (x 4) z0, nt_W G (x 5) (x 6 0) (nt_S nt_D), lg_W G (x 6) z0, nt_W G (x 7) (x 8 0) (nt_S nt_D), lg_W G (x 8) z0]) := by
  refine sk_kentry (own := RX2) (ρ := Unit) (f := some ()) (r := ()) rfl (bsf := fun _ => fun x : Nat → Nat → Nat => [sv_W G (va_up (x 0) 0 a) (x 1 0) (x 3 0) (x 5 0) (x 7 0) z0, nt_W G (x 1) (x 2 0) (nt_S nt_D), lg_W G (x 2) z0, nt_W G (x 3) (x 4 0) (nt_S nt_D), lg_W G (x 4) z0, nt_W G (x 5) (x 6 0) (nt_S nt_D), lg_W G (x 6) z0, nt_W G (x 7) (x 8 0) (nt_S nt_D), lg_W G (x 8) z0]) rfl (by decide) rfl rfl (lv0 := [some (.ref a), none]) rfl (Nat.le_of_ble_eq_true rfl) ?_
  intro Γ sz X AA IN EK Z
  refine sk_aload_n (pc' := 1) X rfl dX2_init_0 rfl ?_
  refine sk_objI (pc' := 4) X q_184 (Nat.le_of_ble_eq_true rfl) (Nat.le_of_ble_eq_true rfl) dX2_init_1 rfl ?_
  refine sk_aload_n (pc' := 5) X rfl dX2_init_4 rfl ?_
  refine sk_iconst (v := 4) (pc' := 6) X (by decide) dX2_init_5 rfl ?_
  refine sk_anewa (N := 4) (bs2 := fun q24 => [[(a, .inr (2, [.null, .int 0, .int 0]))], [(q24, .inl (G.2 3, 4, .inr (.inr (.inr (.inr (fun _ => none))))))]]) (pc' := 9) X AA EK (by decide) (by decide) (Nat.le_of_ble_eq_true rfl) q_185 (fun _ => rfl) (Nat.le_of_ble_eq_true rfl) (Nat.le_of_ble_eq_true rfl) dX2_init_6 rfl (fun q24 => ?_)
  refine sk_putF (bs' := [[(a, .inr (2, [.ref q24, .int 0, .int 0]))], [(q24, .inl (G.2 3, 4, .inr (.inr (.inr (.inr (fun _ => none))))))]]) (pc' := 12) X IN 0 0 0 in_RX2 tyX2 tyX2_ok nmX2 rfl rfl rfl (Nat.le_of_ble_eq_true rfl) fk_RX2_11 rfl rfl (tyX2_ok 0 (Nat.le_of_ble_eq_true rfl)) rfl rfl (Nat.le_of_ble_eq_true rfl) rfl dX2_init_9 rfl ?_
  refine sk_iconst (v := 0) (pc' := 13) X (by decide) dX2_init_12 rfl ?_
  refine sk_istore_n (lv' := [some (.ref a), some (.int (0 : Int32))]) (pc' := 14) X (Nat.le_of_ble_eq_true rfl) rfl rfl dX2_init_13 rfl ?_
  refine sk_iload_n (pc' := 15) X rfl dX2_init_14 rfl ?_
  refine sk_iconst (v := 4) (pc' := 16) X (by decide) dX2_init_15 rfl ?_
  refine sk_false (c := (4 : Int32) ≤ (0 : Int32)) (by decide) (f2 := none) ?_
  refine sk_icmp_ge (tgt := 38) (pc' := 19) X dX2_init_16 rfl rfl sk_none ?_
  refine sk_aload_n (pc' := 20) X rfl dX2_init_19 rfl ?_
  refine sk_getf (pc' := 23) X 0 0 0 in_RX2 rfl rfl rfl (Nat.le_of_ble_eq_true rfl) fk_RX2_11 rfl dX2_init_20 rfl ?_
  refine sk_iload_n (pc' := 24) X rfl dX2_init_23 rfl ?_
  refine sk_new (bs2 := fun q25 => [[(a, .inr (2, [.ref q24, .int 0, .int 0]))], [(q24, .inl (G.2 3, 4, .inr (.inr (.inr (.inr (fun _ => none))))))], [(q25, .inr (1, [.int 0, .int 0, .null, .int 0, .int 0, .null, .null, .null, .null, .null, .null, .null, .null, .int 0]))]]) (pc' := 27) X AA 1 in_RX1 tyX1 tyX1_ok rfl q_185 q_102 q_79 df_X1 (fun _ => rfl) (Nat.le_of_ble_eq_true rfl) (Nat.le_of_ble_eq_true rfl) dX2_init_24 rfl (fun q25 => ?_)
  refine sk_dup (pc' := 28) X rfl dX2_init_27 rfl ?_
  refine sk_callI (bs2 := fun x26 => [[(a, .inr (2, [.ref q24, .int 0, .int 0]))], [(q24, .inl (G.2 3, 4, .inr (.inr (.inr (.inr (fun _ => none))))))], (nt_W G (va_up x26.1 0 q25) (x26.2 0) (nt_S nt_D)), (lg_W G x26.2 z0)]) (bs0 := [[(a, .inr (2, [.ref q24, .int 0, .int 0]))], [(q24, .inl (G.2 3, 4, .inr (.inr (.inr (.inr (fun _ => none))))))]]) (pc' := 31) X AA EK (k_X1 l G q25) ki_RX2_17 rfl rfl ⟨(Nat.le_of_ble_eq_true rfl), (Nat.le_of_ble_eq_true rfl)⟩ ⟨rfl, rfl⟩ ⟨(Nat.le_of_ble_eq_true rfl), (Nat.le_of_ble_eq_true rfl)⟩ (Nat.le_of_ble_eq_true rfl) dX2_init_28 rfl (fun _ => rfl) (fun x26 => ?_)
  refine sk_aast (bs' := [[(a, .inr (2, [.ref q24, .int 0, .int 0]))], [(q24, .inl (G.2 3, 4, .inr (.inr (.inr (.inr (va_up (fun _ => none) ((0 : Int32)).toNatClampNeg (some q25)))))))], (nt_W G (va_up x26.1 0 q25) (x26.2 0) (nt_S nt_D)), (lg_W G x26.2 z0)]) (pc' := 32) X 1 0 2 0 rfl rfl rfl rfl (by decide) rfl dX2_init_31 rfl ?_
  refine sk_iinc (lv' := [some (.ref a), some (.int ((0 : Int32) + (1 : Int32)))]) (d := 1) (pc' := 35) X rfl (by decide) (Nat.le_of_ble_eq_true rfl) rfl rfl dX2_init_32 rfl ?_
  refine sk_goto (tgt := 14) X dX2_init_35 rfl ?_
  refine sk_iload_n (pc' := 15) X rfl dX2_init_14 rfl ?_
  refine sk_iconst (v := 4) (pc' := 16) X (by decide) dX2_init_15 rfl ?_
  refine sk_false (c := (4 : Int32) ≤ ((0 : Int32) + (1 : Int32))) (by decide) (f2 := none) ?_
  refine sk_icmp_ge (tgt := 38) (pc' := 19) X dX2_init_16 rfl rfl sk_none ?_
  refine sk_aload_n (pc' := 20) X rfl dX2_init_19 rfl ?_
  refine sk_getf (pc' := 23) X 0 0 0 in_RX2 rfl rfl rfl (Nat.le_of_ble_eq_true rfl) fk_RX2_11 rfl dX2_init_20 rfl ?_
  refine sk_iload_n (pc' := 24) X rfl dX2_init_23 rfl ?_
  refine sk_new (bs2 := fun q27 => [[(a, .inr (2, [.ref q24, .int 0, .int 0]))], [(q24, .inl (G.2 3, 4, .inr (.inr (.inr (.inr (va_up (fun _ => none) ((0 : Int32)).toNatClampNeg (some q25)))))))], (nt_W G (va_up x26.1 0 q25) (x26.2 0) (nt_S nt_D)), (lg_W G x26.2 z0), [(q27, .inr (1, [.int 0, .int 0, .null, .int 0, .int 0, .null, .null, .null, .null, .null, .null, .null, .null, .int 0]))]]) (pc' := 27) X AA 1 in_RX1 tyX1 tyX1_ok rfl q_185 q_102 q_79 df_X1 (fun _ => rfl) (Nat.le_of_ble_eq_true rfl) (Nat.le_of_ble_eq_true rfl) dX2_init_24 rfl (fun q27 => ?_)
  refine sk_dup (pc' := 28) X rfl dX2_init_27 rfl ?_
  refine sk_callI (bs2 := fun x28 => [[(a, .inr (2, [.ref q24, .int 0, .int 0]))], [(q24, .inl (G.2 3, 4, .inr (.inr (.inr (.inr (va_up (fun _ => none) ((0 : Int32)).toNatClampNeg (some q25)))))))], (nt_W G (va_up x26.1 0 q25) (x26.2 0) (nt_S nt_D)), (lg_W G x26.2 z0), (nt_W G (va_up x28.1 0 q27) (x28.2 0) (nt_S nt_D)), (lg_W G x28.2 z0)]) (bs0 := [[(a, .inr (2, [.ref q24, .int 0, .int 0]))], [(q24, .inl (G.2 3, 4, .inr (.inr (.inr (.inr (va_up (fun _ => none) ((0 : Int32)).toNatClampNeg (some q25)))))))], (nt_W G (va_up x26.1 0 q25) (x26.2 0) (nt_S nt_D)), (lg_W G x26.2 z0)]) (pc' := 31) X AA EK (k_X1 l G q27) ki_RX2_17 rfl rfl ⟨(Nat.le_of_ble_eq_true rfl), (Nat.le_of_ble_eq_true rfl)⟩ ⟨rfl, rfl⟩ ⟨(Nat.le_of_ble_eq_true rfl), (Nat.le_of_ble_eq_true rfl)⟩ (Nat.le_of_ble_eq_true rfl) dX2_init_28 rfl (fun _ => rfl) (fun x28 => ?_)
  refine sk_aast (bs' := [[(a, .inr (2, [.ref q24, .int 0, .int 0]))], [(q24, .inl (G.2 3, 4, .inr (.inr (.inr (.inr (va_up (va_up (fun _ => none) ((0 : Int32)).toNatClampNeg (some q25)) (((0 : Int32) + (1 : Int32))).toNatClampNeg (some q27)))))))], (nt_W G (va_up x26.1 0 q25) (x26.2 0) (nt_S nt_D)), (lg_W G x26.2 z0), (nt_W G (va_up x28.1 0 q27) (x28.2 0) (nt_S nt_D)), (lg_W G x28.2 z0)]) (pc' := 32) X 1 0 4 0 rfl rfl rfl rfl (by decide) rfl dX2_init_31 rfl ?_
  refine sk_iinc (lv' := [some (.ref a), some (.int (((0 : Int32) + (1 : Int32)) + (1 : Int32)))]) (d := 1) (pc' := 35) X rfl (by decide) (Nat.le_of_ble_eq_true rfl) rfl rfl dX2_init_32 rfl ?_
  refine sk_goto (tgt := 14) X dX2_init_35 rfl ?_
  refine sk_iload_n (pc' := 15) X rfl dX2_init_14 rfl ?_
  refine sk_iconst (v := 4) (pc' := 16) X (by decide) dX2_init_15 rfl ?_
  refine sk_false (c := (4 : Int32) ≤ (((0 : Int32) + (1 : Int32)) + (1 : Int32))) (by decide) (f2 := none) ?_
  refine sk_icmp_ge (tgt := 38) (pc' := 19) X dX2_init_16 rfl rfl sk_none ?_
  refine sk_aload_n (pc' := 20) X rfl dX2_init_19 rfl ?_
  refine sk_getf (pc' := 23) X 0 0 0 in_RX2 rfl rfl rfl (Nat.le_of_ble_eq_true rfl) fk_RX2_11 rfl dX2_init_20 rfl ?_
  refine sk_iload_n (pc' := 24) X rfl dX2_init_23 rfl ?_
  refine sk_new (bs2 := fun q29 => [[(a, .inr (2, [.ref q24, .int 0, .int 0]))], [(q24, .inl (G.2 3, 4, .inr (.inr (.inr (.inr (va_up (va_up (fun _ => none) ((0 : Int32)).toNatClampNeg (some q25)) (((0 : Int32) + (1 : Int32))).toNatClampNeg (some q27)))))))], (nt_W G (va_up x26.1 0 q25) (x26.2 0) (nt_S nt_D)), (lg_W G x26.2 z0), (nt_W G (va_up x28.1 0 q27) (x28.2 0) (nt_S nt_D)), (lg_W G x28.2 z0), [(q29, .inr (1, [.int 0, .int 0, .null, .int 0, .int 0, .null, .null, .null, .null, .null, .null, .null, .null, .int 0]))]]) (pc' := 27) X AA 1 in_RX1 tyX1 tyX1_ok rfl q_185 q_102 q_79 df_X1 (fun _ => rfl) (Nat.le_of_ble_eq_true rfl) (Nat.le_of_ble_eq_true rfl) dX2_init_24 rfl (fun q29 => ?_)
  refine sk_dup (pc' := 28) X rfl dX2_init_27 rfl ?_
  refine sk_callI (bs2 := fun x30 => [[(a, .inr (2, [.ref q24, .int 0, .int 0]))], [(q24, .inl (G.2 3, 4, .inr (.inr (.inr (.inr (va_up (va_up (fun _ => none) ((0 : Int32)).toNatClampNeg (some q25)) (((0 : Int32) + (1 : Int32))).toNatClampNeg (some q27)))))))], (nt_W G (va_up x26.1 0 q25) (x26.2 0) (nt_S nt_D)), (lg_W G x26.2 z0), (nt_W G (va_up x28.1 0 q27) (x28.2 0) (nt_S nt_D)), (lg_W G x28.2 z0), (nt_W G (va_up x30.1 0 q29) (x30.2 0) (nt_S nt_D)), (lg_W G x30.2 z0)]) (bs0 := [[(a, .inr (2, [.ref q24, .int 0, .int 0]))], [(q24, .inl (G.2 3, 4, .inr (.inr (.inr (.inr (va_up (va_up (fun _ => none) ((0 : Int32)).toNatClampNeg (some q25)) (((0 : Int32) + (1 : Int32))).toNatClampNeg (some q27)))))))], (nt_W G (va_up x26.1 0 q25) (x26.2 0) (nt_S nt_D)), (lg_W G x26.2 z0), (nt_W G (va_up x28.1 0 q27) (x28.2 0) (nt_S nt_D)), (lg_W G x28.2 z0)]) (pc' := 31) X AA EK (k_X1 l G q29) ki_RX2_17 rfl rfl ⟨(Nat.le_of_ble_eq_true rfl), (Nat.le_of_ble_eq_true rfl)⟩ ⟨rfl, rfl⟩ ⟨(Nat.le_of_ble_eq_true rfl), (Nat.le_of_ble_eq_true rfl)⟩ (Nat.le_of_ble_eq_true rfl) dX2_init_28 rfl (fun _ => rfl) (fun x30 => ?_)
  refine sk_aast (bs' := [[(a, .inr (2, [.ref q24, .int 0, .int 0]))], [(q24, .inl (G.2 3, 4, .inr (.inr (.inr (.inr (va_up (va_up (va_up (fun _ => none) ((0 : Int32)).toNatClampNeg (some q25)) (((0 : Int32) + (1 : Int32))).toNatClampNeg (some q27)) ((((0 : Int32) + (1 : Int32)) + (1 : Int32))).toNatClampNeg (some q29)))))))], (nt_W G (va_up x26.1 0 q25) (x26.2 0) (nt_S nt_D)), (lg_W G x26.2 z0), (nt_W G (va_up x28.1 0 q27) (x28.2 0) (nt_S nt_D)), (lg_W G x28.2 z0), (nt_W G (va_up x30.1 0 q29) (x30.2 0) (nt_S nt_D)), (lg_W G x30.2 z0)]) (pc' := 32) X 1 0 6 0 rfl rfl rfl rfl (by decide) rfl dX2_init_31 rfl ?_
  refine sk_iinc (lv' := [some (.ref a), some (.int ((((0 : Int32) + (1 : Int32)) + (1 : Int32)) + (1 : Int32)))]) (d := 1) (pc' := 35) X rfl (by decide) (Nat.le_of_ble_eq_true rfl) rfl rfl dX2_init_32 rfl ?_
  refine sk_goto (tgt := 14) X dX2_init_35 rfl ?_
  refine sk_iload_n (pc' := 15) X rfl dX2_init_14 rfl ?_
  refine sk_iconst (v := 4) (pc' := 16) X (by decide) dX2_init_15 rfl ?_
  refine sk_false (c := (4 : Int32) ≤ ((((0 : Int32) + (1 : Int32)) + (1 : Int32)) + (1 : Int32))) (by decide) (f2 := none) ?_
  refine sk_icmp_ge (tgt := 38) (pc' := 19) X dX2_init_16 rfl rfl sk_none ?_
  refine sk_aload_n (pc' := 20) X rfl dX2_init_19 rfl ?_
  refine sk_getf (pc' := 23) X 0 0 0 in_RX2 rfl rfl rfl (Nat.le_of_ble_eq_true rfl) fk_RX2_11 rfl dX2_init_20 rfl ?_
  refine sk_iload_n (pc' := 24) X rfl dX2_init_23 rfl ?_
  refine sk_new (bs2 := fun q31 => [[(a, .inr (2, [.ref q24, .int 0, .int 0]))], [(q24, .inl (G.2 3, 4, .inr (.inr (.inr (.inr (va_up (va_up (va_up (fun _ => none) ((0 : Int32)).toNatClampNeg (some q25)) (((0 : Int32) + (1 : Int32))).toNatClampNeg (some q27)) ((((0 : Int32) + (1 : Int32)) + (1 : Int32))).toNatClampNeg (some q29)))))))], (nt_W G (va_up x26.1 0 q25) (x26.2 0) (nt_S nt_D)), (lg_W G x26.2 z0), (nt_W G (va_up x28.1 0 q27) (x28.2 0) (nt_S nt_D)), (lg_W G x28.2 z0), (nt_W G (va_up x30.1 0 q29) (x30.2 0) (nt_S nt_D)), (lg_W G x30.2 z0), [(q31, .inr (1, [.int 0, .int 0, .null, .int 0, .int 0, .null, .null, .null, .null, .null, .null, .null, .null, .int 0]))]]) (pc' := 27) X AA 1 in_RX1 tyX1 tyX1_ok rfl q_185 q_102 q_79 df_X1 (fun _ => rfl) (Nat.le_of_ble_eq_true rfl) (Nat.le_of_ble_eq_true rfl) dX2_init_24 rfl (fun q31 => ?_)
  refine sk_dup (pc' := 28) X rfl dX2_init_27 rfl ?_
  refine sk_callI (bs2 := fun x32 => [[(a, .inr (2, [.ref q24, .int 0, .int 0]))], [(q24, .inl (G.2 3, 4, .inr (.inr (.inr (.inr (va_up (va_up (va_up (fun _ => none) ((0 : Int32)).toNatClampNeg (some q25)) (((0 : Int32) + (1 : Int32))).toNatClampNeg (some q27)) ((((0 : Int32) + (1 : Int32)) + (1 : Int32))).toNatClampNeg (some q29)))))))], (nt_W G (va_up x26.1 0 q25) (x26.2 0) (nt_S nt_D)), (lg_W G x26.2 z0), (nt_W G (va_up x28.1 0 q27) (x28.2 0) (nt_S nt_D)), (lg_W G x28.2 z0), (nt_W G (va_up x30.1 0 q29) (x30.2 0) (nt_S nt_D)), (lg_W G x30.2 z0), (nt_W G (va_up x32.1 0 q31) (x32.2 0) (nt_S nt_D)), (lg_W G x32.2 z0)]) (bs0 := [[(a, .inr (2, [.ref q24, .int 0, .int 0]))], [(q24, .inl (G.2 3, 4, .inr (.inr (.inr (.inr (va_up (va_up (va_up (fun _ => none) ((0 : Int32)).toNatClampNeg (some q25)) (((0 : Int32) + (1 : Int32))).toNatClampNeg (some q27)) ((((0 : Int32) + (1 : Int32)) + (1 : Int32))).toNatClampNeg (some q29)))))))], (nt_W G (va_up x26.1 0 q25) (x26.2 0) (nt_S nt_D)), (lg_W G x26.2 z0), (nt_W G (va_up x28.1 0 q27) (x28.2 0) (nt_S nt_D)), (lg_W G x28.2 z0), (nt_W G (va_up x30.1 0 q29) (x30.2 0) (nt_S nt_D)), (lg_W G x30.2 z0)]) (pc' := 31) X AA EK (k_X1 l G q31) ki_RX2_17 rfl rfl ⟨(Nat.le_of_ble_eq_true rfl), (Nat.le_of_ble_eq_true rfl)⟩ ⟨rfl, rfl⟩ ⟨(Nat.le_of_ble_eq_true rfl), (Nat.le_of_ble_eq_true rfl)⟩ (Nat.le_of_ble_eq_true rfl) dX2_init_28 rfl (fun _ => rfl) (fun x32 => ?_)
  refine sk_aast (bs' := [[(a, .inr (2, [.ref q24, .int 0, .int 0]))], [(q24, .inl (G.2 3, 4, .inr (.inr (.inr (.inr (va_up (va_up (va_up (va_up (fun _ => none) ((0 : Int32)).toNatClampNeg (some q25)) (((0 : Int32) + (1 : Int32))).toNatClampNeg (some q27)) ((((0 : Int32) + (1 : Int32)) + (1 : Int32))).toNatClampNeg (some q29)) (((((0 : Int32) + (1 : Int32)) + (1 : Int32)) + (1 : Int32))).toNatClampNeg (some q31)))))))], (nt_W G (va_up x26.1 0 q25) (x26.2 0) (nt_S nt_D)), (lg_W G x26.2 z0), (nt_W G (va_up x28.1 0 q27) (x28.2 0) (nt_S nt_D)), (lg_W G x28.2 z0), (nt_W G (va_up x30.1 0 q29) (x30.2 0) (nt_S nt_D)), (lg_W G x30.2 z0), (nt_W G (va_up x32.1 0 q31) (x32.2 0) (nt_S nt_D)), (lg_W G x32.2 z0)]) (pc' := 32) X 1 0 8 0 rfl rfl rfl rfl (by decide) rfl dX2_init_31 rfl ?_
  refine sk_iinc (lv' := [some (.ref a), some (.int (((((0 : Int32) + (1 : Int32)) + (1 : Int32)) + (1 : Int32)) + (1 : Int32)))]) (d := 1) (pc' := 35) X rfl (by decide) (Nat.le_of_ble_eq_true rfl) rfl rfl dX2_init_32 rfl ?_
  refine sk_goto (tgt := 14) X dX2_init_35 rfl ?_
  refine sk_iload_n (pc' := 15) X rfl dX2_init_14 rfl ?_
  refine sk_iconst (v := 4) (pc' := 16) X (by decide) dX2_init_15 rfl ?_
  refine sk_true (c := (4 : Int32) ≤ (((((0 : Int32) + (1 : Int32)) + (1 : Int32)) + (1 : Int32)) + (1 : Int32))) (by decide) (f2 := none) ?_
  refine sk_icmp_ge (tgt := 38) (pc' := 19) X dX2_init_16 rfl rfl ?_ sk_none
  refine sk_rep (bs' := [[(a, .inr (2, [.ref q24, .int 0, .int 0]))], [(q24, .inl (G.2 3, 4, .inr (.inr (.inr (.inr (sv_f q25 q27 q29 q31))))))], (nt_W G (va_up x26.1 0 q25) (x26.2 0) (nt_S nt_D)), (lg_W G x26.2 z0), (nt_W G (va_up x28.1 0 q27) (x28.2 0) (nt_S nt_D)), (lg_W G x28.2 z0), (nt_W G (va_up x30.1 0 q29) (x30.2 0) (nt_S nt_D)), (lg_W G x30.2 z0), (nt_W G (va_up x32.1 0 q31) (x32.2 0) (nt_S nt_D)), (lg_W G x32.2 z0)]) 1 0 rfl rfl (sv_cell _ q25 q27 q29 q31) rfl ?_
  exact sk_kret X Z (fun i : Nat => if i = 0 then (fun _ => q24) else if i = 1 then va_up x26.1 0 q25 else if i = 2 then x26.2 else if i = 3 then va_up x28.1 0 q27 else if i = 4 then x28.2 else if i = 5 then va_up x30.1 0 q29 else if i = 6 then x30.2 else if i = 7 then va_up x32.1 0 q31 else if i = 8 then x32.2 else fun _ => 0) [0, 1, 2, 3, 4, 5, 6, 7, 8, 9, 10, 11, 12, 13, 14, 15, 16, 17, 18, 19, 20, 21, 22, 23, 24, 25, 26, 27, 28, 29, 30, 31, 32, 33, 34, 35, 36, 37, 38, 39, 40, 41, 42, 43, 44, 45, 46, 47, 48, 49] rfl (by decide) (Nat.le_of_ble_eq_true rfl) (Nat.le_of_ble_eq_true rfl) dX2_init_38
def kr_X4 : Room := { frames := 4, cells := 90, slots := 3406, locals := 74 }
set_option maxHeartbeats 4000000 in
set_option maxRecDepth 100000 in
theorem k_X4 (l : Launch) (G : sk_G) (a : Nat) : sk_ktr l G yX4_init cX4_init 1 kr_X4 90 3406 a [(a, .inr (4, [.null, .null, .null, .null, .null]))] (fun x : Nat → Nat → Nat => [(pc_W (va_up (x 0) 0 a) (x 1 0) (x 3 0) (x 5 0) (x 7 0) (x 16 0)), (nt_W G (x 1) (x 2 0) (nt_S nt_D)), (lg_W G (x 2) z0), (nt_W G (x 3) (x 4 0) (nt_S nt_D)), (lg_W G (x 4) z0), (nt_W G (x 5) (x 6 0) (nt_S nt_D)), (lg_W G (x 6) z0), (sv_W G (x 7) (x 8 0) (x 10 0) (x 12 0) (x 14 0) z0), (nt_W G (x 8) (x 9 0) (nt_S nt_D)), (lg_W G (x 9) z0), (nt_W G (x 10) (x 11 0) (nt_S nt_D)), (lg_W G (x 11) z0), (nt_W G (x 12) (x 13 0) (nt_S nt_D)), (lg_W G (x 13) z0), (nt_W G (x 14) (x 15 0) (nt_S nt_D)), (lg_W G (x 15) z0), (sc_W G (x 16) z0)]) := by
  refine sk_kentry (own := RX4) (ρ := Unit) (f := some ()) (r := ()) rfl (bsf := fun _ => fun x : Nat → Nat → Nat => [(pc_W (va_up (x 0) 0 a) (x 1 0) (x 3 0) (x 5 0) (x 7 0) (x 16 0)), (nt_W G (x 1) (x 2 0) (nt_S nt_D)), (lg_W G (x 2) z0), (nt_W G (x 3) (x 4 0) (nt_S nt_D)), (lg_W G (x 4) z0), (nt_W G (x 5) (x 6 0) (nt_S nt_D)), (lg_W G (x 6) z0), (sv_W G (x 7) (x 8 0) (x 10 0) (x 12 0) (x 14 0) z0), (nt_W G (x 8) (x 9 0) (nt_S nt_D)), (lg_W G (x 9) z0), (nt_W G (x 10) (x 11 0) (nt_S nt_D)), (lg_W G (x 11) z0), (nt_W G (x 12) (x 13 0) (nt_S nt_D)), (lg_W G (x 13) z0), (nt_W G (x 14) (x 15 0) (nt_S nt_D)), (lg_W G (x 15) z0), (sc_W G (x 16) z0)]) rfl (by decide) rfl rfl (lv0 := [some (.ref a)]) rfl (Nat.le_of_ble_eq_true rfl) ?_
  intro Γ sz X AA IN EK Z
  refine sk_aload_n (pc' := 1) X rfl dX4_init_0 rfl ?_
  refine sk_objI (pc' := 4) X q_98 (Nat.le_of_ble_eq_true rfl) (Nat.le_of_ble_eq_true rfl) dX4_init_1 rfl ?_
  refine sk_aload_n (pc' := 5) X rfl dX4_init_4 rfl ?_
  refine sk_new (bs2 := fun q33 => [[(a, .inr (4, [.null, .null, .null, .null, .null]))], [(q33, .inr (1, [.int 0, .int 0, .null, .int 0, .int 0, .null, .null, .null, .null, .null, .null, .null, .null, .int 0]))]]) (pc' := 8) X AA 1 in_RX1 tyX1 tyX1_ok rfl q_101 q_102 q_79 df_X1 (fun _ => rfl) (Nat.le_of_ble_eq_true rfl) (Nat.le_of_ble_eq_true rfl) dX4_init_5 rfl (fun q33 => ?_)
  refine sk_dup (pc' := 9) X rfl dX4_init_8 rfl ?_
  refine sk_callI (bs2 := fun x34 => [[(a, .inr (4, [.null, .null, .null, .null, .null]))], (nt_W G (va_up x34.1 0 q33) (x34.2 0) (nt_S nt_D)), (lg_W G x34.2 z0)]) (bs0 := [[(a, .inr (4, [.null, .null, .null, .null, .null]))]]) (pc' := 12) X AA EK (k_X1 l G q33) ki_RX4_9 rfl rfl ⟨(Nat.le_of_ble_eq_true rfl), (Nat.le_of_ble_eq_true rfl)⟩ ⟨rfl, rfl⟩ ⟨(Nat.le_of_ble_eq_true rfl), (Nat.le_of_ble_eq_true rfl)⟩ (Nat.le_of_ble_eq_true rfl) dX4_init_9 rfl (fun _ => rfl) (fun x34 => ?_)
  refine sk_putF (bs' := [[(a, .inr (4, [.ref q33, .null, .null, .null, .null]))], (nt_W G (va_up x34.1 0 q33) (x34.2 0) (nt_S nt_D)), (lg_W G x34.2 z0)]) (pc' := 15) X IN 0 0 0 in_RX4 tyX4 tyX4_ok nmX4 rfl rfl rfl (Nat.le_of_ble_eq_true rfl) fk_RX4_10 rfl rfl (tyX4_ok 0 (Nat.le_of_ble_eq_true rfl)) rfl rfl (Nat.le_of_ble_eq_true rfl) rfl dX4_init_12 rfl ?_
  refine sk_aload_n (pc' := 16) X rfl dX4_init_15 rfl ?_
  refine sk_new (bs2 := fun q35 => [[(a, .inr (4, [.ref q33, .null, .null, .null, .null]))], (nt_W G (va_up x34.1 0 q33) (x34.2 0) (nt_S nt_D)), (lg_W G x34.2 z0), [(q35, .inr (1, [.int 0, .int 0, .null, .int 0, .int 0, .null, .null, .null, .null, .null, .null, .null, .null, .int 0]))]]) (pc' := 19) X AA 1 in_RX1 tyX1 tyX1_ok rfl q_101 q_102 q_79 df_X1 (fun _ => rfl) (Nat.le_of_ble_eq_true rfl) (Nat.le_of_ble_eq_true rfl) dX4_init_16 rfl (fun q35 => ?_)
  refine sk_dup (pc' := 20) X rfl dX4_init_19 rfl ?_
  refine sk_callI (bs2 := fun x36 => [[(a, .inr (4, [.ref q33, .null, .null, .null, .null]))], (nt_W G (va_up x34.1 0 q33) (x34.2 0) (nt_S nt_D)), (lg_W G x34.2 z0), (nt_W G (va_up x36.1 0 q35) (x36.2 0) (nt_S nt_D)), (lg_W G x36.2 z0)]) (bs0 := [[(a, .inr (4, [.ref q33, .null, .null, .null, .null]))], (nt_W G (va_up x34.1 0 q33) (x34.2 0) (nt_S nt_D)), (lg_W G x34.2 z0)]) (pc' := 23) X AA EK (k_X1 l G q35) ki_RX4_9 rfl rfl ⟨(Nat.le_of_ble_eq_true rfl), (Nat.le_of_ble_eq_true rfl)⟩ ⟨rfl, rfl⟩ ⟨(Nat.le_of_ble_eq_true rfl), (Nat.le_of_ble_eq_true rfl)⟩ (Nat.le_of_ble_eq_true rfl) dX4_init_20 rfl (fun _ => rfl) (fun x36 => ?_)
  refine sk_putF (bs' := [[(a, .inr (4, [.ref q33, .ref q35, .null, .null, .null]))], (nt_W G (va_up x34.1 0 q33) (x34.2 0) (nt_S nt_D)), (lg_W G x34.2 z0), (nt_W G (va_up x36.1 0 q35) (x36.2 0) (nt_S nt_D)), (lg_W G x36.2 z0)]) (pc' := 26) X IN 0 0 1 in_RX4 tyX4 tyX4_ok nmX4 rfl rfl rfl (Nat.le_of_ble_eq_true rfl) fk_RX4_16 rfl rfl (tyX4_ok 1 (Nat.le_of_ble_eq_true rfl)) rfl rfl (Nat.le_of_ble_eq_true rfl) rfl dX4_init_23 rfl ?_
  refine sk_aload_n (pc' := 27) X rfl dX4_init_26 rfl ?_
  refine sk_new (bs2 := fun q37 => [[(a, .inr (4, [.ref q33, .ref q35, .null, .null, .null]))], (nt_W G (va_up x34.1 0 q33) (x34.2 0) (nt_S nt_D)), (lg_W G x34.2 z0), (nt_W G (va_up x36.1 0 q35) (x36.2 0) (nt_S nt_D)), (lg_W G x36.2 z0), [(q37, .inr (1, [.int 0, .int 0, .null, .int 0, .int 0, .null, .null, .null, .null, .null, .null, .null, .null, .int 0]))]]) (pc' := 30) X AA 1 in_RX1 tyX1 tyX1_ok rfl q_101 q_102 q_79 df_X1 (fun _ => rfl) (Nat.le_of_ble_eq_true rfl) (Nat.le_of_ble_eq_true rfl) dX4_init_27 rfl (fun q37 => ?_)
  refine sk_dup (pc' := 31) X rfl dX4_init_30 rfl ?_
  refine sk_callI (bs2 := fun x38 => [[(a, .inr (4, [.ref q33, .ref q35, .null, .null, .null]))], (nt_W G (va_up x34.1 0 q33) (x34.2 0) (nt_S nt_D)), (lg_W G x34.2 z0), (nt_W G (va_up x36.1 0 q35) (x36.2 0) (nt_S nt_D)), (lg_W G x36.2 z0), (nt_W G (va_up x38.1 0 q37) (x38.2 0) (nt_S nt_D)), (lg_W G x38.2 z0)]) (bs0 := [[(a, .inr (4, [.ref q33, .ref q35, .null, .null, .null]))], (nt_W G (va_up x34.1 0 q33) (x34.2 0) (nt_S nt_D)), (lg_W G x34.2 z0), (nt_W G (va_up x36.1 0 q35) (x36.2 0) (nt_S nt_D)), (lg_W G x36.2 z0)]) (pc' := 34) X AA EK (k_X1 l G q37) ki_RX4_9 rfl rfl ⟨(Nat.le_of_ble_eq_true rfl), (Nat.le_of_ble_eq_true rfl)⟩ ⟨rfl, rfl⟩ ⟨(Nat.le_of_ble_eq_true rfl), (Nat.le_of_ble_eq_true rfl)⟩ (Nat.le_of_ble_eq_true rfl) dX4_init_31 rfl (fun _ => rfl) (fun x38 => ?_)
  refine sk_putF (bs' := [[(a, .inr (4, [.ref q33, .ref q35, .ref q37, .null, .null]))], (nt_W G (va_up x34.1 0 q33) (x34.2 0) (nt_S nt_D)), (lg_W G x34.2 z0), (nt_W G (va_up x36.1 0 q35) (x36.2 0) (nt_S nt_D)), (lg_W G x36.2 z0), (nt_W G (va_up x38.1 0 q37) (x38.2 0) (nt_S nt_D)), (lg_W G x38.2 z0)]) (pc' := 37) X IN 0 0 2 in_RX4 tyX4 tyX4_ok nmX4 rfl rfl rfl (Nat.le_of_ble_eq_true rfl) fk_RX4_19 rfl rfl (tyX4_ok 2 (Nat.le_of_ble_eq_true rfl)) rfl rfl (Nat.le_of_ble_eq_true rfl) rfl dX4_init_34 rfl ?_
  refine sk_aload_n (pc' := 38) X rfl dX4_init_37 rfl ?_
  refine sk_new (bs2 := fun q39 => [[(a, .inr (4, [.ref q33, .ref q35, .ref q37, .null, .null]))], (nt_W G (va_up x34.1 0 q33) (x34.2 0) (nt_S nt_D)), (lg_W G x34.2 z0), (nt_W G (va_up x36.1 0 q35) (x36.2 0) (nt_S nt_D)), (lg_W G x36.2 z0), (nt_W G (va_up x38.1 0 q37) (x38.2 0) (nt_S nt_D)), (lg_W G x38.2 z0), [(q39, .inr (2, [.null, .int 0, .int 0]))]]) (pc' := 41) X AA 2 in_RX2 tyX2 tyX2_ok rfl q_179 q_180 q_81 df_X2 (fun _ => rfl) (Nat.le_of_ble_eq_true rfl) (Nat.le_of_ble_eq_true rfl) dX4_init_38 rfl (fun q39 => ?_)
  refine sk_dup (pc' := 42) X rfl dX4_init_41 rfl ?_
  refine sk_callI (bs2 := fun x40 => [[(a, .inr (4, [.ref q33, .ref q35, .ref q37, .null, .null]))], (nt_W G (va_up x34.1 0 q33) (x34.2 0) (nt_S nt_D)), (lg_W G x34.2 z0), (nt_W G (va_up x36.1 0 q35) (x36.2 0) (nt_S nt_D)), (lg_W G x36.2 z0), (nt_W G (va_up x38.1 0 q37) (x38.2 0) (nt_S nt_D)), (lg_W G x38.2 z0), (sv_W G (va_up (x40 0) 0 q39) (x40 1 0) (x40 3 0) (x40 5 0) (x40 7 0) z0), (nt_W G (x40 1) (x40 2 0) (nt_S nt_D)), (lg_W G (x40 2) z0), (nt_W G (x40 3) (x40 4 0) (nt_S nt_D)), (lg_W G (x40 4) z0), (nt_W G (x40 5) (x40 6 0) (nt_S nt_D)), (lg_W G (x40 6) z0), (nt_W G (x40 7) (x40 8 0) (nt_S nt_D)), (lg_W G (x40 8) z0)]) (bs0 := [[(a, .inr (4, [.ref q33, .ref q35, .ref q37, .null, .null]))], (nt_W G (va_up x34.1 0 q33) (x34.2 0) (nt_S nt_D)), (lg_W G x34.2 z0), (nt_W G (va_up x36.1 0 q35) (x36.2 0) (nt_S nt_D)), (lg_W G x36.2 z0), (nt_W G (va_up x38.1 0 q37) (x38.2 0) (nt_S nt_D)), (lg_W G x38.2 z0)]) (pc' := 45) X AA EK (k_X2 l G q39) ki_RX4_24 rfl rfl ⟨(Nat.le_of_ble_eq_true rfl), (Nat.le_of_ble_eq_true rfl)⟩ ⟨rfl, rfl⟩ ⟨(Nat.le_of_ble_eq_true rfl), (Nat.le_of_ble_eq_true rfl)⟩ (Nat.le_of_ble_eq_true rfl) dX4_init_42 rfl (fun _ => rfl) (fun x40 => ?_)
  refine sk_putF (bs' := [[(a, .inr (4, [.ref q33, .ref q35, .ref q37, .ref q39, .null]))], (nt_W G (va_up x34.1 0 q33) (x34.2 0) (nt_S nt_D)), (lg_W G x34.2 z0), (nt_W G (va_up x36.1 0 q35) (x36.2 0) (nt_S nt_D)), (lg_W G x36.2 z0), (nt_W G (va_up x38.1 0 q37) (x38.2 0) (nt_S nt_D)), (lg_W G x38.2 z0), (sv_W G (va_up (x40 0) 0 q39) (x40 1 0) (x40 3 0) (x40 5 0) (x40 7 0) z0), (nt_W G (x40 1) (x40 2 0) (nt_S nt_D)), (lg_W G (x40 2) z0), (nt_W G (x40 3) (x40 4 0) (nt_S nt_D)), (lg_W G (x40 4) z0), (nt_W G (x40 5) (x40 6 0) (nt_S nt_D)), (lg_W G (x40 6) z0), (nt_W G (x40 7) (x40 8 0) (nt_S nt_D)), (lg_W G (x40 8) z0)]) (pc' := 48) X IN 0 0 3 in_RX4 tyX4 tyX4_ok nmX4 rfl rfl rfl (Nat.le_of_ble_eq_true rfl) fk_RX4_25 rfl rfl (tyX4_ok 3 (Nat.le_of_ble_eq_true rfl)) rfl rfl (Nat.le_of_ble_eq_true rfl) rfl dX4_init_45 rfl ?_
  refine sk_aload_n (pc' := 49) X rfl dX4_init_48 rfl ?_
  refine sk_new (bs2 := fun q41 => [[(a, .inr (4, [.ref q33, .ref q35, .ref q37, .ref q39, .null]))], (nt_W G (va_up x34.1 0 q33) (x34.2 0) (nt_S nt_D)), (lg_W G x34.2 z0), (nt_W G (va_up x36.1 0 q35) (x36.2 0) (nt_S nt_D)), (lg_W G x36.2 z0), (nt_W G (va_up x38.1 0 q37) (x38.2 0) (nt_S nt_D)), (lg_W G x38.2 z0), (sv_W G (va_up (x40 0) 0 q39) (x40 1 0) (x40 3 0) (x40 5 0) (x40 7 0) z0), (nt_W G (x40 1) (x40 2 0) (nt_S nt_D)), (lg_W G (x40 2) z0), (nt_W G (x40 3) (x40 4 0) (nt_S nt_D)), (lg_W G (x40 4) z0), (nt_W G (x40 5) (x40 6 0) (nt_S nt_D)), (lg_W G (x40 6) z0), (nt_W G (x40 7) (x40 8 0) (nt_S nt_D)), (lg_W G (x40 8) z0), [(q41, .inr (3, [.int 0, .int 0, .int 0, .null, .null, .null]))]]) (pc' := 52) X AA 3 in_RX3 tyX3 tyX3_ok rfl q_199 q_200 q_82 df_X3 (fun _ => rfl) (Nat.le_of_ble_eq_true rfl) (Nat.le_of_ble_eq_true rfl) dX4_init_49 rfl (fun q41 => ?_)
  refine sk_dup (pc' := 53) X rfl dX4_init_52 rfl ?_
  refine sk_callN (bs2 := fun x42 => [[(a, .inr (4, [.ref q33, .ref q35, .ref q37, .ref q39, .null]))], (nt_W G (va_up x34.1 0 q33) (x34.2 0) (nt_S nt_D)), (lg_W G x34.2 z0), (nt_W G (va_up x36.1 0 q35) (x36.2 0) (nt_S nt_D)), (lg_W G x36.2 z0), (nt_W G (va_up x38.1 0 q37) (x38.2 0) (nt_S nt_D)), (lg_W G x38.2 z0), (sv_W G (va_up (x40 0) 0 q39) (x40 1 0) (x40 3 0) (x40 5 0) (x40 7 0) z0), (nt_W G (x40 1) (x40 2 0) (nt_S nt_D)), (lg_W G (x40 2) z0), (nt_W G (x40 3) (x40 4 0) (nt_S nt_D)), (lg_W G (x40 4) z0), (nt_W G (x40 5) (x40 6 0) (nt_S nt_D)), (lg_W G (x40 6) z0), (nt_W G (x40 7) (x40 8 0) (nt_S nt_D)), (lg_W G (x40 8) z0), (sc_W G (va_up x42 0 q41) z0)]) (bs0 := [[(a, .inr (4, [.ref q33, .ref q35, .ref q37, .ref q39, .null]))], (nt_W G (va_up x34.1 0 q33) (x34.2 0) (nt_S nt_D)), (lg_W G x34.2 z0), (nt_W G (va_up x36.1 0 q35) (x36.2 0) (nt_S nt_D)), (lg_W G x36.2 z0), (nt_W G (va_up x38.1 0 q37) (x38.2 0) (nt_S nt_D)), (lg_W G x38.2 z0), (sv_W G (va_up (x40 0) 0 q39) (x40 1 0) (x40 3 0) (x40 5 0) (x40 7 0) z0), (nt_W G (x40 1) (x40 2 0) (nt_S nt_D)), (lg_W G (x40 2) z0), (nt_W G (x40 3) (x40 4 0) (nt_S nt_D)), (lg_W G (x40 4) z0), (nt_W G (x40 5) (x40 6 0) (nt_S nt_D)), (lg_W G (x40 6) z0), (nt_W G (x40 7) (x40 8 0) (nt_S nt_D)), (lg_W G (x40 8) z0)]) (pc' := 56) X AA EK (k_X3 l G q41) ki_RX4_31 rfl rfl ⟨(Nat.le_of_ble_eq_true rfl), (Nat.le_of_ble_eq_true rfl)⟩ ⟨rfl, rfl⟩ ⟨(Nat.le_of_ble_eq_true rfl), (Nat.le_of_ble_eq_true rfl)⟩ (Nat.le_of_ble_eq_true rfl) dX4_init_53 rfl (fun _ => rfl) (fun x42 => ?_)
  refine sk_putF (bs' := [[(a, .inr (4, [.ref q33, .ref q35, .ref q37, .ref q39, .ref q41]))], (nt_W G (va_up x34.1 0 q33) (x34.2 0) (nt_S nt_D)), (lg_W G x34.2 z0), (nt_W G (va_up x36.1 0 q35) (x36.2 0) (nt_S nt_D)), (lg_W G x36.2 z0), (nt_W G (va_up x38.1 0 q37) (x38.2 0) (nt_S nt_D)), (lg_W G x38.2 z0), (sv_W G (va_up (x40 0) 0 q39) (x40 1 0) (x40 3 0) (x40 5 0) (x40 7 0) z0), (nt_W G (x40 1) (x40 2 0) (nt_S nt_D)), (lg_W G (x40 2) z0), (nt_W G (x40 3) (x40 4 0) (nt_S nt_D)), (lg_W G (x40 4) z0), (nt_W G (x40 5) (x40 6 0) (nt_S nt_D)), (lg_W G (x40 6) z0), (nt_W G (x40 7) (x40 8 0) (nt_S nt_D)), (lg_W G (x40 8) z0), (sc_W G (va_up x42 0 q41) z0)]) (pc' := 59) X IN 0 0 4 in_RX4 tyX4 tyX4_ok nmX4 rfl rfl rfl (Nat.le_of_ble_eq_true rfl) fk_RX4_32 rfl rfl (tyX4_ok 4 (Nat.le_of_ble_eq_true rfl)) rfl rfl (Nat.le_of_ble_eq_true rfl) rfl dX4_init_56 rfl ?_
  exact sk_kret X Z (fun i : Nat => if i = 0 then (fun _ => a) else if i = 1 then va_up x34.1 0 q33 else if i = 2 then x34.2 else if i = 3 then va_up x36.1 0 q35 else if i = 4 then x36.2 else if i = 5 then va_up x38.1 0 q37 else if i = 6 then x38.2 else if i = 7 then va_up (x40 0) 0 q39 else if i = 8 then x40 1 else if i = 9 then x40 2 else if i = 10 then x40 3 else if i = 11 then x40 4 else if i = 12 then x40 5 else if i = 13 then x40 6 else if i = 14 then x40 7 else if i = 15 then x40 8 else va_up x42 0 q41) [0, 1, 2, 3, 4, 5, 6, 7, 8, 9, 10, 11, 12, 13, 14, 15, 16, 17, 18, 19, 20, 21, 22, 23, 24, 25, 26, 27, 28, 29, 30, 31, 32, 33, 34, 35, 36, 37, 38, 39, 40, 41, 42, 43, 44, 45, 46, 47, 48, 49, 50, 51, 52, 53, 54, 55, 56, 57, 58, 59, 60, 61, 62, 63, 64, 65, 66, 67, 68, 69, 70, 71, 72, 73, 74, 75, 76, 77, 78, 79, 80, 81, 82, 83, 84, 85, 86, 87, 88, 89, 90] rfl (by decide) (Nat.le_of_ble_eq_true rfl) (Nat.le_of_ble_eq_true rfl) dX4_init_59
