def rm_X5_thrown : Room := { frames := 0, cells := 0, slots := 0, locals := 0 }
def o_X5_thrown : (Int32) → Option Value := fun r => some (.int r)
def w_X5_thrown (G : sk_G) (u0 : Nat → Nat) (S0 : sk_M) : (Int32) → sk_B := fun r => [(md_W G u0 S0)]
set_option maxHeartbeats 4000000 in
set_option maxRecDepth 100000 in
theorem c_X5_thrown (l : Launch) (G : sk_G) (u0 : Nat → Nat) (S0 : sk_M) : sk_ctr l G yX5_thrown cX5_thrown 1 (some .int) rm_X5_thrown [.ref (u0 0)] [(md_W G u0 S0)] (m_X5_thrown S0) o_X5_thrown (w_X5_thrown G u0 S0) := by
  refine sk_entry (own := RX5) (by decide) rfl (lv0 := [some (.ref (u0 0))]) rfl (Nat.le_of_ble_eq_true rfl) ?_
  intro Γ X
  unfold m_X5_thrown
  refine sk_aload_n (pc' := 1) X rfl dX5_thrown_0 rfl ?_
  refine sk_getf (pc' := 4) X 0 0 4 in_RX5 rfl rfl rfl (Nat.le_of_ble_eq_true rfl) fl_RX5_35 rfl dX5_thrown_1 rfl ?_
  exact sk_iret X rfl rfl dX5_thrown_4
def rm_X5_refused : Room := { frames := 0, cells := 0, slots := 0, locals := 0 }
def o_X5_refused : (Int32 × sk_M) → Option Value := fun r => some (.int r.1)
def w_X5_refused (G : sk_G) (u0 : Nat → Nat) : (Int32 × sk_M) → sk_B := fun r => [(md_W G u0 r.2)]
set_option maxHeartbeats 4000000 in
set_option maxRecDepth 100000 in
theorem c_X5_refused (l : Launch) (G : sk_G) (u0 : Nat → Nat) (S0 : sk_M) (p1 : Int32) : sk_ctr l G yX5_refused cX5_refused 2 (some .boolean) rm_X5_refused [.ref (u0 0), .int p1] [(md_W G u0 S0)] (m_X5_refused S0 p1) o_X5_refused (w_X5_refused G u0) := by
  refine sk_entry (own := RX5) (by decide) rfl (lv0 := [some (.ref (u0 0)), some (.int p1)]) rfl (Nat.le_of_ble_eq_true rfl) ?_
  intro Γ X
  unfold m_X5_refused
  refine sk_aload_n (pc' := 1) X rfl dX5_refused_0 rfl ?_
  refine sk_iload_n (pc' := 2) X rfl dX5_refused_1 rfl ?_
  refine sk_putf (bs' := [(md_W G u0 (md_up S0 0 4 p1))]) (pc' := 5) X 0 0 4 in_RX5 tyX5 tyX5_ok nmX5 rfl rfl rfl (Nat.le_of_ble_eq_true rfl) fl_RX5_35 rfl (tyX5_ok 4 (Nat.le_of_ble_eq_true rfl)) rfl rfl (Nat.le_of_ble_eq_true rfl) (sk_st 0 (md_pf_4 ..) rfl) dX5_refused_2 rfl ?_
  refine sk_lt (bsf := fun z => [(md_W G u0 z)]) (lvf := fun _ => [some (.ref (u0 0)), some (.int p1)]) (stf := fun _ => []) (fun N2 => ?_)
  refine sk_iload_n (pc' := 6) X rfl dX5_refused_5 rfl ?_
  refine sk_if_le (tgt := 13) (pc' := 9) X dX5_refused_6 rfl rfl ?_ ?_
  · refine sk_iconst (pc' := 14) X ic_0 dX5_refused_13 rfl ?_
    exact sk_zret X (by decide) rfl rfl dX5_refused_14
  · refine sk_iconst (pc' := 10) X ic_1 dX5_refused_9 rfl ?_
    refine sk_goto (tgt := 14) X dX5_refused_10 rfl ?_
    exact sk_zret X (by decide) rfl rfl dX5_refused_14
def rm_X5_undo : Room := { frames := 1, cells := 0, slots := 0, locals := 21 }
def o_X5_undo : (Int32 × sk_M) → Option Value := fun r => some (.int r.1)
def w_X5_undo (G : sk_G) (u0 : Nat → Nat) : (Int32 × sk_M) → sk_B := fun r => [(md_W G u0 r.2)]
set_option maxHeartbeats 4000000 in
set_option maxRecDepth 100000 in
theorem c_X5_undo (l : Launch) (G : sk_G) (u0 : Nat → Nat) (S0 : sk_M) : sk_ctr l G yX5_undo cX5_undo 2 (some .int) rm_X5_undo [.ref (u0 0)] [(md_W G u0 S0)] (m_X5_undo S0) o_X5_undo (w_X5_undo G u0) := by
  refine sk_entry (own := RX5) (by decide) rfl (lv0 := [some (.ref (u0 0)), none]) rfl (Nat.le_of_ble_eq_true rfl) ?_
  intro Γ X
  have h33 : ∀ s33 : sk_M × Int32, sk_S Γ (sk_Φ Γ o_X5_undo (w_X5_undo G u0)) 0 0 (m_X5_undo_33 s33) [(md_W G u0 s33.1)] [some (.ref (u0 0)), some (.int s33.2)] 33 [] := by
    intro s33
    unfold m_X5_undo_33
    refine sk_loop (bsf := fun s33 => [(md_W G u0 s33.1)]) (lvf := fun s33 => [some (.ref (u0 0)), some (.int s33.2)]) ?_ sk_fuel s33
    intro k33 s33 ih33
    unfold m_X5_undo_33_step
    refine sk_iload_n (pc' := 34) X rfl dX5_undo_33 rfl ?_
    refine sk_sipush (pc' := 37) X sp_378 dX5_undo_34 rfl ?_
    refine sk_icmp_ge (tgt := 67) (pc' := 40) X dX5_undo_37 rfl rfl ?_ ?_
    · refine sk_aload_n (pc' := 68) X rfl dX5_undo_67 rfl ?_
      refine sk_getf (pc' := 71) X 0 0 3 in_RX5 rfl rfl rfl (Nat.le_of_ble_eq_true rfl) fl_RX5_43 rfl dX5_undo_68 rfl ?_
      exact sk_iret X rfl rfl dX5_undo_71
    · refine sk_aload_n (pc' := 41) X rfl dX5_undo_40 rfl ?_
      refine sk_getf (pc' := 44) X 0 0 0 in_RX5 rfl rfl rfl (Nat.le_of_ble_eq_true rfl) fl_RX5_7 rfl dX5_undo_41 rfl ?_
      refine sk_iload_n (pc' := 45) X rfl dX5_undo_44 rfl ?_
      refine sk_aload_n (pc' := 46) X rfl dX5_undo_45 rfl ?_
      refine sk_getf (pc' := 49) X 0 0 1 in_RX5 rfl rfl rfl (Nat.le_of_ble_eq_true rfl) fl_RX5_13 rfl dX5_undo_46 rfl ?_
      refine sk_sipush (pc' := 52) X sp_378 dX5_undo_49 rfl ?_
      refine sk_aload_n (pc' := 53) X rfl dX5_undo_52 rfl ?_
      refine sk_getf (pc' := 56) X 0 0 3 in_RX5 rfl rfl rfl (Nat.le_of_ble_eq_true rfl) fl_RX5_43 rfl dX5_undo_53 rfl ?_
      refine sk_imul (pc' := 57) X dX5_undo_56 rfl ?_
      refine sk_iload_n (pc' := 58) X rfl dX5_undo_57 rfl ?_
      refine sk_iadd (pc' := 59) X dX5_undo_58 rfl ?_
      refine sk_iald (pc' := 60) X 0 2 rfl rfl dX5_undo_59 rfl ?_
      refine sk_iast (bs' := [(md_W G u0 (md_up s33.1 1 (s33.2).toNatClampNeg ((s33.1.1 2) ((((378 : Int32) * (s33.1.1 0 3)) + s33.2)).toNatClampNeg)))]) (pc' := 61) X 0 1 rfl rfl (sk_st 0 (md_st_1 ..) rfl) dX5_undo_60 rfl ?_
      refine sk_lt (bsf := fun z => [(md_W G u0 z)]) (lvf := fun _ => [some (.ref (u0 0)), some (.int s33.2)]) (stf := fun _ => []) (fun N60 => ?_)
      refine sk_iinc (lv' := [some (.ref (u0 0)), some (.int (s33.2 + (1 : Int32)))]) (pc' := 64) X rfl ic_1 (Nat.le_of_ble_eq_true rfl) rfl rfl dX5_undo_61 rfl ?_
      refine sk_goto (tgt := 33) X dX5_undo_64 rfl ?_
      exact (ih33 (N60, (s33.2 + (1 : Int32))))
  have h13 : ∀ s13 : sk_M × Int32, sk_S Γ (sk_Φ Γ o_X5_undo (w_X5_undo G u0)) 0 0 (m_X5_undo_13 s13) [(md_W G u0 s13.1)] [some (.ref (u0 0)), none] 13 [.int s13.2, .ref (u0 0)] := by
    intro s13
    unfold m_X5_undo_13
    refine sk_callV (bs2 := fun r13 => [(md_W G u0 r13.2)]) (st := []) (st2 := fun r13 => [.int r13.1]) (As := [.int s13.2]) (pc' := 16) X (c_X5_refused l G u0 s13.1 s13.2) lk_RX5_46 [0] rfl (by decide) (fun _ => rfl) rfl rfl rfl ⟨(Nat.le_of_ble_eq_true rfl), (Nat.le_of_ble_eq_true rfl)⟩ ⟨rfl, rfl⟩ ⟨(Nat.le_of_ble_eq_true rfl), (Nat.le_of_ble_eq_true rfl)⟩ rfl (Nat.le_of_ble_eq_true rfl) rfl dX5_undo_13 rfl (fun _ => rfl) (fun _ => rfl) (fun r13 => ?_)
    refine sk_if_eq (tgt := 21) (pc' := 19) X dX5_undo_16 rfl rfl ?_ ?_
    · refine sk_aload_n (pc' := 22) X rfl dX5_undo_21 rfl ?_
      refine sk_dup (pc' := 23) X rfl dX5_undo_22 rfl ?_
      refine sk_getf (pc' := 26) X 0 0 3 in_RX5 rfl rfl rfl (Nat.le_of_ble_eq_true rfl) fl_RX5_43 rfl dX5_undo_23 rfl ?_
      refine sk_iconst (pc' := 27) X ic_1 dX5_undo_26 rfl ?_
      refine sk_isub (pc' := 28) X dX5_undo_27 rfl ?_
      refine sk_putf (bs' := [(md_W G u0 (md_up r13.2 0 3 ((r13.2.1 0 3) - (1 : Int32))))]) (pc' := 31) X 0 0 3 in_RX5 tyX5 tyX5_ok nmX5 rfl rfl rfl (Nat.le_of_ble_eq_true rfl) fl_RX5_43 rfl (tyX5_ok 3 (Nat.le_of_ble_eq_true rfl)) rfl rfl (Nat.le_of_ble_eq_true rfl) (sk_st 0 (md_pf_3 ..) rfl) dX5_undo_28 rfl ?_
      refine sk_lt (bsf := fun z => [(md_W G u0 z)]) (lvf := fun _ => [some (.ref (u0 0)), none]) (stf := fun _ => []) (fun N28 => ?_)
      refine sk_iconst (pc' := 32) X ic_0 dX5_undo_31 rfl ?_
      refine sk_istore_n (lv' := [some (.ref (u0 0)), some (.int (0 : Int32))]) (pc' := 33) X (Nat.le_of_ble_eq_true rfl) rfl rfl dX5_undo_32 rfl ?_
      exact (h33 (N28, (0 : Int32)))
    · refine sk_iconst (pc' := 20) X ic_0 dX5_undo_19 rfl ?_
      exact sk_iret X rfl rfl dX5_undo_20
  unfold m_X5_undo
  refine sk_aload_n (pc' := 1) X rfl dX5_undo_0 rfl ?_
  refine sk_aload_n (pc' := 2) X rfl dX5_undo_1 rfl ?_
  refine sk_getf (pc' := 5) X 0 0 3 in_RX5 rfl rfl rfl (Nat.le_of_ble_eq_true rfl) fl_RX5_43 rfl dX5_undo_2 rfl ?_
  refine sk_if_ne (tgt := 12) (pc' := 8) X dX5_undo_5 rfl rfl ?_ ?_
  · refine sk_iconst (pc' := 13) X ic_0 dX5_undo_12 rfl ?_
    exact (h13 (S0, (0 : Int32)))
  · refine sk_iconst (pc' := 9) X ic_1 dX5_undo_8 rfl ?_
    refine sk_goto (tgt := 13) X dX5_undo_9 rfl ?_
    exact (h13 (S0, (1 : Int32)))
def rm_X5_within : Room := { frames := 0, cells := 0, slots := 0, locals := 0 }
def o_X5_within : (Int32) → Option Value := fun r => some (.int r)
def w_X5_within (G : sk_G) : (Int32) → sk_B := fun r => []
set_option maxHeartbeats 4000000 in
set_option maxRecDepth 100000 in
theorem c_X5_within (l : Launch) (G : sk_G) (p1 : Int32) (p2 : Int32) (p3 : Int32) : sk_ctr l G yX5_within cX5_within 3 (some .boolean) rm_X5_within [.int p1, .int p2, .int p3] [] (m_X5_within p1 p2 p3) o_X5_within (w_X5_within G) := by
  refine sk_entry (own := RX5) (by decide) rfl (lv0 := [some (.int p1), some (.int p2), some (.int p3)]) rfl (Nat.le_of_ble_eq_true rfl) ?_
  intro Γ X
  unfold m_X5_within
  refine sk_iload_n (pc' := 1) X rfl dX5_within_0 rfl ?_
  refine sk_iload_n (pc' := 2) X rfl dX5_within_1 rfl ?_
  refine sk_icmp_lt (tgt := 14) (pc' := 5) X dX5_within_2 rfl rfl ?_ ?_
  · refine sk_iconst (pc' := 15) X ic_0 dX5_within_14 rfl ?_
    exact sk_zret X (by decide) rfl rfl dX5_within_15
  · refine sk_iload_n (pc' := 6) X rfl dX5_within_5 rfl ?_
    refine sk_iload_n (pc' := 7) X rfl dX5_within_6 rfl ?_
    refine sk_icmp_gt (tgt := 14) (pc' := 10) X dX5_within_7 rfl rfl ?_ ?_
    · refine sk_iconst (pc' := 15) X ic_0 dX5_within_14 rfl ?_
      exact sk_zret X (by decide) rfl rfl dX5_within_15
    · refine sk_iconst (pc' := 11) X ic_1 dX5_within_10 rfl ?_
      refine sk_goto (tgt := 15) X dX5_within_11 rfl ?_
      exact sk_zret X (by decide) rfl rfl dX5_within_15
def rm_X5_mayAdd : Room := { frames := 1, cells := 0, slots := 0, locals := 22 }
def o_X5_mayAdd : (Int32) → Option Value := fun r => some (.int r)
def w_X5_mayAdd (G : sk_G) (u0 : Nat → Nat) (S0 : sk_M) : (Int32) → sk_B := fun r => [(md_W G u0 S0)]
set_option maxHeartbeats 4000000 in
set_option maxRecDepth 100000 in
theorem c_X5_mayAdd (l : Launch) (G : sk_G) (u0 : Nat → Nat) (S0 : sk_M) (p1 : Int32) : sk_ctr l G yX5_mayAdd cX5_mayAdd 2 (some .int) rm_X5_mayAdd [.ref (u0 0), .int p1] [(md_W G u0 S0)] (m_X5_mayAdd S0 p1) o_X5_mayAdd (w_X5_mayAdd G u0 S0) := by
  refine sk_entry (own := RX5) (by decide) rfl (lv0 := [some (.ref (u0 0)), some (.int p1)]) rfl (Nat.le_of_ble_eq_true rfl) ?_
  intro Γ X
  unfold m_X5_mayAdd
  refine sk_iload_n (pc' := 1) X rfl dX5_mayAdd_0 rfl ?_
  refine sk_iconst (pc' := 2) X ic_0 dX5_mayAdd_1 rfl ?_
  refine sk_aload_n (pc' := 3) X rfl dX5_mayAdd_2 rfl ?_
  refine sk_getf (pc' := 6) X 0 0 0 in_RX5 rfl rfl rfl (Nat.le_of_ble_eq_true rfl) fl_RX5_7 rfl dX5_mayAdd_3 rfl ?_
  refine sk_iconst (pc' := 7) X ic_0 dX5_mayAdd_6 rfl ?_
  refine sk_iald (pc' := 8) X 0 1 rfl rfl dX5_mayAdd_7 rfl ?_
  refine sk_iconst (pc' := 9) X ic_1 dX5_mayAdd_8 rfl ?_
  refine sk_isub (pc' := 10) X dX5_mayAdd_9 rfl ?_
  refine sk_callS (bs2 := fun r10 => [(md_W G u0 S0)]) (st := []) (st2 := fun r10 => [.int r10]) (As := [.int p1, .int (0 : Int32), .int (((S0.1 1) ((0 : Int32)).toNatClampNeg) - (1 : Int32))]) (pc' := 13) X (c_X5_within l G p1 (0 : Int32) (((S0.1 1) ((0 : Int32)).toNatClampNeg) - (1 : Int32))) lk_RX5_39 [] rfl (by decide) (fun _ => rfl) ⟨(Nat.le_of_ble_eq_true rfl), (Nat.le_of_ble_eq_true rfl)⟩ ⟨rfl, rfl⟩ ⟨(Nat.le_of_ble_eq_true rfl), (Nat.le_of_ble_eq_true rfl)⟩ rfl (Nat.le_of_ble_eq_true rfl) rfl dX5_mayAdd_10 rfl (fun _ => rfl) (fun _ => rfl) (fun r10 => ?_)
  refine sk_if_ne (tgt := 20) (pc' := 16) X dX5_mayAdd_13 rfl rfl ?_ ?_
  · refine sk_aload_n (pc' := 21) X rfl dX5_mayAdd_20 rfl ?_
    refine sk_getf (pc' := 24) X 0 0 0 in_RX5 rfl rfl rfl (Nat.le_of_ble_eq_true rfl) fl_RX5_7 rfl dX5_mayAdd_21 rfl ?_
    refine sk_iconst (pc' := 25) X ic_5 dX5_mayAdd_24 rfl ?_
    refine sk_iald (pc' := 26) X 0 1 rfl rfl dX5_mayAdd_25 rfl ?_
    refine sk_bipush (pc' := 28) X bp_10 dX5_mayAdd_26 rfl ?_
    refine sk_icmp_ne (tgt := 35) (pc' := 31) X dX5_mayAdd_28 rfl rfl ?_ ?_
    · refine sk_iconst (pc' := 36) X ic_0 dX5_mayAdd_35 rfl ?_
      exact sk_iret X rfl rfl dX5_mayAdd_36
    · refine sk_iconst (pc' := 32) X ic_2 dX5_mayAdd_31 rfl ?_
      refine sk_goto (tgt := 36) X dX5_mayAdd_32 rfl ?_
      exact sk_iret X rfl rfl dX5_mayAdd_36
  · refine sk_iconst (pc' := 17) X ic_1 dX5_mayAdd_16 rfl ?_
    refine sk_goto (tgt := 36) X dX5_mayAdd_17 rfl ?_
    exact sk_iret X rfl rfl dX5_mayAdd_36
def rm_X5_saves : Room := { frames := 0, cells := 0, slots := 0, locals := 0 }
def o_X5_saves : (sk_M) → Option Value := fun r => none
def w_X5_saves (G : sk_G) (u0 : Nat → Nat) : (sk_M) → sk_B := fun r => [(md_W G u0 r)]
set_option maxHeartbeats 4000000 in
set_option maxRecDepth 100000 in
theorem c_X5_saves (l : Launch) (G : sk_G) (u0 : Nat → Nat) (S0 : sk_M) : sk_ctr l G yX5_saves cX5_saves 2 none rm_X5_saves [.ref (u0 0)] [(md_W G u0 S0)] (m_X5_saves S0) o_X5_saves (w_X5_saves G u0) := by
  refine sk_entry (own := RX5) (by decide) rfl (lv0 := [some (.ref (u0 0)), none]) rfl (Nat.le_of_ble_eq_true rfl) ?_
  intro Γ X
  have h51 : ∀ s51 : sk_M × Int32, sk_S Γ (sk_Φ Γ o_X5_saves (w_X5_saves G u0)) 0 0 (m_X5_saves_51 s51) [(md_W G u0 s51.1)] [some (.ref (u0 0)), some (.int s51.2)] 51 [] := by
    intro s51
    unfold m_X5_saves_51
    refine sk_loop (bsf := fun s51 => [(md_W G u0 s51.1)]) (lvf := fun s51 => [some (.ref (u0 0)), some (.int s51.2)]) ?_ sk_fuel s51
    intro k51 s51 ih51
    unfold m_X5_saves_51_step
    refine sk_iload_n (pc' := 52) X rfl dX5_saves_51 rfl ?_
    refine sk_sipush (pc' := 55) X sp_378 dX5_saves_52 rfl ?_
    refine sk_icmp_ge (tgt := 85) (pc' := 58) X dX5_saves_55 rfl rfl ?_ ?_
    · refine sk_aload_n (pc' := 86) X rfl dX5_saves_85 rfl ?_
      refine sk_dup (pc' := 87) X rfl dX5_saves_86 rfl ?_
      refine sk_getf (pc' := 90) X 0 0 3 in_RX5 rfl rfl rfl (Nat.le_of_ble_eq_true rfl) fl_RX5_43 rfl dX5_saves_87 rfl ?_
      refine sk_iconst (pc' := 91) X ic_1 dX5_saves_90 rfl ?_
      refine sk_iadd (pc' := 92) X dX5_saves_91 rfl ?_
      refine sk_putf (bs' := [(md_W G u0 (md_up s51.1 0 3 ((s51.1.1 0 3) + (1 : Int32))))]) (pc' := 95) X 0 0 3 in_RX5 tyX5 tyX5_ok nmX5 rfl rfl rfl (Nat.le_of_ble_eq_true rfl) fl_RX5_43 rfl (tyX5_ok 3 (Nat.le_of_ble_eq_true rfl)) rfl rfl (Nat.le_of_ble_eq_true rfl) (sk_st 0 (md_pf_3 ..) rfl) dX5_saves_92 rfl ?_
      refine sk_lt (bsf := fun z => [(md_W G u0 z)]) (lvf := fun _ => [some (.ref (u0 0)), some (.int s51.2)]) (stf := fun _ => []) (fun N92 => ?_)
      exact sk_vret X rfl rfl dX5_saves_95
    · refine sk_aload_n (pc' := 59) X rfl dX5_saves_58 rfl ?_
      refine sk_getf (pc' := 62) X 0 0 1 in_RX5 rfl rfl rfl (Nat.le_of_ble_eq_true rfl) fl_RX5_13 rfl dX5_saves_59 rfl ?_
      refine sk_sipush (pc' := 65) X sp_378 dX5_saves_62 rfl ?_
      refine sk_aload_n (pc' := 66) X rfl dX5_saves_65 rfl ?_
      refine sk_getf (pc' := 69) X 0 0 3 in_RX5 rfl rfl rfl (Nat.le_of_ble_eq_true rfl) fl_RX5_43 rfl dX5_saves_66 rfl ?_
      refine sk_imul (pc' := 70) X dX5_saves_69 rfl ?_
      refine sk_iload_n (pc' := 71) X rfl dX5_saves_70 rfl ?_
      refine sk_iadd (pc' := 72) X dX5_saves_71 rfl ?_
      refine sk_aload_n (pc' := 73) X rfl dX5_saves_72 rfl ?_
      refine sk_getf (pc' := 76) X 0 0 0 in_RX5 rfl rfl rfl (Nat.le_of_ble_eq_true rfl) fl_RX5_7 rfl dX5_saves_73 rfl ?_
      refine sk_iload_n (pc' := 77) X rfl dX5_saves_76 rfl ?_
      refine sk_iald (pc' := 78) X 0 1 rfl rfl dX5_saves_77 rfl ?_
      refine sk_iast (bs' := [(md_W G u0 (md_up s51.1 2 ((((378 : Int32) * (s51.1.1 0 3)) + s51.2)).toNatClampNeg ((s51.1.1 1) (s51.2).toNatClampNeg)))]) (pc' := 79) X 0 2 rfl rfl (sk_st 0 (md_st_2 ..) rfl) dX5_saves_78 rfl ?_
      refine sk_lt (bsf := fun z => [(md_W G u0 z)]) (lvf := fun _ => [some (.ref (u0 0)), some (.int s51.2)]) (stf := fun _ => []) (fun N78 => ?_)
      refine sk_iinc (lv' := [some (.ref (u0 0)), some (.int (s51.2 + (1 : Int32)))]) (pc' := 82) X rfl ic_1 (Nat.le_of_ble_eq_true rfl) rfl rfl dX5_saves_79 rfl ?_
      refine sk_goto (tgt := 51) X dX5_saves_82 rfl ?_
      exact (ih51 (N78, (s51.2 + (1 : Int32))))
  have h10 : ∀ s10 : sk_M × Int32, sk_S Γ (sk_Φ Γ o_X5_saves (w_X5_saves G u0)) 0 0 (m_X5_saves_10 s10) [(md_W G u0 s10.1)] [some (.ref (u0 0)), some (.int s10.2)] 10 [] := by
    intro s10
    unfold m_X5_saves_10
    refine sk_loop (bsf := fun s10 => [(md_W G u0 s10.1)]) (lvf := fun s10 => [some (.ref (u0 0)), some (.int s10.2)]) ?_ sk_fuel s10
    intro k10 s10 ih10
    unfold m_X5_saves_10_step
    refine sk_iload_n (pc' := 11) X rfl dX5_saves_10 rfl ?_
    refine sk_sipush (pc' := 14) X sp_1134 dX5_saves_11 rfl ?_
    refine sk_icmp_ge (tgt := 39) (pc' := 17) X dX5_saves_14 rfl rfl ?_ ?_
    · refine sk_aload_n (pc' := 40) X rfl dX5_saves_39 rfl ?_
      refine sk_dup (pc' := 41) X rfl dX5_saves_40 rfl ?_
      refine sk_getf (pc' := 44) X 0 0 3 in_RX5 rfl rfl rfl (Nat.le_of_ble_eq_true rfl) fl_RX5_43 rfl dX5_saves_41 rfl ?_
      refine sk_iconst (pc' := 45) X ic_1 dX5_saves_44 rfl ?_
      refine sk_isub (pc' := 46) X dX5_saves_45 rfl ?_
      refine sk_putf (bs' := [(md_W G u0 (md_up s10.1 0 3 ((s10.1.1 0 3) - (1 : Int32))))]) (pc' := 49) X 0 0 3 in_RX5 tyX5 tyX5_ok nmX5 rfl rfl rfl (Nat.le_of_ble_eq_true rfl) fl_RX5_43 rfl (tyX5_ok 3 (Nat.le_of_ble_eq_true rfl)) rfl rfl (Nat.le_of_ble_eq_true rfl) (sk_st 0 (md_pf_3 ..) rfl) dX5_saves_46 rfl ?_
      refine sk_lt (bsf := fun z => [(md_W G u0 z)]) (lvf := fun _ => [some (.ref (u0 0)), some (.int s10.2)]) (stf := fun _ => []) (fun N46 => ?_)
      refine sk_iconst (pc' := 50) X ic_0 dX5_saves_49 rfl ?_
      refine sk_istore_n (lv' := [some (.ref (u0 0)), some (.int (0 : Int32))]) (pc' := 51) X (Nat.le_of_ble_eq_true rfl) rfl rfl dX5_saves_50 rfl ?_
      exact (h51 (N46, (0 : Int32)))
    · refine sk_aload_n (pc' := 18) X rfl dX5_saves_17 rfl ?_
      refine sk_getf (pc' := 21) X 0 0 1 in_RX5 rfl rfl rfl (Nat.le_of_ble_eq_true rfl) fl_RX5_13 rfl dX5_saves_18 rfl ?_
      refine sk_iload_n (pc' := 22) X rfl dX5_saves_21 rfl ?_
      refine sk_aload_n (pc' := 23) X rfl dX5_saves_22 rfl ?_
      refine sk_getf (pc' := 26) X 0 0 1 in_RX5 rfl rfl rfl (Nat.le_of_ble_eq_true rfl) fl_RX5_13 rfl dX5_saves_23 rfl ?_
      refine sk_iload_n (pc' := 27) X rfl dX5_saves_26 rfl ?_
      refine sk_sipush (pc' := 30) X sp_378 dX5_saves_27 rfl ?_
      refine sk_iadd (pc' := 31) X dX5_saves_30 rfl ?_
      refine sk_iald (pc' := 32) X 0 2 rfl rfl dX5_saves_31 rfl ?_
      refine sk_iast (bs' := [(md_W G u0 (md_up s10.1 2 (s10.2).toNatClampNeg ((s10.1.1 2) ((s10.2 + (378 : Int32))).toNatClampNeg)))]) (pc' := 33) X 0 2 rfl rfl (sk_st 0 (md_st_2 ..) rfl) dX5_saves_32 rfl ?_
      refine sk_lt (bsf := fun z => [(md_W G u0 z)]) (lvf := fun _ => [some (.ref (u0 0)), some (.int s10.2)]) (stf := fun _ => []) (fun N32 => ?_)
      refine sk_iinc (lv' := [some (.ref (u0 0)), some (.int (s10.2 + (1 : Int32)))]) (pc' := 36) X rfl ic_1 (Nat.le_of_ble_eq_true rfl) rfl rfl dX5_saves_33 rfl ?_
      refine sk_goto (tgt := 10) X dX5_saves_36 rfl ?_
      exact (ih10 (N32, (s10.2 + (1 : Int32))))
  unfold m_X5_saves
  refine sk_aload_n (pc' := 1) X rfl dX5_saves_0 rfl ?_
  refine sk_getf (pc' := 4) X 0 0 3 in_RX5 rfl rfl rfl (Nat.le_of_ble_eq_true rfl) fl_RX5_43 rfl dX5_saves_1 rfl ?_
  refine sk_iconst (pc' := 5) X ic_4 dX5_saves_4 rfl ?_
  refine sk_icmp_ne (tgt := 49) (pc' := 8) X dX5_saves_5 rfl rfl ?_ ?_
  · refine sk_iconst (pc' := 50) X ic_0 dX5_saves_49 rfl ?_
    refine sk_istore_n (lv' := [some (.ref (u0 0)), some (.int (0 : Int32))]) (pc' := 51) X (Nat.le_of_ble_eq_true rfl) rfl rfl dX5_saves_50 rfl ?_
    exact (h51 (S0, (0 : Int32)))
  · refine sk_iconst (pc' := 9) X ic_0 dX5_saves_8 rfl ?_
    refine sk_istore_n (lv' := [some (.ref (u0 0)), some (.int (0 : Int32))]) (pc' := 10) X (Nat.le_of_ble_eq_true rfl) rfl rfl dX5_saves_9 rfl ?_
    exact (h10 (S0, (0 : Int32)))
def rm_X5_doAdd : Room := { frames := 0, cells := 0, slots := 0, locals := 0 }
def o_X5_doAdd : (Int32 × sk_M) → Option Value := fun r => some (.int r.1)
def w_X5_doAdd (G : sk_G) (u0 : Nat → Nat) : (Int32 × sk_M) → sk_B := fun r => [(md_W G u0 r.2)]
set_option maxHeartbeats 4000000 in
set_option maxRecDepth 100000 in
theorem c_X5_doAdd (l : Launch) (G : sk_G) (u0 : Nat → Nat) (S0 : sk_M) (p1 : Int32) : sk_ctr l G yX5_doAdd cX5_doAdd 3 (some .int) rm_X5_doAdd [.ref (u0 0), .int p1] [(md_W G u0 S0)] (m_X5_doAdd S0 p1) o_X5_doAdd (w_X5_doAdd G u0) := by
  refine sk_entry (own := RX5) (by decide) rfl (lv0 := [some (.ref (u0 0)), some (.int p1), none]) rfl (Nat.le_of_ble_eq_true rfl) ?_
  intro Γ X
  unfold m_X5_doAdd
  refine sk_aload_n (pc' := 1) X rfl dX5_doAdd_0 rfl ?_
  refine sk_getf (pc' := 4) X 0 0 0 in_RX5 rfl rfl rfl (Nat.le_of_ble_eq_true rfl) fl_RX5_7 rfl dX5_doAdd_1 rfl ?_
  refine sk_iconst (pc' := 5) X ic_5 dX5_doAdd_4 rfl ?_
  refine sk_iald (pc' := 6) X 0 1 rfl rfl dX5_doAdd_5 rfl ?_
  refine sk_istore_n (lv' := [some (.ref (u0 0)), some (.int p1), some (.int ((S0.1 1) ((5 : Int32)).toNatClampNeg))]) (pc' := 7) X (Nat.le_of_ble_eq_true rfl) rfl rfl dX5_doAdd_6 rfl ?_
  refine sk_lt (bsf := fun _ => [(md_W G u0 S0)]) (lvf := fun z => [some (.ref (u0 0)), some (.int p1), some (.int z)]) (stf := fun _ => []) (fun x6 => ?_)
  refine sk_aload_n (pc' := 8) X rfl dX5_doAdd_7 rfl ?_
  refine sk_getf (pc' := 11) X 0 0 0 in_RX5 rfl rfl rfl (Nat.le_of_ble_eq_true rfl) fl_RX5_7 rfl dX5_doAdd_8 rfl ?_
  refine sk_iconst (pc' := 12) X ic_5 dX5_doAdd_11 rfl ?_
  refine sk_dup2 (pc' := 13) X rfl rfl dX5_doAdd_12 rfl ?_
  refine sk_iald (pc' := 14) X 0 1 rfl rfl dX5_doAdd_13 rfl ?_
  refine sk_iconst (pc' := 15) X ic_1 dX5_doAdd_14 rfl ?_
  refine sk_iadd (pc' := 16) X dX5_doAdd_15 rfl ?_
  refine sk_iast (bs' := [(md_W G u0 (md_up S0 1 ((5 : Int32)).toNatClampNeg (((S0.1 1) ((5 : Int32)).toNatClampNeg) + (1 : Int32))))]) (pc' := 17) X 0 1 rfl rfl (sk_st 0 (md_st_1 ..) rfl) dX5_doAdd_16 rfl ?_
  refine sk_lt (bsf := fun z => [(md_W G u0 z)]) (lvf := fun _ => [some (.ref (u0 0)), some (.int p1), some (.int x6)]) (stf := fun _ => []) (fun N16 => ?_)
  refine sk_aload_n (pc' := 18) X rfl dX5_doAdd_17 rfl ?_
  refine sk_getf (pc' := 21) X 0 0 0 in_RX5 rfl rfl rfl (Nat.le_of_ble_eq_true rfl) fl_RX5_7 rfl dX5_doAdd_18 rfl ?_
  refine sk_bipush (pc' := 23) X bp_8 dX5_doAdd_21 rfl ?_
  refine sk_iload_n (pc' := 24) X rfl dX5_doAdd_23 rfl ?_
  refine sk_iadd (pc' := 25) X dX5_doAdd_24 rfl ?_
  refine sk_iload_n (pc' := 26) X rfl dX5_doAdd_25 rfl ?_
  refine sk_iast (bs' := [(md_W G u0 (md_up N16 1 (((8 : Int32) + x6)).toNatClampNeg p1))]) (pc' := 27) X 0 1 rfl rfl (sk_st 0 (md_st_1 ..) rfl) dX5_doAdd_26 rfl ?_
  refine sk_lt (bsf := fun z => [(md_W G u0 z)]) (lvf := fun _ => [some (.ref (u0 0)), some (.int p1), some (.int x6)]) (stf := fun _ => []) (fun N26 => ?_)
  refine sk_aload_n (pc' := 28) X rfl dX5_doAdd_27 rfl ?_
  refine sk_getf (pc' := 31) X 0 0 0 in_RX5 rfl rfl rfl (Nat.le_of_ble_eq_true rfl) fl_RX5_7 rfl dX5_doAdd_28 rfl ?_
  refine sk_bipush (pc' := 33) X bp_18 dX5_doAdd_31 rfl ?_
  refine sk_iload_n (pc' := 34) X rfl dX5_doAdd_33 rfl ?_
  refine sk_iadd (pc' := 35) X dX5_doAdd_34 rfl ?_
  refine sk_iconst (pc' := 36) X ic_0 dX5_doAdd_35 rfl ?_
  refine sk_iast (bs' := [(md_W G u0 (md_up N26 1 (((18 : Int32) + x6)).toNatClampNeg (0 : Int32)))]) (pc' := 37) X 0 1 rfl rfl (sk_st 0 (md_st_1 ..) rfl) dX5_doAdd_36 rfl ?_
  refine sk_lt (bsf := fun z => [(md_W G u0 z)]) (lvf := fun _ => [some (.ref (u0 0)), some (.int p1), some (.int x6)]) (stf := fun _ => []) (fun N36 => ?_)
  refine sk_aload_n (pc' := 38) X rfl dX5_doAdd_37 rfl ?_
  refine sk_getf (pc' := 41) X 0 0 0 in_RX5 rfl rfl rfl (Nat.le_of_ble_eq_true rfl) fl_RX5_7 rfl dX5_doAdd_38 rfl ?_
  refine sk_bipush (pc' := 43) X bp_28 dX5_doAdd_41 rfl ?_
  refine sk_iload_n (pc' := 44) X rfl dX5_doAdd_43 rfl ?_
  refine sk_iadd (pc' := 45) X dX5_doAdd_44 rfl ?_
  refine sk_iconst (pc' := 46) X ic_0 dX5_doAdd_45 rfl ?_
  refine sk_iast (bs' := [(md_W G u0 (md_up N36 1 (((28 : Int32) + x6)).toNatClampNeg (0 : Int32)))]) (pc' := 47) X 0 1 rfl rfl (sk_st 0 (md_st_1 ..) rfl) dX5_doAdd_46 rfl ?_
  refine sk_lt (bsf := fun z => [(md_W G u0 z)]) (lvf := fun _ => [some (.ref (u0 0)), some (.int p1), some (.int x6)]) (stf := fun _ => []) (fun N46 => ?_)
  refine sk_iload_n (pc' := 48) X rfl dX5_doAdd_47 rfl ?_
  exact sk_iret X rfl rfl dX5_doAdd_48
def rm_X5_add : Room := { frames := 2, cells := 0, slots := 0, locals := 43 }
def o_X5_add : (Int32 × sk_M) → Option Value := fun r => some (.int r.1)
def w_X5_add (G : sk_G) (u0 : Nat → Nat) : (Int32 × sk_M) → sk_B := fun r => [(md_W G u0 r.2)]
set_option maxHeartbeats 4000000 in
set_option maxRecDepth 100000 in
theorem c_X5_add (l : Launch) (G : sk_G) (u0 : Nat → Nat) (S0 : sk_M) (p1 : Int32) : sk_ctr l G yX5_add cX5_add 2 (some .int) rm_X5_add [.ref (u0 0), .int p1] [(md_W G u0 S0)] (m_X5_add S0 p1) o_X5_add (w_X5_add G u0) := by
  refine sk_entry (own := RX5) (by decide) rfl (lv0 := [some (.ref (u0 0)), some (.int p1)]) rfl (Nat.le_of_ble_eq_true rfl) ?_
  intro Γ X
  unfold m_X5_add
  refine sk_aload_n (pc' := 1) X rfl dX5_add_0 rfl ?_
  refine sk_aload_n (pc' := 2) X rfl dX5_add_1 rfl ?_
  refine sk_iload_n (pc' := 3) X rfl dX5_add_2 rfl ?_
  refine sk_callV (bs2 := fun r3 => [(md_W G u0 S0)]) (st := [.ref (u0 0)]) (st2 := fun r3 => [.int r3, .ref (u0 0)]) (As := [.int p1]) (pc' := 6) X (c_X5_mayAdd l G u0 S0 p1) lk_RX5_50 [0] rfl (by decide) (fun _ => rfl) rfl rfl rfl ⟨(Nat.le_of_ble_eq_true rfl), (Nat.le_of_ble_eq_true rfl)⟩ ⟨rfl, rfl⟩ ⟨(Nat.le_of_ble_eq_true rfl), (Nat.le_of_ble_eq_true rfl)⟩ rfl (Nat.le_of_ble_eq_true rfl) rfl dX5_add_3 rfl (fun _ => rfl) (fun _ => rfl) (fun r3 => ?_)
  refine sk_callV (bs2 := fun r6 => [(md_W G u0 r6.2)]) (st := []) (st2 := fun r6 => [.int r6.1]) (As := [.int r3]) (pc' := 9) X (c_X5_refused l G u0 S0 r3) lk_RX5_46 [0] rfl (by decide) (fun _ => rfl) rfl rfl rfl ⟨(Nat.le_of_ble_eq_true rfl), (Nat.le_of_ble_eq_true rfl)⟩ ⟨rfl, rfl⟩ ⟨(Nat.le_of_ble_eq_true rfl), (Nat.le_of_ble_eq_true rfl)⟩ rfl (Nat.le_of_ble_eq_true rfl) rfl dX5_add_6 rfl (fun _ => rfl) (fun _ => rfl) (fun r6 => ?_)
  refine sk_if_eq (tgt := 14) (pc' := 12) X dX5_add_9 rfl rfl ?_ ?_
  · refine sk_aload_n (pc' := 15) X rfl dX5_add_14 rfl ?_
    refine sk_callV (bs2 := fun r15 => [(md_W G u0 r15)]) (st := []) (st2 := fun r15 => []) (As := []) (pc' := 18) X (c_X5_saves l G u0 r6.2) lk_RX5_54 [0] rfl (by decide) (fun _ => rfl) rfl rfl rfl ⟨(Nat.le_of_ble_eq_true rfl), (Nat.le_of_ble_eq_true rfl)⟩ ⟨rfl, rfl⟩ ⟨(Nat.le_of_ble_eq_true rfl), (Nat.le_of_ble_eq_true rfl)⟩ rfl (Nat.le_of_ble_eq_true rfl) rfl dX5_add_15 rfl (fun _ => rfl) (fun _ => rfl) (fun r15 => ?_)
    refine sk_aload_n (pc' := 19) X rfl dX5_add_18 rfl ?_
    refine sk_iload_n (pc' := 20) X rfl dX5_add_19 rfl ?_
    refine sk_callV (bs2 := fun r20 => [(md_W G u0 r20.2)]) (st := []) (st2 := fun r20 => [.int r20.1]) (As := [.int p1]) (pc' := 23) X (c_X5_doAdd l G u0 r15 p1) lk_RX5_57 [0] rfl (by decide) (fun _ => rfl) rfl rfl rfl ⟨(Nat.le_of_ble_eq_true rfl), (Nat.le_of_ble_eq_true rfl)⟩ ⟨rfl, rfl⟩ ⟨(Nat.le_of_ble_eq_true rfl), (Nat.le_of_ble_eq_true rfl)⟩ rfl (Nat.le_of_ble_eq_true rfl) rfl dX5_add_20 rfl (fun _ => rfl) (fun _ => rfl) (fun r20 => ?_)
    exact sk_iret X rfl rfl dX5_add_23
  · refine sk_iconst (pc' := 13) X ic_0 dX5_add_12 rfl ?_
    exact sk_iret X rfl rfl dX5_add_13
def rm_X5_isClock : Room := { frames := 1, cells := 0, slots := 0, locals := 22 }
def o_X5_isClock : (Int32) → Option Value := fun r => some (.int r)
def w_X5_isClock (G : sk_G) (u0 : Nat → Nat) (S0 : sk_M) : (Int32) → sk_B := fun r => [(md_W G u0 S0)]
set_option maxHeartbeats 4000000 in
set_option maxRecDepth 100000 in
theorem c_X5_isClock (l : Launch) (G : sk_G) (u0 : Nat → Nat) (S0 : sk_M) (p1 : Int32) : sk_ctr l G yX5_isClock cX5_isClock 2 (some .boolean) rm_X5_isClock [.ref (u0 0), .int p1] [(md_W G u0 S0)] (m_X5_isClock S0 p1) o_X5_isClock (w_X5_isClock G u0 S0) := by
  refine sk_entry (own := RX5) (by decide) rfl (lv0 := [some (.ref (u0 0)), some (.int p1)]) rfl (Nat.le_of_ble_eq_true rfl) ?_
  intro Γ X
  unfold m_X5_isClock
  refine sk_iload_n (pc' := 1) X rfl dX5_isClock_0 rfl ?_
  refine sk_iconst (pc' := 2) X ic_0 dX5_isClock_1 rfl ?_
  refine sk_aload_n (pc' := 3) X rfl dX5_isClock_2 rfl ?_
  refine sk_getf (pc' := 6) X 0 0 0 in_RX5 rfl rfl rfl (Nat.le_of_ble_eq_true rfl) fl_RX5_7 rfl dX5_isClock_3 rfl ?_
  refine sk_iconst (pc' := 7) X ic_5 dX5_isClock_6 rfl ?_
  refine sk_iald (pc' := 8) X 0 1 rfl rfl dX5_isClock_7 rfl ?_
  refine sk_iconst (pc' := 9) X ic_1 dX5_isClock_8 rfl ?_
  refine sk_isub (pc' := 10) X dX5_isClock_9 rfl ?_
  refine sk_callS (bs2 := fun r10 => [(md_W G u0 S0)]) (st := []) (st2 := fun r10 => [.int r10]) (As := [.int p1, .int (0 : Int32), .int (((S0.1 1) ((5 : Int32)).toNatClampNeg) - (1 : Int32))]) (pc' := 13) X (c_X5_within l G p1 (0 : Int32) (((S0.1 1) ((5 : Int32)).toNatClampNeg) - (1 : Int32))) lk_RX5_39 [] rfl (by decide) (fun _ => rfl) ⟨(Nat.le_of_ble_eq_true rfl), (Nat.le_of_ble_eq_true rfl)⟩ ⟨rfl, rfl⟩ ⟨(Nat.le_of_ble_eq_true rfl), (Nat.le_of_ble_eq_true rfl)⟩ rfl (Nat.le_of_ble_eq_true rfl) rfl dX5_isClock_10 rfl (fun _ => rfl) (fun _ => rfl) (fun r10 => ?_)
  exact sk_zretb X rfl rfl dX5_isClock_13
def rm_X5_mayPhase : Room := { frames := 2, cells := 0, slots := 0, locals := 43 }
def o_X5_mayPhase : (Int32) → Option Value := fun r => some (.int r)
def w_X5_mayPhase (G : sk_G) (u0 : Nat → Nat) (S0 : sk_M) : (Int32) → sk_B := fun r => [(md_W G u0 S0)]
set_option maxHeartbeats 4000000 in
set_option maxRecDepth 100000 in
theorem c_X5_mayPhase (l : Launch) (G : sk_G) (u0 : Nat → Nat) (S0 : sk_M) (p1 : Int32) (p2 : Int32) : sk_ctr l G yX5_mayPhase cX5_mayPhase 3 (some .int) rm_X5_mayPhase [.ref (u0 0), .int p1, .int p2] [(md_W G u0 S0)] (m_X5_mayPhase S0 p1 p2) o_X5_mayPhase (w_X5_mayPhase G u0 S0) := by
  refine sk_entry (own := RX5) (by decide) rfl (lv0 := [some (.ref (u0 0)), some (.int p1), some (.int p2)]) rfl (Nat.le_of_ble_eq_true rfl) ?_
  intro Γ X
  unfold m_X5_mayPhase
  refine sk_aload_n (pc' := 1) X rfl dX5_mayPhase_0 rfl ?_
  refine sk_iload_n (pc' := 2) X rfl dX5_mayPhase_1 rfl ?_
  refine sk_callV (bs2 := fun r2 => [(md_W G u0 S0)]) (st := []) (st2 := fun r2 => [.int r2]) (As := [.int p1]) (pc' := 5) X (c_X5_isClock l G u0 S0 p1) lk_RX5_60 [0] rfl (by decide) (fun _ => rfl) rfl rfl rfl ⟨(Nat.le_of_ble_eq_true rfl), (Nat.le_of_ble_eq_true rfl)⟩ ⟨rfl, rfl⟩ ⟨(Nat.le_of_ble_eq_true rfl), (Nat.le_of_ble_eq_true rfl)⟩ rfl (Nat.le_of_ble_eq_true rfl) rfl dX5_mayPhase_2 rfl (fun _ => rfl) (fun _ => rfl) (fun r2 => ?_)
  refine sk_if_ne (tgt := 12) (pc' := 8) X dX5_mayPhase_5 rfl rfl ?_ ?_
  · refine sk_iload_n (pc' := 13) X rfl dX5_mayPhase_12 rfl ?_
    refine sk_iconst (pc' := 14) X ic_0 dX5_mayPhase_13 rfl ?_
    refine sk_aload_n (pc' := 15) X rfl dX5_mayPhase_14 rfl ?_
    refine sk_getf (pc' := 18) X 0 0 0 in_RX5 rfl rfl rfl (Nat.le_of_ble_eq_true rfl) fl_RX5_7 rfl dX5_mayPhase_15 rfl ?_
    refine sk_iconst (pc' := 19) X ic_0 dX5_mayPhase_18 rfl ?_
    refine sk_iald (pc' := 20) X 0 1 rfl rfl dX5_mayPhase_19 rfl ?_
    refine sk_iconst (pc' := 21) X ic_1 dX5_mayPhase_20 rfl ?_
    refine sk_isub (pc' := 22) X dX5_mayPhase_21 rfl ?_
    refine sk_callS (bs2 := fun r22 => [(md_W G u0 S0)]) (st := []) (st2 := fun r22 => [.int r22]) (As := [.int p2, .int (0 : Int32), .int (((S0.1 1) ((0 : Int32)).toNatClampNeg) - (1 : Int32))]) (pc' := 25) X (c_X5_within l G p2 (0 : Int32) (((S0.1 1) ((0 : Int32)).toNatClampNeg) - (1 : Int32))) lk_RX5_39 [] rfl (by decide) (fun _ => rfl) ⟨(Nat.le_of_ble_eq_true rfl), (Nat.le_of_ble_eq_true rfl)⟩ ⟨rfl, rfl⟩ ⟨(Nat.le_of_ble_eq_true rfl), (Nat.le_of_ble_eq_true rfl)⟩ rfl (Nat.le_of_ble_eq_true rfl) rfl dX5_mayPhase_22 rfl (fun _ => rfl) (fun _ => rfl) (fun r22 => ?_)
    refine sk_if_ne (tgt := 32) (pc' := 28) X dX5_mayPhase_25 rfl rfl ?_ ?_
    · refine sk_iconst (pc' := 33) X ic_0 dX5_mayPhase_32 rfl ?_
      exact sk_iret X rfl rfl dX5_mayPhase_33
    · refine sk_iconst (pc' := 29) X ic_2 dX5_mayPhase_28 rfl ?_
      refine sk_goto (tgt := 33) X dX5_mayPhase_29 rfl ?_
      exact sk_iret X rfl rfl dX5_mayPhase_33
  · refine sk_iconst (pc' := 9) X ic_1 dX5_mayPhase_8 rfl ?_
    refine sk_goto (tgt := 33) X dX5_mayPhase_9 rfl ?_
    exact sk_iret X rfl rfl dX5_mayPhase_33
def rm_X5_setPhase : Room := { frames := 3, cells := 0, slots := 0, locals := 65 }
def o_X5_setPhase : (Int32 × sk_M) → Option Value := fun r => some (.int r.1)
def w_X5_setPhase (G : sk_G) (u0 : Nat → Nat) : (Int32 × sk_M) → sk_B := fun r => [(md_W G u0 r.2)]
set_option maxHeartbeats 4000000 in
set_option maxRecDepth 100000 in
theorem c_X5_setPhase (l : Launch) (G : sk_G) (u0 : Nat → Nat) (S0 : sk_M) (p1 : Int32) (p2 : Int32) : sk_ctr l G yX5_setPhase cX5_setPhase 4 (some .int) rm_X5_setPhase [.ref (u0 0), .int p1, .int p2] [(md_W G u0 S0)] (m_X5_setPhase S0 p1 p2) o_X5_setPhase (w_X5_setPhase G u0) := by
  refine sk_entry (own := RX5) (by decide) rfl (lv0 := [some (.ref (u0 0)), some (.int p1), some (.int p2), none]) rfl (Nat.le_of_ble_eq_true rfl) ?_
  intro Γ X
  unfold m_X5_setPhase
  refine sk_aload_n (pc' := 1) X rfl dX5_setPhase_0 rfl ?_
  refine sk_aload_n (pc' := 2) X rfl dX5_setPhase_1 rfl ?_
  refine sk_iload_n (pc' := 3) X rfl dX5_setPhase_2 rfl ?_
  refine sk_iload_n (pc' := 4) X rfl dX5_setPhase_3 rfl ?_
  refine sk_callV (bs2 := fun r4 => [(md_W G u0 S0)]) (st := [.ref (u0 0)]) (st2 := fun r4 => [.int r4, .ref (u0 0)]) (As := [.int p1, .int p2]) (pc' := 7) X (c_X5_mayPhase l G u0 S0 p1 p2) lk_RX5_63 [0] rfl (by decide) (fun _ => rfl) rfl rfl rfl ⟨(Nat.le_of_ble_eq_true rfl), (Nat.le_of_ble_eq_true rfl)⟩ ⟨rfl, rfl⟩ ⟨(Nat.le_of_ble_eq_true rfl), (Nat.le_of_ble_eq_true rfl)⟩ rfl (Nat.le_of_ble_eq_true rfl) rfl dX5_setPhase_4 rfl (fun _ => rfl) (fun _ => rfl) (fun r4 => ?_)
  refine sk_callV (bs2 := fun r7 => [(md_W G u0 r7.2)]) (st := []) (st2 := fun r7 => [.int r7.1]) (As := [.int r4]) (pc' := 10) X (c_X5_refused l G u0 S0 r4) lk_RX5_46 [0] rfl (by decide) (fun _ => rfl) rfl rfl rfl ⟨(Nat.le_of_ble_eq_true rfl), (Nat.le_of_ble_eq_true rfl)⟩ ⟨rfl, rfl⟩ ⟨(Nat.le_of_ble_eq_true rfl), (Nat.le_of_ble_eq_true rfl)⟩ rfl (Nat.le_of_ble_eq_true rfl) rfl dX5_setPhase_7 rfl (fun _ => rfl) (fun _ => rfl) (fun r7 => ?_)
  refine sk_if_eq (tgt := 15) (pc' := 13) X dX5_setPhase_10 rfl rfl ?_ ?_
  · refine sk_aload_n (pc' := 16) X rfl dX5_setPhase_15 rfl ?_
    refine sk_callV (bs2 := fun r16 => [(md_W G u0 r16)]) (st := []) (st2 := fun r16 => []) (As := []) (pc' := 19) X (c_X5_saves l G u0 r7.2) lk_RX5_54 [0] rfl (by decide) (fun _ => rfl) rfl rfl rfl ⟨(Nat.le_of_ble_eq_true rfl), (Nat.le_of_ble_eq_true rfl)⟩ ⟨rfl, rfl⟩ ⟨(Nat.le_of_ble_eq_true rfl), (Nat.le_of_ble_eq_true rfl)⟩ rfl (Nat.le_of_ble_eq_true rfl) rfl dX5_setPhase_16 rfl (fun _ => rfl) (fun _ => rfl) (fun r16 => ?_)
    refine sk_aload_n (pc' := 20) X rfl dX5_setPhase_19 rfl ?_
    refine sk_getf (pc' := 23) X 0 0 0 in_RX5 rfl rfl rfl (Nat.le_of_ble_eq_true rfl) fl_RX5_7 rfl dX5_setPhase_20 rfl ?_
    refine sk_bipush (pc' := 25) X bp_8 dX5_setPhase_23 rfl ?_
    refine sk_iload_n (pc' := 26) X rfl dX5_setPhase_25 rfl ?_
    refine sk_iadd (pc' := 27) X dX5_setPhase_26 rfl ?_
    refine sk_iald (pc' := 28) X 0 1 rfl rfl dX5_setPhase_27 rfl ?_
    refine sk_istore_n (lv' := [some (.ref (u0 0)), some (.int p1), some (.int p2), some (.int ((r16.1 1) (((8 : Int32) + p1)).toNatClampNeg))]) (pc' := 29) X (Nat.le_of_ble_eq_true rfl) rfl rfl dX5_setPhase_28 rfl ?_
    refine sk_lt (bsf := fun _ => [(md_W G u0 r16)]) (lvf := fun z => [some (.ref (u0 0)), some (.int p1), some (.int p2), some (.int z)]) (stf := fun _ => []) (fun x28 => ?_)
    refine sk_aload_n (pc' := 30) X rfl dX5_setPhase_29 rfl ?_
    refine sk_getf (pc' := 33) X 0 0 0 in_RX5 rfl rfl rfl (Nat.le_of_ble_eq_true rfl) fl_RX5_7 rfl dX5_setPhase_30 rfl ?_
    refine sk_bipush (pc' := 35) X bp_8 dX5_setPhase_33 rfl ?_
    refine sk_iload_n (pc' := 36) X rfl dX5_setPhase_35 rfl ?_
    refine sk_iadd (pc' := 37) X dX5_setPhase_36 rfl ?_
    refine sk_iload_n (pc' := 38) X rfl dX5_setPhase_37 rfl ?_
    refine sk_iast (bs' := [(md_W G u0 (md_up r16 1 (((8 : Int32) + p1)).toNatClampNeg p2))]) (pc' := 39) X 0 1 rfl rfl (sk_st 0 (md_st_1 ..) rfl) dX5_setPhase_38 rfl ?_
    refine sk_lt (bsf := fun z => [(md_W G u0 z)]) (lvf := fun _ => [some (.ref (u0 0)), some (.int p1), some (.int p2), some (.int x28)]) (stf := fun _ => []) (fun N38 => ?_)
    refine sk_iload_n (pc' := 40) X rfl dX5_setPhase_39 rfl ?_
    exact sk_iret X rfl rfl dX5_setPhase_40
  · refine sk_iconst (pc' := 14) X ic_0 dX5_setPhase_13 rfl ?_
    exact sk_iret X rfl rfl dX5_setPhase_14
def rm_X5_setDrift : Room := { frames := 2, cells := 0, slots := 0, locals := 43 }
def o_X5_setDrift : (Int32 × sk_M) → Option Value := fun r => some (.int r.1)
def w_X5_setDrift (G : sk_G) (u0 : Nat → Nat) : (Int32 × sk_M) → sk_B := fun r => [(md_W G u0 r.2)]
set_option maxHeartbeats 4000000 in
set_option maxRecDepth 100000 in
theorem c_X5_setDrift (l : Launch) (G : sk_G) (u0 : Nat → Nat) (S0 : sk_M) (p1 : Int32) (p2 : Int32) : sk_ctr l G yX5_setDrift cX5_setDrift 4 (some .int) rm_X5_setDrift [.ref (u0 0), .int p1, .int p2] [(md_W G u0 S0)] (m_X5_setDrift S0 p1 p2) o_X5_setDrift (w_X5_setDrift G u0) := by
  refine sk_entry (own := RX5) (by decide) rfl (lv0 := [some (.ref (u0 0)), some (.int p1), some (.int p2), none]) rfl (Nat.le_of_ble_eq_true rfl) ?_
  intro Γ X
  have h29 : ∀ s29 : sk_M × Int32, sk_S Γ (sk_Φ Γ o_X5_setDrift (w_X5_setDrift G u0)) 0 0 (m_X5_setDrift_29 p1 p2 s29) [(md_W G u0 s29.1)] [some (.ref (u0 0)), some (.int p1), some (.int p2), none] 29 [.int s29.2, .ref (u0 0)] := by
    intro s29
    unfold m_X5_setDrift_29
    refine sk_callV (bs2 := fun r29 => [(md_W G u0 r29.2)]) (st := []) (st2 := fun r29 => [.int r29.1]) (As := [.int s29.2]) (pc' := 32) X (c_X5_refused l G u0 s29.1 s29.2) lk_RX5_46 [0] rfl (by decide) (fun _ => rfl) rfl rfl rfl ⟨(Nat.le_of_ble_eq_true rfl), (Nat.le_of_ble_eq_true rfl)⟩ ⟨rfl, rfl⟩ ⟨(Nat.le_of_ble_eq_true rfl), (Nat.le_of_ble_eq_true rfl)⟩ rfl (Nat.le_of_ble_eq_true rfl) rfl dX5_setDrift_29 rfl (fun _ => rfl) (fun _ => rfl) (fun r29 => ?_)
    refine sk_if_eq (tgt := 37) (pc' := 35) X dX5_setDrift_32 rfl rfl ?_ ?_
    · refine sk_aload_n (pc' := 38) X rfl dX5_setDrift_37 rfl ?_
      refine sk_callV (bs2 := fun r38 => [(md_W G u0 r38)]) (st := []) (st2 := fun r38 => []) (As := []) (pc' := 41) X (c_X5_saves l G u0 r29.2) lk_RX5_54 [0] rfl (by decide) (fun _ => rfl) rfl rfl rfl ⟨(Nat.le_of_ble_eq_true rfl), (Nat.le_of_ble_eq_true rfl)⟩ ⟨rfl, rfl⟩ ⟨(Nat.le_of_ble_eq_true rfl), (Nat.le_of_ble_eq_true rfl)⟩ rfl (Nat.le_of_ble_eq_true rfl) rfl dX5_setDrift_38 rfl (fun _ => rfl) (fun _ => rfl) (fun r38 => ?_)
      refine sk_aload_n (pc' := 42) X rfl dX5_setDrift_41 rfl ?_
      refine sk_getf (pc' := 45) X 0 0 0 in_RX5 rfl rfl rfl (Nat.le_of_ble_eq_true rfl) fl_RX5_7 rfl dX5_setDrift_42 rfl ?_
      refine sk_bipush (pc' := 47) X bp_18 dX5_setDrift_45 rfl ?_
      refine sk_iload_n (pc' := 48) X rfl dX5_setDrift_47 rfl ?_
      refine sk_iadd (pc' := 49) X dX5_setDrift_48 rfl ?_
      refine sk_iald (pc' := 50) X 0 1 rfl rfl dX5_setDrift_49 rfl ?_
      refine sk_istore_n (lv' := [some (.ref (u0 0)), some (.int p1), some (.int p2), some (.int ((r38.1 1) (((18 : Int32) + p1)).toNatClampNeg))]) (pc' := 51) X (Nat.le_of_ble_eq_true rfl) rfl rfl dX5_setDrift_50 rfl ?_
      refine sk_lt (bsf := fun _ => [(md_W G u0 r38)]) (lvf := fun z => [some (.ref (u0 0)), some (.int p1), some (.int p2), some (.int z)]) (stf := fun _ => []) (fun x50 => ?_)
      refine sk_aload_n (pc' := 52) X rfl dX5_setDrift_51 rfl ?_
      refine sk_getf (pc' := 55) X 0 0 0 in_RX5 rfl rfl rfl (Nat.le_of_ble_eq_true rfl) fl_RX5_7 rfl dX5_setDrift_52 rfl ?_
      refine sk_bipush (pc' := 57) X bp_18 dX5_setDrift_55 rfl ?_
      refine sk_iload_n (pc' := 58) X rfl dX5_setDrift_57 rfl ?_
      refine sk_iadd (pc' := 59) X dX5_setDrift_58 rfl ?_
      refine sk_iload_n (pc' := 60) X rfl dX5_setDrift_59 rfl ?_
      refine sk_iast (bs' := [(md_W G u0 (md_up r38 1 (((18 : Int32) + p1)).toNatClampNeg p2))]) (pc' := 61) X 0 1 rfl rfl (sk_st 0 (md_st_1 ..) rfl) dX5_setDrift_60 rfl ?_
      refine sk_lt (bsf := fun z => [(md_W G u0 z)]) (lvf := fun _ => [some (.ref (u0 0)), some (.int p1), some (.int p2), some (.int x50)]) (stf := fun _ => []) (fun N60 => ?_)
      refine sk_iload_n (pc' := 62) X rfl dX5_setDrift_61 rfl ?_
      exact sk_iret X rfl rfl dX5_setDrift_62
    · refine sk_iconst (pc' := 36) X ic_0 dX5_setDrift_35 rfl ?_
      exact sk_iret X rfl rfl dX5_setDrift_36
  unfold m_X5_setDrift
  refine sk_aload_n (pc' := 1) X rfl dX5_setDrift_0 rfl ?_
  refine sk_aload_n (pc' := 2) X rfl dX5_setDrift_1 rfl ?_
  refine sk_iload_n (pc' := 3) X rfl dX5_setDrift_2 rfl ?_
  refine sk_callV (bs2 := fun r3 => [(md_W G u0 S0)]) (st := [.ref (u0 0)]) (st2 := fun r3 => [.int r3, .ref (u0 0)]) (As := [.int p1]) (pc' := 6) X (c_X5_isClock l G u0 S0 p1) lk_RX5_60 [0] rfl (by decide) (fun _ => rfl) rfl rfl rfl ⟨(Nat.le_of_ble_eq_true rfl), (Nat.le_of_ble_eq_true rfl)⟩ ⟨rfl, rfl⟩ ⟨(Nat.le_of_ble_eq_true rfl), (Nat.le_of_ble_eq_true rfl)⟩ rfl (Nat.le_of_ble_eq_true rfl) rfl dX5_setDrift_3 rfl (fun _ => rfl) (fun _ => rfl) (fun r3 => ?_)
  refine sk_if_ne (tgt := 13) (pc' := 9) X dX5_setDrift_6 rfl rfl ?_ ?_
  · refine sk_iload_n (pc' := 14) X rfl dX5_setDrift_13 rfl ?_
    refine sk_bipush (pc' := 16) X bp_m9 dX5_setDrift_14 rfl ?_
    refine sk_bipush (pc' := 18) X bp_9 dX5_setDrift_16 rfl ?_
    refine sk_callS (bs2 := fun r18 => [(md_W G u0 S0)]) (st := [.ref (u0 0)]) (st2 := fun r18 => [.int r18, .ref (u0 0)]) (As := [.int p2, .int (-9 : Int32), .int (9 : Int32)]) (pc' := 21) X (c_X5_within l G p2 (-9 : Int32) (9 : Int32)) lk_RX5_39 [] rfl (by decide) (fun _ => rfl) ⟨(Nat.le_of_ble_eq_true rfl), (Nat.le_of_ble_eq_true rfl)⟩ ⟨rfl, rfl⟩ ⟨(Nat.le_of_ble_eq_true rfl), (Nat.le_of_ble_eq_true rfl)⟩ rfl (Nat.le_of_ble_eq_true rfl) rfl dX5_setDrift_18 rfl (fun _ => rfl) (fun _ => rfl) (fun r18 => ?_)
    refine sk_if_ne (tgt := 28) (pc' := 24) X dX5_setDrift_21 rfl rfl ?_ ?_
    · refine sk_iconst (pc' := 29) X ic_0 dX5_setDrift_28 rfl ?_
      exact (h29 (S0, (0 : Int32)))
    · refine sk_iconst (pc' := 25) X ic_2 dX5_setDrift_24 rfl ?_
      refine sk_goto (tgt := 29) X dX5_setDrift_25 rfl ?_
      exact (h29 (S0, (2 : Int32)))
  · refine sk_iconst (pc' := 10) X ic_1 dX5_setDrift_9 rfl ?_
    refine sk_goto (tgt := 29) X dX5_setDrift_10 rfl ?_
    exact (h29 (S0, (1 : Int32)))
def rm_X5_mayBlink : Room := { frames := 2, cells := 0, slots := 0, locals := 43 }
def o_X5_mayBlink : (Int32) → Option Value := fun r => some (.int r)
def w_X5_mayBlink (G : sk_G) (u0 : Nat → Nat) (S0 : sk_M) : (Int32) → sk_B := fun r => [(md_W G u0 S0)]
set_option maxHeartbeats 4000000 in
set_option maxRecDepth 100000 in
theorem c_X5_mayBlink (l : Launch) (G : sk_G) (u0 : Nat → Nat) (S0 : sk_M) (p1 : Int32) (p2 : Int32) (p3 : Int32) : sk_ctr l G yX5_mayBlink cX5_mayBlink 4 (some .int) rm_X5_mayBlink [.ref (u0 0), .int p1, .int p2, .int p3] [(md_W G u0 S0)] (m_X5_mayBlink S0 p1 p2 p3) o_X5_mayBlink (w_X5_mayBlink G u0 S0) := by
  refine sk_entry (own := RX5) (by decide) rfl (lv0 := [some (.ref (u0 0)), some (.int p1), some (.int p2), some (.int p3)]) rfl (Nat.le_of_ble_eq_true rfl) ?_
  intro Γ X
  have h32 : ∀ s32 : Unit, sk_S Γ (sk_Φ Γ o_X5_mayBlink (w_X5_mayBlink G u0 S0)) 0 0 (m_X5_mayBlink_32 S0 p1 p2 p3 s32) [(md_W G u0 S0)] [none, none, none, none] 32 [] := by
    intro s32
    unfold m_X5_mayBlink_32
    refine sk_iconst (pc' := 33) X ic_2 dX5_mayBlink_32 rfl ?_
    refine sk_goto (tgt := 37) X dX5_mayBlink_33 rfl ?_
    exact sk_iret X rfl rfl dX5_mayBlink_37
  unfold m_X5_mayBlink
  refine sk_aload_n (pc' := 1) X rfl dX5_mayBlink_0 rfl ?_
  refine sk_iload_n (pc' := 2) X rfl dX5_mayBlink_1 rfl ?_
  refine sk_callV (bs2 := fun r2 => [(md_W G u0 S0)]) (st := []) (st2 := fun r2 => [.int r2]) (As := [.int p1]) (pc' := 5) X (c_X5_isClock l G u0 S0 p1) lk_RX5_60 [0] rfl (by decide) (fun _ => rfl) rfl rfl rfl ⟨(Nat.le_of_ble_eq_true rfl), (Nat.le_of_ble_eq_true rfl)⟩ ⟨rfl, rfl⟩ ⟨(Nat.le_of_ble_eq_true rfl), (Nat.le_of_ble_eq_true rfl)⟩ rfl (Nat.le_of_ble_eq_true rfl) rfl dX5_mayBlink_2 rfl (fun _ => rfl) (fun _ => rfl) (fun r2 => ?_)
  refine sk_if_ne (tgt := 12) (pc' := 8) X dX5_mayBlink_5 rfl rfl ?_ ?_
  · refine sk_iload_n (pc' := 13) X rfl dX5_mayBlink_12 rfl ?_
    refine sk_iconst (pc' := 14) X ic_1 dX5_mayBlink_13 rfl ?_
    refine sk_bipush (pc' := 16) X bp_99 dX5_mayBlink_14 rfl ?_
    refine sk_callS (bs2 := fun r16 => [(md_W G u0 S0)]) (st := []) (st2 := fun r16 => [.int r16]) (As := [.int p2, .int (1 : Int32), .int (99 : Int32)]) (pc' := 19) X (c_X5_within l G p2 (1 : Int32) (99 : Int32)) lk_RX5_39 [] rfl (by decide) (fun _ => rfl) ⟨(Nat.le_of_ble_eq_true rfl), (Nat.le_of_ble_eq_true rfl)⟩ ⟨rfl, rfl⟩ ⟨(Nat.le_of_ble_eq_true rfl), (Nat.le_of_ble_eq_true rfl)⟩ rfl (Nat.le_of_ble_eq_true rfl) rfl dX5_mayBlink_16 rfl (fun _ => rfl) (fun _ => rfl) (fun r16 => ?_)
    refine sk_if_eq (tgt := 32) (pc' := 22) X dX5_mayBlink_19 rfl rfl ?_ ?_
    · exact (sk_kill 3 (sk_kill 2 (sk_kill 1 (sk_kill 0 (h32 ())))))
    · refine sk_iload_n (pc' := 23) X rfl dX5_mayBlink_22 rfl ?_
      refine sk_iconst (pc' := 24) X ic_0 dX5_mayBlink_23 rfl ?_
      refine sk_bipush (pc' := 26) X bp_98 dX5_mayBlink_24 rfl ?_
      refine sk_callS (bs2 := fun r26 => [(md_W G u0 S0)]) (st := []) (st2 := fun r26 => [.int r26]) (As := [.int p3, .int (0 : Int32), .int (98 : Int32)]) (pc' := 29) X (c_X5_within l G p3 (0 : Int32) (98 : Int32)) lk_RX5_39 [] rfl (by decide) (fun _ => rfl) ⟨(Nat.le_of_ble_eq_true rfl), (Nat.le_of_ble_eq_true rfl)⟩ ⟨rfl, rfl⟩ ⟨(Nat.le_of_ble_eq_true rfl), (Nat.le_of_ble_eq_true rfl)⟩ rfl (Nat.le_of_ble_eq_true rfl) rfl dX5_mayBlink_26 rfl (fun _ => rfl) (fun _ => rfl) (fun r26 => ?_)
      refine sk_if_ne (tgt := 36) (pc' := 32) X dX5_mayBlink_29 rfl rfl ?_ ?_
      · refine sk_iconst (pc' := 37) X ic_0 dX5_mayBlink_36 rfl ?_
        exact sk_iret X rfl rfl dX5_mayBlink_37
      · exact (sk_kill 3 (sk_kill 2 (sk_kill 1 (sk_kill 0 (h32 ())))))
  · refine sk_iconst (pc' := 9) X ic_1 dX5_mayBlink_8 rfl ?_
    refine sk_goto (tgt := 37) X dX5_mayBlink_9 rfl ?_
    exact sk_iret X rfl rfl dX5_mayBlink_37
def rm_X5_blinkers : Room := { frames := 0, cells := 0, slots := 0, locals := 0 }
def o_X5_blinkers : (Int32) → Option Value := fun r => some (.int r)
def w_X5_blinkers (G : sk_G) (u0 : Nat → Nat) (S0 : sk_M) : (Int32) → sk_B := fun r => [(md_W G u0 S0)]
set_option maxHeartbeats 4000000 in
set_option maxRecDepth 100000 in
theorem c_X5_blinkers (l : Launch) (G : sk_G) (u0 : Nat → Nat) (S0 : sk_M) : sk_ctr l G yX5_blinkers cX5_blinkers 3 (some .int) rm_X5_blinkers [.ref (u0 0)] [(md_W G u0 S0)] (m_X5_blinkers S0) o_X5_blinkers (w_X5_blinkers G u0 S0) := by
  refine sk_entry (own := RX5) (by decide) rfl (lv0 := [some (.ref (u0 0)), none, none]) rfl (Nat.le_of_ble_eq_true rfl) ?_
  intro Γ X
  have h4 : ∀ s4 : Int32 × Int32, sk_S Γ (sk_Φ Γ o_X5_blinkers (w_X5_blinkers G u0 S0)) 0 0 (m_X5_blinkers_4 S0 s4) [(md_W G u0 S0)] [some (.ref (u0 0)), some (.int s4.1), some (.int s4.2)] 4 [] := by
    intro s4
    unfold m_X5_blinkers_4
    refine sk_loop (bsf := fun s4 => [(md_W G u0 S0)]) (lvf := fun s4 => [some (.ref (u0 0)), some (.int s4.1), some (.int s4.2)]) ?_ sk_fuel s4
    intro k4 s4 ih4
    unfold m_X5_blinkers_4_step
    refine sk_iload_n (pc' := 5) X rfl dX5_blinkers_4 rfl ?_
    refine sk_aload_n (pc' := 6) X rfl dX5_blinkers_5 rfl ?_
    refine sk_getf (pc' := 9) X 0 0 0 in_RX5 rfl rfl rfl (Nat.le_of_ble_eq_true rfl) fl_RX5_7 rfl dX5_blinkers_6 rfl ?_
    refine sk_iconst (pc' := 10) X ic_5 dX5_blinkers_9 rfl ?_
    refine sk_iald (pc' := 11) X 0 1 rfl rfl dX5_blinkers_10 rfl ?_
    refine sk_icmp_ge (tgt := 32) (pc' := 14) X dX5_blinkers_11 rfl rfl ?_ ?_
    · refine sk_iload_n (pc' := 33) X rfl dX5_blinkers_32 rfl ?_
      exact sk_iret X rfl rfl dX5_blinkers_33
    · refine sk_iload_n (pc' := 15) X rfl dX5_blinkers_14 rfl ?_
      refine sk_aload_n (pc' := 16) X rfl dX5_blinkers_15 rfl ?_
      refine sk_getf (pc' := 19) X 0 0 0 in_RX5 rfl rfl rfl (Nat.le_of_ble_eq_true rfl) fl_RX5_7 rfl dX5_blinkers_16 rfl ?_
      refine sk_bipush (pc' := 21) X bp_28 dX5_blinkers_19 rfl ?_
      refine sk_iload_n (pc' := 22) X rfl dX5_blinkers_21 rfl ?_
      refine sk_iadd (pc' := 23) X dX5_blinkers_22 rfl ?_
      refine sk_iald (pc' := 24) X 0 1 rfl rfl dX5_blinkers_23 rfl ?_
      refine sk_iadd (pc' := 25) X dX5_blinkers_24 rfl ?_
      refine sk_istore_n (lv' := [some (.ref (u0 0)), some (.int (s4.1 + ((S0.1 1) (((28 : Int32) + s4.2)).toNatClampNeg))), some (.int s4.2)]) (pc' := 26) X (Nat.le_of_ble_eq_true rfl) rfl rfl dX5_blinkers_25 rfl ?_
      refine sk_lt (bsf := fun _ => [(md_W G u0 S0)]) (lvf := fun z => [some (.ref (u0 0)), some (.int z), some (.int s4.2)]) (stf := fun _ => []) (fun x25 => ?_)
      refine sk_iinc (lv' := [some (.ref (u0 0)), some (.int x25), some (.int (s4.2 + (1 : Int32)))]) (pc' := 29) X rfl ic_1 (Nat.le_of_ble_eq_true rfl) rfl rfl dX5_blinkers_26 rfl ?_
      refine sk_goto (tgt := 4) X dX5_blinkers_29 rfl ?_
      exact (ih4 (x25, (s4.2 + (1 : Int32))))
  unfold m_X5_blinkers
  refine sk_iconst (pc' := 1) X ic_0 dX5_blinkers_0 rfl ?_
  refine sk_istore_n (lv' := [some (.ref (u0 0)), some (.int (0 : Int32)), none]) (pc' := 2) X (Nat.le_of_ble_eq_true rfl) rfl rfl dX5_blinkers_1 rfl ?_
  refine sk_iconst (pc' := 3) X ic_0 dX5_blinkers_2 rfl ?_
  refine sk_istore_n (lv' := [some (.ref (u0 0)), some (.int (0 : Int32)), some (.int (0 : Int32))]) (pc' := 4) X (Nat.le_of_ble_eq_true rfl) rfl rfl dX5_blinkers_3 rfl ?_
  exact (h4 ((0 : Int32), (0 : Int32)))
def rm_X5_doBlink : Room := { frames := 1, cells := 0, slots := 0, locals := 22 }
def o_X5_doBlink : (Int32 × sk_M) → Option Value := fun r => some (.int r.1)
def w_X5_doBlink (G : sk_G) (u0 : Nat → Nat) : (Int32 × sk_M) → sk_B := fun r => [(md_W G u0 r.2)]
set_option maxHeartbeats 4000000 in
set_option maxRecDepth 100000 in
theorem c_X5_doBlink (l : Launch) (G : sk_G) (u0 : Nat → Nat) (S0 : sk_M) (p1 : Int32) (p2 : Int32) (p3 : Int32) : sk_ctr l G yX5_doBlink cX5_doBlink 4 (some .int) rm_X5_doBlink [.ref (u0 0), .int p1, .int p2, .int p3] [(md_W G u0 S0)] (m_X5_doBlink S0 p1 p2 p3) o_X5_doBlink (w_X5_doBlink G u0) := by
  refine sk_entry (own := RX5) (by decide) rfl (lv0 := [some (.ref (u0 0)), some (.int p1), some (.int p2), some (.int p3)]) rfl (Nat.le_of_ble_eq_true rfl) ?_
  intro Γ X
  unfold m_X5_doBlink
  refine sk_aload_n (pc' := 1) X rfl dX5_doBlink_0 rfl ?_
  refine sk_getf (pc' := 4) X 0 0 0 in_RX5 rfl rfl rfl (Nat.le_of_ble_eq_true rfl) fl_RX5_7 rfl dX5_doBlink_1 rfl ?_
  refine sk_bipush (pc' := 6) X bp_28 dX5_doBlink_4 rfl ?_
  refine sk_iload_n (pc' := 7) X rfl dX5_doBlink_6 rfl ?_
  refine sk_iadd (pc' := 8) X dX5_doBlink_7 rfl ?_
  refine sk_iconst (pc' := 9) X ic_1 dX5_doBlink_8 rfl ?_
  refine sk_iast (bs' := [(md_W G u0 (md_up S0 1 (((28 : Int32) + p1)).toNatClampNeg (1 : Int32)))]) (pc' := 10) X 0 1 rfl rfl (sk_st 0 (md_st_1 ..) rfl) dX5_doBlink_9 rfl ?_
  refine sk_lt (bsf := fun z => [(md_W G u0 z)]) (lvf := fun _ => [some (.ref (u0 0)), some (.int p1), some (.int p2), some (.int p3)]) (stf := fun _ => []) (fun N9 => ?_)
  refine sk_aload_n (pc' := 11) X rfl dX5_doBlink_10 rfl ?_
  refine sk_getf (pc' := 14) X 0 0 0 in_RX5 rfl rfl rfl (Nat.le_of_ble_eq_true rfl) fl_RX5_7 rfl dX5_doBlink_11 rfl ?_
  refine sk_bipush (pc' := 16) X bp_38 dX5_doBlink_14 rfl ?_
  refine sk_iload_n (pc' := 17) X rfl dX5_doBlink_16 rfl ?_
  refine sk_iadd (pc' := 18) X dX5_doBlink_17 rfl ?_
  refine sk_iload_n (pc' := 19) X rfl dX5_doBlink_18 rfl ?_
  refine sk_iast (bs' := [(md_W G u0 (md_up N9 1 (((38 : Int32) + p1)).toNatClampNeg p2))]) (pc' := 20) X 0 1 rfl rfl (sk_st 0 (md_st_1 ..) rfl) dX5_doBlink_19 rfl ?_
  refine sk_lt (bsf := fun z => [(md_W G u0 z)]) (lvf := fun _ => [some (.ref (u0 0)), some (.int p1), some (.int p2), some (.int p3)]) (stf := fun _ => []) (fun N19 => ?_)
  refine sk_aload_n (pc' := 21) X rfl dX5_doBlink_20 rfl ?_
  refine sk_getf (pc' := 24) X 0 0 0 in_RX5 rfl rfl rfl (Nat.le_of_ble_eq_true rfl) fl_RX5_7 rfl dX5_doBlink_21 rfl ?_
  refine sk_bipush (pc' := 26) X bp_48 dX5_doBlink_24 rfl ?_
  refine sk_iload_n (pc' := 27) X rfl dX5_doBlink_26 rfl ?_
  refine sk_iadd (pc' := 28) X dX5_doBlink_27 rfl ?_
  refine sk_iload_n (pc' := 29) X rfl dX5_doBlink_28 rfl ?_
  refine sk_iast (bs' := [(md_W G u0 (md_up N19 1 (((48 : Int32) + p1)).toNatClampNeg p3))]) (pc' := 30) X 0 1 rfl rfl (sk_st 0 (md_st_1 ..) rfl) dX5_doBlink_29 rfl ?_
  refine sk_lt (bsf := fun z => [(md_W G u0 z)]) (lvf := fun _ => [some (.ref (u0 0)), some (.int p1), some (.int p2), some (.int p3)]) (stf := fun _ => []) (fun N29 => ?_)
  refine sk_aload_n (pc' := 31) X rfl dX5_doBlink_30 rfl ?_
  refine sk_callV (bs2 := fun r31 => [(md_W G u0 N29)]) (st := []) (st2 := fun r31 => [.int r31]) (As := []) (pc' := 34) X (c_X5_blinkers l G u0 N29) lk_RX5_67 [0] rfl (by decide) (fun _ => rfl) rfl rfl rfl ⟨(Nat.le_of_ble_eq_true rfl), (Nat.le_of_ble_eq_true rfl)⟩ ⟨rfl, rfl⟩ ⟨(Nat.le_of_ble_eq_true rfl), (Nat.le_of_ble_eq_true rfl)⟩ rfl (Nat.le_of_ble_eq_true rfl) rfl dX5_doBlink_31 rfl (fun _ => rfl) (fun _ => rfl) (fun r31 => ?_)
  exact sk_iret X rfl rfl dX5_doBlink_34
def rm_X5_blink : Room := { frames := 3, cells := 0, slots := 0, locals := 66 }
def o_X5_blink : (Int32 × sk_M) → Option Value := fun r => some (.int r.1)
def w_X5_blink (G : sk_G) (u0 : Nat → Nat) : (Int32 × sk_M) → sk_B := fun r => [(md_W G u0 r.2)]
set_option maxHeartbeats 4000000 in
set_option maxRecDepth 100000 in
theorem c_X5_blink (l : Launch) (G : sk_G) (u0 : Nat → Nat) (S0 : sk_M) (p1 : Int32) (p2 : Int32) (p3 : Int32) : sk_ctr l G yX5_blink cX5_blink 4 (some .int) rm_X5_blink [.ref (u0 0), .int p1, .int p2, .int p3] [(md_W G u0 S0)] (m_X5_blink S0 p1 p2 p3) o_X5_blink (w_X5_blink G u0) := by
  refine sk_entry (own := RX5) (by decide) rfl (lv0 := [some (.ref (u0 0)), some (.int p1), some (.int p2), some (.int p3)]) rfl (Nat.le_of_ble_eq_true rfl) ?_
  intro Γ X
  unfold m_X5_blink
  refine sk_aload_n (pc' := 1) X rfl dX5_blink_0 rfl ?_
  refine sk_aload_n (pc' := 2) X rfl dX5_blink_1 rfl ?_
  refine sk_iload_n (pc' := 3) X rfl dX5_blink_2 rfl ?_
  refine sk_iload_n (pc' := 4) X rfl dX5_blink_3 rfl ?_
  refine sk_iload_n (pc' := 5) X rfl dX5_blink_4 rfl ?_
  refine sk_callV (bs2 := fun r5 => [(md_W G u0 S0)]) (st := [.ref (u0 0)]) (st2 := fun r5 => [.int r5, .ref (u0 0)]) (As := [.int p1, .int p2, .int p3]) (pc' := 8) X (c_X5_mayBlink l G u0 S0 p1 p2 p3) lk_RX5_71 [0] rfl (by decide) (fun _ => rfl) rfl rfl rfl ⟨(Nat.le_of_ble_eq_true rfl), (Nat.le_of_ble_eq_true rfl)⟩ ⟨rfl, rfl⟩ ⟨(Nat.le_of_ble_eq_true rfl), (Nat.le_of_ble_eq_true rfl)⟩ rfl (Nat.le_of_ble_eq_true rfl) rfl dX5_blink_5 rfl (fun _ => rfl) (fun _ => rfl) (fun r5 => ?_)
  refine sk_callV (bs2 := fun r8 => [(md_W G u0 r8.2)]) (st := []) (st2 := fun r8 => [.int r8.1]) (As := [.int r5]) (pc' := 11) X (c_X5_refused l G u0 S0 r5) lk_RX5_46 [0] rfl (by decide) (fun _ => rfl) rfl rfl rfl ⟨(Nat.le_of_ble_eq_true rfl), (Nat.le_of_ble_eq_true rfl)⟩ ⟨rfl, rfl⟩ ⟨(Nat.le_of_ble_eq_true rfl), (Nat.le_of_ble_eq_true rfl)⟩ rfl (Nat.le_of_ble_eq_true rfl) rfl dX5_blink_8 rfl (fun _ => rfl) (fun _ => rfl) (fun r8 => ?_)
  refine sk_if_eq (tgt := 16) (pc' := 14) X dX5_blink_11 rfl rfl ?_ ?_
  · refine sk_aload_n (pc' := 17) X rfl dX5_blink_16 rfl ?_
    refine sk_callV (bs2 := fun r17 => [(md_W G u0 r17)]) (st := []) (st2 := fun r17 => []) (As := []) (pc' := 20) X (c_X5_saves l G u0 r8.2) lk_RX5_54 [0] rfl (by decide) (fun _ => rfl) rfl rfl rfl ⟨(Nat.le_of_ble_eq_true rfl), (Nat.le_of_ble_eq_true rfl)⟩ ⟨rfl, rfl⟩ ⟨(Nat.le_of_ble_eq_true rfl), (Nat.le_of_ble_eq_true rfl)⟩ rfl (Nat.le_of_ble_eq_true rfl) rfl dX5_blink_17 rfl (fun _ => rfl) (fun _ => rfl) (fun r17 => ?_)
    refine sk_aload_n (pc' := 21) X rfl dX5_blink_20 rfl ?_
    refine sk_iload_n (pc' := 22) X rfl dX5_blink_21 rfl ?_
    refine sk_iload_n (pc' := 23) X rfl dX5_blink_22 rfl ?_
    refine sk_iload_n (pc' := 24) X rfl dX5_blink_23 rfl ?_
    refine sk_callV (bs2 := fun r24 => [(md_W G u0 r24.2)]) (st := []) (st2 := fun r24 => [.int r24.1]) (As := [.int p1, .int p2, .int p3]) (pc' := 27) X (c_X5_doBlink l G u0 r17 p1 p2 p3) lk_RX5_75 [0] rfl (by decide) (fun _ => rfl) rfl rfl rfl ⟨(Nat.le_of_ble_eq_true rfl), (Nat.le_of_ble_eq_true rfl)⟩ ⟨rfl, rfl⟩ ⟨(Nat.le_of_ble_eq_true rfl), (Nat.le_of_ble_eq_true rfl)⟩ rfl (Nat.le_of_ble_eq_true rfl) rfl dX5_blink_24 rfl (fun _ => rfl) (fun _ => rfl) (fun r24 => ?_)
    exact sk_iret X rfl rfl dX5_blink_27
  · refine sk_iconst (pc' := 15) X ic_0 dX5_blink_14 rfl ?_
    exact sk_iret X rfl rfl dX5_blink_15
def rm_X5_mend : Room := { frames := 2, cells := 0, slots := 0, locals := 43 }
def o_X5_mend : (Int32 × sk_M) → Option Value := fun r => some (.int r.1)
def w_X5_mend (G : sk_G) (u0 : Nat → Nat) : (Int32 × sk_M) → sk_B := fun r => [(md_W G u0 r.2)]
set_option maxHeartbeats 4000000 in
set_option maxRecDepth 100000 in
theorem c_X5_mend (l : Launch) (G : sk_G) (u0 : Nat → Nat) (S0 : sk_M) (p1 : Int32) : sk_ctr l G yX5_mend cX5_mend 3 (some .int) rm_X5_mend [.ref (u0 0), .int p1] [(md_W G u0 S0)] (m_X5_mend S0 p1) o_X5_mend (w_X5_mend G u0) := by
  refine sk_entry (own := RX5) (by decide) rfl (lv0 := [some (.ref (u0 0)), some (.int p1), none]) rfl (Nat.le_of_ble_eq_true rfl) ?_
  intro Γ X
  have h32 : ∀ s32 : sk_M × Int32, sk_S Γ (sk_Φ Γ o_X5_mend (w_X5_mend G u0)) 0 0 (m_X5_mend_32 p1 s32) [(md_W G u0 s32.1)] [some (.ref (u0 0)), some (.int p1), none] 32 [.int s32.2, .ref (u0 0)] := by
    intro s32
    unfold m_X5_mend_32
    refine sk_callV (bs2 := fun r32 => [(md_W G u0 r32.2)]) (st := []) (st2 := fun r32 => [.int r32.1]) (As := [.int s32.2]) (pc' := 35) X (c_X5_refused l G u0 s32.1 s32.2) lk_RX5_46 [0] rfl (by decide) (fun _ => rfl) rfl rfl rfl ⟨(Nat.le_of_ble_eq_true rfl), (Nat.le_of_ble_eq_true rfl)⟩ ⟨rfl, rfl⟩ ⟨(Nat.le_of_ble_eq_true rfl), (Nat.le_of_ble_eq_true rfl)⟩ rfl (Nat.le_of_ble_eq_true rfl) rfl dX5_mend_32 rfl (fun _ => rfl) (fun _ => rfl) (fun r32 => ?_)
    refine sk_if_eq (tgt := 40) (pc' := 38) X dX5_mend_35 rfl rfl ?_ ?_
    · refine sk_aload_n (pc' := 41) X rfl dX5_mend_40 rfl ?_
      refine sk_callV (bs2 := fun r41 => [(md_W G u0 r41)]) (st := []) (st2 := fun r41 => []) (As := []) (pc' := 44) X (c_X5_saves l G u0 r32.2) lk_RX5_54 [0] rfl (by decide) (fun _ => rfl) rfl rfl rfl ⟨(Nat.le_of_ble_eq_true rfl), (Nat.le_of_ble_eq_true rfl)⟩ ⟨rfl, rfl⟩ ⟨(Nat.le_of_ble_eq_true rfl), (Nat.le_of_ble_eq_true rfl)⟩ rfl (Nat.le_of_ble_eq_true rfl) rfl dX5_mend_41 rfl (fun _ => rfl) (fun _ => rfl) (fun r41 => ?_)
      refine sk_aload_n (pc' := 45) X rfl dX5_mend_44 rfl ?_
      refine sk_getf (pc' := 48) X 0 0 0 in_RX5 rfl rfl rfl (Nat.le_of_ble_eq_true rfl) fl_RX5_7 rfl dX5_mend_45 rfl ?_
      refine sk_bipush (pc' := 50) X bp_28 dX5_mend_48 rfl ?_
      refine sk_iload_n (pc' := 51) X rfl dX5_mend_50 rfl ?_
      refine sk_iadd (pc' := 52) X dX5_mend_51 rfl ?_
      refine sk_iconst (pc' := 53) X ic_0 dX5_mend_52 rfl ?_
      refine sk_iast (bs' := [(md_W G u0 (md_up r41 1 (((28 : Int32) + p1)).toNatClampNeg (0 : Int32)))]) (pc' := 54) X 0 1 rfl rfl (sk_st 0 (md_st_1 ..) rfl) dX5_mend_53 rfl ?_
      refine sk_lt (bsf := fun z => [(md_W G u0 z)]) (lvf := fun _ => [some (.ref (u0 0)), some (.int p1), none]) (stf := fun _ => []) (fun N53 => ?_)
      refine sk_aload_n (pc' := 55) X rfl dX5_mend_54 rfl ?_
      refine sk_callV (bs2 := fun r55 => [(md_W G u0 N53)]) (st := []) (st2 := fun r55 => [.int r55]) (As := []) (pc' := 58) X (c_X5_blinkers l G u0 N53) lk_RX5_67 [0] rfl (by decide) (fun _ => rfl) rfl rfl rfl ⟨(Nat.le_of_ble_eq_true rfl), (Nat.le_of_ble_eq_true rfl)⟩ ⟨rfl, rfl⟩ ⟨(Nat.le_of_ble_eq_true rfl), (Nat.le_of_ble_eq_true rfl)⟩ rfl (Nat.le_of_ble_eq_true rfl) rfl dX5_mend_55 rfl (fun _ => rfl) (fun _ => rfl) (fun r55 => ?_)
      exact sk_iret X rfl rfl dX5_mend_58
    · refine sk_iconst (pc' := 39) X ic_0 dX5_mend_38 rfl ?_
      exact sk_iret X rfl rfl dX5_mend_39
  unfold m_X5_mend
  refine sk_aload_n (pc' := 1) X rfl dX5_mend_0 rfl ?_
  refine sk_iload_n (pc' := 2) X rfl dX5_mend_1 rfl ?_
  refine sk_callV (bs2 := fun r2 => [(md_W G u0 S0)]) (st := []) (st2 := fun r2 => [.int r2]) (As := [.int p1]) (pc' := 5) X (c_X5_isClock l G u0 S0 p1) lk_RX5_60 [0] rfl (by decide) (fun _ => rfl) rfl rfl rfl ⟨(Nat.le_of_ble_eq_true rfl), (Nat.le_of_ble_eq_true rfl)⟩ ⟨rfl, rfl⟩ ⟨(Nat.le_of_ble_eq_true rfl), (Nat.le_of_ble_eq_true rfl)⟩ rfl (Nat.le_of_ble_eq_true rfl) rfl dX5_mend_2 rfl (fun _ => rfl) (fun _ => rfl) (fun r2 => ?_)
  refine sk_istore_n (lv' := [some (.ref (u0 0)), some (.int p1), some (.int r2)]) (pc' := 6) X (Nat.le_of_ble_eq_true rfl) rfl rfl dX5_mend_5 rfl ?_
  refine sk_aload_n (pc' := 7) X rfl dX5_mend_6 rfl ?_
  refine sk_iload_n (pc' := 8) X rfl dX5_mend_7 rfl ?_
  refine sk_if_ne (tgt := 15) (pc' := 11) X dX5_mend_8 rfl rfl ?_ ?_
  · refine sk_aload_n (pc' := 16) X rfl dX5_mend_15 rfl ?_
    refine sk_getf (pc' := 19) X 0 0 0 in_RX5 rfl rfl rfl (Nat.le_of_ble_eq_true rfl) fl_RX5_7 rfl dX5_mend_16 rfl ?_
    refine sk_bipush (pc' := 21) X bp_28 dX5_mend_19 rfl ?_
    refine sk_iload_n (pc' := 22) X rfl dX5_mend_21 rfl ?_
    refine sk_iadd (pc' := 23) X dX5_mend_22 rfl ?_
    refine sk_iald (pc' := 24) X 0 1 rfl rfl dX5_mend_23 rfl ?_
    refine sk_if_ne (tgt := 31) (pc' := 27) X dX5_mend_24 rfl rfl ?_ ?_
    · refine sk_iconst (pc' := 32) X ic_0 dX5_mend_31 rfl ?_
      exact (sk_kill 2 (h32 (S0, (0 : Int32))))
    · refine sk_iconst (pc' := 28) X ic_2 dX5_mend_27 rfl ?_
      refine sk_goto (tgt := 32) X dX5_mend_28 rfl ?_
      exact (sk_kill 2 (h32 (S0, (2 : Int32))))
  · refine sk_iconst (pc' := 12) X ic_1 dX5_mend_11 rfl ?_
    refine sk_goto (tgt := 32) X dX5_mend_12 rfl ?_
    exact (sk_kill 2 (h32 (S0, (1 : Int32))))
def rm_X5_mayLink : Room := { frames := 2, cells := 0, slots := 0, locals := 43 }
def o_X5_mayLink : (Int32) → Option Value := fun r => some (.int r)
def w_X5_mayLink (G : sk_G) (u0 : Nat → Nat) (S0 : sk_M) : (Int32) → sk_B := fun r => [(md_W G u0 S0)]
set_option maxHeartbeats 4000000 in
set_option maxRecDepth 100000 in
theorem c_X5_mayLink (l : Launch) (G : sk_G) (u0 : Nat → Nat) (S0 : sk_M) (p1 : Int32) (p2 : Int32) (p3 : Int32) : sk_ctr l G yX5_mayLink cX5_mayLink 5 (some .int) rm_X5_mayLink [.ref (u0 0), .int p1, .int p2, .int p3] [(md_W G u0 S0)] (m_X5_mayLink S0 p1 p2 p3) o_X5_mayLink (w_X5_mayLink G u0 S0) := by
  refine sk_entry (own := RX5) (by decide) rfl (lv0 := [some (.ref (u0 0)), some (.int p1), some (.int p2), some (.int p3), none]) rfl (Nat.le_of_ble_eq_true rfl) ?_
  intro Γ X
  have h47 : ∀ s47 : Unit, sk_S Γ (sk_Φ Γ o_X5_mayLink (w_X5_mayLink G u0 S0)) 0 0 (m_X5_mayLink_47 S0 p1 p2 p3 s47) [(md_W G u0 S0)] [none, none, none, none, none] 47 [] := by
    intro s47
    unfold m_X5_mayLink_47
    refine sk_iconst (pc' := 48) X ic_2 dX5_mayLink_47 rfl ?_
    refine sk_goto (tgt := 52) X dX5_mayLink_48 rfl ?_
    exact sk_iret X rfl rfl dX5_mayLink_52
  have h21 : ∀ s21 : Int32, sk_S Γ (sk_Φ Γ o_X5_mayLink (w_X5_mayLink G u0 S0)) 0 0 (m_X5_mayLink_21 S0 p1 p2 p3 s21) [(md_W G u0 S0)] [none, some (.int p1), some (.int p2), some (.int p3), none] 21 [.int s21] := by
    intro s21
    unfold m_X5_mayLink_21
    refine sk_istore (lv' := [none, some (.int p1), some (.int p2), some (.int p3), some (.int s21)]) (pc' := 23) X (Nat.le_of_ble_eq_true rfl) rfl rfl dX5_mayLink_21 rfl ?_
    refine sk_iload (pc' := 25) X rfl dX5_mayLink_23 rfl ?_
    refine sk_if_ne (tgt := 32) (pc' := 28) X dX5_mayLink_25 rfl rfl ?_ ?_
    · refine sk_iload_n (pc' := 33) X rfl dX5_mayLink_32 rfl ?_
      refine sk_iload_n (pc' := 34) X rfl dX5_mayLink_33 rfl ?_
      refine sk_icmp_eq (tgt := 47) (pc' := 37) X dX5_mayLink_34 rfl rfl ?_ ?_
      · exact (sk_kill 4 (sk_kill 3 (sk_kill 2 (sk_kill 1 (h47 ())))))
      · refine sk_iload_n (pc' := 38) X rfl dX5_mayLink_37 rfl ?_
        refine sk_iconst (pc' := 39) X ic_0 dX5_mayLink_38 rfl ?_
        refine sk_bipush (pc' := 41) X bp_9 dX5_mayLink_39 rfl ?_
        refine sk_callS (bs2 := fun r41 => [(md_W G u0 S0)]) (st := []) (st2 := fun r41 => [.int r41]) (As := [.int p3, .int (0 : Int32), .int (9 : Int32)]) (pc' := 44) X (c_X5_within l G p3 (0 : Int32) (9 : Int32)) lk_RX5_39 [] rfl (by decide) (fun _ => rfl) ⟨(Nat.le_of_ble_eq_true rfl), (Nat.le_of_ble_eq_true rfl)⟩ ⟨rfl, rfl⟩ ⟨(Nat.le_of_ble_eq_true rfl), (Nat.le_of_ble_eq_true rfl)⟩ rfl (Nat.le_of_ble_eq_true rfl) rfl dX5_mayLink_41 rfl (fun _ => rfl) (fun _ => rfl) (fun r41 => ?_)
        refine sk_if_ne (tgt := 51) (pc' := 47) X dX5_mayLink_44 rfl rfl ?_ ?_
        · refine sk_iconst (pc' := 52) X ic_0 dX5_mayLink_51 rfl ?_
          exact sk_iret X rfl rfl dX5_mayLink_52
        · exact (sk_kill 4 (sk_kill 3 (sk_kill 2 (sk_kill 1 (h47 ())))))
    · refine sk_iconst (pc' := 29) X ic_1 dX5_mayLink_28 rfl ?_
      refine sk_goto (tgt := 52) X dX5_mayLink_29 rfl ?_
      exact sk_iret X rfl rfl dX5_mayLink_52
  have h20 : ∀ s20 : Unit, sk_S Γ (sk_Φ Γ o_X5_mayLink (w_X5_mayLink G u0 S0)) 0 0 (m_X5_mayLink_20 S0 p1 p2 p3 s20) [(md_W G u0 S0)] [none, some (.int p1), some (.int p2), some (.int p3), none] 20 [] := by
    intro s20
    unfold m_X5_mayLink_20
    refine sk_iconst (pc' := 21) X ic_0 dX5_mayLink_20 rfl ?_
    exact (h21 (0 : Int32))
  unfold m_X5_mayLink
  refine sk_aload_n (pc' := 1) X rfl dX5_mayLink_0 rfl ?_
  refine sk_iload_n (pc' := 2) X rfl dX5_mayLink_1 rfl ?_
  refine sk_callV (bs2 := fun r2 => [(md_W G u0 S0)]) (st := []) (st2 := fun r2 => [.int r2]) (As := [.int p1]) (pc' := 5) X (c_X5_isClock l G u0 S0 p1) lk_RX5_60 [0] rfl (by decide) (fun _ => rfl) rfl rfl rfl ⟨(Nat.le_of_ble_eq_true rfl), (Nat.le_of_ble_eq_true rfl)⟩ ⟨rfl, rfl⟩ ⟨(Nat.le_of_ble_eq_true rfl), (Nat.le_of_ble_eq_true rfl)⟩ rfl (Nat.le_of_ble_eq_true rfl) rfl dX5_mayLink_2 rfl (fun _ => rfl) (fun _ => rfl) (fun r2 => ?_)
  refine sk_if_eq (tgt := 20) (pc' := 8) X dX5_mayLink_5 rfl rfl ?_ ?_
  · exact (sk_kill 0 (h20 ()))
  · refine sk_aload_n (pc' := 9) X rfl dX5_mayLink_8 rfl ?_
    refine sk_iload_n (pc' := 10) X rfl dX5_mayLink_9 rfl ?_
    refine sk_callV (bs2 := fun r10 => [(md_W G u0 S0)]) (st := []) (st2 := fun r10 => [.int r10]) (As := [.int p2]) (pc' := 13) X (c_X5_isClock l G u0 S0 p2) lk_RX5_60 [0] rfl (by decide) (fun _ => rfl) rfl rfl rfl ⟨(Nat.le_of_ble_eq_true rfl), (Nat.le_of_ble_eq_true rfl)⟩ ⟨rfl, rfl⟩ ⟨(Nat.le_of_ble_eq_true rfl), (Nat.le_of_ble_eq_true rfl)⟩ rfl (Nat.le_of_ble_eq_true rfl) rfl dX5_mayLink_10 rfl (fun _ => rfl) (fun _ => rfl) (fun r10 => ?_)
    refine sk_if_eq (tgt := 20) (pc' := 16) X dX5_mayLink_13 rfl rfl ?_ ?_
    · exact (sk_kill 0 (h20 ()))
    · refine sk_iconst (pc' := 17) X ic_1 dX5_mayLink_16 rfl ?_
      refine sk_goto (tgt := 21) X dX5_mayLink_17 rfl ?_
      exact (sk_kill 0 (h21 (1 : Int32)))
def rm_X5_delay : Room := { frames := 0, cells := 0, slots := 0, locals := 0 }
def o_X5_delay : (Int32) → Option Value := fun r => some (.int r)
def w_X5_delay (G : sk_G) (u0 : Nat → Nat) (S0 : sk_M) : (Int32) → sk_B := fun r => [(md_W G u0 S0)]
set_option maxHeartbeats 4000000 in
set_option maxRecDepth 100000 in
theorem c_X5_delay (l : Launch) (G : sk_G) (u0 : Nat → Nat) (S0 : sk_M) (p1 : Int32) (p2 : Int32) : sk_ctr l G yX5_delay cX5_delay 3 (some .int) rm_X5_delay [.ref (u0 0), .int p1, .int p2] [(md_W G u0 S0)] (m_X5_delay S0 p1 p2) o_X5_delay (w_X5_delay G u0 S0) := by
  refine sk_entry (own := RX5) (by decide) rfl (lv0 := [some (.ref (u0 0)), some (.int p1), some (.int p2)]) rfl (Nat.le_of_ble_eq_true rfl) ?_
  intro Γ X
  unfold m_X5_delay
  refine sk_aload_n (pc' := 1) X rfl dX5_delay_0 rfl ?_
  refine sk_getf (pc' := 4) X 0 0 0 in_RX5 rfl rfl rfl (Nat.le_of_ble_eq_true rfl) fl_RX5_7 rfl dX5_delay_1 rfl ?_
  refine sk_bipush (pc' := 6) X bp_58 dX5_delay_4 rfl ?_
  refine sk_bipush (pc' := 8) X bp_10 dX5_delay_6 rfl ?_
  refine sk_iload_n (pc' := 9) X rfl dX5_delay_8 rfl ?_
  refine sk_imul (pc' := 10) X dX5_delay_9 rfl ?_
  refine sk_iadd (pc' := 11) X dX5_delay_10 rfl ?_
  refine sk_iload_n (pc' := 12) X rfl dX5_delay_11 rfl ?_
  refine sk_iadd (pc' := 13) X dX5_delay_12 rfl ?_
  refine sk_iald (pc' := 14) X 0 1 rfl rfl dX5_delay_13 rfl ?_
  exact sk_iret X rfl rfl dX5_delay_14
def rm_X5_lays : Room := { frames := 1, cells := 0, slots := 0, locals := 22 }
def o_X5_lays : (sk_M) → Option Value := fun r => none
def w_X5_lays (G : sk_G) (u0 : Nat → Nat) : (sk_M) → sk_B := fun r => [(md_W G u0 r)]
set_option maxHeartbeats 4000000 in
set_option maxRecDepth 100000 in
theorem c_X5_lays (l : Launch) (G : sk_G) (u0 : Nat → Nat) (S0 : sk_M) (p1 : Int32) (p2 : Int32) (p3 : Int32) : sk_ctr l G yX5_lays cX5_lays 4 none rm_X5_lays [.ref (u0 0), .int p1, .int p2, .int p3] [(md_W G u0 S0)] (m_X5_lays S0 p1 p2 p3) o_X5_lays (w_X5_lays G u0) := by
  refine sk_entry (own := RX5) (by decide) rfl (lv0 := [some (.ref (u0 0)), some (.int p1), some (.int p2), some (.int p3)]) rfl (Nat.le_of_ble_eq_true rfl) ?_
  intro Γ X
  unfold m_X5_lays
  refine sk_aload_n (pc' := 1) X rfl dX5_lays_0 rfl ?_
  refine sk_iload_n (pc' := 2) X rfl dX5_lays_1 rfl ?_
  refine sk_iload_n (pc' := 3) X rfl dX5_lays_2 rfl ?_
  refine sk_callV (bs2 := fun r3 => [(md_W G u0 S0)]) (st := []) (st2 := fun r3 => [.int r3]) (As := [.int p1, .int p2]) (pc' := 6) X (c_X5_delay l G u0 S0 p1 p2) lk_RX5_78 [0] rfl (by decide) (fun _ => rfl) rfl rfl rfl ⟨(Nat.le_of_ble_eq_true rfl), (Nat.le_of_ble_eq_true rfl)⟩ ⟨rfl, rfl⟩ ⟨(Nat.le_of_ble_eq_true rfl), (Nat.le_of_ble_eq_true rfl)⟩ rfl (Nat.le_of_ble_eq_true rfl) rfl dX5_lays_3 rfl (fun _ => rfl) (fun _ => rfl) (fun r3 => ?_)
  refine sk_iload_n (pc' := 7) X rfl dX5_lays_6 rfl ?_
  refine sk_icmp_eq (tgt := 72) (pc' := 10) X dX5_lays_7 rfl rfl ?_ ?_
  · exact sk_vret X rfl rfl dX5_lays_72
  · refine sk_aload_n (pc' := 11) X rfl dX5_lays_10 rfl ?_
    refine sk_getf (pc' := 14) X 0 0 0 in_RX5 rfl rfl rfl (Nat.le_of_ble_eq_true rfl) fl_RX5_7 rfl dX5_lays_11 rfl ?_
    refine sk_bipush (pc' := 16) X bp_58 dX5_lays_14 rfl ?_
    refine sk_bipush (pc' := 18) X bp_10 dX5_lays_16 rfl ?_
    refine sk_iload_n (pc' := 19) X rfl dX5_lays_18 rfl ?_
    refine sk_imul (pc' := 20) X dX5_lays_19 rfl ?_
    refine sk_iadd (pc' := 21) X dX5_lays_20 rfl ?_
    refine sk_iload_n (pc' := 22) X rfl dX5_lays_21 rfl ?_
    refine sk_iadd (pc' := 23) X dX5_lays_22 rfl ?_
    refine sk_iload_n (pc' := 24) X rfl dX5_lays_23 rfl ?_
    refine sk_iast (bs' := [(md_W G u0 (md_up S0 1 ((((58 : Int32) + ((10 : Int32) * p1)) + p2)).toNatClampNeg p3))]) (pc' := 25) X 0 1 rfl rfl (sk_st 0 (md_st_1 ..) rfl) dX5_lays_24 rfl ?_
    refine sk_lt (bsf := fun z => [(md_W G u0 z)]) (lvf := fun _ => [some (.ref (u0 0)), some (.int p1), some (.int p2), some (.int p3)]) (stf := fun _ => []) (fun N24 => ?_)
    refine sk_aload_n (pc' := 26) X rfl dX5_lays_25 rfl ?_
    refine sk_getf (pc' := 29) X 0 0 0 in_RX5 rfl rfl rfl (Nat.le_of_ble_eq_true rfl) fl_RX5_7 rfl dX5_lays_26 rfl ?_
    refine sk_bipush (pc' := 31) X bp_58 dX5_lays_29 rfl ?_
    refine sk_bipush (pc' := 33) X bp_10 dX5_lays_31 rfl ?_
    refine sk_iload_n (pc' := 34) X rfl dX5_lays_33 rfl ?_
    refine sk_imul (pc' := 35) X dX5_lays_34 rfl ?_
    refine sk_iadd (pc' := 36) X dX5_lays_35 rfl ?_
    refine sk_iload_n (pc' := 37) X rfl dX5_lays_36 rfl ?_
    refine sk_iadd (pc' := 38) X dX5_lays_37 rfl ?_
    refine sk_iload_n (pc' := 39) X rfl dX5_lays_38 rfl ?_
    refine sk_iast (bs' := [(md_W G u0 (md_up N24 1 ((((58 : Int32) + ((10 : Int32) * p2)) + p1)).toNatClampNeg p3))]) (pc' := 40) X 0 1 rfl rfl (sk_st 0 (md_st_1 ..) rfl) dX5_lays_39 rfl ?_
    refine sk_lt (bsf := fun z => [(md_W G u0 z)]) (lvf := fun _ => [some (.ref (u0 0)), some (.int p1), some (.int p2), some (.int p3)]) (stf := fun _ => []) (fun N39 => ?_)
    refine sk_aload_n (pc' := 41) X rfl dX5_lays_40 rfl ?_
    refine sk_getf (pc' := 44) X 0 0 0 in_RX5 rfl rfl rfl (Nat.le_of_ble_eq_true rfl) fl_RX5_7 rfl dX5_lays_41 rfl ?_
    refine sk_sipush (pc' := 47) X sp_158 dX5_lays_44 rfl ?_
    refine sk_bipush (pc' := 49) X bp_10 dX5_lays_47 rfl ?_
    refine sk_iload_n (pc' := 50) X rfl dX5_lays_49 rfl ?_
    refine sk_imul (pc' := 51) X dX5_lays_50 rfl ?_
    refine sk_iadd (pc' := 52) X dX5_lays_51 rfl ?_
    refine sk_iload_n (pc' := 53) X rfl dX5_lays_52 rfl ?_
    refine sk_iadd (pc' := 54) X dX5_lays_53 rfl ?_
    refine sk_iconst (pc' := 55) X ic_0 dX5_lays_54 rfl ?_
    refine sk_iast (bs' := [(md_W G u0 (md_up N39 1 ((((158 : Int32) + ((10 : Int32) * p1)) + p2)).toNatClampNeg (0 : Int32)))]) (pc' := 56) X 0 1 rfl rfl (sk_st 0 (md_st_1 ..) rfl) dX5_lays_55 rfl ?_
    refine sk_lt (bsf := fun z => [(md_W G u0 z)]) (lvf := fun _ => [some (.ref (u0 0)), some (.int p1), some (.int p2), some (.int p3)]) (stf := fun _ => []) (fun N55 => ?_)
    refine sk_aload_n (pc' := 57) X rfl dX5_lays_56 rfl ?_
    refine sk_getf (pc' := 60) X 0 0 0 in_RX5 rfl rfl rfl (Nat.le_of_ble_eq_true rfl) fl_RX5_7 rfl dX5_lays_57 rfl ?_
    refine sk_sipush (pc' := 63) X sp_158 dX5_lays_60 rfl ?_
    refine sk_bipush (pc' := 65) X bp_10 dX5_lays_63 rfl ?_
    refine sk_iload_n (pc' := 66) X rfl dX5_lays_65 rfl ?_
    refine sk_imul (pc' := 67) X dX5_lays_66 rfl ?_
    refine sk_iadd (pc' := 68) X dX5_lays_67 rfl ?_
    refine sk_iload_n (pc' := 69) X rfl dX5_lays_68 rfl ?_
    refine sk_iadd (pc' := 70) X dX5_lays_69 rfl ?_
    refine sk_iconst (pc' := 71) X ic_0 dX5_lays_70 rfl ?_
    refine sk_iast (bs' := [(md_W G u0 (md_up N55 1 ((((158 : Int32) + ((10 : Int32) * p2)) + p1)).toNatClampNeg (0 : Int32)))]) (pc' := 72) X 0 1 rfl rfl (sk_st 0 (md_st_1 ..) rfl) dX5_lays_71 rfl ?_
    refine sk_lt (bsf := fun z => [(md_W G u0 z)]) (lvf := fun _ => [some (.ref (u0 0)), some (.int p1), some (.int p2), some (.int p3)]) (stf := fun _ => []) (fun N71 => ?_)
    exact sk_vret X rfl rfl dX5_lays_72
def rm_X5_doLink : Room := { frames := 2, cells := 0, slots := 0, locals := 45 }
def o_X5_doLink : (Int32 × sk_M) → Option Value := fun r => some (.int r.1)
def w_X5_doLink (G : sk_G) (u0 : Nat → Nat) : (Int32 × sk_M) → sk_B := fun r => [(md_W G u0 r.2)]
set_option maxHeartbeats 4000000 in
set_option maxRecDepth 100000 in
theorem c_X5_doLink (l : Launch) (G : sk_G) (u0 : Nat → Nat) (S0 : sk_M) (p1 : Int32) (p2 : Int32) (p3 : Int32) : sk_ctr l G yX5_doLink cX5_doLink 5 (some .int) rm_X5_doLink [.ref (u0 0), .int p1, .int p2, .int p3] [(md_W G u0 S0)] (m_X5_doLink S0 p1 p2 p3) o_X5_doLink (w_X5_doLink G u0) := by
  refine sk_entry (own := RX5) (by decide) rfl (lv0 := [some (.ref (u0 0)), some (.int p1), some (.int p2), some (.int p3), none]) rfl (Nat.le_of_ble_eq_true rfl) ?_
  intro Γ X
  unfold m_X5_doLink
  refine sk_aload_n (pc' := 1) X rfl dX5_doLink_0 rfl ?_
  refine sk_iload_n (pc' := 2) X rfl dX5_doLink_1 rfl ?_
  refine sk_iload_n (pc' := 3) X rfl dX5_doLink_2 rfl ?_
  refine sk_callV (bs2 := fun r3 => [(md_W G u0 S0)]) (st := []) (st2 := fun r3 => [.int r3]) (As := [.int p1, .int p2]) (pc' := 6) X (c_X5_delay l G u0 S0 p1 p2) lk_RX5_78 [0] rfl (by decide) (fun _ => rfl) rfl rfl rfl ⟨(Nat.le_of_ble_eq_true rfl), (Nat.le_of_ble_eq_true rfl)⟩ ⟨rfl, rfl⟩ ⟨(Nat.le_of_ble_eq_true rfl), (Nat.le_of_ble_eq_true rfl)⟩ rfl (Nat.le_of_ble_eq_true rfl) rfl dX5_doLink_3 rfl (fun _ => rfl) (fun _ => rfl) (fun r3 => ?_)
  refine sk_istore (lv' := [some (.ref (u0 0)), some (.int p1), some (.int p2), some (.int p3), some (.int r3)]) (pc' := 8) X (Nat.le_of_ble_eq_true rfl) rfl rfl dX5_doLink_6 rfl ?_
  refine sk_aload_n (pc' := 9) X rfl dX5_doLink_8 rfl ?_
  refine sk_iload_n (pc' := 10) X rfl dX5_doLink_9 rfl ?_
  refine sk_iload_n (pc' := 11) X rfl dX5_doLink_10 rfl ?_
  refine sk_iload_n (pc' := 12) X rfl dX5_doLink_11 rfl ?_
  refine sk_callV (bs2 := fun r12 => [(md_W G u0 r12)]) (st := []) (st2 := fun r12 => []) (As := [.int p1, .int p2, .int p3]) (pc' := 15) X (c_X5_lays l G u0 S0 p1 p2 p3) lk_RX5_81 [0] rfl (by decide) (fun _ => rfl) rfl rfl rfl ⟨(Nat.le_of_ble_eq_true rfl), (Nat.le_of_ble_eq_true rfl)⟩ ⟨rfl, rfl⟩ ⟨(Nat.le_of_ble_eq_true rfl), (Nat.le_of_ble_eq_true rfl)⟩ rfl (Nat.le_of_ble_eq_true rfl) rfl dX5_doLink_12 rfl (fun _ => rfl) (fun _ => rfl) (fun r12 => ?_)
  refine sk_iload (pc' := 17) X rfl dX5_doLink_15 rfl ?_
  exact sk_iret X rfl rfl dX5_doLink_17
def rm_X5_link : Room := { frames := 3, cells := 0, slots := 0, locals := 69 }
def o_X5_link : (Int32 × sk_M) → Option Value := fun r => some (.int r.1)
def w_X5_link (G : sk_G) (u0 : Nat → Nat) : (Int32 × sk_M) → sk_B := fun r => [(md_W G u0 r.2)]
set_option maxHeartbeats 4000000 in
set_option maxRecDepth 100000 in
theorem c_X5_link (l : Launch) (G : sk_G) (u0 : Nat → Nat) (S0 : sk_M) (p1 : Int32) (p2 : Int32) (p3 : Int32) : sk_ctr l G yX5_link cX5_link 4 (some .int) rm_X5_link [.ref (u0 0), .int p1, .int p2, .int p3] [(md_W G u0 S0)] (m_X5_link S0 p1 p2 p3) o_X5_link (w_X5_link G u0) := by
  refine sk_entry (own := RX5) (by decide) rfl (lv0 := [some (.ref (u0 0)), some (.int p1), some (.int p2), some (.int p3)]) rfl (Nat.le_of_ble_eq_true rfl) ?_
  intro Γ X
  unfold m_X5_link
  refine sk_aload_n (pc' := 1) X rfl dX5_link_0 rfl ?_
  refine sk_aload_n (pc' := 2) X rfl dX5_link_1 rfl ?_
  refine sk_iload_n (pc' := 3) X rfl dX5_link_2 rfl ?_
  refine sk_iload_n (pc' := 4) X rfl dX5_link_3 rfl ?_
  refine sk_iload_n (pc' := 5) X rfl dX5_link_4 rfl ?_
  refine sk_callV (bs2 := fun r5 => [(md_W G u0 S0)]) (st := [.ref (u0 0)]) (st2 := fun r5 => [.int r5, .ref (u0 0)]) (As := [.int p1, .int p2, .int p3]) (pc' := 8) X (c_X5_mayLink l G u0 S0 p1 p2 p3) lk_RX5_85 [0] rfl (by decide) (fun _ => rfl) rfl rfl rfl ⟨(Nat.le_of_ble_eq_true rfl), (Nat.le_of_ble_eq_true rfl)⟩ ⟨rfl, rfl⟩ ⟨(Nat.le_of_ble_eq_true rfl), (Nat.le_of_ble_eq_true rfl)⟩ rfl (Nat.le_of_ble_eq_true rfl) rfl dX5_link_5 rfl (fun _ => rfl) (fun _ => rfl) (fun r5 => ?_)
  refine sk_callV (bs2 := fun r8 => [(md_W G u0 r8.2)]) (st := []) (st2 := fun r8 => [.int r8.1]) (As := [.int r5]) (pc' := 11) X (c_X5_refused l G u0 S0 r5) lk_RX5_46 [0] rfl (by decide) (fun _ => rfl) rfl rfl rfl ⟨(Nat.le_of_ble_eq_true rfl), (Nat.le_of_ble_eq_true rfl)⟩ ⟨rfl, rfl⟩ ⟨(Nat.le_of_ble_eq_true rfl), (Nat.le_of_ble_eq_true rfl)⟩ rfl (Nat.le_of_ble_eq_true rfl) rfl dX5_link_8 rfl (fun _ => rfl) (fun _ => rfl) (fun r8 => ?_)
  refine sk_if_eq (tgt := 16) (pc' := 14) X dX5_link_11 rfl rfl ?_ ?_
  · refine sk_aload_n (pc' := 17) X rfl dX5_link_16 rfl ?_
    refine sk_callV (bs2 := fun r17 => [(md_W G u0 r17)]) (st := []) (st2 := fun r17 => []) (As := []) (pc' := 20) X (c_X5_saves l G u0 r8.2) lk_RX5_54 [0] rfl (by decide) (fun _ => rfl) rfl rfl rfl ⟨(Nat.le_of_ble_eq_true rfl), (Nat.le_of_ble_eq_true rfl)⟩ ⟨rfl, rfl⟩ ⟨(Nat.le_of_ble_eq_true rfl), (Nat.le_of_ble_eq_true rfl)⟩ rfl (Nat.le_of_ble_eq_true rfl) rfl dX5_link_17 rfl (fun _ => rfl) (fun _ => rfl) (fun r17 => ?_)
    refine sk_aload_n (pc' := 21) X rfl dX5_link_20 rfl ?_
    refine sk_iload_n (pc' := 22) X rfl dX5_link_21 rfl ?_
    refine sk_iload_n (pc' := 23) X rfl dX5_link_22 rfl ?_
    refine sk_iload_n (pc' := 24) X rfl dX5_link_23 rfl ?_
    refine sk_callV (bs2 := fun r24 => [(md_W G u0 r24.2)]) (st := []) (st2 := fun r24 => [.int r24.1]) (As := [.int p1, .int p2, .int p3]) (pc' := 27) X (c_X5_doLink l G u0 r17 p1 p2 p3) lk_RX5_88 [0] rfl (by decide) (fun _ => rfl) rfl rfl rfl ⟨(Nat.le_of_ble_eq_true rfl), (Nat.le_of_ble_eq_true rfl)⟩ ⟨rfl, rfl⟩ ⟨(Nat.le_of_ble_eq_true rfl), (Nat.le_of_ble_eq_true rfl)⟩ rfl (Nat.le_of_ble_eq_true rfl) rfl dX5_link_24 rfl (fun _ => rfl) (fun _ => rfl) (fun r24 => ?_)
    exact sk_iret X rfl rfl dX5_link_27
  · refine sk_iconst (pc' := 15) X ic_0 dX5_link_14 rfl ?_
    exact sk_iret X rfl rfl dX5_link_15
def rm_X5_linksOf : Room := { frames := 1, cells := 0, slots := 0, locals := 22 }
def o_X5_linksOf : (Int32) → Option Value := fun r => some (.int r)
def w_X5_linksOf (G : sk_G) (u0 : Nat → Nat) (S0 : sk_M) : (Int32) → sk_B := fun r => [(md_W G u0 S0)]
set_option maxHeartbeats 4000000 in
set_option maxRecDepth 100000 in
theorem c_X5_linksOf (l : Launch) (G : sk_G) (u0 : Nat → Nat) (S0 : sk_M) (p1 : Int32) : sk_ctr l G yX5_linksOf cX5_linksOf 4 (some .int) rm_X5_linksOf [.ref (u0 0), .int p1] [(md_W G u0 S0)] (m_X5_linksOf S0 p1) o_X5_linksOf (w_X5_linksOf G u0 S0) := by
  refine sk_entry (own := RX5) (by decide) rfl (lv0 := [some (.ref (u0 0)), some (.int p1), none, none]) rfl (Nat.le_of_ble_eq_true rfl) ?_
  intro Γ X
  have h4 : ∀ s4 : Int32 × Int32, sk_S Γ (sk_Φ Γ o_X5_linksOf (w_X5_linksOf G u0 S0)) 0 0 (m_X5_linksOf_4 S0 p1 s4) [(md_W G u0 S0)] [some (.ref (u0 0)), some (.int p1), some (.int s4.1), some (.int s4.2)] 4 [] := by
    intro s4
    unfold m_X5_linksOf_4
    refine sk_loop (bsf := fun s4 => [(md_W G u0 S0)]) (lvf := fun s4 => [some (.ref (u0 0)), some (.int p1), some (.int s4.1), some (.int s4.2)]) ?_ sk_fuel s4
    intro k4 s4 ih4
    unfold m_X5_linksOf_4_step
    refine sk_iload_n (pc' := 5) X rfl dX5_linksOf_4 rfl ?_
    refine sk_aload_n (pc' := 6) X rfl dX5_linksOf_5 rfl ?_
    refine sk_getf (pc' := 9) X 0 0 0 in_RX5 rfl rfl rfl (Nat.le_of_ble_eq_true rfl) fl_RX5_7 rfl dX5_linksOf_6 rfl ?_
    refine sk_iconst (pc' := 10) X ic_5 dX5_linksOf_9 rfl ?_
    refine sk_iald (pc' := 11) X 0 1 rfl rfl dX5_linksOf_10 rfl ?_
    refine sk_icmp_ge (tgt := 38) (pc' := 14) X dX5_linksOf_11 rfl rfl ?_ ?_
    · refine sk_iload_n (pc' := 39) X rfl dX5_linksOf_38 rfl ?_
      exact sk_iret X rfl rfl dX5_linksOf_39
    · refine sk_iload_n (pc' := 15) X rfl dX5_linksOf_14 rfl ?_
      refine sk_aload_n (pc' := 16) X rfl dX5_linksOf_15 rfl ?_
      refine sk_iload_n (pc' := 17) X rfl dX5_linksOf_16 rfl ?_
      refine sk_iload_n (pc' := 18) X rfl dX5_linksOf_17 rfl ?_
      refine sk_callV (bs2 := fun r18 => [(md_W G u0 S0)]) (st := [.int s4.1]) (st2 := fun r18 => [.int r18, .int s4.1]) (As := [.int p1, .int s4.2]) (pc' := 21) X (c_X5_delay l G u0 S0 p1 s4.2) lk_RX5_78 [0] rfl (by decide) (fun _ => rfl) rfl rfl rfl ⟨(Nat.le_of_ble_eq_true rfl), (Nat.le_of_ble_eq_true rfl)⟩ ⟨rfl, rfl⟩ ⟨(Nat.le_of_ble_eq_true rfl), (Nat.le_of_ble_eq_true rfl)⟩ rfl (Nat.le_of_ble_eq_true rfl) rfl dX5_linksOf_18 rfl (fun _ => rfl) (fun _ => rfl) (fun r18 => ?_)
      refine sk_iconst (pc' := 22) X ic_m1 dX5_linksOf_21 rfl ?_
      refine sk_icmp_ne (tgt := 29) (pc' := 25) X dX5_linksOf_22 rfl rfl ?_ ?_
      · refine sk_iconst (pc' := 30) X ic_1 dX5_linksOf_29 rfl ?_
        refine sk_iadd (pc' := 31) X dX5_linksOf_30 rfl ?_
        refine sk_istore_n (lv' := [some (.ref (u0 0)), some (.int p1), some (.int (s4.1 + (1 : Int32))), some (.int s4.2)]) (pc' := 32) X (Nat.le_of_ble_eq_true rfl) rfl rfl dX5_linksOf_31 rfl ?_
        refine sk_lt (bsf := fun _ => [(md_W G u0 S0)]) (lvf := fun z => [some (.ref (u0 0)), some (.int p1), some (.int z), some (.int s4.2)]) (stf := fun _ => []) (fun x31 => ?_)
        refine sk_iinc (lv' := [some (.ref (u0 0)), some (.int p1), some (.int x31), some (.int (s4.2 + (1 : Int32)))]) (pc' := 35) X rfl ic_1 (Nat.le_of_ble_eq_true rfl) rfl rfl dX5_linksOf_32 rfl ?_
        refine sk_goto (tgt := 4) X dX5_linksOf_35 rfl ?_
        exact (ih4 (x31, (s4.2 + (1 : Int32))))
      · refine sk_iconst (pc' := 26) X ic_0 dX5_linksOf_25 rfl ?_
        refine sk_goto (tgt := 30) X dX5_linksOf_26 rfl ?_
        refine sk_iadd (pc' := 31) X dX5_linksOf_30 rfl ?_
        refine sk_istore_n (lv' := [some (.ref (u0 0)), some (.int p1), some (.int (s4.1 + (0 : Int32))), some (.int s4.2)]) (pc' := 32) X (Nat.le_of_ble_eq_true rfl) rfl rfl dX5_linksOf_31 rfl ?_
        refine sk_lt (bsf := fun _ => [(md_W G u0 S0)]) (lvf := fun z => [some (.ref (u0 0)), some (.int p1), some (.int z), some (.int s4.2)]) (stf := fun _ => []) (fun x31 => ?_)
        refine sk_iinc (lv' := [some (.ref (u0 0)), some (.int p1), some (.int x31), some (.int (s4.2 + (1 : Int32)))]) (pc' := 35) X rfl ic_1 (Nat.le_of_ble_eq_true rfl) rfl rfl dX5_linksOf_32 rfl ?_
        refine sk_goto (tgt := 4) X dX5_linksOf_35 rfl ?_
        exact (ih4 (x31, (s4.2 + (1 : Int32))))
  unfold m_X5_linksOf
  refine sk_iconst (pc' := 1) X ic_0 dX5_linksOf_0 rfl ?_
  refine sk_istore_n (lv' := [some (.ref (u0 0)), some (.int p1), some (.int (0 : Int32)), none]) (pc' := 2) X (Nat.le_of_ble_eq_true rfl) rfl rfl dX5_linksOf_1 rfl ?_
  refine sk_iconst (pc' := 3) X ic_0 dX5_linksOf_2 rfl ?_
  refine sk_istore_n (lv' := [some (.ref (u0 0)), some (.int p1), some (.int (0 : Int32)), some (.int (0 : Int32))]) (pc' := 4) X (Nat.le_of_ble_eq_true rfl) rfl rfl dX5_linksOf_3 rfl ?_
  exact (h4 ((0 : Int32), (0 : Int32)))
def rm_X5_unlink : Room := { frames := 2, cells := 0, slots := 0, locals := 45 }
def o_X5_unlink : (Int32 × sk_M) → Option Value := fun r => some (.int r.1)
def w_X5_unlink (G : sk_G) (u0 : Nat → Nat) : (Int32 × sk_M) → sk_B := fun r => [(md_W G u0 r.2)]
set_option maxHeartbeats 4000000 in
set_option maxRecDepth 100000 in
theorem c_X5_unlink (l : Launch) (G : sk_G) (u0 : Nat → Nat) (S0 : sk_M) (p1 : Int32) (p2 : Int32) : sk_ctr l G yX5_unlink cX5_unlink 6 (some .int) rm_X5_unlink [.ref (u0 0), .int p1, .int p2] [(md_W G u0 S0)] (m_X5_unlink S0 p1 p2) o_X5_unlink (w_X5_unlink G u0) := by
  refine sk_entry (own := RX5) (by decide) rfl (lv0 := [some (.ref (u0 0)), some (.int p1), some (.int p2), none, none, none]) rfl (Nat.le_of_ble_eq_true rfl) ?_
  intro Γ X
  have h71 : ∀ s71 : sk_M × Int32 × Int32, sk_S Γ (sk_Φ Γ o_X5_unlink (w_X5_unlink G u0)) 0 0 (m_X5_unlink_71 p1 p2 s71) [(md_W G u0 s71.1)] [some (.ref (u0 0)), none, none, none, some (.int s71.2.1), some (.int s71.2.2)] 71 [] := by
    intro s71
    unfold m_X5_unlink_71
    refine sk_loop (bsf := fun s71 => [(md_W G u0 s71.1)]) (lvf := fun s71 => [some (.ref (u0 0)), none, none, none, some (.int s71.2.1), some (.int s71.2.2)]) ?_ sk_fuel s71
    intro k71 s71 ih71
    unfold m_X5_unlink_71_step
    refine sk_iload (pc' := 73) X rfl dX5_unlink_71 rfl ?_
    refine sk_aload_n (pc' := 74) X rfl dX5_unlink_73 rfl ?_
    refine sk_getf (pc' := 77) X 0 0 0 in_RX5 rfl rfl rfl (Nat.le_of_ble_eq_true rfl) fl_RX5_7 rfl dX5_unlink_74 rfl ?_
    refine sk_iconst (pc' := 78) X ic_5 dX5_unlink_77 rfl ?_
    refine sk_iald (pc' := 79) X 0 1 rfl rfl dX5_unlink_78 rfl ?_
    refine sk_icmp_ge (tgt := 99) (pc' := 82) X dX5_unlink_79 rfl rfl ?_ ?_
    · refine sk_iload (pc' := 101) X rfl dX5_unlink_99 rfl ?_
      refine sk_iconst (pc' := 102) X ic_2 dX5_unlink_101 rfl ?_
      refine sk_idiv (pc' := 103) X dX5_unlink_102 rfl ?_
      exact sk_iret X rfl rfl dX5_unlink_103
    · refine sk_iload (pc' := 84) X rfl dX5_unlink_82 rfl ?_
      refine sk_aload_n (pc' := 85) X rfl dX5_unlink_84 rfl ?_
      refine sk_iload (pc' := 87) X rfl dX5_unlink_85 rfl ?_
      refine sk_callV (bs2 := fun r87 => [(md_W G u0 s71.1)]) (st := [.int s71.2.1]) (st2 := fun r87 => [.int r87, .int s71.2.1]) (As := [.int s71.2.2]) (pc' := 90) X (c_X5_linksOf l G u0 s71.1 s71.2.2) lk_RX5_91 [0] rfl (by decide) (fun _ => rfl) rfl rfl rfl ⟨(Nat.le_of_ble_eq_true rfl), (Nat.le_of_ble_eq_true rfl)⟩ ⟨rfl, rfl⟩ ⟨(Nat.le_of_ble_eq_true rfl), (Nat.le_of_ble_eq_true rfl)⟩ rfl (Nat.le_of_ble_eq_true rfl) rfl dX5_unlink_87 rfl (fun _ => rfl) (fun _ => rfl) (fun r87 => ?_)
      refine sk_iadd (pc' := 91) X dX5_unlink_90 rfl ?_
      refine sk_istore (lv' := [some (.ref (u0 0)), none, none, none, some (.int (s71.2.1 + r87)), some (.int s71.2.2)]) (pc' := 93) X (Nat.le_of_ble_eq_true rfl) rfl rfl dX5_unlink_91 rfl ?_
      refine sk_lt (bsf := fun _ => [(md_W G u0 s71.1)]) (lvf := fun z => [some (.ref (u0 0)), none, none, none, some (.int z), some (.int s71.2.2)]) (stf := fun _ => []) (fun x91 => ?_)
      refine sk_iinc (lv' := [some (.ref (u0 0)), none, none, none, some (.int x91), some (.int (s71.2.2 + (1 : Int32)))]) (pc' := 96) X rfl ic_1 (Nat.le_of_ble_eq_true rfl) rfl rfl dX5_unlink_93 rfl ?_
      refine sk_goto (tgt := 71) X dX5_unlink_96 rfl ?_
      exact (ih71 (s71.1, x91, (s71.2.2 + (1 : Int32))))
  have h46 : ∀ s46 : sk_M × Int32, sk_S Γ (sk_Φ Γ o_X5_unlink (w_X5_unlink G u0)) 0 0 (m_X5_unlink_46 p1 p2 s46) [(md_W G u0 s46.1)] [some (.ref (u0 0)), some (.int p1), some (.int p2), none, none, none] 46 [.int s46.2, .ref (u0 0)] := by
    intro s46
    unfold m_X5_unlink_46
    refine sk_callV (bs2 := fun r46 => [(md_W G u0 r46.2)]) (st := []) (st2 := fun r46 => [.int r46.1]) (As := [.int s46.2]) (pc' := 49) X (c_X5_refused l G u0 s46.1 s46.2) lk_RX5_46 [0] rfl (by decide) (fun _ => rfl) rfl rfl rfl ⟨(Nat.le_of_ble_eq_true rfl), (Nat.le_of_ble_eq_true rfl)⟩ ⟨rfl, rfl⟩ ⟨(Nat.le_of_ble_eq_true rfl), (Nat.le_of_ble_eq_true rfl)⟩ rfl (Nat.le_of_ble_eq_true rfl) rfl dX5_unlink_46 rfl (fun _ => rfl) (fun _ => rfl) (fun r46 => ?_)
    refine sk_if_eq (tgt := 54) (pc' := 52) X dX5_unlink_49 rfl rfl ?_ ?_
    · refine sk_aload_n (pc' := 55) X rfl dX5_unlink_54 rfl ?_
      refine sk_callV (bs2 := fun r55 => [(md_W G u0 r55)]) (st := []) (st2 := fun r55 => []) (As := []) (pc' := 58) X (c_X5_saves l G u0 r46.2) lk_RX5_54 [0] rfl (by decide) (fun _ => rfl) rfl rfl rfl ⟨(Nat.le_of_ble_eq_true rfl), (Nat.le_of_ble_eq_true rfl)⟩ ⟨rfl, rfl⟩ ⟨(Nat.le_of_ble_eq_true rfl), (Nat.le_of_ble_eq_true rfl)⟩ rfl (Nat.le_of_ble_eq_true rfl) rfl dX5_unlink_55 rfl (fun _ => rfl) (fun _ => rfl) (fun r55 => ?_)
      refine sk_aload_n (pc' := 59) X rfl dX5_unlink_58 rfl ?_
      refine sk_iload_n (pc' := 60) X rfl dX5_unlink_59 rfl ?_
      refine sk_iload_n (pc' := 61) X rfl dX5_unlink_60 rfl ?_
      refine sk_iconst (pc' := 62) X ic_m1 dX5_unlink_61 rfl ?_
      refine sk_callV (bs2 := fun r62 => [(md_W G u0 r62)]) (st := []) (st2 := fun r62 => []) (As := [.int p1, .int p2, .int (-1 : Int32)]) (pc' := 65) X (c_X5_lays l G u0 r55 p1 p2 (-1 : Int32)) lk_RX5_81 [0] rfl (by decide) (fun _ => rfl) rfl rfl rfl ⟨(Nat.le_of_ble_eq_true rfl), (Nat.le_of_ble_eq_true rfl)⟩ ⟨rfl, rfl⟩ ⟨(Nat.le_of_ble_eq_true rfl), (Nat.le_of_ble_eq_true rfl)⟩ rfl (Nat.le_of_ble_eq_true rfl) rfl dX5_unlink_62 rfl (fun _ => rfl) (fun _ => rfl) (fun r62 => ?_)
      refine sk_iconst (pc' := 66) X ic_0 dX5_unlink_65 rfl ?_
      refine sk_istore (lv' := [some (.ref (u0 0)), some (.int p1), some (.int p2), none, some (.int (0 : Int32)), none]) (pc' := 68) X (Nat.le_of_ble_eq_true rfl) rfl rfl dX5_unlink_66 rfl ?_
      refine sk_iconst (pc' := 69) X ic_0 dX5_unlink_68 rfl ?_
      refine sk_istore (lv' := [some (.ref (u0 0)), some (.int p1), some (.int p2), none, some (.int (0 : Int32)), some (.int (0 : Int32))]) (pc' := 71) X (Nat.le_of_ble_eq_true rfl) rfl rfl dX5_unlink_69 rfl ?_
      exact (sk_kill 2 (sk_kill 1 (h71 (r62, (0 : Int32), (0 : Int32)))))
    · refine sk_iconst (pc' := 53) X ic_0 dX5_unlink_52 rfl ?_
      exact sk_iret X rfl rfl dX5_unlink_53
  have h21 : ∀ s21 : sk_M × Int32, sk_S Γ (sk_Φ Γ o_X5_unlink (w_X5_unlink G u0)) 0 0 (m_X5_unlink_21 p1 p2 s21) [(md_W G u0 s21.1)] [some (.ref (u0 0)), some (.int p1), some (.int p2), none, none, none] 21 [.int s21.2] := by
    intro s21
    unfold m_X5_unlink_21
    refine sk_istore_n (lv' := [some (.ref (u0 0)), some (.int p1), some (.int p2), some (.int s21.2), none, none]) (pc' := 22) X (Nat.le_of_ble_eq_true rfl) rfl rfl dX5_unlink_21 rfl ?_
    refine sk_aload_n (pc' := 23) X rfl dX5_unlink_22 rfl ?_
    refine sk_iload_n (pc' := 24) X rfl dX5_unlink_23 rfl ?_
    refine sk_if_ne (tgt := 31) (pc' := 27) X dX5_unlink_24 rfl rfl ?_ ?_
    · refine sk_aload_n (pc' := 32) X rfl dX5_unlink_31 rfl ?_
      refine sk_iload_n (pc' := 33) X rfl dX5_unlink_32 rfl ?_
      refine sk_iload_n (pc' := 34) X rfl dX5_unlink_33 rfl ?_
      refine sk_callV (bs2 := fun r34 => [(md_W G u0 s21.1)]) (st := [.ref (u0 0)]) (st2 := fun r34 => [.int r34, .ref (u0 0)]) (As := [.int p1, .int p2]) (pc' := 37) X (c_X5_delay l G u0 s21.1 p1 p2) lk_RX5_78 [0] rfl (by decide) (fun _ => rfl) rfl rfl rfl ⟨(Nat.le_of_ble_eq_true rfl), (Nat.le_of_ble_eq_true rfl)⟩ ⟨rfl, rfl⟩ ⟨(Nat.le_of_ble_eq_true rfl), (Nat.le_of_ble_eq_true rfl)⟩ rfl (Nat.le_of_ble_eq_true rfl) rfl dX5_unlink_34 rfl (fun _ => rfl) (fun _ => rfl) (fun r34 => ?_)
      refine sk_iconst (pc' := 38) X ic_m1 dX5_unlink_37 rfl ?_
      refine sk_icmp_ne (tgt := 45) (pc' := 41) X dX5_unlink_38 rfl rfl ?_ ?_
      · refine sk_iconst (pc' := 46) X ic_0 dX5_unlink_45 rfl ?_
        exact (sk_kill 3 (h46 (s21.1, (0 : Int32))))
      · refine sk_iconst (pc' := 42) X ic_2 dX5_unlink_41 rfl ?_
        refine sk_goto (tgt := 46) X dX5_unlink_42 rfl ?_
        exact (sk_kill 3 (h46 (s21.1, (2 : Int32))))
    · refine sk_iconst (pc' := 28) X ic_1 dX5_unlink_27 rfl ?_
      refine sk_goto (tgt := 46) X dX5_unlink_28 rfl ?_
      exact (sk_kill 3 (h46 (s21.1, (1 : Int32))))
  have h20 : ∀ s20 : sk_M, sk_S Γ (sk_Φ Γ o_X5_unlink (w_X5_unlink G u0)) 0 0 (m_X5_unlink_20 p1 p2 s20) [(md_W G u0 s20)] [some (.ref (u0 0)), some (.int p1), some (.int p2), none, none, none] 20 [] := by
    intro s20
    unfold m_X5_unlink_20
    refine sk_iconst (pc' := 21) X ic_0 dX5_unlink_20 rfl ?_
    exact (h21 (s20, (0 : Int32)))
  unfold m_X5_unlink
  refine sk_aload_n (pc' := 1) X rfl dX5_unlink_0 rfl ?_
  refine sk_iload_n (pc' := 2) X rfl dX5_unlink_1 rfl ?_
  refine sk_callV (bs2 := fun r2 => [(md_W G u0 S0)]) (st := []) (st2 := fun r2 => [.int r2]) (As := [.int p1]) (pc' := 5) X (c_X5_isClock l G u0 S0 p1) lk_RX5_60 [0] rfl (by decide) (fun _ => rfl) rfl rfl rfl ⟨(Nat.le_of_ble_eq_true rfl), (Nat.le_of_ble_eq_true rfl)⟩ ⟨rfl, rfl⟩ ⟨(Nat.le_of_ble_eq_true rfl), (Nat.le_of_ble_eq_true rfl)⟩ rfl (Nat.le_of_ble_eq_true rfl) rfl dX5_unlink_2 rfl (fun _ => rfl) (fun _ => rfl) (fun r2 => ?_)
  refine sk_if_eq (tgt := 20) (pc' := 8) X dX5_unlink_5 rfl rfl ?_ ?_
  · exact (h20 S0)
  · refine sk_aload_n (pc' := 9) X rfl dX5_unlink_8 rfl ?_
    refine sk_iload_n (pc' := 10) X rfl dX5_unlink_9 rfl ?_
    refine sk_callV (bs2 := fun r10 => [(md_W G u0 S0)]) (st := []) (st2 := fun r10 => [.int r10]) (As := [.int p2]) (pc' := 13) X (c_X5_isClock l G u0 S0 p2) lk_RX5_60 [0] rfl (by decide) (fun _ => rfl) rfl rfl rfl ⟨(Nat.le_of_ble_eq_true rfl), (Nat.le_of_ble_eq_true rfl)⟩ ⟨rfl, rfl⟩ ⟨(Nat.le_of_ble_eq_true rfl), (Nat.le_of_ble_eq_true rfl)⟩ rfl (Nat.le_of_ble_eq_true rfl) rfl dX5_unlink_10 rfl (fun _ => rfl) (fun _ => rfl) (fun r10 => ?_)
    refine sk_if_eq (tgt := 20) (pc' := 16) X dX5_unlink_13 rfl rfl ?_ ?_
    · exact (h20 S0)
    · refine sk_iconst (pc' := 17) X ic_1 dX5_unlink_16 rfl ?_
      refine sk_goto (tgt := 21) X dX5_unlink_17 rfl ?_
      exact (h21 (S0, (1 : Int32)))
def rm_X5_need : Room := { frames := 0, cells := 0, slots := 0, locals := 0 }
def o_X5_need : (Int32) → Option Value := fun r => some (.int r)
def w_X5_need (G : sk_G) (u0 : Nat → Nat) (S0 : sk_M) : (Int32) → sk_B := fun r => [(md_W G u0 S0)]
set_option maxHeartbeats 4000000 in
set_option maxRecDepth 100000 in
theorem c_X5_need (l : Launch) (G : sk_G) (u0 : Nat → Nat) (S0 : sk_M) (p1 : Int32) : sk_ctr l G yX5_need cX5_need 2 (some .int) rm_X5_need [.ref (u0 0), .int p1] [(md_W G u0 S0)] (m_X5_need S0 p1) o_X5_need (w_X5_need G u0 S0) := by
  refine sk_entry (own := RX5) (by decide) rfl (lv0 := [some (.ref (u0 0)), some (.int p1)]) rfl (Nat.le_of_ble_eq_true rfl) ?_
  intro Γ X
  unfold m_X5_need
  refine sk_iload_n (pc' := 1) X rfl dX5_need_0 rfl ?_
  refine sk_if_eq (tgt := 8) (pc' := 4) X dX5_need_1 rfl rfl ?_ ?_
  · refine sk_iconst (pc' := 9) X ic_1 dX5_need_8 rfl ?_
    exact sk_iret X rfl rfl dX5_need_9
  · refine sk_iconst (pc' := 5) X ic_0 dX5_need_4 rfl ?_
    refine sk_goto (tgt := 9) X dX5_need_5 rfl ?_
    exact sk_iret X rfl rfl dX5_need_9
def rm_X5_setPeriod : Room := { frames := 1, cells := 0, slots := 0, locals := 22 }
def o_X5_setPeriod : (Int32 × sk_M) → Option Value := fun r => some (.int r.1)
def w_X5_setPeriod (G : sk_G) (u0 : Nat → Nat) : (Int32 × sk_M) → sk_B := fun r => [(md_W G u0 r.2)]
set_option maxHeartbeats 4000000 in
set_option maxRecDepth 100000 in
theorem c_X5_setPeriod (l : Launch) (G : sk_G) (u0 : Nat → Nat) (S0 : sk_M) (p1 : Int32) : sk_ctr l G yX5_setPeriod cX5_setPeriod 4 (some .int) rm_X5_setPeriod [.ref (u0 0), .int p1] [(md_W G u0 S0)] (m_X5_setPeriod S0 p1) o_X5_setPeriod (w_X5_setPeriod G u0) := by
  refine sk_entry (own := RX5) (by decide) rfl (lv0 := [some (.ref (u0 0)), some (.int p1), none, none]) rfl (Nat.le_of_ble_eq_true rfl) ?_
  intro Γ X
  have h41 : ∀ s41 : sk_M × Int32 × Int32, sk_S Γ (sk_Φ Γ o_X5_setPeriod (w_X5_setPeriod G u0)) 0 0 (m_X5_setPeriod_41 p1 s41) [(md_W G u0 s41.1)] [some (.ref (u0 0)), some (.int p1), some (.int s41.2.1), some (.int s41.2.2)] 41 [] := by
    intro s41
    unfold m_X5_setPeriod_41
    refine sk_loop (bsf := fun s41 => [(md_W G u0 s41.1)]) (lvf := fun s41 => [some (.ref (u0 0)), some (.int p1), some (.int s41.2.1), some (.int s41.2.2)]) ?_ sk_fuel s41
    intro k41 s41 ih41
    unfold m_X5_setPeriod_41_step
    refine sk_iload_n (pc' := 42) X rfl dX5_setPeriod_41 rfl ?_
    refine sk_aload_n (pc' := 43) X rfl dX5_setPeriod_42 rfl ?_
    refine sk_getf (pc' := 46) X 0 0 0 in_RX5 rfl rfl rfl (Nat.le_of_ble_eq_true rfl) fl_RX5_7 rfl dX5_setPeriod_43 rfl ?_
    refine sk_iconst (pc' := 47) X ic_5 dX5_setPeriod_46 rfl ?_
    refine sk_iald (pc' := 48) X 0 1 rfl rfl dX5_setPeriod_47 rfl ?_
    refine sk_icmp_ge (tgt := 70) (pc' := 51) X dX5_setPeriod_48 rfl rfl ?_ ?_
    · refine sk_iload_n (pc' := 71) X rfl dX5_setPeriod_70 rfl ?_
      exact sk_iret X rfl rfl dX5_setPeriod_71
    · refine sk_aload_n (pc' := 52) X rfl dX5_setPeriod_51 rfl ?_
      refine sk_getf (pc' := 55) X 0 0 0 in_RX5 rfl rfl rfl (Nat.le_of_ble_eq_true rfl) fl_RX5_7 rfl dX5_setPeriod_52 rfl ?_
      refine sk_bipush (pc' := 57) X bp_8 dX5_setPeriod_55 rfl ?_
      refine sk_iload_n (pc' := 58) X rfl dX5_setPeriod_57 rfl ?_
      refine sk_iadd (pc' := 59) X dX5_setPeriod_58 rfl ?_
      refine sk_dup2 (pc' := 60) X rfl rfl dX5_setPeriod_59 rfl ?_
      refine sk_iald (pc' := 61) X 0 1 rfl rfl dX5_setPeriod_60 rfl ?_
      refine sk_iload_n (pc' := 62) X rfl dX5_setPeriod_61 rfl ?_
      refine sk_irem (pc' := 63) X dX5_setPeriod_62 rfl ?_
      refine sk_iast (bs' := [(md_W G u0 (md_up s41.1 1 (((8 : Int32) + s41.2.2)).toNatClampNeg (sk_rem ((s41.1.1 1) (((8 : Int32) + s41.2.2)).toNatClampNeg) p1)))]) (pc' := 64) X 0 1 rfl rfl (sk_st 0 (md_st_1 ..) rfl) dX5_setPeriod_63 rfl ?_
      refine sk_lt (bsf := fun z => [(md_W G u0 z)]) (lvf := fun _ => [some (.ref (u0 0)), some (.int p1), some (.int s41.2.1), some (.int s41.2.2)]) (stf := fun _ => []) (fun N63 => ?_)
      refine sk_iinc (lv' := [some (.ref (u0 0)), some (.int p1), some (.int s41.2.1), some (.int (s41.2.2 + (1 : Int32)))]) (pc' := 67) X rfl ic_1 (Nat.le_of_ble_eq_true rfl) rfl rfl dX5_setPeriod_64 rfl ?_
      refine sk_goto (tgt := 41) X dX5_setPeriod_67 rfl ?_
      exact (ih41 (N63, s41.2.1, (s41.2.2 + (1 : Int32))))
  unfold m_X5_setPeriod
  refine sk_aload_n (pc' := 1) X rfl dX5_setPeriod_0 rfl ?_
  refine sk_aload_n (pc' := 2) X rfl dX5_setPeriod_1 rfl ?_
  refine sk_iload_n (pc' := 3) X rfl dX5_setPeriod_2 rfl ?_
  refine sk_bipush (pc' := 5) X bp_10 dX5_setPeriod_3 rfl ?_
  refine sk_bipush (pc' := 7) X bp_100 dX5_setPeriod_5 rfl ?_
  refine sk_callS (bs2 := fun r7 => [(md_W G u0 S0)]) (st := [.ref (u0 0), .ref (u0 0)]) (st2 := fun r7 => [.int r7, .ref (u0 0), .ref (u0 0)]) (As := [.int p1, .int (10 : Int32), .int (100 : Int32)]) (pc' := 10) X (c_X5_within l G p1 (10 : Int32) (100 : Int32)) lk_RX5_39 [] rfl (by decide) (fun _ => rfl) ⟨(Nat.le_of_ble_eq_true rfl), (Nat.le_of_ble_eq_true rfl)⟩ ⟨rfl, rfl⟩ ⟨(Nat.le_of_ble_eq_true rfl), (Nat.le_of_ble_eq_true rfl)⟩ rfl (Nat.le_of_ble_eq_true rfl) rfl dX5_setPeriod_7 rfl (fun _ => rfl) (fun _ => rfl) (fun r7 => ?_)
  refine sk_callV (bs2 := fun r10 => [(md_W G u0 S0)]) (st := [.ref (u0 0)]) (st2 := fun r10 => [.int r10, .ref (u0 0)]) (As := [.int r7]) (pc' := 13) X (c_X5_need l G u0 S0 r7) lk_RX5_94 [0] rfl (by decide) (fun _ => rfl) rfl rfl rfl ⟨(Nat.le_of_ble_eq_true rfl), (Nat.le_of_ble_eq_true rfl)⟩ ⟨rfl, rfl⟩ ⟨(Nat.le_of_ble_eq_true rfl), (Nat.le_of_ble_eq_true rfl)⟩ rfl (Nat.le_of_ble_eq_true rfl) rfl dX5_setPeriod_10 rfl (fun _ => rfl) (fun _ => rfl) (fun r10 => ?_)
  refine sk_callV (bs2 := fun r13 => [(md_W G u0 r13.2)]) (st := []) (st2 := fun r13 => [.int r13.1]) (As := [.int r10]) (pc' := 16) X (c_X5_refused l G u0 S0 r10) lk_RX5_46 [0] rfl (by decide) (fun _ => rfl) rfl rfl rfl ⟨(Nat.le_of_ble_eq_true rfl), (Nat.le_of_ble_eq_true rfl)⟩ ⟨rfl, rfl⟩ ⟨(Nat.le_of_ble_eq_true rfl), (Nat.le_of_ble_eq_true rfl)⟩ rfl (Nat.le_of_ble_eq_true rfl) rfl dX5_setPeriod_13 rfl (fun _ => rfl) (fun _ => rfl) (fun r13 => ?_)
  refine sk_if_eq (tgt := 21) (pc' := 19) X dX5_setPeriod_16 rfl rfl ?_ ?_
  · refine sk_aload_n (pc' := 22) X rfl dX5_setPeriod_21 rfl ?_
    refine sk_callV (bs2 := fun r22 => [(md_W G u0 r22)]) (st := []) (st2 := fun r22 => []) (As := []) (pc' := 25) X (c_X5_saves l G u0 r13.2) lk_RX5_54 [0] rfl (by decide) (fun _ => rfl) rfl rfl rfl ⟨(Nat.le_of_ble_eq_true rfl), (Nat.le_of_ble_eq_true rfl)⟩ ⟨rfl, rfl⟩ ⟨(Nat.le_of_ble_eq_true rfl), (Nat.le_of_ble_eq_true rfl)⟩ rfl (Nat.le_of_ble_eq_true rfl) rfl dX5_setPeriod_22 rfl (fun _ => rfl) (fun _ => rfl) (fun r22 => ?_)
    refine sk_aload_n (pc' := 26) X rfl dX5_setPeriod_25 rfl ?_
    refine sk_getf (pc' := 29) X 0 0 0 in_RX5 rfl rfl rfl (Nat.le_of_ble_eq_true rfl) fl_RX5_7 rfl dX5_setPeriod_26 rfl ?_
    refine sk_iconst (pc' := 30) X ic_0 dX5_setPeriod_29 rfl ?_
    refine sk_iald (pc' := 31) X 0 1 rfl rfl dX5_setPeriod_30 rfl ?_
    refine sk_istore_n (lv' := [some (.ref (u0 0)), some (.int p1), some (.int ((r22.1 1) ((0 : Int32)).toNatClampNeg)), none]) (pc' := 32) X (Nat.le_of_ble_eq_true rfl) rfl rfl dX5_setPeriod_31 rfl ?_
    refine sk_lt (bsf := fun _ => [(md_W G u0 r22)]) (lvf := fun z => [some (.ref (u0 0)), some (.int p1), some (.int z), none]) (stf := fun _ => []) (fun x31 => ?_)
    refine sk_aload_n (pc' := 33) X rfl dX5_setPeriod_32 rfl ?_
    refine sk_getf (pc' := 36) X 0 0 0 in_RX5 rfl rfl rfl (Nat.le_of_ble_eq_true rfl) fl_RX5_7 rfl dX5_setPeriod_33 rfl ?_
    refine sk_iconst (pc' := 37) X ic_0 dX5_setPeriod_36 rfl ?_
    refine sk_iload_n (pc' := 38) X rfl dX5_setPeriod_37 rfl ?_
    refine sk_iast (bs' := [(md_W G u0 (md_up r22 1 ((0 : Int32)).toNatClampNeg p1))]) (pc' := 39) X 0 1 rfl rfl (sk_st 0 (md_st_1 ..) rfl) dX5_setPeriod_38 rfl ?_
    refine sk_lt (bsf := fun z => [(md_W G u0 z)]) (lvf := fun _ => [some (.ref (u0 0)), some (.int p1), some (.int x31), none]) (stf := fun _ => []) (fun N38 => ?_)
    refine sk_iconst (pc' := 40) X ic_0 dX5_setPeriod_39 rfl ?_
    refine sk_istore_n (lv' := [some (.ref (u0 0)), some (.int p1), some (.int x31), some (.int (0 : Int32))]) (pc' := 41) X (Nat.le_of_ble_eq_true rfl) rfl rfl dX5_setPeriod_40 rfl ?_
    exact (h41 (N38, x31, (0 : Int32)))
  · refine sk_iconst (pc' := 20) X ic_0 dX5_setPeriod_19 rfl ?_
    exact sk_iret X rfl rfl dX5_setPeriod_20
def rm_X5_setResponse : Room := { frames := 1, cells := 0, slots := 0, locals := 22 }
def o_X5_setResponse : (Int32 × sk_M) → Option Value := fun r => some (.int r.1)
def w_X5_setResponse (G : sk_G) (u0 : Nat → Nat) : (Int32 × sk_M) → sk_B := fun r => [(md_W G u0 r.2)]
set_option maxHeartbeats 4000000 in
set_option maxRecDepth 100000 in
theorem c_X5_setResponse (l : Launch) (G : sk_G) (u0 : Nat → Nat) (S0 : sk_M) (p1 : Int32) (p2 : Int32) : sk_ctr l G yX5_setResponse cX5_setResponse 5 (some .int) rm_X5_setResponse [.ref (u0 0), .int p1, .int p2] [(md_W G u0 S0)] (m_X5_setResponse S0 p1 p2) o_X5_setResponse (w_X5_setResponse G u0) := by
  refine sk_entry (own := RX5) (by decide) rfl (lv0 := [some (.ref (u0 0)), some (.int p1), some (.int p2), none, none]) rfl (Nat.le_of_ble_eq_true rfl) ?_
  intro Γ X
  have h48 : ∀ s48 : sk_M × Int32, sk_S Γ (sk_Φ Γ o_X5_setResponse (w_X5_setResponse G u0)) 0 0 (m_X5_setResponse_48 p1 p2 s48) [(md_W G u0 s48.1)] [some (.ref (u0 0)), some (.int p1), some (.int p2), none, none] 48 [.int s48.2] := by
    intro s48
    unfold m_X5_setResponse_48
    refine sk_istore_n (lv' := [some (.ref (u0 0)), some (.int p1), some (.int p2), some (.int s48.2), none]) (pc' := 49) X (Nat.le_of_ble_eq_true rfl) rfl rfl dX5_setResponse_48 rfl ?_
    refine sk_aload_n (pc' := 50) X rfl dX5_setResponse_49 rfl ?_
    refine sk_aload_n (pc' := 51) X rfl dX5_setResponse_50 rfl ?_
    refine sk_iload_n (pc' := 52) X rfl dX5_setResponse_51 rfl ?_
    refine sk_callV (bs2 := fun r52 => [(md_W G u0 s48.1)]) (st := [.ref (u0 0)]) (st2 := fun r52 => [.int r52, .ref (u0 0)]) (As := [.int s48.2]) (pc' := 55) X (c_X5_need l G u0 s48.1 s48.2) lk_RX5_94 [0] rfl (by decide) (fun _ => rfl) rfl rfl rfl ⟨(Nat.le_of_ble_eq_true rfl), (Nat.le_of_ble_eq_true rfl)⟩ ⟨rfl, rfl⟩ ⟨(Nat.le_of_ble_eq_true rfl), (Nat.le_of_ble_eq_true rfl)⟩ rfl (Nat.le_of_ble_eq_true rfl) rfl dX5_setResponse_52 rfl (fun _ => rfl) (fun _ => rfl) (fun r52 => ?_)
    refine sk_callV (bs2 := fun r55 => [(md_W G u0 r55.2)]) (st := []) (st2 := fun r55 => [.int r55.1]) (As := [.int r52]) (pc' := 58) X (c_X5_refused l G u0 s48.1 r52) lk_RX5_46 [0] rfl (by decide) (fun _ => rfl) rfl rfl rfl ⟨(Nat.le_of_ble_eq_true rfl), (Nat.le_of_ble_eq_true rfl)⟩ ⟨rfl, rfl⟩ ⟨(Nat.le_of_ble_eq_true rfl), (Nat.le_of_ble_eq_true rfl)⟩ rfl (Nat.le_of_ble_eq_true rfl) rfl dX5_setResponse_55 rfl (fun _ => rfl) (fun _ => rfl) (fun r55 => ?_)
    refine sk_if_eq (tgt := 63) (pc' := 61) X dX5_setResponse_58 rfl rfl ?_ ?_
    · refine sk_aload_n (pc' := 64) X rfl dX5_setResponse_63 rfl ?_
      refine sk_callV (bs2 := fun r64 => [(md_W G u0 r64)]) (st := []) (st2 := fun r64 => []) (As := []) (pc' := 67) X (c_X5_saves l G u0 r55.2) lk_RX5_54 [0] rfl (by decide) (fun _ => rfl) rfl rfl rfl ⟨(Nat.le_of_ble_eq_true rfl), (Nat.le_of_ble_eq_true rfl)⟩ ⟨rfl, rfl⟩ ⟨(Nat.le_of_ble_eq_true rfl), (Nat.le_of_ble_eq_true rfl)⟩ rfl (Nat.le_of_ble_eq_true rfl) rfl dX5_setResponse_64 rfl (fun _ => rfl) (fun _ => rfl) (fun r64 => ?_)
      refine sk_aload_n (pc' := 68) X rfl dX5_setResponse_67 rfl ?_
      refine sk_getf (pc' := 71) X 0 0 0 in_RX5 rfl rfl rfl (Nat.le_of_ble_eq_true rfl) fl_RX5_7 rfl dX5_setResponse_68 rfl ?_
      refine sk_iconst (pc' := 72) X ic_1 dX5_setResponse_71 rfl ?_
      refine sk_iload_n (pc' := 73) X rfl dX5_setResponse_72 rfl ?_
      refine sk_iadd (pc' := 74) X dX5_setResponse_73 rfl ?_
      refine sk_iald (pc' := 75) X 0 1 rfl rfl dX5_setResponse_74 rfl ?_
      refine sk_istore (lv' := [some (.ref (u0 0)), some (.int p1), some (.int p2), some (.int s48.2), some (.int ((r64.1 1) (((1 : Int32) + p1)).toNatClampNeg))]) (pc' := 77) X (Nat.le_of_ble_eq_true rfl) rfl rfl dX5_setResponse_75 rfl ?_
      refine sk_lt (bsf := fun _ => [(md_W G u0 r64)]) (lvf := fun z => [some (.ref (u0 0)), some (.int p1), some (.int p2), some (.int s48.2), some (.int z)]) (stf := fun _ => []) (fun x75 => ?_)
      refine sk_aload_n (pc' := 78) X rfl dX5_setResponse_77 rfl ?_
      refine sk_getf (pc' := 81) X 0 0 0 in_RX5 rfl rfl rfl (Nat.le_of_ble_eq_true rfl) fl_RX5_7 rfl dX5_setResponse_78 rfl ?_
      refine sk_iconst (pc' := 82) X ic_1 dX5_setResponse_81 rfl ?_
      refine sk_iload_n (pc' := 83) X rfl dX5_setResponse_82 rfl ?_
      refine sk_iadd (pc' := 84) X dX5_setResponse_83 rfl ?_
      refine sk_iload_n (pc' := 85) X rfl dX5_setResponse_84 rfl ?_
      refine sk_iast (bs' := [(md_W G u0 (md_up r64 1 (((1 : Int32) + p1)).toNatClampNeg p2))]) (pc' := 86) X 0 1 rfl rfl (sk_st 0 (md_st_1 ..) rfl) dX5_setResponse_85 rfl ?_
      refine sk_lt (bsf := fun z => [(md_W G u0 z)]) (lvf := fun _ => [some (.ref (u0 0)), some (.int p1), some (.int p2), some (.int s48.2), some (.int x75)]) (stf := fun _ => []) (fun N85 => ?_)
      refine sk_iload (pc' := 88) X rfl dX5_setResponse_86 rfl ?_
      exact sk_iret X rfl rfl dX5_setResponse_88
    · refine sk_iconst (pc' := 62) X ic_0 dX5_setResponse_61 rfl ?_
      exact sk_iret X rfl rfl dX5_setResponse_62
  have h47 : ∀ s47 : sk_M, sk_S Γ (sk_Φ Γ o_X5_setResponse (w_X5_setResponse G u0)) 0 0 (m_X5_setResponse_47 p1 p2 s47) [(md_W G u0 s47)] [some (.ref (u0 0)), some (.int p1), some (.int p2), none, none] 47 [] := by
    intro s47
    unfold m_X5_setResponse_47
    refine sk_iconst (pc' := 48) X ic_0 dX5_setResponse_47 rfl ?_
    exact (h48 (s47, (0 : Int32)))
  unfold m_X5_setResponse
  refine sk_iload_n (pc' := 1) X rfl dX5_setResponse_0 rfl ?_
  refine sk_if_ne (tgt := 14) (pc' := 4) X dX5_setResponse_1 rfl rfl ?_ ?_
  · refine sk_iload_n (pc' := 15) X rfl dX5_setResponse_14 rfl ?_
    refine sk_iconst (pc' := 16) X ic_1 dX5_setResponse_15 rfl ?_
    refine sk_icmp_ne (tgt := 29) (pc' := 19) X dX5_setResponse_16 rfl rfl ?_ ?_
    · refine sk_iload_n (pc' := 30) X rfl dX5_setResponse_29 rfl ?_
      refine sk_iconst (pc' := 31) X ic_2 dX5_setResponse_30 rfl ?_
      refine sk_icmp_ne (tgt := 47) (pc' := 34) X dX5_setResponse_31 rfl rfl ?_ ?_
      · exact (h47 S0)
      · refine sk_iload_n (pc' := 35) X rfl dX5_setResponse_34 rfl ?_
        refine sk_iconst (pc' := 36) X ic_0 dX5_setResponse_35 rfl ?_
        refine sk_iconst (pc' := 37) X ic_2 dX5_setResponse_36 rfl ?_
        refine sk_callS (bs2 := fun r37 => [(md_W G u0 S0)]) (st := []) (st2 := fun r37 => [.int r37]) (As := [.int p2, .int (0 : Int32), .int (2 : Int32)]) (pc' := 40) X (c_X5_within l G p2 (0 : Int32) (2 : Int32)) lk_RX5_39 [] rfl (by decide) (fun _ => rfl) ⟨(Nat.le_of_ble_eq_true rfl), (Nat.le_of_ble_eq_true rfl)⟩ ⟨rfl, rfl⟩ ⟨(Nat.le_of_ble_eq_true rfl), (Nat.le_of_ble_eq_true rfl)⟩ rfl (Nat.le_of_ble_eq_true rfl) rfl dX5_setResponse_37 rfl (fun _ => rfl) (fun _ => rfl) (fun r37 => ?_)
        refine sk_if_eq (tgt := 47) (pc' := 43) X dX5_setResponse_40 rfl rfl ?_ ?_
        · exact (h47 S0)
        · refine sk_iconst (pc' := 44) X ic_1 dX5_setResponse_43 rfl ?_
          refine sk_goto (tgt := 48) X dX5_setResponse_44 rfl ?_
          exact (h48 (S0, (1 : Int32)))
    · refine sk_iload_n (pc' := 20) X rfl dX5_setResponse_19 rfl ?_
      refine sk_iconst (pc' := 21) X ic_0 dX5_setResponse_20 rfl ?_
      refine sk_bipush (pc' := 23) X bp_32 dX5_setResponse_21 rfl ?_
      refine sk_callS (bs2 := fun r23 => [(md_W G u0 S0)]) (st := []) (st2 := fun r23 => [.int r23]) (As := [.int p2, .int (0 : Int32), .int (32 : Int32)]) (pc' := 26) X (c_X5_within l G p2 (0 : Int32) (32 : Int32)) lk_RX5_39 [] rfl (by decide) (fun _ => rfl) ⟨(Nat.le_of_ble_eq_true rfl), (Nat.le_of_ble_eq_true rfl)⟩ ⟨rfl, rfl⟩ ⟨(Nat.le_of_ble_eq_true rfl), (Nat.le_of_ble_eq_true rfl)⟩ rfl (Nat.le_of_ble_eq_true rfl) rfl dX5_setResponse_23 rfl (fun _ => rfl) (fun _ => rfl) (fun r23 => ?_)
      refine sk_goto (tgt := 48) X dX5_setResponse_26 rfl ?_
      exact (h48 (S0, r23))
  · refine sk_iload_n (pc' := 5) X rfl dX5_setResponse_4 rfl ?_
    refine sk_iconst (pc' := 6) X ic_0 dX5_setResponse_5 rfl ?_
    refine sk_bipush (pc' := 8) X bp_99 dX5_setResponse_6 rfl ?_
    refine sk_callS (bs2 := fun r8 => [(md_W G u0 S0)]) (st := []) (st2 := fun r8 => [.int r8]) (As := [.int p2, .int (0 : Int32), .int (99 : Int32)]) (pc' := 11) X (c_X5_within l G p2 (0 : Int32) (99 : Int32)) lk_RX5_39 [] rfl (by decide) (fun _ => rfl) ⟨(Nat.le_of_ble_eq_true rfl), (Nat.le_of_ble_eq_true rfl)⟩ ⟨rfl, rfl⟩ ⟨(Nat.le_of_ble_eq_true rfl), (Nat.le_of_ble_eq_true rfl)⟩ rfl (Nat.le_of_ble_eq_true rfl) rfl dX5_setResponse_8 rfl (fun _ => rfl) (fun _ => rfl) (fun r8 => ?_)
    refine sk_goto (tgt := 48) X dX5_setResponse_11 rfl ?_
    exact (h48 (S0, r8))
