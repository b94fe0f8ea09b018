def rm_X0_placeOf : Room := { frames := 0, cells := 0, slots := 0, locals := 0 }
def o_X0_placeOf : (Int32) → Option Value := fun r => some (.int r)
def w_X0_placeOf (G : sk_G) (u0 : Nat → Nat) (S0 : sk_N) : (Int32) → sk_B := fun r => [(lg_W G u0 S0)]
set_option maxHeartbeats 4000000 in
set_option maxRecDepth 100000 in
theorem c_X0_placeOf (l : Launch) (G : sk_G) (u0 : Nat → Nat) (S0 : sk_N) (p1 : Int32) : sk_ctr l G yX0_placeOf cX0_placeOf 3 (some .int) rm_X0_placeOf [.ref (u0 0), .int p1] [(lg_W G u0 S0)] (m_X0_placeOf S0 p1) o_X0_placeOf (w_X0_placeOf G u0 S0) := by
  refine sk_entry (own := RX0) (by decide) rfl (lv0 := [some (.ref (u0 0)), some (.int p1), none]) rfl (Nat.le_of_ble_eq_true rfl) ?_
  intro Γ X
  unfold m_X0_placeOf
  refine sk_iload_n (pc' := 1) X rfl dX0_placeOf_0 rfl ?_
  refine sk_if_lt (tgt := 12) (pc' := 4) X dX0_placeOf_1 rfl rfl ?_ ?_
  · refine sk_iconst (pc' := 13) X ic_m1 dX0_placeOf_12 rfl ?_
    exact sk_iret X rfl rfl dX0_placeOf_13
  · refine sk_iload_n (pc' := 5) X rfl dX0_placeOf_4 rfl ?_
    refine sk_aload_n (pc' := 6) X rfl dX0_placeOf_5 rfl ?_
    refine sk_getf (pc' := 9) X 0 0 3 in_RX0 rfl rfl rfl (Nat.le_of_ble_eq_true rfl) fl_RX0_22 rfl dX0_placeOf_6 rfl ?_
    refine sk_icmp_lt (tgt := 14) (pc' := 12) X dX0_placeOf_9 rfl rfl ?_ ?_
    · refine sk_aload_n (pc' := 15) X rfl dX0_placeOf_14 rfl ?_
      refine sk_getf (pc' := 18) X 0 0 2 in_RX0 rfl rfl rfl (Nat.le_of_ble_eq_true rfl) fl_RX0_18 rfl dX0_placeOf_15 rfl ?_
      refine sk_iconst (pc' := 19) X ic_1 dX0_placeOf_18 rfl ?_
      refine sk_isub (pc' := 20) X dX0_placeOf_19 rfl ?_
      refine sk_iload_n (pc' := 21) X rfl dX0_placeOf_20 rfl ?_
      refine sk_isub (pc' := 22) X dX0_placeOf_21 rfl ?_
      refine sk_istore_n (lv' := [some (.ref (u0 0)), some (.int p1), some (.int (((S0 0 2) - (1 : Int32)) - p1))]) (pc' := 23) X (Nat.le_of_ble_eq_true rfl) rfl rfl dX0_placeOf_22 rfl ?_
      refine sk_lt (bsf := fun _ => [(lg_W G u0 S0)]) (lvf := fun z => [some (.ref (u0 0)), some (.int p1), some (.int z)]) (stf := fun _ => []) (fun x22 => ?_)
      refine sk_iload_n (pc' := 24) X rfl dX0_placeOf_23 rfl ?_
      refine sk_if_lt (tgt := 31) (pc' := 27) X dX0_placeOf_24 rfl rfl ?_ ?_
      · refine sk_iload_n (pc' := 32) X rfl dX0_placeOf_31 rfl ?_
        refine sk_bipush (pc' := 34) X bp_60 dX0_placeOf_32 rfl ?_
        refine sk_iadd (pc' := 35) X dX0_placeOf_34 rfl ?_
        exact sk_iret X rfl rfl dX0_placeOf_35
      · refine sk_iload_n (pc' := 28) X rfl dX0_placeOf_27 rfl ?_
        refine sk_goto (tgt := 35) X dX0_placeOf_28 rfl ?_
        exact sk_iret X rfl rfl dX0_placeOf_35
    · refine sk_iconst (pc' := 13) X ic_m1 dX0_placeOf_12 rfl ?_
      exact sk_iret X rfl rfl dX0_placeOf_13
def rm_X0_copyNotes : Room := { frames := 1, cells := 0, slots := 0, locals := 40 }
def o_X0_copyNotes : (sk_N) → Option Value := fun r => none
def w_X0_copyNotes (G : sk_G) (u0 u1 : Nat → Nat) (S1 : sk_N) : (sk_N) → sk_B := fun r => [(lg_W G u0 r), (lg_W G u1 S1)]
set_option maxHeartbeats 4000000 in
set_option maxRecDepth 100000 in
theorem c_X0_copyNotes (l : Launch) (G : sk_G) (u0 u1 : Nat → Nat) (S0 : sk_N) (S1 : sk_N) : sk_ctr l G yX0_copyNotes cX0_copyNotes 2 none rm_X0_copyNotes [.ref (u0 0), .ref (u1 0)] [(lg_W G u0 S0), (lg_W G u1 S1)] (m_X0_copyNotes S0 S1) o_X0_copyNotes (w_X0_copyNotes G u0 u1 S1) := by
  refine sk_entry (own := RX0) (by decide) rfl (lv0 := [some (.ref (u0 0)), some (.ref (u1 0))]) rfl (Nat.le_of_ble_eq_true rfl) ?_
  intro Γ X
  unfold m_X0_copyNotes
  refine sk_aload_n (pc' := 1) X rfl dX0_copyNotes_0 rfl ?_
  refine sk_getf (pc' := 4) X 1 0 0 in_RX0 rfl rfl rfl (Nat.le_of_ble_eq_true rfl) fl_RX0_9 rfl dX0_copyNotes_1 rfl ?_
  refine sk_iconst (pc' := 5) X ic_0 dX0_copyNotes_4 rfl ?_
  refine sk_aload_n (pc' := 6) X rfl dX0_copyNotes_5 rfl ?_
  refine sk_getf (pc' := 9) X 0 0 0 in_RX0 rfl rfl rfl (Nat.le_of_ble_eq_true rfl) fl_RX0_9 rfl dX0_copyNotes_6 rfl ?_
  refine sk_iconst (pc' := 10) X ic_0 dX0_copyNotes_9 rfl ?_
  refine sk_bipush (pc' := 12) X bp_60 dX0_copyNotes_10 rfl ?_
  refine sk_copy (bs' := [(lg_W G u0 (va_up S0 1 (va_cpy (S1 1) (S0 1) 0 0 60))), (lg_W G u1 S1)]) (pc' := 15) X ac_RX0 1 1 0 1 (N := 60) rfl rfl rfl rfl (by decide) (by decide) (Nat.le_of_ble_eq_true rfl) (Nat.le_of_ble_eq_true rfl) (sk_st 0 (lg_cp_1 ..) rfl) (Nat.le_of_ble_eq_true rfl) (Nat.le_of_ble_eq_true rfl) dX0_copyNotes_12 rfl ?_
  refine sk_lt (bsf := fun z => [(lg_W G u0 z), (lg_W G u1 S1)]) (lvf := fun _ => [some (.ref (u0 0)), some (.ref (u1 0))]) (stf := fun _ => []) (fun N12 => ?_)
  refine sk_aload_n (pc' := 16) X rfl dX0_copyNotes_15 rfl ?_
  refine sk_getf (pc' := 19) X 1 0 1 in_RX0 rfl rfl rfl (Nat.le_of_ble_eq_true rfl) fl_RX0_15 rfl dX0_copyNotes_16 rfl ?_
  refine sk_iconst (pc' := 20) X ic_0 dX0_copyNotes_19 rfl ?_
  refine sk_aload_n (pc' := 21) X rfl dX0_copyNotes_20 rfl ?_
  refine sk_getf (pc' := 24) X 0 0 1 in_RX0 rfl rfl rfl (Nat.le_of_ble_eq_true rfl) fl_RX0_15 rfl dX0_copyNotes_21 rfl ?_
  refine sk_iconst (pc' := 25) X ic_0 dX0_copyNotes_24 rfl ?_
  refine sk_bipush (pc' := 27) X bp_60 dX0_copyNotes_25 rfl ?_
  refine sk_copy (bs' := [(lg_W G u0 (va_up N12 2 (va_cpy (S1 2) (N12 2) 0 0 60))), (lg_W G u1 S1)]) (pc' := 30) X ac_RX0 1 2 0 2 (N := 60) rfl rfl rfl rfl (by decide) (by decide) (Nat.le_of_ble_eq_true rfl) (Nat.le_of_ble_eq_true rfl) (sk_st 0 (lg_cp_2 ..) rfl) (Nat.le_of_ble_eq_true rfl) (Nat.le_of_ble_eq_true rfl) dX0_copyNotes_27 rfl ?_
  refine sk_lt (bsf := fun z => [(lg_W G u0 z), (lg_W G u1 S1)]) (lvf := fun _ => [some (.ref (u0 0)), some (.ref (u1 0))]) (stf := fun _ => []) (fun N27 => ?_)
  refine sk_aload_n (pc' := 31) X rfl dX0_copyNotes_30 rfl ?_
  refine sk_aload_n (pc' := 32) X rfl dX0_copyNotes_31 rfl ?_
  refine sk_getf (pc' := 35) X 1 0 2 in_RX0 rfl rfl rfl (Nat.le_of_ble_eq_true rfl) fl_RX0_18 rfl dX0_copyNotes_32 rfl ?_
  refine sk_putf (bs' := [(lg_W G u0 (sk_up N27 0 2 (S1 0 2))), (lg_W G u1 S1)]) (pc' := 38) X 0 0 2 in_RX0 tyX0 tyX0_ok nmX0 rfl rfl rfl (Nat.le_of_ble_eq_true rfl) fl_RX0_18 rfl (tyX0_ok 2 (Nat.le_of_ble_eq_true rfl)) rfl rfl (Nat.le_of_ble_eq_true rfl) (sk_st 0 (lg_pf_2 ..) rfl) dX0_copyNotes_35 rfl ?_
  refine sk_lt (bsf := fun z => [(lg_W G u0 z), (lg_W G u1 S1)]) (lvf := fun _ => [some (.ref (u0 0)), some (.ref (u1 0))]) (stf := fun _ => []) (fun N35 => ?_)
  refine sk_aload_n (pc' := 39) X rfl dX0_copyNotes_38 rfl ?_
  refine sk_aload_n (pc' := 40) X rfl dX0_copyNotes_39 rfl ?_
  refine sk_getf (pc' := 43) X 1 0 3 in_RX0 rfl rfl rfl (Nat.le_of_ble_eq_true rfl) fl_RX0_22 rfl dX0_copyNotes_40 rfl ?_
  refine sk_putf (bs' := [(lg_W G u0 (sk_up N35 0 3 (S1 0 3))), (lg_W G u1 S1)]) (pc' := 46) X 0 0 3 in_RX0 tyX0 tyX0_ok nmX0 rfl rfl rfl (Nat.le_of_ble_eq_true rfl) fl_RX0_22 rfl (tyX0_ok 3 (Nat.le_of_ble_eq_true rfl)) rfl rfl (Nat.le_of_ble_eq_true rfl) (sk_st 0 (lg_pf_3 ..) rfl) dX0_copyNotes_43 rfl ?_
  refine sk_lt (bsf := fun z => [(lg_W G u0 z), (lg_W G u1 S1)]) (lvf := fun _ => [some (.ref (u0 0)), some (.ref (u1 0))]) (stf := fun _ => []) (fun N43 => ?_)
  exact sk_vret X rfl rfl dX0_copyNotes_46
def rm_X0_note : Room := { frames := 0, cells := 0, slots := 0, locals := 0 }
def o_X0_note : (sk_N) → Option Value := fun r => none
def w_X0_note (G : sk_G) (u0 : Nat → Nat) : (sk_N) → sk_B := fun r => [(lg_W G u0 r)]
set_option maxHeartbeats 4000000 in
set_option maxRecDepth 100000 in
theorem c_X0_note (l : Launch) (G : sk_G) (u0 : Nat → Nat) (S0 : sk_N) (p1 : Int32) (p2 : Int32) : sk_ctr l G yX0_note cX0_note 3 none rm_X0_note [.ref (u0 0), .int p1, .int p2] [(lg_W G u0 S0)] (m_X0_note S0 p1 p2) o_X0_note (w_X0_note G u0) := by
  refine sk_entry (own := RX0) (by decide) rfl (lv0 := [some (.ref (u0 0)), some (.int p1), some (.int p2)]) rfl (Nat.le_of_ble_eq_true rfl) ?_
  intro Γ X
  have h42 : ∀ s42 : sk_N × Int32, sk_S Γ (sk_Φ Γ o_X0_note (w_X0_note G u0)) 0 0 (m_X0_note_42 p1 p2 s42) [(lg_W G u0 s42.1)] [some (.ref (u0 0)), none, none] 42 [.int s42.2, .ref (u0 0)] := by
    intro s42
    unfold m_X0_note_42
    refine sk_putf (bs' := [(lg_W G u0 (sk_up s42.1 0 2 s42.2))]) (pc' := 45) X 0 0 2 in_RX0 tyX0 tyX0_ok nmX0 rfl rfl rfl (Nat.le_of_ble_eq_true rfl) fl_RX0_18 rfl (tyX0_ok 2 (Nat.le_of_ble_eq_true rfl)) rfl rfl (Nat.le_of_ble_eq_true rfl) (sk_st 0 (lg_pf_2 ..) rfl) dX0_note_42 rfl ?_
    refine sk_lt (bsf := fun z => [(lg_W G u0 z)]) (lvf := fun _ => [some (.ref (u0 0)), none, none]) (stf := fun _ => []) (fun N42 => ?_)
    refine sk_aload_n (pc' := 46) X rfl dX0_note_45 rfl ?_
    refine sk_getf (pc' := 49) X 0 0 3 in_RX0 rfl rfl rfl (Nat.le_of_ble_eq_true rfl) fl_RX0_22 rfl dX0_note_46 rfl ?_
    refine sk_bipush (pc' := 51) X bp_60 dX0_note_49 rfl ?_
    refine sk_icmp_ge (tgt := 64) (pc' := 54) X dX0_note_51 rfl rfl ?_ ?_
    · exact sk_vret X rfl rfl dX0_note_64
    · refine sk_aload_n (pc' := 55) X rfl dX0_note_54 rfl ?_
      refine sk_dup (pc' := 56) X rfl dX0_note_55 rfl ?_
      refine sk_getf (pc' := 59) X 0 0 3 in_RX0 rfl rfl rfl (Nat.le_of_ble_eq_true rfl) fl_RX0_22 rfl dX0_note_56 rfl ?_
      refine sk_iconst (pc' := 60) X ic_1 dX0_note_59 rfl ?_
      refine sk_iadd (pc' := 61) X dX0_note_60 rfl ?_
      refine sk_putf (bs' := [(lg_W G u0 (sk_up N42 0 3 ((N42 0 3) + (1 : Int32))))]) (pc' := 64) X 0 0 3 in_RX0 tyX0 tyX0_ok nmX0 rfl rfl rfl (Nat.le_of_ble_eq_true rfl) fl_RX0_22 rfl (tyX0_ok 3 (Nat.le_of_ble_eq_true rfl)) rfl rfl (Nat.le_of_ble_eq_true rfl) (sk_st 0 (lg_pf_3 ..) rfl) dX0_note_61 rfl ?_
      refine sk_lt (bsf := fun z => [(lg_W G u0 z)]) (lvf := fun _ => [some (.ref (u0 0)), none, none]) (stf := fun _ => []) (fun N61 => ?_)
      exact sk_vret X rfl rfl dX0_note_64
  unfold m_X0_note
  refine sk_aload_n (pc' := 1) X rfl dX0_note_0 rfl ?_
  refine sk_getf (pc' := 4) X 0 0 0 in_RX0 rfl rfl rfl (Nat.le_of_ble_eq_true rfl) fl_RX0_9 rfl dX0_note_1 rfl ?_
  refine sk_aload_n (pc' := 5) X rfl dX0_note_4 rfl ?_
  refine sk_getf (pc' := 8) X 0 0 2 in_RX0 rfl rfl rfl (Nat.le_of_ble_eq_true rfl) fl_RX0_18 rfl dX0_note_5 rfl ?_
  refine sk_iload_n (pc' := 9) X rfl dX0_note_8 rfl ?_
  refine sk_iast (bs' := [(lg_W G u0 (sk_up S0 1 ((S0 0 2)).toNatClampNeg p1))]) (pc' := 10) X 0 1 rfl rfl (sk_st 0 (lg_st_1 ..) rfl) dX0_note_9 rfl ?_
  refine sk_lt (bsf := fun z => [(lg_W G u0 z)]) (lvf := fun _ => [some (.ref (u0 0)), some (.int p1), some (.int p2)]) (stf := fun _ => []) (fun N9 => ?_)
  refine sk_aload_n (pc' := 11) X rfl dX0_note_10 rfl ?_
  refine sk_getf (pc' := 14) X 0 0 1 in_RX0 rfl rfl rfl (Nat.le_of_ble_eq_true rfl) fl_RX0_15 rfl dX0_note_11 rfl ?_
  refine sk_aload_n (pc' := 15) X rfl dX0_note_14 rfl ?_
  refine sk_getf (pc' := 18) X 0 0 2 in_RX0 rfl rfl rfl (Nat.le_of_ble_eq_true rfl) fl_RX0_18 rfl dX0_note_15 rfl ?_
  refine sk_iload_n (pc' := 19) X rfl dX0_note_18 rfl ?_
  refine sk_iast (bs' := [(lg_W G u0 (sk_up N9 2 ((N9 0 2)).toNatClampNeg p2))]) (pc' := 20) X 0 2 rfl rfl (sk_st 0 (lg_st_2 ..) rfl) dX0_note_19 rfl ?_
  refine sk_lt (bsf := fun z => [(lg_W G u0 z)]) (lvf := fun _ => [some (.ref (u0 0)), some (.int p1), some (.int p2)]) (stf := fun _ => []) (fun N19 => ?_)
  refine sk_aload_n (pc' := 21) X rfl dX0_note_20 rfl ?_
  refine sk_aload_n (pc' := 22) X rfl dX0_note_21 rfl ?_
  refine sk_getf (pc' := 25) X 0 0 2 in_RX0 rfl rfl rfl (Nat.le_of_ble_eq_true rfl) fl_RX0_18 rfl dX0_note_22 rfl ?_
  refine sk_iconst (pc' := 26) X ic_1 dX0_note_25 rfl ?_
  refine sk_iadd (pc' := 27) X dX0_note_26 rfl ?_
  refine sk_bipush (pc' := 29) X bp_60 dX0_note_27 rfl ?_
  refine sk_icmp_ge (tgt := 41) (pc' := 32) X dX0_note_29 rfl rfl ?_ ?_
  · refine sk_iconst (pc' := 42) X ic_0 dX0_note_41 rfl ?_
    exact (sk_kill 2 (sk_kill 1 (h42 (N19, (0 : Int32)))))
  · refine sk_aload_n (pc' := 33) X rfl dX0_note_32 rfl ?_
    refine sk_getf (pc' := 36) X 0 0 2 in_RX0 rfl rfl rfl (Nat.le_of_ble_eq_true rfl) fl_RX0_18 rfl dX0_note_33 rfl ?_
    refine sk_iconst (pc' := 37) X ic_1 dX0_note_36 rfl ?_
    refine sk_iadd (pc' := 38) X dX0_note_37 rfl ?_
    refine sk_goto (tgt := 42) X dX0_note_38 rfl ?_
    exact (sk_kill 2 (sk_kill 1 (h42 (N19, ((N19 0 2) + (1 : Int32))))))
def rm_X1_allClocks : Room := { frames := 0, cells := 0, slots := 0, locals := 0 }
def o_X1_allClocks : (Int32) → Option Value := fun r => some (.int r)
def w_X1_allClocks (G : sk_G) (u0 : Nat → Nat) (a0_log : Nat) (S0 : sk_N) : (Int32) → sk_B := fun r => [(nt_W G u0 a0_log S0)]
set_option maxHeartbeats 4000000 in
set_option maxRecDepth 100000 in
theorem c_X1_allClocks (l : Launch) (G : sk_G) (u0 : Nat → Nat) (a0_log : Nat) (S0 : sk_N) : sk_ctr l G yX1_allClocks cX1_allClocks 1 (some .int) rm_X1_allClocks [.ref (u0 0)] [(nt_W G u0 a0_log S0)] (m_X1_allClocks S0) o_X1_allClocks (w_X1_allClocks G u0 a0_log S0) := by
  refine sk_entry (own := RX1) (by decide) rfl (lv0 := [some (.ref (u0 0))]) rfl (Nat.le_of_ble_eq_true rfl) ?_
  intro Γ X
  unfold m_X1_allClocks
  refine sk_iconst (pc' := 1) X ic_1 dX1_allClocks_0 rfl ?_
  refine sk_aload_n (pc' := 2) X rfl dX1_allClocks_1 rfl ?_
  refine sk_getf (pc' := 5) X 0 0 0 in_RX1 rfl rfl rfl (Nat.le_of_ble_eq_true rfl) fl_RX1_47 rfl dX1_allClocks_2 rfl ?_
  refine sk_ishl (pc' := 6) X dX1_allClocks_5 rfl ?_
  refine sk_iconst (pc' := 7) X ic_1 dX1_allClocks_6 rfl ?_
  refine sk_isub (pc' := 8) X dX1_allClocks_7 rfl ?_
  exact sk_iret X rfl rfl dX1_allClocks_8
def rm_X1_delayBetween : Room := { frames := 0, cells := 0, slots := 0, locals := 0 }
def o_X1_delayBetween : (Int32) → Option Value := fun r => some (.int r)
def w_X1_delayBetween (G : sk_G) (u0 : Nat → Nat) (a0_log : Nat) (S0 : sk_N) : (Int32) → sk_B := fun r => [(nt_W G u0 a0_log S0)]
set_option maxHeartbeats 4000000 in
set_option maxRecDepth 100000 in
theorem c_X1_delayBetween (l : Launch) (G : sk_G) (u0 : Nat → Nat) (a0_log : Nat) (S0 : sk_N) (p1 : Int32) (p2 : Int32) : sk_ctr l G yX1_delayBetween cX1_delayBetween 3 (some .int) rm_X1_delayBetween [.ref (u0 0), .int p1, .int p2] [(nt_W G u0 a0_log S0)] (m_X1_delayBetween S0 p1 p2) o_X1_delayBetween (w_X1_delayBetween G u0 a0_log S0) := by
  refine sk_entry (own := RX1) (by decide) rfl (lv0 := [some (.ref (u0 0)), some (.int p1), some (.int p2)]) rfl (Nat.le_of_ble_eq_true rfl) ?_
  intro Γ X
  unfold m_X1_delayBetween
  refine sk_aload_n (pc' := 1) X rfl dX1_delayBetween_0 rfl ?_
  refine sk_getf (pc' := 4) X 0 0 10 in_RX1 rfl rfl rfl (Nat.le_of_ble_eq_true rfl) fl_RX1_38 rfl dX1_delayBetween_1 rfl ?_
  refine sk_iload_n (pc' := 5) X rfl dX1_delayBetween_4 rfl ?_
  refine sk_bipush (pc' := 7) X bp_10 dX1_delayBetween_5 rfl ?_
  refine sk_imul (pc' := 8) X dX1_delayBetween_7 rfl ?_
  refine sk_iload_n (pc' := 9) X rfl dX1_delayBetween_8 rfl ?_
  refine sk_iadd (pc' := 10) X dX1_delayBetween_9 rfl ?_
  refine sk_iald (pc' := 11) X 0 6 rfl rfl dX1_delayBetween_10 rfl ?_
  exact sk_iret X rfl rfl dX1_delayBetween_11
def rm_X1_neighboursOf : Room := { frames := 1, cells := 0, slots := 0, locals := 22 }
def o_X1_neighboursOf : (Int32) → Option Value := fun r => some (.int r)
def w_X1_neighboursOf (G : sk_G) (u0 : Nat → Nat) (a0_log : Nat) (S0 : sk_N) : (Int32) → sk_B := fun r => [(nt_W G u0 a0_log S0)]
set_option maxHeartbeats 4000000 in
set_option maxRecDepth 100000 in
theorem c_X1_neighboursOf (l : Launch) (G : sk_G) (u0 : Nat → Nat) (a0_log : Nat) (S0 : sk_N) (p1 : Int32) : sk_ctr l G yX1_neighboursOf cX1_neighboursOf 4 (some .int) rm_X1_neighboursOf [.ref (u0 0), .int p1] [(nt_W G u0 a0_log S0)] (m_X1_neighboursOf S0 p1) o_X1_neighboursOf (w_X1_neighboursOf G u0 a0_log S0) := by
  refine sk_entry (own := RX1) (by decide) rfl (lv0 := [some (.ref (u0 0)), some (.int p1), none, none]) rfl (Nat.le_of_ble_eq_true rfl) ?_
  intro Γ X
  have h4 : ∀ s4 : Int32 × Int32, sk_S Γ (sk_Φ Γ o_X1_neighboursOf (w_X1_neighboursOf G u0 a0_log S0)) 0 0 (m_X1_neighboursOf_4 S0 p1 s4) [(nt_W G u0 a0_log S0)] [some (.ref (u0 0)), some (.int p1), some (.int s4.1), some (.int s4.2)] 4 [] := by
    intro s4
    unfold m_X1_neighboursOf_4
    refine sk_loop (bsf := fun s4 => [(nt_W G u0 a0_log S0)]) (lvf := fun s4 => [some (.ref (u0 0)), some (.int p1), some (.int s4.1), some (.int s4.2)]) ?_ sk_fuel s4
    intro k4 s4 ih4
    unfold m_X1_neighboursOf_4_step
    refine sk_iload_n (pc' := 5) X rfl dX1_neighboursOf_4 rfl ?_
    refine sk_aload_n (pc' := 6) X rfl dX1_neighboursOf_5 rfl ?_
    refine sk_getf (pc' := 9) X 0 0 0 in_RX1 rfl rfl rfl (Nat.le_of_ble_eq_true rfl) fl_RX1_47 rfl dX1_neighboursOf_6 rfl ?_
    refine sk_icmp_ge (tgt := 34) (pc' := 12) X dX1_neighboursOf_9 rfl rfl ?_ ?_
    · refine sk_iload_n (pc' := 35) X rfl dX1_neighboursOf_34 rfl ?_
      exact sk_iret X rfl rfl dX1_neighboursOf_35
    · refine sk_aload_n (pc' := 13) X rfl dX1_neighboursOf_12 rfl ?_
      refine sk_iload_n (pc' := 14) X rfl dX1_neighboursOf_13 rfl ?_
      refine sk_iload_n (pc' := 15) X rfl dX1_neighboursOf_14 rfl ?_
      refine sk_callV (bs2 := fun r15 => [(nt_W G u0 a0_log S0)]) (st := []) (st2 := fun r15 => [.int r15]) (As := [.int p1, .int s4.2]) (pc' := 18) X (c_X1_delayBetween l G u0 a0_log S0 p1 s4.2) lk_RX1_82 [0] rfl (by decide) (fun _ => rfl) rfl rfl rfl ⟨(Nat.le_of_ble_eq_true rfl), (Nat.le_of_ble_eq_true rfl)⟩ ⟨rfl, rfl⟩ ⟨(Nat.le_of_ble_eq_true rfl), (Nat.le_of_ble_eq_true rfl)⟩ rfl (Nat.le_of_ble_eq_true rfl) rfl dX1_neighboursOf_15 rfl (fun _ => rfl) (fun _ => rfl) (fun r15 => ?_)
      refine sk_iconst (pc' := 19) X ic_m1 dX1_neighboursOf_18 rfl ?_
      refine sk_icmp_eq (tgt := 28) (pc' := 22) X dX1_neighboursOf_19 rfl rfl ?_ ?_
      · refine sk_iinc (lv' := [some (.ref (u0 0)), some (.int p1), some (.int s4.1), some (.int (s4.2 + (1 : Int32)))]) (pc' := 31) X rfl ic_1 (Nat.le_of_ble_eq_true rfl) rfl rfl dX1_neighboursOf_28 rfl ?_
        refine sk_goto (tgt := 4) X dX1_neighboursOf_31 rfl ?_
        exact (ih4 (s4.1, (s4.2 + (1 : Int32))))
      · refine sk_iload_n (pc' := 23) X rfl dX1_neighboursOf_22 rfl ?_
        refine sk_iconst (pc' := 24) X ic_1 dX1_neighboursOf_23 rfl ?_
        refine sk_iload_n (pc' := 25) X rfl dX1_neighboursOf_24 rfl ?_
        refine sk_ishl (pc' := 26) X dX1_neighboursOf_25 rfl ?_
        refine sk_ior (pc' := 27) X dX1_neighboursOf_26 rfl ?_
        refine sk_istore_n (lv' := [some (.ref (u0 0)), some (.int p1), some (.int (s4.1 ||| (sk_shl (1 : Int32) s4.2))), some (.int s4.2)]) (pc' := 28) X (Nat.le_of_ble_eq_true rfl) rfl rfl dX1_neighboursOf_27 rfl ?_
        refine sk_lt (bsf := fun _ => [(nt_W G u0 a0_log S0)]) (lvf := fun z => [some (.ref (u0 0)), some (.int p1), some (.int z), some (.int s4.2)]) (stf := fun _ => []) (fun x27 => ?_)
        refine sk_iinc (lv' := [some (.ref (u0 0)), some (.int p1), some (.int x27), some (.int (s4.2 + (1 : Int32)))]) (pc' := 31) X rfl ic_1 (Nat.le_of_ble_eq_true rfl) rfl rfl dX1_neighboursOf_28 rfl ?_
        refine sk_goto (tgt := 4) X dX1_neighboursOf_31 rfl ?_
        exact (ih4 (x27, (s4.2 + (1 : Int32))))
  unfold m_X1_neighboursOf
  refine sk_iconst (pc' := 1) X ic_0 dX1_neighboursOf_0 rfl ?_
  refine sk_istore_n (lv' := [some (.ref (u0 0)), some (.int p1), some (.int (0 : Int32)), none]) (pc' := 2) X (Nat.le_of_ble_eq_true rfl) rfl rfl dX1_neighboursOf_1 rfl ?_
  refine sk_iconst (pc' := 3) X ic_0 dX1_neighboursOf_2 rfl ?_
  refine sk_istore_n (lv' := [some (.ref (u0 0)), some (.int p1), some (.int (0 : Int32)), some (.int (0 : Int32))]) (pc' := 4) X (Nat.le_of_ble_eq_true rfl) rfl rfl dX1_neighboursOf_3 rfl ?_
  exact (h4 ((0 : Int32), (0 : Int32)))
def rm_X1_withNeighbours : Room := { frames := 2, cells := 0, slots := 0, locals := 45 }
def o_X1_withNeighbours : (Int32) → Option Value := fun r => some (.int r)
def w_X1_withNeighbours (G : sk_G) (u0 : Nat → Nat) (a0_log : Nat) (S0 : sk_N) : (Int32) → sk_B := fun r => [(nt_W G u0 a0_log S0)]
set_option maxHeartbeats 4000000 in
set_option maxRecDepth 100000 in
theorem c_X1_withNeighbours (l : Launch) (G : sk_G) (u0 : Nat → Nat) (a0_log : Nat) (S0 : sk_N) (p1 : Int32) : sk_ctr l G yX1_withNeighbours cX1_withNeighbours 4 (some .int) rm_X1_withNeighbours [.ref (u0 0), .int p1] [(nt_W G u0 a0_log S0)] (m_X1_withNeighbours S0 p1) o_X1_withNeighbours (w_X1_withNeighbours G u0 a0_log S0) := by
  refine sk_entry (own := RX1) (by decide) rfl (lv0 := [some (.ref (u0 0)), some (.int p1), none, none]) rfl (Nat.le_of_ble_eq_true rfl) ?_
  intro Γ X
  have h4 : ∀ s4 : Int32 × Int32, sk_S Γ (sk_Φ Γ o_X1_withNeighbours (w_X1_withNeighbours G u0 a0_log S0)) 0 0 (m_X1_withNeighbours_4 S0 p1 s4) [(nt_W G u0 a0_log S0)] [some (.ref (u0 0)), some (.int p1), some (.int s4.1), some (.int s4.2)] 4 [] := by
    intro s4
    unfold m_X1_withNeighbours_4
    refine sk_loop (bsf := fun s4 => [(nt_W G u0 a0_log S0)]) (lvf := fun s4 => [some (.ref (u0 0)), some (.int p1), some (.int s4.1), some (.int s4.2)]) ?_ sk_fuel s4
    intro k4 s4 ih4
    unfold m_X1_withNeighbours_4_step
    refine sk_iload_n (pc' := 5) X rfl dX1_withNeighbours_4 rfl ?_
    refine sk_aload_n (pc' := 6) X rfl dX1_withNeighbours_5 rfl ?_
    refine sk_getf (pc' := 9) X 0 0 0 in_RX1 rfl rfl rfl (Nat.le_of_ble_eq_true rfl) fl_RX1_47 rfl dX1_withNeighbours_6 rfl ?_
    refine sk_icmp_ge (tgt := 34) (pc' := 12) X dX1_withNeighbours_9 rfl rfl ?_ ?_
    · refine sk_iload_n (pc' := 35) X rfl dX1_withNeighbours_34 rfl ?_
      exact sk_iret X rfl rfl dX1_withNeighbours_35
    · refine sk_iload_n (pc' := 13) X rfl dX1_withNeighbours_12 rfl ?_
      refine sk_iconst (pc' := 14) X ic_1 dX1_withNeighbours_13 rfl ?_
      refine sk_iload_n (pc' := 15) X rfl dX1_withNeighbours_14 rfl ?_
      refine sk_ishl (pc' := 16) X dX1_withNeighbours_15 rfl ?_
      refine sk_iand (pc' := 17) X dX1_withNeighbours_16 rfl ?_
      refine sk_if_eq (tgt := 28) (pc' := 20) X dX1_withNeighbours_17 rfl rfl ?_ ?_
      · refine sk_iinc (lv' := [some (.ref (u0 0)), some (.int p1), some (.int s4.1), some (.int (s4.2 + (1 : Int32)))]) (pc' := 31) X rfl ic_1 (Nat.le_of_ble_eq_true rfl) rfl rfl dX1_withNeighbours_28 rfl ?_
        refine sk_goto (tgt := 4) X dX1_withNeighbours_31 rfl ?_
        exact (ih4 (s4.1, (s4.2 + (1 : Int32))))
      · refine sk_iload_n (pc' := 21) X rfl dX1_withNeighbours_20 rfl ?_
        refine sk_aload_n (pc' := 22) X rfl dX1_withNeighbours_21 rfl ?_
        refine sk_iload_n (pc' := 23) X rfl dX1_withNeighbours_22 rfl ?_
        refine sk_callV (bs2 := fun r23 => [(nt_W G u0 a0_log S0)]) (st := [.int s4.1]) (st2 := fun r23 => [.int r23, .int s4.1]) (As := [.int s4.2]) (pc' := 26) X (c_X1_neighboursOf l G u0 a0_log S0 s4.2) lk_RX1_70 [0] rfl (by decide) (fun _ => rfl) rfl rfl rfl ⟨(Nat.le_of_ble_eq_true rfl), (Nat.le_of_ble_eq_true rfl)⟩ ⟨rfl, rfl⟩ ⟨(Nat.le_of_ble_eq_true rfl), (Nat.le_of_ble_eq_true rfl)⟩ rfl (Nat.le_of_ble_eq_true rfl) rfl dX1_withNeighbours_23 rfl (fun _ => rfl) (fun _ => rfl) (fun r23 => ?_)
        refine sk_ior (pc' := 27) X dX1_withNeighbours_26 rfl ?_
        refine sk_istore_n (lv' := [some (.ref (u0 0)), some (.int p1), some (.int (s4.1 ||| r23)), some (.int s4.2)]) (pc' := 28) X (Nat.le_of_ble_eq_true rfl) rfl rfl dX1_withNeighbours_27 rfl ?_
        refine sk_lt (bsf := fun _ => [(nt_W G u0 a0_log S0)]) (lvf := fun z => [some (.ref (u0 0)), some (.int p1), some (.int z), some (.int s4.2)]) (stf := fun _ => []) (fun x27 => ?_)
        refine sk_iinc (lv' := [some (.ref (u0 0)), some (.int p1), some (.int x27), some (.int (s4.2 + (1 : Int32)))]) (pc' := 31) X rfl ic_1 (Nat.le_of_ble_eq_true rfl) rfl rfl dX1_withNeighbours_28 rfl ?_
        refine sk_goto (tgt := 4) X dX1_withNeighbours_31 rfl ?_
        exact (ih4 (x27, (s4.2 + (1 : Int32))))
  unfold m_X1_withNeighbours
  refine sk_iload_n (pc' := 1) X rfl dX1_withNeighbours_0 rfl ?_
  refine sk_istore_n (lv' := [some (.ref (u0 0)), some (.int p1), some (.int p1), none]) (pc' := 2) X (Nat.le_of_ble_eq_true rfl) rfl rfl dX1_withNeighbours_1 rfl ?_
  refine sk_iconst (pc' := 3) X ic_0 dX1_withNeighbours_2 rfl ?_
  refine sk_istore_n (lv' := [some (.ref (u0 0)), some (.int p1), some (.int p1), some (.int (0 : Int32))]) (pc' := 4) X (Nat.le_of_ble_eq_true rfl) rfl rfl dX1_withNeighbours_3 rfl ?_
  exact (h4 (p1, (0 : Int32)))
def rm_X1_partOf : Room := { frames := 3, cells := 0, slots := 0, locals := 68 }
def o_X1_partOf : (Int32) → Option Value := fun r => some (.int r)
def w_X1_partOf (G : sk_G) (u0 : Nat → Nat) (a0_log : Nat) (S0 : sk_N) : (Int32) → sk_B := fun r => [(nt_W G u0 a0_log S0)]
set_option maxHeartbeats 4000000 in
set_option maxRecDepth 100000 in
theorem c_X1_partOf (l : Launch) (G : sk_G) (u0 : Nat → Nat) (a0_log : Nat) (S0 : sk_N) (p1 : Int32) (p2 : Int32) : sk_ctr l G yX1_partOf cX1_partOf 5 (some .int) rm_X1_partOf [.ref (u0 0), .int p1, .int p2] [(nt_W G u0 a0_log S0)] (m_X1_partOf S0 p1 p2) o_X1_partOf (w_X1_partOf G u0 a0_log S0) := by
  refine sk_entry (own := RX1) (by decide) rfl (lv0 := [some (.ref (u0 0)), some (.int p1), some (.int p2), none, none]) rfl (Nat.le_of_ble_eq_true rfl) ?_
  intro Γ X
  have h7 : ∀ s7 : Int32 × Int32, sk_S Γ (sk_Φ Γ o_X1_partOf (w_X1_partOf G u0 a0_log S0)) 0 0 (m_X1_partOf_7 S0 p1 p2 s7) [(nt_W G u0 a0_log S0)] [some (.ref (u0 0)), none, some (.int p2), some (.int s7.1), some (.int s7.2)] 7 [] := by
    intro s7
    unfold m_X1_partOf_7
    refine sk_loop (bsf := fun s7 => [(nt_W G u0 a0_log S0)]) (lvf := fun s7 => [some (.ref (u0 0)), none, some (.int p2), some (.int s7.1), some (.int s7.2)]) ?_ sk_fuel s7
    intro k7 s7 ih7
    unfold m_X1_partOf_7_step
    refine sk_iload (pc' := 9) X rfl dX1_partOf_7 rfl ?_
    refine sk_aload_n (pc' := 10) X rfl dX1_partOf_9 rfl ?_
    refine sk_getf (pc' := 13) X 0 0 0 in_RX1 rfl rfl rfl (Nat.le_of_ble_eq_true rfl) fl_RX1_47 rfl dX1_partOf_10 rfl ?_
    refine sk_icmp_ge (tgt := 30) (pc' := 16) X dX1_partOf_13 rfl rfl ?_ ?_
    · refine sk_iload_n (pc' := 31) X rfl dX1_partOf_30 rfl ?_
      exact sk_iret X rfl rfl dX1_partOf_31
    · refine sk_aload_n (pc' := 17) X rfl dX1_partOf_16 rfl ?_
      refine sk_iload_n (pc' := 18) X rfl dX1_partOf_17 rfl ?_
      refine sk_callV (bs2 := fun r18 => [(nt_W G u0 a0_log S0)]) (st := []) (st2 := fun r18 => [.int r18]) (As := [.int s7.1]) (pc' := 21) X (c_X1_withNeighbours l G u0 a0_log S0 s7.1) lk_RX1_90 [0] rfl (by decide) (fun _ => rfl) rfl rfl rfl ⟨(Nat.le_of_ble_eq_true rfl), (Nat.le_of_ble_eq_true rfl)⟩ ⟨rfl, rfl⟩ ⟨(Nat.le_of_ble_eq_true rfl), (Nat.le_of_ble_eq_true rfl)⟩ rfl (Nat.le_of_ble_eq_true rfl) rfl dX1_partOf_18 rfl (fun _ => rfl) (fun _ => rfl) (fun r18 => ?_)
      refine sk_iload_n (pc' := 22) X rfl dX1_partOf_21 rfl ?_
      refine sk_iand (pc' := 23) X dX1_partOf_22 rfl ?_
      refine sk_istore_n (lv' := [some (.ref (u0 0)), none, some (.int p2), some (.int (r18 &&& p2)), some (.int s7.2)]) (pc' := 24) X (Nat.le_of_ble_eq_true rfl) rfl rfl dX1_partOf_23 rfl ?_
      refine sk_lt (bsf := fun _ => [(nt_W G u0 a0_log S0)]) (lvf := fun z => [some (.ref (u0 0)), none, some (.int p2), some (.int z), some (.int s7.2)]) (stf := fun _ => []) (fun x23 => ?_)
      refine sk_iinc (lv' := [some (.ref (u0 0)), none, some (.int p2), some (.int x23), some (.int (s7.2 + (1 : Int32)))]) (pc' := 27) X rfl ic_1 (Nat.le_of_ble_eq_true rfl) rfl rfl dX1_partOf_24 rfl ?_
      refine sk_goto (tgt := 7) X dX1_partOf_27 rfl ?_
      exact (ih7 (x23, (s7.2 + (1 : Int32))))
  unfold m_X1_partOf
  refine sk_iconst (pc' := 1) X ic_1 dX1_partOf_0 rfl ?_
  refine sk_iload_n (pc' := 2) X rfl dX1_partOf_1 rfl ?_
  refine sk_ishl (pc' := 3) X dX1_partOf_2 rfl ?_
  refine sk_istore_n (lv' := [some (.ref (u0 0)), some (.int p1), some (.int p2), some (.int (sk_shl (1 : Int32) p1)), none]) (pc' := 4) X (Nat.le_of_ble_eq_true rfl) rfl rfl dX1_partOf_3 rfl ?_
  refine sk_lt (bsf := fun _ => [(nt_W G u0 a0_log S0)]) (lvf := fun z => [some (.ref (u0 0)), some (.int p1), some (.int p2), some (.int z), none]) (stf := fun _ => []) (fun x3 => ?_)
  refine sk_iconst (pc' := 5) X ic_1 dX1_partOf_4 rfl ?_
  refine sk_istore (lv' := [some (.ref (u0 0)), some (.int p1), some (.int p2), some (.int x3), some (.int (1 : Int32))]) (pc' := 7) X (Nat.le_of_ble_eq_true rfl) rfl rfl dX1_partOf_5 rfl ?_
  exact (sk_kill 1 (h7 (x3, (1 : Int32))))
def rm_X1_partsWithin : Room := { frames := 4, cells := 0, slots := 0, locals := 92 }
def o_X1_partsWithin : (Int32) → Option Value := fun r => some (.int r)
def w_X1_partsWithin (G : sk_G) (u0 : Nat → Nat) (a0_log : Nat) (S0 : sk_N) : (Int32) → sk_B := fun r => [(nt_W G u0 a0_log S0)]
set_option maxHeartbeats 4000000 in
set_option maxRecDepth 100000 in
theorem c_X1_partsWithin (l : Launch) (G : sk_G) (u0 : Nat → Nat) (a0_log : Nat) (S0 : sk_N) (p1 : Int32) : sk_ctr l G yX1_partsWithin cX1_partsWithin 5 (some .int) rm_X1_partsWithin [.ref (u0 0), .int p1] [(nt_W G u0 a0_log S0)] (m_X1_partsWithin S0 p1) o_X1_partsWithin (w_X1_partsWithin G u0 a0_log S0) := by
  refine sk_entry (own := RX1) (by decide) rfl (lv0 := [some (.ref (u0 0)), some (.int p1), none, none, none]) rfl (Nat.le_of_ble_eq_true rfl) ?_
  intro Γ X
  have h7 : ∀ s7 : Int32 × Int32 × Int32, sk_S Γ (sk_Φ Γ o_X1_partsWithin (w_X1_partsWithin G u0 a0_log S0)) 0 0 (m_X1_partsWithin_7 S0 p1 s7) [(nt_W G u0 a0_log S0)] [some (.ref (u0 0)), some (.int p1), some (.int s7.1), some (.int s7.2.1), some (.int s7.2.2)] 7 [] := by
    intro s7
    unfold m_X1_partsWithin_7
    refine sk_loop (bsf := fun s7 => [(nt_W G u0 a0_log S0)]) (lvf := fun s7 => [some (.ref (u0 0)), some (.int p1), some (.int s7.1), some (.int s7.2.1), some (.int s7.2.2)]) ?_ sk_fuel s7
    intro k7 s7 ih7
    unfold m_X1_partsWithin_7_step
    refine sk_iload (pc' := 9) X rfl dX1_partsWithin_7 rfl ?_
    refine sk_aload_n (pc' := 10) X rfl dX1_partsWithin_9 rfl ?_
    refine sk_getf (pc' := 13) X 0 0 0 in_RX1 rfl rfl rfl (Nat.le_of_ble_eq_true rfl) fl_RX1_47 rfl dX1_partsWithin_10 rfl ?_
    refine sk_icmp_ge (tgt := 46) (pc' := 16) X dX1_partsWithin_13 rfl rfl ?_ ?_
    · refine sk_iload_n (pc' := 47) X rfl dX1_partsWithin_46 rfl ?_
      exact sk_iret X rfl rfl dX1_partsWithin_47
    · refine sk_iload_n (pc' := 17) X rfl dX1_partsWithin_16 rfl ?_
      refine sk_iconst (pc' := 18) X ic_1 dX1_partsWithin_17 rfl ?_
      refine sk_iload (pc' := 20) X rfl dX1_partsWithin_18 rfl ?_
      refine sk_ishl (pc' := 21) X dX1_partsWithin_20 rfl ?_
      refine sk_iand (pc' := 22) X dX1_partsWithin_21 rfl ?_
      refine sk_if_eq (tgt := 40) (pc' := 25) X dX1_partsWithin_22 rfl rfl ?_ ?_
      · refine sk_iinc (lv' := [some (.ref (u0 0)), some (.int p1), some (.int s7.1), some (.int s7.2.1), some (.int (s7.2.2 + (1 : Int32)))]) (pc' := 43) X rfl ic_1 (Nat.le_of_ble_eq_true rfl) rfl rfl dX1_partsWithin_40 rfl ?_
        refine sk_goto (tgt := 7) X dX1_partsWithin_43 rfl ?_
        exact (ih7 (s7.1, s7.2.1, (s7.2.2 + (1 : Int32))))
      · refine sk_iload_n (pc' := 26) X rfl dX1_partsWithin_25 rfl ?_
        refine sk_aload_n (pc' := 27) X rfl dX1_partsWithin_26 rfl ?_
        refine sk_iload (pc' := 29) X rfl dX1_partsWithin_27 rfl ?_
        refine sk_iload_n (pc' := 30) X rfl dX1_partsWithin_29 rfl ?_
        refine sk_callV (bs2 := fun r30 => [(nt_W G u0 a0_log S0)]) (st := [.int s7.1]) (st2 := fun r30 => [.int r30, .int s7.1]) (As := [.int s7.2.2, .int p1]) (pc' := 33) X (c_X1_partOf l G u0 a0_log S0 s7.2.2 p1) lk_RX1_93 [0] rfl (by decide) (fun _ => rfl) rfl rfl rfl ⟨(Nat.le_of_ble_eq_true rfl), (Nat.le_of_ble_eq_true rfl)⟩ ⟨rfl, rfl⟩ ⟨(Nat.le_of_ble_eq_true rfl), (Nat.le_of_ble_eq_true rfl)⟩ rfl (Nat.le_of_ble_eq_true rfl) rfl dX1_partsWithin_30 rfl (fun _ => rfl) (fun _ => rfl) (fun r30 => ?_)
        refine sk_iconst (pc' := 34) X ic_m1 dX1_partsWithin_33 rfl ?_
        refine sk_ixor (pc' := 35) X dX1_partsWithin_34 rfl ?_
        refine sk_iand (pc' := 36) X dX1_partsWithin_35 rfl ?_
        refine sk_istore_n (lv' := [some (.ref (u0 0)), some (.int p1), some (.int (s7.1 &&& (r30 ^^^ (-1 : Int32)))), some (.int s7.2.1), some (.int s7.2.2)]) (pc' := 37) X (Nat.le_of_ble_eq_true rfl) rfl rfl dX1_partsWithin_36 rfl ?_
        refine sk_lt (bsf := fun _ => [(nt_W G u0 a0_log S0)]) (lvf := fun z => [some (.ref (u0 0)), some (.int p1), some (.int z), some (.int s7.2.1), some (.int s7.2.2)]) (stf := fun _ => []) (fun x36 => ?_)
        refine sk_iinc (lv' := [some (.ref (u0 0)), some (.int p1), some (.int x36), some (.int (s7.2.1 + (1 : Int32))), some (.int s7.2.2)]) (pc' := 40) X rfl ic_1 (Nat.le_of_ble_eq_true rfl) rfl rfl dX1_partsWithin_37 rfl ?_
        refine sk_iinc (lv' := [some (.ref (u0 0)), some (.int p1), some (.int x36), some (.int (s7.2.1 + (1 : Int32))), some (.int (s7.2.2 + (1 : Int32)))]) (pc' := 43) X rfl ic_1 (Nat.le_of_ble_eq_true rfl) rfl rfl dX1_partsWithin_40 rfl ?_
        refine sk_goto (tgt := 7) X dX1_partsWithin_43 rfl ?_
        exact (ih7 (x36, (s7.2.1 + (1 : Int32)), (s7.2.2 + (1 : Int32))))
  unfold m_X1_partsWithin
  refine sk_iload_n (pc' := 1) X rfl dX1_partsWithin_0 rfl ?_
  refine sk_istore_n (lv' := [some (.ref (u0 0)), some (.int p1), some (.int p1), none, none]) (pc' := 2) X (Nat.le_of_ble_eq_true rfl) rfl rfl dX1_partsWithin_1 rfl ?_
  refine sk_iconst (pc' := 3) X ic_0 dX1_partsWithin_2 rfl ?_
  refine sk_istore_n (lv' := [some (.ref (u0 0)), some (.int p1), some (.int p1), some (.int (0 : Int32)), none]) (pc' := 4) X (Nat.le_of_ble_eq_true rfl) rfl rfl dX1_partsWithin_3 rfl ?_
  refine sk_iconst (pc' := 5) X ic_0 dX1_partsWithin_4 rfl ?_
  refine sk_istore (lv' := [some (.ref (u0 0)), some (.int p1), some (.int p1), some (.int (0 : Int32)), some (.int (0 : Int32))]) (pc' := 7) X (Nat.le_of_ble_eq_true rfl) rfl rfl dX1_partsWithin_5 rfl ?_
  exact (h7 (p1, (0 : Int32), (0 : Int32)))
def rm_J6_bitCount_0f7a4 : Room := { frames := 0, cells := 0, slots := 0, locals := 0 }
def o_J6_bitCount_0f7a4 : (Int32) → Option Value := fun r => some (.int r)
def w_J6_bitCount_0f7a4 (G : sk_G) : (Int32) → sk_B := fun r => []
set_option maxHeartbeats 4000000 in
set_option maxRecDepth 100000 in
theorem c_J6_bitCount_0f7a4 (l : Launch) (G : sk_G) (p1 : Int32) : sk_ctr l G yJ6_bitCount_0f7a4 cJ6_bitCount_0f7a4 1 (some .int) rm_J6_bitCount_0f7a4 [.int p1] [] (m_J6_bitCount_0f7a4 p1) o_J6_bitCount_0f7a4 (w_J6_bitCount_0f7a4 G) := by
  refine sk_entry (own := RJ6) (by decide) rfl (lv0 := [some (.int p1)]) rfl (Nat.le_of_ble_eq_true rfl) ?_
  intro Γ X
  unfold m_J6_bitCount_0f7a4
  refine sk_iload_n (pc' := 1) X rfl dJ6_bitCount_0f7a4_0 rfl ?_
  refine sk_iload_n (pc' := 2) X rfl dJ6_bitCount_0f7a4_1 rfl ?_
  refine sk_iconst (pc' := 3) X ic_1 dJ6_bitCount_0f7a4_2 rfl ?_
  refine sk_iushr (pc' := 4) X dJ6_bitCount_0f7a4_3 rfl ?_
  refine sk_ldcw (pc' := 7) X q_307 dJ6_bitCount_0f7a4_4 rfl ?_
  refine sk_iand (pc' := 8) X dJ6_bitCount_0f7a4_7 rfl ?_
  refine sk_isub (pc' := 9) X dJ6_bitCount_0f7a4_8 rfl ?_
  refine sk_istore_n (lv' := [some (.int (p1 - ((sk_ushr p1 (1 : Int32)) &&& (1431655765 : Int32))))]) (pc' := 10) X (Nat.le_of_ble_eq_true rfl) rfl rfl dJ6_bitCount_0f7a4_9 rfl ?_
  refine sk_lt (bsf := fun _ => []) (lvf := fun z => [some (.int z)]) (stf := fun _ => []) (fun x9 => ?_)
  refine sk_iload_n (pc' := 11) X rfl dJ6_bitCount_0f7a4_10 rfl ?_
  refine sk_ldcw (pc' := 14) X q_308 dJ6_bitCount_0f7a4_11 rfl ?_
  refine sk_iand (pc' := 15) X dJ6_bitCount_0f7a4_14 rfl ?_
  refine sk_iload_n (pc' := 16) X rfl dJ6_bitCount_0f7a4_15 rfl ?_
  refine sk_iconst (pc' := 17) X ic_2 dJ6_bitCount_0f7a4_16 rfl ?_
  refine sk_iushr (pc' := 18) X dJ6_bitCount_0f7a4_17 rfl ?_
  refine sk_ldcw (pc' := 21) X q_308 dJ6_bitCount_0f7a4_18 rfl ?_
  refine sk_iand (pc' := 22) X dJ6_bitCount_0f7a4_21 rfl ?_
  refine sk_iadd (pc' := 23) X dJ6_bitCount_0f7a4_22 rfl ?_
  refine sk_istore_n (lv' := [some (.int ((x9 &&& (858993459 : Int32)) + ((sk_ushr x9 (2 : Int32)) &&& (858993459 : Int32))))]) (pc' := 24) X (Nat.le_of_ble_eq_true rfl) rfl rfl dJ6_bitCount_0f7a4_23 rfl ?_
  refine sk_lt (bsf := fun _ => []) (lvf := fun z => [some (.int z)]) (stf := fun _ => []) (fun x23 => ?_)
  refine sk_iload_n (pc' := 25) X rfl dJ6_bitCount_0f7a4_24 rfl ?_
  refine sk_iload_n (pc' := 26) X rfl dJ6_bitCount_0f7a4_25 rfl ?_
  refine sk_iconst (pc' := 27) X ic_4 dJ6_bitCount_0f7a4_26 rfl ?_
  refine sk_iushr (pc' := 28) X dJ6_bitCount_0f7a4_27 rfl ?_
  refine sk_iadd (pc' := 29) X dJ6_bitCount_0f7a4_28 rfl ?_
  refine sk_ldcw (pc' := 32) X q_309 dJ6_bitCount_0f7a4_29 rfl ?_
  refine sk_iand (pc' := 33) X dJ6_bitCount_0f7a4_32 rfl ?_
  refine sk_istore_n (lv' := [some (.int ((x23 + (sk_ushr x23 (4 : Int32))) &&& (252645135 : Int32)))]) (pc' := 34) X (Nat.le_of_ble_eq_true rfl) rfl rfl dJ6_bitCount_0f7a4_33 rfl ?_
  refine sk_lt (bsf := fun _ => []) (lvf := fun z => [some (.int z)]) (stf := fun _ => []) (fun x33 => ?_)
  refine sk_iload_n (pc' := 35) X rfl dJ6_bitCount_0f7a4_34 rfl ?_
  refine sk_iload_n (pc' := 36) X rfl dJ6_bitCount_0f7a4_35 rfl ?_
  refine sk_bipush (pc' := 38) X bp_8 dJ6_bitCount_0f7a4_36 rfl ?_
  refine sk_iushr (pc' := 39) X dJ6_bitCount_0f7a4_38 rfl ?_
  refine sk_iadd (pc' := 40) X dJ6_bitCount_0f7a4_39 rfl ?_
  refine sk_istore_n (lv' := [some (.int (x33 + (sk_ushr x33 (8 : Int32))))]) (pc' := 41) X (Nat.le_of_ble_eq_true rfl) rfl rfl dJ6_bitCount_0f7a4_40 rfl ?_
  refine sk_lt (bsf := fun _ => []) (lvf := fun z => [some (.int z)]) (stf := fun _ => []) (fun x40 => ?_)
  refine sk_iload_n (pc' := 42) X rfl dJ6_bitCount_0f7a4_41 rfl ?_
  refine sk_iload_n (pc' := 43) X rfl dJ6_bitCount_0f7a4_42 rfl ?_
  refine sk_bipush (pc' := 45) X bp_16 dJ6_bitCount_0f7a4_43 rfl ?_
  refine sk_iushr (pc' := 46) X dJ6_bitCount_0f7a4_45 rfl ?_
  refine sk_iadd (pc' := 47) X dJ6_bitCount_0f7a4_46 rfl ?_
  refine sk_istore_n (lv' := [some (.int (x40 + (sk_ushr x40 (16 : Int32))))]) (pc' := 48) X (Nat.le_of_ble_eq_true rfl) rfl rfl dJ6_bitCount_0f7a4_47 rfl ?_
  refine sk_lt (bsf := fun _ => []) (lvf := fun z => [some (.int z)]) (stf := fun _ => []) (fun x47 => ?_)
  refine sk_iload_n (pc' := 49) X rfl dJ6_bitCount_0f7a4_48 rfl ?_
  refine sk_bipush (pc' := 51) X bp_63 dJ6_bitCount_0f7a4_49 rfl ?_
  refine sk_iand (pc' := 52) X dJ6_bitCount_0f7a4_51 rfl ?_
  exact sk_iret X rfl rfl dJ6_bitCount_0f7a4_52
def rm_X1_pulsesTo : Room := { frames := 1, cells := 0, slots := 0, locals := 20 }
def o_X1_pulsesTo : (Int32) → Option Value := fun r => some (.int r)
def w_X1_pulsesTo (G : sk_G) (u0 : Nat → Nat) (a0_log : Nat) (S0 : sk_N) : (Int32) → sk_B := fun r => [(nt_W G u0 a0_log S0)]
set_option maxHeartbeats 4000000 in
set_option maxRecDepth 100000 in
theorem c_X1_pulsesTo (l : Launch) (G : sk_G) (u0 : Nat → Nat) (a0_log : Nat) (S0 : sk_N) (p1 : Int32) : sk_ctr l G yX1_pulsesTo cX1_pulsesTo 4 (some .int) rm_X1_pulsesTo [.ref (u0 0), .int p1] [(nt_W G u0 a0_log S0)] (m_X1_pulsesTo S0 p1) o_X1_pulsesTo (w_X1_pulsesTo G u0 a0_log S0) := by
  refine sk_entry (own := RX1) (by decide) rfl (lv0 := [some (.ref (u0 0)), some (.int p1), none, none]) rfl (Nat.le_of_ble_eq_true rfl) ?_
  intro Γ X
  have h4 : ∀ s4 : Int32 × Int32, sk_S Γ (sk_Φ Γ o_X1_pulsesTo (w_X1_pulsesTo G u0 a0_log S0)) 0 0 (m_X1_pulsesTo_4 S0 p1 s4) [(nt_W G u0 a0_log S0)] [some (.ref (u0 0)), some (.int p1), some (.int s4.1), some (.int s4.2)] 4 [] := by
    intro s4
    unfold m_X1_pulsesTo_4
    refine sk_loop (bsf := fun s4 => [(nt_W G u0 a0_log S0)]) (lvf := fun s4 => [some (.ref (u0 0)), some (.int p1), some (.int s4.1), some (.int s4.2)]) ?_ sk_fuel s4
    intro k4 s4 ih4
    unfold m_X1_pulsesTo_4_step
    refine sk_iload_n (pc' := 5) X rfl dX1_pulsesTo_4 rfl ?_
    refine sk_bipush (pc' := 7) X bp_16 dX1_pulsesTo_5 rfl ?_
    refine sk_icmp_ge (tgt := 33) (pc' := 10) X dX1_pulsesTo_7 rfl rfl ?_ ?_
    · refine sk_iload_n (pc' := 34) X rfl dX1_pulsesTo_33 rfl ?_
      exact sk_iret X rfl rfl dX1_pulsesTo_34
    · refine sk_iload_n (pc' := 11) X rfl dX1_pulsesTo_10 rfl ?_
      refine sk_aload_n (pc' := 12) X rfl dX1_pulsesTo_11 rfl ?_
      refine sk_getf (pc' := 15) X 0 0 11 in_RX1 rfl rfl rfl (Nat.le_of_ble_eq_true rfl) fl_RX1_41 rfl dX1_pulsesTo_12 rfl ?_
      refine sk_iload_n (pc' := 16) X rfl dX1_pulsesTo_15 rfl ?_
      refine sk_bipush (pc' := 18) X bp_10 dX1_pulsesTo_16 rfl ?_
      refine sk_imul (pc' := 19) X dX1_pulsesTo_18 rfl ?_
      refine sk_iload_n (pc' := 20) X rfl dX1_pulsesTo_19 rfl ?_
      refine sk_iadd (pc' := 21) X dX1_pulsesTo_20 rfl ?_
      refine sk_iald (pc' := 22) X 0 7 rfl rfl dX1_pulsesTo_21 rfl ?_
      refine sk_callS (bs2 := fun r22 => [(nt_W G u0 a0_log S0)]) (st := [.int s4.1]) (st2 := fun r22 => [.int r22, .int s4.1]) (As := [.int ((S0 7) (((s4.2 * (10 : Int32)) + p1)).toNatClampNeg)]) (pc' := 25) X (c_J6_bitCount_0f7a4 l G ((S0 7) (((s4.2 * (10 : Int32)) + p1)).toNatClampNeg)) lk_RX1_74 [] rfl (by decide) (fun _ => rfl) ⟨(Nat.le_of_ble_eq_true rfl), (Nat.le_of_ble_eq_true rfl)⟩ ⟨rfl, rfl⟩ ⟨(Nat.le_of_ble_eq_true rfl), (Nat.le_of_ble_eq_true rfl)⟩ rfl (Nat.le_of_ble_eq_true rfl) rfl dX1_pulsesTo_22 rfl (fun _ => rfl) (fun _ => rfl) (fun r22 => ?_)
      refine sk_iadd (pc' := 26) X dX1_pulsesTo_25 rfl ?_
      refine sk_istore_n (lv' := [some (.ref (u0 0)), some (.int p1), some (.int (s4.1 + r22)), some (.int s4.2)]) (pc' := 27) X (Nat.le_of_ble_eq_true rfl) rfl rfl dX1_pulsesTo_26 rfl ?_
      refine sk_lt (bsf := fun _ => [(nt_W G u0 a0_log S0)]) (lvf := fun z => [some (.ref (u0 0)), some (.int p1), some (.int z), some (.int s4.2)]) (stf := fun _ => []) (fun x26 => ?_)
      refine sk_iinc (lv' := [some (.ref (u0 0)), some (.int p1), some (.int x26), some (.int (s4.2 + (1 : Int32)))]) (pc' := 30) X rfl ic_1 (Nat.le_of_ble_eq_true rfl) rfl rfl dX1_pulsesTo_27 rfl ?_
      refine sk_goto (tgt := 4) X dX1_pulsesTo_30 rfl ?_
      exact (ih4 (x26, (s4.2 + (1 : Int32))))
  unfold m_X1_pulsesTo
  refine sk_iconst (pc' := 1) X ic_0 dX1_pulsesTo_0 rfl ?_
  refine sk_istore_n (lv' := [some (.ref (u0 0)), some (.int p1), some (.int (0 : Int32)), none]) (pc' := 2) X (Nat.le_of_ble_eq_true rfl) rfl rfl dX1_pulsesTo_1 rfl ?_
  refine sk_iconst (pc' := 3) X ic_0 dX1_pulsesTo_2 rfl ?_
  refine sk_istore_n (lv' := [some (.ref (u0 0)), some (.int p1), some (.int (0 : Int32)), some (.int (0 : Int32))]) (pc' := 4) X (Nat.le_of_ble_eq_true rfl) rfl rfl dX1_pulsesTo_3 rfl ?_
  exact (h4 ((0 : Int32), (0 : Int32)))
def rm_X1_pulseCount : Room := { frames := 2, cells := 0, slots := 0, locals := 43 }
def o_X1_pulseCount : (Int32) → Option Value := fun r => some (.int r)
def w_X1_pulseCount (G : sk_G) (u0 : Nat → Nat) (a0_log : Nat) (S0 : sk_N) : (Int32) → sk_B := fun r => [(nt_W G u0 a0_log S0)]
set_option maxHeartbeats 4000000 in
set_option maxRecDepth 100000 in
theorem c_X1_pulseCount (l : Launch) (G : sk_G) (u0 : Nat → Nat) (a0_log : Nat) (S0 : sk_N) : sk_ctr l G yX1_pulseCount cX1_pulseCount 3 (some .int) rm_X1_pulseCount [.ref (u0 0)] [(nt_W G u0 a0_log S0)] (m_X1_pulseCount S0) o_X1_pulseCount (w_X1_pulseCount G u0 a0_log S0) := by
  refine sk_entry (own := RX1) (by decide) rfl (lv0 := [some (.ref (u0 0)), none, none]) rfl (Nat.le_of_ble_eq_true rfl) ?_
  intro Γ X
  have h4 : ∀ s4 : Int32 × Int32, sk_S Γ (sk_Φ Γ o_X1_pulseCount (w_X1_pulseCount G u0 a0_log S0)) 0 0 (m_X1_pulseCount_4 S0 s4) [(nt_W G u0 a0_log S0)] [some (.ref (u0 0)), some (.int s4.1), some (.int s4.2)] 4 [] := by
    intro s4
    unfold m_X1_pulseCount_4
    refine sk_loop (bsf := fun s4 => [(nt_W G u0 a0_log S0)]) (lvf := fun s4 => [some (.ref (u0 0)), some (.int s4.1), some (.int s4.2)]) ?_ sk_fuel s4
    intro k4 s4 ih4
    unfold m_X1_pulseCount_4_step
    refine sk_iload_n (pc' := 5) X rfl dX1_pulseCount_4 rfl ?_
    refine sk_aload_n (pc' := 6) X rfl dX1_pulseCount_5 rfl ?_
    refine sk_getf (pc' := 9) X 0 0 0 in_RX1 rfl rfl rfl (Nat.le_of_ble_eq_true rfl) fl_RX1_47 rfl dX1_pulseCount_6 rfl ?_
    refine sk_icmp_ge (tgt := 26) (pc' := 12) X dX1_pulseCount_9 rfl rfl ?_ ?_
    · refine sk_iload_n (pc' := 27) X rfl dX1_pulseCount_26 rfl ?_
      exact sk_iret X rfl rfl dX1_pulseCount_27
    · refine sk_iload_n (pc' := 13) X rfl dX1_pulseCount_12 rfl ?_
      refine sk_aload_n (pc' := 14) X rfl dX1_pulseCount_13 rfl ?_
      refine sk_iload_n (pc' := 15) X rfl dX1_pulseCount_14 rfl ?_
      refine sk_callV (bs2 := fun r15 => [(nt_W G u0 a0_log S0)]) (st := [.int s4.1]) (st2 := fun r15 => [.int r15, .int s4.1]) (As := [.int s4.2]) (pc' := 18) X (c_X1_pulsesTo l G u0 a0_log S0 s4.2) lk_RX1_79 [0] rfl (by decide) (fun _ => rfl) rfl rfl rfl ⟨(Nat.le_of_ble_eq_true rfl), (Nat.le_of_ble_eq_true rfl)⟩ ⟨rfl, rfl⟩ ⟨(Nat.le_of_ble_eq_true rfl), (Nat.le_of_ble_eq_true rfl)⟩ rfl (Nat.le_of_ble_eq_true rfl) rfl dX1_pulseCount_15 rfl (fun _ => rfl) (fun _ => rfl) (fun r15 => ?_)
      refine sk_iadd (pc' := 19) X dX1_pulseCount_18 rfl ?_
      refine sk_istore_n (lv' := [some (.ref (u0 0)), some (.int (s4.1 + r15)), some (.int s4.2)]) (pc' := 20) X (Nat.le_of_ble_eq_true rfl) rfl rfl dX1_pulseCount_19 rfl ?_
      refine sk_lt (bsf := fun _ => [(nt_W G u0 a0_log S0)]) (lvf := fun z => [some (.ref (u0 0)), some (.int z), some (.int s4.2)]) (stf := fun _ => []) (fun x19 => ?_)
      refine sk_iinc (lv' := [some (.ref (u0 0)), some (.int x19), some (.int (s4.2 + (1 : Int32)))]) (pc' := 23) X rfl ic_1 (Nat.le_of_ble_eq_true rfl) rfl rfl dX1_pulseCount_20 rfl ?_
      refine sk_goto (tgt := 4) X dX1_pulseCount_23 rfl ?_
      exact (ih4 (x19, (s4.2 + (1 : Int32))))
  unfold m_X1_pulseCount
  refine sk_iconst (pc' := 1) X ic_0 dX1_pulseCount_0 rfl ?_
  refine sk_istore_n (lv' := [some (.ref (u0 0)), some (.int (0 : Int32)), none]) (pc' := 2) X (Nat.le_of_ble_eq_true rfl) rfl rfl dX1_pulseCount_1 rfl ?_
  refine sk_iconst (pc' := 3) X ic_0 dX1_pulseCount_2 rfl ?_
  refine sk_istore_n (lv' := [some (.ref (u0 0)), some (.int (0 : Int32)), some (.int (0 : Int32))]) (pc' := 4) X (Nat.le_of_ble_eq_true rfl) rfl rfl dX1_pulseCount_3 rfl ?_
  exact (h4 ((0 : Int32), (0 : Int32)))
def rm_X1_isGood : Room := { frames := 0, cells := 0, slots := 0, locals := 0 }
def o_X1_isGood : (Int32) → Option Value := fun r => some (.int r)
def w_X1_isGood (G : sk_G) (u0 : Nat → Nat) (a0_log : Nat) (S0 : sk_N) : (Int32) → sk_B := fun r => [(nt_W G u0 a0_log S0)]
set_option maxHeartbeats 4000000 in
set_option maxRecDepth 100000 in
theorem c_X1_isGood (l : Launch) (G : sk_G) (u0 : Nat → Nat) (a0_log : Nat) (S0 : sk_N) (p1 : Int32) : sk_ctr l G yX1_isGood cX1_isGood 2 (some .boolean) rm_X1_isGood [.ref (u0 0), .int p1] [(nt_W G u0 a0_log S0)] (m_X1_isGood S0 p1) o_X1_isGood (w_X1_isGood G u0 a0_log S0) := by
  refine sk_entry (own := RX1) (by decide) rfl (lv0 := [some (.ref (u0 0)), some (.int p1)]) rfl (Nat.le_of_ble_eq_true rfl) ?_
  intro Γ X
  unfold m_X1_isGood
  refine sk_aload_n (pc' := 1) X rfl dX1_isGood_0 rfl ?_
  refine sk_getf (pc' := 4) X 0 0 8 in_RX1 rfl rfl rfl (Nat.le_of_ble_eq_true rfl) fl_RX1_32 rfl dX1_isGood_1 rfl ?_
  refine sk_iload_n (pc' := 5) X rfl dX1_isGood_4 rfl ?_
  refine sk_iald (pc' := 6) X 0 4 rfl rfl dX1_isGood_5 rfl ?_
  refine sk_if_ne (tgt := 13) (pc' := 9) X dX1_isGood_6 rfl rfl ?_ ?_
  · refine sk_iconst (pc' := 14) X ic_0 dX1_isGood_13 rfl ?_
    exact sk_zret X (by decide) rfl rfl dX1_isGood_14
  · refine sk_iconst (pc' := 10) X ic_1 dX1_isGood_9 rfl ?_
    refine sk_goto (tgt := 14) X dX1_isGood_10 rfl ?_
    exact sk_zret X (by decide) rfl rfl dX1_isGood_14
def rm_X1_isFirstOfGroup : Room := { frames := 1, cells := 0, slots := 0, locals := 21 }
def o_X1_isFirstOfGroup : (Int32) → Option Value := fun r => some (.int r)
def w_X1_isFirstOfGroup (G : sk_G) (u0 : Nat → Nat) (a0_log : Nat) (S0 : sk_N) : (Int32) → sk_B := fun r => [(nt_W G u0 a0_log S0)]
set_option maxHeartbeats 4000000 in
set_option maxRecDepth 100000 in
theorem c_X1_isFirstOfGroup (l : Launch) (G : sk_G) (u0 : Nat → Nat) (a0_log : Nat) (S0 : sk_N) (p1 : Int32) : sk_ctr l G yX1_isFirstOfGroup cX1_isFirstOfGroup 3 (some .boolean) rm_X1_isFirstOfGroup [.ref (u0 0), .int p1] [(nt_W G u0 a0_log S0)] (m_X1_isFirstOfGroup S0 p1) o_X1_isFirstOfGroup (w_X1_isFirstOfGroup G u0 a0_log S0) := by
  refine sk_entry (own := RX1) (by decide) rfl (lv0 := [some (.ref (u0 0)), some (.int p1), none]) rfl (Nat.le_of_ble_eq_true rfl) ?_
  intro Γ X
  have h2 : ∀ s2 : Int32, sk_S Γ (sk_Φ Γ o_X1_isFirstOfGroup (w_X1_isFirstOfGroup G u0 a0_log S0)) 0 0 (m_X1_isFirstOfGroup_2 S0 p1 s2) [(nt_W G u0 a0_log S0)] [some (.ref (u0 0)), some (.int p1), some (.int s2)] 2 [] := by
    intro s2
    unfold m_X1_isFirstOfGroup_2
    refine sk_loop (bsf := fun s2 => [(nt_W G u0 a0_log S0)]) (lvf := fun s2 => [some (.ref (u0 0)), some (.int p1), some (.int s2)]) ?_ sk_fuel s2
    intro k2 s2 ih2
    unfold m_X1_isFirstOfGroup_2_step
    refine sk_iload_n (pc' := 3) X rfl dX1_isFirstOfGroup_2 rfl ?_
    refine sk_iload_n (pc' := 4) X rfl dX1_isFirstOfGroup_3 rfl ?_
    refine sk_icmp_ge (tgt := 38) (pc' := 7) X dX1_isFirstOfGroup_4 rfl rfl ?_ ?_
    · refine sk_iconst (pc' := 39) X ic_1 dX1_isFirstOfGroup_38 rfl ?_
      exact sk_zret X (by decide) rfl rfl dX1_isFirstOfGroup_39
    · refine sk_aload_n (pc' := 8) X rfl dX1_isFirstOfGroup_7 rfl ?_
      refine sk_iload_n (pc' := 9) X rfl dX1_isFirstOfGroup_8 rfl ?_
      refine sk_callV (bs2 := fun r9 => [(nt_W G u0 a0_log S0)]) (st := []) (st2 := fun r9 => [.int r9]) (As := [.int s2]) (pc' := 12) X (c_X1_isGood l G u0 a0_log S0 s2) lk_RX1_66 [0] rfl (by decide) (fun _ => rfl) rfl rfl rfl ⟨(Nat.le_of_ble_eq_true rfl), (Nat.le_of_ble_eq_true rfl)⟩ ⟨rfl, rfl⟩ ⟨(Nat.le_of_ble_eq_true rfl), (Nat.le_of_ble_eq_true rfl)⟩ rfl (Nat.le_of_ble_eq_true rfl) rfl dX1_isFirstOfGroup_9 rfl (fun _ => rfl) (fun _ => rfl) (fun r9 => ?_)
      refine sk_if_eq (tgt := 32) (pc' := 15) X dX1_isFirstOfGroup_12 rfl rfl ?_ ?_
      · refine sk_iinc (lv' := [some (.ref (u0 0)), some (.int p1), some (.int (s2 + (1 : Int32)))]) (pc' := 35) X rfl ic_1 (Nat.le_of_ble_eq_true rfl) rfl rfl dX1_isFirstOfGroup_32 rfl ?_
        refine sk_goto (tgt := 2) X dX1_isFirstOfGroup_35 rfl ?_
        exact (ih2 (s2 + (1 : Int32)))
      · refine sk_aload_n (pc' := 16) X rfl dX1_isFirstOfGroup_15 rfl ?_
        refine sk_getf (pc' := 19) X 0 0 6 in_RX1 rfl rfl rfl (Nat.le_of_ble_eq_true rfl) fl_RX1_26 rfl dX1_isFirstOfGroup_16 rfl ?_
        refine sk_iload_n (pc' := 20) X rfl dX1_isFirstOfGroup_19 rfl ?_
        refine sk_iald (pc' := 21) X 0 2 rfl rfl dX1_isFirstOfGroup_20 rfl ?_
        refine sk_aload_n (pc' := 22) X rfl dX1_isFirstOfGroup_21 rfl ?_
        refine sk_getf (pc' := 25) X 0 0 6 in_RX1 rfl rfl rfl (Nat.le_of_ble_eq_true rfl) fl_RX1_26 rfl dX1_isFirstOfGroup_22 rfl ?_
        refine sk_iload_n (pc' := 26) X rfl dX1_isFirstOfGroup_25 rfl ?_
        refine sk_iald (pc' := 27) X 0 2 rfl rfl dX1_isFirstOfGroup_26 rfl ?_
        refine sk_icmp_ne (tgt := 32) (pc' := 30) X dX1_isFirstOfGroup_27 rfl rfl ?_ ?_
        · refine sk_iinc (lv' := [some (.ref (u0 0)), some (.int p1), some (.int (s2 + (1 : Int32)))]) (pc' := 35) X rfl ic_1 (Nat.le_of_ble_eq_true rfl) rfl rfl dX1_isFirstOfGroup_32 rfl ?_
          refine sk_goto (tgt := 2) X dX1_isFirstOfGroup_35 rfl ?_
          exact (ih2 (s2 + (1 : Int32)))
        · refine sk_iconst (pc' := 31) X ic_0 dX1_isFirstOfGroup_30 rfl ?_
          exact sk_zret X (by decide) rfl rfl dX1_isFirstOfGroup_31
  unfold m_X1_isFirstOfGroup
  refine sk_iconst (pc' := 1) X ic_0 dX1_isFirstOfGroup_0 rfl ?_
  refine sk_istore_n (lv' := [some (.ref (u0 0)), some (.int p1), some (.int (0 : Int32))]) (pc' := 2) X (Nat.le_of_ble_eq_true rfl) rfl rfl dX1_isFirstOfGroup_1 rfl ?_
  exact (h2 (0 : Int32))
def rm_X1_groupCount : Room := { frames := 2, cells := 0, slots := 0, locals := 43 }
def o_X1_groupCount : (Int32) → Option Value := fun r => some (.int r)
def w_X1_groupCount (G : sk_G) (u0 : Nat → Nat) (a0_log : Nat) (S0 : sk_N) : (Int32) → sk_B := fun r => [(nt_W G u0 a0_log S0)]
set_option maxHeartbeats 4000000 in
set_option maxRecDepth 100000 in
theorem c_X1_groupCount (l : Launch) (G : sk_G) (u0 : Nat → Nat) (a0_log : Nat) (S0 : sk_N) (p1 : Int32) : sk_ctr l G yX1_groupCount cX1_groupCount 4 (some .int) rm_X1_groupCount [.ref (u0 0), .int p1] [(nt_W G u0 a0_log S0)] (m_X1_groupCount S0 p1) o_X1_groupCount (w_X1_groupCount G u0 a0_log S0) := by
  refine sk_entry (own := RX1) (by decide) rfl (lv0 := [some (.ref (u0 0)), some (.int p1), none, none]) rfl (Nat.le_of_ble_eq_true rfl) ?_
  intro Γ X
  have h4 : ∀ s4 : Int32 × Int32, sk_S Γ (sk_Φ Γ o_X1_groupCount (w_X1_groupCount G u0 a0_log S0)) 0 0 (m_X1_groupCount_4 S0 p1 s4) [(nt_W G u0 a0_log S0)] [some (.ref (u0 0)), some (.int p1), some (.int s4.1), some (.int s4.2)] 4 [] := by
    intro s4
    unfold m_X1_groupCount_4
    refine sk_loop (bsf := fun s4 => [(nt_W G u0 a0_log S0)]) (lvf := fun s4 => [some (.ref (u0 0)), some (.int p1), some (.int s4.1), some (.int s4.2)]) ?_ sk_fuel s4
    intro k4 s4 ih4
    unfold m_X1_groupCount_4_step
    refine sk_iload_n (pc' := 5) X rfl dX1_groupCount_4 rfl ?_
    refine sk_aload_n (pc' := 6) X rfl dX1_groupCount_5 rfl ?_
    refine sk_getf (pc' := 9) X 0 0 0 in_RX1 rfl rfl rfl (Nat.le_of_ble_eq_true rfl) fl_RX1_47 rfl dX1_groupCount_6 rfl ?_
    refine sk_icmp_ge (tgt := 42) (pc' := 12) X dX1_groupCount_9 rfl rfl ?_ ?_
    · refine sk_iload_n (pc' := 43) X rfl dX1_groupCount_42 rfl ?_
      exact sk_iret X rfl rfl dX1_groupCount_43
    · refine sk_iload_n (pc' := 13) X rfl dX1_groupCount_12 rfl ?_
      refine sk_iload_n (pc' := 14) X rfl dX1_groupCount_13 rfl ?_
      refine sk_icmp_gt (tgt := 42) (pc' := 17) X dX1_groupCount_14 rfl rfl ?_ ?_
      · refine sk_iload_n (pc' := 43) X rfl dX1_groupCount_42 rfl ?_
        exact sk_iret X rfl rfl dX1_groupCount_43
      · refine sk_aload_n (pc' := 18) X rfl dX1_groupCount_17 rfl ?_
        refine sk_iload_n (pc' := 19) X rfl dX1_groupCount_18 rfl ?_
        refine sk_callV (bs2 := fun r19 => [(nt_W G u0 a0_log S0)]) (st := []) (st2 := fun r19 => [.int r19]) (As := [.int s4.2]) (pc' := 22) X (c_X1_isGood l G u0 a0_log S0 s4.2) lk_RX1_66 [0] rfl (by decide) (fun _ => rfl) rfl rfl rfl ⟨(Nat.le_of_ble_eq_true rfl), (Nat.le_of_ble_eq_true rfl)⟩ ⟨rfl, rfl⟩ ⟨(Nat.le_of_ble_eq_true rfl), (Nat.le_of_ble_eq_true rfl)⟩ rfl (Nat.le_of_ble_eq_true rfl) rfl dX1_groupCount_19 rfl (fun _ => rfl) (fun _ => rfl) (fun r19 => ?_)
        refine sk_if_eq (tgt := 36) (pc' := 25) X dX1_groupCount_22 rfl rfl ?_ ?_
        · refine sk_iinc (lv' := [some (.ref (u0 0)), some (.int p1), some (.int s4.1), some (.int (s4.2 + (1 : Int32)))]) (pc' := 39) X rfl ic_1 (Nat.le_of_ble_eq_true rfl) rfl rfl dX1_groupCount_36 rfl ?_
          refine sk_goto (tgt := 4) X dX1_groupCount_39 rfl ?_
          exact (ih4 (s4.1, (s4.2 + (1 : Int32))))
        · refine sk_aload_n (pc' := 26) X rfl dX1_groupCount_25 rfl ?_
          refine sk_iload_n (pc' := 27) X rfl dX1_groupCount_26 rfl ?_
          refine sk_callV (bs2 := fun r27 => [(nt_W G u0 a0_log S0)]) (st := []) (st2 := fun r27 => [.int r27]) (As := [.int s4.2]) (pc' := 30) X (c_X1_isFirstOfGroup l G u0 a0_log S0 s4.2) lk_RX1_139 [0] rfl (by decide) (fun _ => rfl) rfl rfl rfl ⟨(Nat.le_of_ble_eq_true rfl), (Nat.le_of_ble_eq_true rfl)⟩ ⟨rfl, rfl⟩ ⟨(Nat.le_of_ble_eq_true rfl), (Nat.le_of_ble_eq_true rfl)⟩ rfl (Nat.le_of_ble_eq_true rfl) rfl dX1_groupCount_27 rfl (fun _ => rfl) (fun _ => rfl) (fun r27 => ?_)
          refine sk_if_eq (tgt := 36) (pc' := 33) X dX1_groupCount_30 rfl rfl ?_ ?_
          · refine sk_iinc (lv' := [some (.ref (u0 0)), some (.int p1), some (.int s4.1), some (.int (s4.2 + (1 : Int32)))]) (pc' := 39) X rfl ic_1 (Nat.le_of_ble_eq_true rfl) rfl rfl dX1_groupCount_36 rfl ?_
            refine sk_goto (tgt := 4) X dX1_groupCount_39 rfl ?_
            exact (ih4 (s4.1, (s4.2 + (1 : Int32))))
          · refine sk_iinc (lv' := [some (.ref (u0 0)), some (.int p1), some (.int (s4.1 + (1 : Int32))), some (.int s4.2)]) (pc' := 36) X rfl ic_1 (Nat.le_of_ble_eq_true rfl) rfl rfl dX1_groupCount_33 rfl ?_
            refine sk_iinc (lv' := [some (.ref (u0 0)), some (.int p1), some (.int (s4.1 + (1 : Int32))), some (.int (s4.2 + (1 : Int32)))]) (pc' := 39) X rfl ic_1 (Nat.le_of_ble_eq_true rfl) rfl rfl dX1_groupCount_36 rfl ?_
            refine sk_goto (tgt := 4) X dX1_groupCount_39 rfl ?_
            exact (ih4 ((s4.1 + (1 : Int32)), (s4.2 + (1 : Int32))))
  unfold m_X1_groupCount
  refine sk_iconst (pc' := 1) X ic_0 dX1_groupCount_0 rfl ?_
  refine sk_istore_n (lv' := [some (.ref (u0 0)), some (.int p1), some (.int (0 : Int32)), none]) (pc' := 2) X (Nat.le_of_ble_eq_true rfl) rfl rfl dX1_groupCount_1 rfl ?_
  refine sk_iconst (pc' := 3) X ic_0 dX1_groupCount_2 rfl ?_
  refine sk_istore_n (lv' := [some (.ref (u0 0)), some (.int p1), some (.int (0 : Int32)), some (.int (0 : Int32))]) (pc' := 4) X (Nat.le_of_ble_eq_true rfl) rfl rfl dX1_groupCount_3 rfl ?_
  exact (h4 ((0 : Int32), (0 : Int32)))
def rm_X1_stretchFrom : Room := { frames := 1, cells := 0, slots := 0, locals := 40 }
def o_X1_stretchFrom : (Int32) → Option Value := fun r => some (.int r)
def w_X1_stretchFrom (G : sk_G) (u0 : Nat → Nat) (a0_log : Nat) (S0 : sk_N) : (Int32) → sk_B := fun r => [(nt_W G u0 a0_log S0)]
set_option maxHeartbeats 4000000 in
set_option maxRecDepth 100000 in
theorem c_X1_stretchFrom (l : Launch) (G : sk_G) (u0 : Nat → Nat) (a0_log : Nat) (S0 : sk_N) (p1 : Int32) : sk_ctr l G yX1_stretchFrom cX1_stretchFrom 5 (some .int) rm_X1_stretchFrom [.ref (u0 0), .int p1] [(nt_W G u0 a0_log S0)] (m_X1_stretchFrom S0 p1) o_X1_stretchFrom (w_X1_stretchFrom G u0 a0_log S0) := by
  refine sk_entry (own := RX1) (by decide) rfl (lv0 := [some (.ref (u0 0)), some (.int p1), none, none, none]) rfl (Nat.le_of_ble_eq_true rfl) ?_
  intro Γ X
  have h4 : ∀ s4 : Int32 × Int32, sk_S Γ (sk_Φ Γ o_X1_stretchFrom (w_X1_stretchFrom G u0 a0_log S0)) 0 0 (m_X1_stretchFrom_4 S0 p1 s4) [(nt_W G u0 a0_log S0)] [some (.ref (u0 0)), some (.int p1), some (.int s4.1), some (.int s4.2), none] 4 [] := by
    intro s4
    unfold m_X1_stretchFrom_4
    refine sk_loop (bsf := fun s4 => [(nt_W G u0 a0_log S0)]) (lvf := fun s4 => [some (.ref (u0 0)), some (.int p1), some (.int s4.1), some (.int s4.2), none]) ?_ sk_fuel s4
    intro k4 s4 ih4
    have h48 : ∀ s48 : Int32 × Int32 × Int32, sk_S Γ (sk_Φ Γ o_X1_stretchFrom (w_X1_stretchFrom G u0 a0_log S0)) 0 0 (m_X1_stretchFrom_48 S0 p1 k4 s48) [(nt_W G u0 a0_log S0)] [some (.ref (u0 0)), some (.int p1), none, some (.int s48.1), none] 48 [.int s48.2.2, .int s48.2.1] := by
      intro s48
      unfold m_X1_stretchFrom_48
      refine sk_mmax (pc' := 51) X mm_RX1_max (Nat.le_of_ble_eq_true rfl) (Nat.le_of_ble_eq_true rfl) ⟨Nat.zero_le _, Nat.zero_le _⟩ dX1_stretchFrom_48 rfl ?_
      refine sk_istore_n (lv' := [some (.ref (u0 0)), some (.int p1), some (.int (sk_max s48.2.1 s48.2.2)), some (.int s48.1), none]) (pc' := 52) X (Nat.le_of_ble_eq_true rfl) rfl rfl dX1_stretchFrom_51 rfl ?_
      refine sk_lt (bsf := fun _ => [(nt_W G u0 a0_log S0)]) (lvf := fun z => [some (.ref (u0 0)), some (.int p1), some (.int z), some (.int s48.1), none]) (stf := fun _ => []) (fun x51 => ?_)
      refine sk_iinc (lv' := [some (.ref (u0 0)), some (.int p1), some (.int x51), some (.int (s48.1 + (1 : Int32))), none]) (pc' := 55) X rfl ic_1 (Nat.le_of_ble_eq_true rfl) rfl rfl dX1_stretchFrom_52 rfl ?_
      refine sk_goto (tgt := 4) X dX1_stretchFrom_55 rfl ?_
      exact (ih4 (x51, (s48.1 + (1 : Int32))))
    unfold m_X1_stretchFrom_4_step
    refine sk_iload_n (pc' := 5) X rfl dX1_stretchFrom_4 rfl ?_
    refine sk_aload_n (pc' := 6) X rfl dX1_stretchFrom_5 rfl ?_
    refine sk_getf (pc' := 9) X 0 0 0 in_RX1 rfl rfl rfl (Nat.le_of_ble_eq_true rfl) fl_RX1_47 rfl dX1_stretchFrom_6 rfl ?_
    refine sk_icmp_ge (tgt := 58) (pc' := 12) X dX1_stretchFrom_9 rfl rfl ?_ ?_
    · refine sk_iload_n (pc' := 59) X rfl dX1_stretchFrom_58 rfl ?_
      exact sk_iret X rfl rfl dX1_stretchFrom_59
    · refine sk_aload_n (pc' := 13) X rfl dX1_stretchFrom_12 rfl ?_
      refine sk_iload_n (pc' := 14) X rfl dX1_stretchFrom_13 rfl ?_
      refine sk_callV (bs2 := fun r14 => [(nt_W G u0 a0_log S0)]) (st := []) (st2 := fun r14 => [.int r14]) (As := [.int s4.2]) (pc' := 17) X (c_X1_isGood l G u0 a0_log S0 s4.2) lk_RX1_66 [0] rfl (by decide) (fun _ => rfl) rfl rfl rfl ⟨(Nat.le_of_ble_eq_true rfl), (Nat.le_of_ble_eq_true rfl)⟩ ⟨rfl, rfl⟩ ⟨(Nat.le_of_ble_eq_true rfl), (Nat.le_of_ble_eq_true rfl)⟩ rfl (Nat.le_of_ble_eq_true rfl) rfl dX1_stretchFrom_14 rfl (fun _ => rfl) (fun _ => rfl) (fun r14 => ?_)
      refine sk_if_eq (tgt := 52) (pc' := 20) X dX1_stretchFrom_17 rfl rfl ?_ ?_
      · refine sk_iinc (lv' := [some (.ref (u0 0)), some (.int p1), some (.int s4.1), some (.int (s4.2 + (1 : Int32))), none]) (pc' := 55) X rfl ic_1 (Nat.le_of_ble_eq_true rfl) rfl rfl dX1_stretchFrom_52 rfl ?_
        refine sk_goto (tgt := 4) X dX1_stretchFrom_55 rfl ?_
        exact (ih4 (s4.1, (s4.2 + (1 : Int32))))
      · refine sk_aload_n (pc' := 21) X rfl dX1_stretchFrom_20 rfl ?_
        refine sk_getf (pc' := 24) X 0 0 6 in_RX1 rfl rfl rfl (Nat.le_of_ble_eq_true rfl) fl_RX1_26 rfl dX1_stretchFrom_21 rfl ?_
        refine sk_iload_n (pc' := 25) X rfl dX1_stretchFrom_24 rfl ?_
        refine sk_iald (pc' := 26) X 0 2 rfl rfl dX1_stretchFrom_25 rfl ?_
        refine sk_iload_n (pc' := 27) X rfl dX1_stretchFrom_26 rfl ?_
        refine sk_isub (pc' := 28) X dX1_stretchFrom_27 rfl ?_
        refine sk_istore (lv' := [some (.ref (u0 0)), some (.int p1), some (.int s4.1), some (.int s4.2), some (.int (((S0 2) (s4.2).toNatClampNeg) - p1))]) (pc' := 30) X (Nat.le_of_ble_eq_true rfl) rfl rfl dX1_stretchFrom_28 rfl ?_
        refine sk_lt (bsf := fun _ => [(nt_W G u0 a0_log S0)]) (lvf := fun z => [some (.ref (u0 0)), some (.int p1), some (.int s4.1), some (.int s4.2), some (.int z)]) (stf := fun _ => []) (fun x28 => ?_)
        refine sk_iload_n (pc' := 31) X rfl dX1_stretchFrom_30 rfl ?_
        refine sk_iload (pc' := 33) X rfl dX1_stretchFrom_31 rfl ?_
        refine sk_if_lt (tgt := 41) (pc' := 36) X dX1_stretchFrom_33 rfl rfl ?_ ?_
        · refine sk_iload (pc' := 43) X rfl dX1_stretchFrom_41 rfl ?_
          refine sk_aload_n (pc' := 44) X rfl dX1_stretchFrom_43 rfl ?_
          refine sk_getf (pc' := 47) X 0 0 1 in_RX1 rfl rfl rfl (Nat.le_of_ble_eq_true rfl) fl_RX1_9 rfl dX1_stretchFrom_44 rfl ?_
          refine sk_iadd (pc' := 48) X dX1_stretchFrom_47 rfl ?_
          exact (sk_kill 4 (sk_kill 2 (h48 (s4.2, s4.1, (x28 + (S0 0 1))))))
        · refine sk_iload (pc' := 38) X rfl dX1_stretchFrom_36 rfl ?_
          refine sk_goto (tgt := 48) X dX1_stretchFrom_38 rfl ?_
          exact (sk_kill 4 (sk_kill 2 (h48 (s4.2, s4.1, x28))))
  unfold m_X1_stretchFrom
  refine sk_iconst (pc' := 1) X ic_0 dX1_stretchFrom_0 rfl ?_
  refine sk_istore_n (lv' := [some (.ref (u0 0)), some (.int p1), some (.int (0 : Int32)), none, none]) (pc' := 2) X (Nat.le_of_ble_eq_true rfl) rfl rfl dX1_stretchFrom_1 rfl ?_
  refine sk_iconst (pc' := 3) X ic_0 dX1_stretchFrom_2 rfl ?_
  refine sk_istore_n (lv' := [some (.ref (u0 0)), some (.int p1), some (.int (0 : Int32)), some (.int (0 : Int32)), none]) (pc' := 4) X (Nat.le_of_ble_eq_true rfl) rfl rfl dX1_stretchFrom_3 rfl ?_
  exact (h4 ((0 : Int32), (0 : Int32)))
def rm_X1_spreadOfGood : Room := { frames := 2, cells := 0, slots := 0, locals := 64 }
def o_X1_spreadOfGood : (Int32) → Option Value := fun r => some (.int r)
def w_X1_spreadOfGood (G : sk_G) (u0 : Nat → Nat) (a0_log : Nat) (S0 : sk_N) : (Int32) → sk_B := fun r => [(nt_W G u0 a0_log S0)]
set_option maxHeartbeats 4000000 in
set_option maxRecDepth 100000 in
theorem c_X1_spreadOfGood (l : Launch) (G : sk_G) (u0 : Nat → Nat) (a0_log : Nat) (S0 : sk_N) : sk_ctr l G yX1_spreadOfGood cX1_spreadOfGood 4 (some .int) rm_X1_spreadOfGood [.ref (u0 0)] [(nt_W G u0 a0_log S0)] (m_X1_spreadOfGood S0) o_X1_spreadOfGood (w_X1_spreadOfGood G u0 a0_log S0) := by
  refine sk_entry (own := RX1) (by decide) rfl (lv0 := [some (.ref (u0 0)), none, none, none]) rfl (Nat.le_of_ble_eq_true rfl) ?_
  intro Γ X
  have h4 : ∀ s4 : Int32 × Int32, sk_S Γ (sk_Φ Γ o_X1_spreadOfGood (w_X1_spreadOfGood G u0 a0_log S0)) 0 0 (m_X1_spreadOfGood_4 S0 s4) [(nt_W G u0 a0_log S0)] [some (.ref (u0 0)), some (.int s4.1), some (.int s4.2), none] 4 [] := by
    intro s4
    unfold m_X1_spreadOfGood_4
    refine sk_loop (bsf := fun s4 => [(nt_W G u0 a0_log S0)]) (lvf := fun s4 => [some (.ref (u0 0)), some (.int s4.1), some (.int s4.2), none]) ?_ sk_fuel s4
    intro k4 s4 ih4
    unfold m_X1_spreadOfGood_4_step
    refine sk_iload_n (pc' := 5) X rfl dX1_spreadOfGood_4 rfl ?_
    refine sk_aload_n (pc' := 6) X rfl dX1_spreadOfGood_5 rfl ?_
    refine sk_getf (pc' := 9) X 0 0 0 in_RX1 rfl rfl rfl (Nat.le_of_ble_eq_true rfl) fl_RX1_47 rfl dX1_spreadOfGood_6 rfl ?_
    refine sk_icmp_ge (tgt := 52) (pc' := 12) X dX1_spreadOfGood_9 rfl rfl ?_ ?_
    · refine sk_iload_n (pc' := 53) X rfl dX1_spreadOfGood_52 rfl ?_
      refine sk_iconst (pc' := 54) X ic_m1 dX1_spreadOfGood_53 rfl ?_
      refine sk_icmp_ne (tgt := 61) (pc' := 57) X dX1_spreadOfGood_54 rfl rfl ?_ ?_
      · refine sk_iload_n (pc' := 62) X rfl dX1_spreadOfGood_61 rfl ?_
        exact sk_iret X rfl rfl dX1_spreadOfGood_62
      · refine sk_iconst (pc' := 58) X ic_0 dX1_spreadOfGood_57 rfl ?_
        refine sk_goto (tgt := 62) X dX1_spreadOfGood_58 rfl ?_
        exact sk_iret X rfl rfl dX1_spreadOfGood_62
    · refine sk_aload_n (pc' := 13) X rfl dX1_spreadOfGood_12 rfl ?_
      refine sk_iload_n (pc' := 14) X rfl dX1_spreadOfGood_13 rfl ?_
      refine sk_callV (bs2 := fun r14 => [(nt_W G u0 a0_log S0)]) (st := []) (st2 := fun r14 => [.int r14]) (As := [.int s4.2]) (pc' := 17) X (c_X1_isGood l G u0 a0_log S0 s4.2) lk_RX1_66 [0] rfl (by decide) (fun _ => rfl) rfl rfl rfl ⟨(Nat.le_of_ble_eq_true rfl), (Nat.le_of_ble_eq_true rfl)⟩ ⟨rfl, rfl⟩ ⟨(Nat.le_of_ble_eq_true rfl), (Nat.le_of_ble_eq_true rfl)⟩ rfl (Nat.le_of_ble_eq_true rfl) rfl dX1_spreadOfGood_14 rfl (fun _ => rfl) (fun _ => rfl) (fun r14 => ?_)
      refine sk_if_eq (tgt := 46) (pc' := 20) X dX1_spreadOfGood_17 rfl rfl ?_ ?_
      · refine sk_iinc (lv' := [some (.ref (u0 0)), some (.int s4.1), some (.int (s4.2 + (1 : Int32))), none]) (pc' := 49) X rfl ic_1 (Nat.le_of_ble_eq_true rfl) rfl rfl dX1_spreadOfGood_46 rfl ?_
        refine sk_goto (tgt := 4) X dX1_spreadOfGood_49 rfl ?_
        exact (ih4 (s4.1, (s4.2 + (1 : Int32))))
      · refine sk_aload_n (pc' := 21) X rfl dX1_spreadOfGood_20 rfl ?_
        refine sk_aload_n (pc' := 22) X rfl dX1_spreadOfGood_21 rfl ?_
        refine sk_getf (pc' := 25) X 0 0 6 in_RX1 rfl rfl rfl (Nat.le_of_ble_eq_true rfl) fl_RX1_26 rfl dX1_spreadOfGood_22 rfl ?_
        refine sk_iload_n (pc' := 26) X rfl dX1_spreadOfGood_25 rfl ?_
        refine sk_iald (pc' := 27) X 0 2 rfl rfl dX1_spreadOfGood_26 rfl ?_
        refine sk_callV (bs2 := fun r27 => [(nt_W G u0 a0_log S0)]) (st := []) (st2 := fun r27 => [.int r27]) (As := [.int ((S0 2) (s4.2).toNatClampNeg)]) (pc' := 30) X (c_X1_stretchFrom l G u0 a0_log S0 ((S0 2) (s4.2).toNatClampNeg)) lk_RX1_145 [0] rfl (by decide) (fun _ => rfl) rfl rfl rfl ⟨(Nat.le_of_ble_eq_true rfl), (Nat.le_of_ble_eq_true rfl)⟩ ⟨rfl, rfl⟩ ⟨(Nat.le_of_ble_eq_true rfl), (Nat.le_of_ble_eq_true rfl)⟩ rfl (Nat.le_of_ble_eq_true rfl) rfl dX1_spreadOfGood_27 rfl (fun _ => rfl) (fun _ => rfl) (fun r27 => ?_)
        refine sk_istore_n (lv' := [some (.ref (u0 0)), some (.int s4.1), some (.int s4.2), some (.int r27)]) (pc' := 31) X (Nat.le_of_ble_eq_true rfl) rfl rfl dX1_spreadOfGood_30 rfl ?_
        refine sk_iload_n (pc' := 32) X rfl dX1_spreadOfGood_31 rfl ?_
        refine sk_iconst (pc' := 33) X ic_m1 dX1_spreadOfGood_32 rfl ?_
        refine sk_icmp_ne (tgt := 40) (pc' := 36) X dX1_spreadOfGood_33 rfl rfl ?_ ?_
        · refine sk_iload_n (pc' := 41) X rfl dX1_spreadOfGood_40 rfl ?_
          refine sk_iload_n (pc' := 42) X rfl dX1_spreadOfGood_41 rfl ?_
          refine sk_mmin (pc' := 45) X mm_RX1_min (Nat.le_of_ble_eq_true rfl) (Nat.le_of_ble_eq_true rfl) ⟨Nat.zero_le _, Nat.zero_le _⟩ dX1_spreadOfGood_42 rfl ?_
          refine sk_istore_n (lv' := [some (.ref (u0 0)), some (.int (sk_min s4.1 r27)), some (.int s4.2), some (.int r27)]) (pc' := 46) X (Nat.le_of_ble_eq_true rfl) rfl rfl dX1_spreadOfGood_45 rfl ?_
          refine sk_lt (bsf := fun _ => [(nt_W G u0 a0_log S0)]) (lvf := fun z => [some (.ref (u0 0)), some (.int z), some (.int s4.2), some (.int r27)]) (stf := fun _ => []) (fun x45 => ?_)
          refine sk_iinc (lv' := [some (.ref (u0 0)), some (.int x45), some (.int (s4.2 + (1 : Int32))), some (.int r27)]) (pc' := 49) X rfl ic_1 (Nat.le_of_ble_eq_true rfl) rfl rfl dX1_spreadOfGood_46 rfl ?_
          refine sk_goto (tgt := 4) X dX1_spreadOfGood_49 rfl ?_
          exact (sk_kill 3 (ih4 (x45, (s4.2 + (1 : Int32)))))
        · refine sk_iload_n (pc' := 37) X rfl dX1_spreadOfGood_36 rfl ?_
          refine sk_goto (tgt := 45) X dX1_spreadOfGood_37 rfl ?_
          refine sk_istore_n (lv' := [some (.ref (u0 0)), some (.int r27), some (.int s4.2), some (.int r27)]) (pc' := 46) X (Nat.le_of_ble_eq_true rfl) rfl rfl dX1_spreadOfGood_45 rfl ?_
          refine sk_iinc (lv' := [some (.ref (u0 0)), some (.int r27), some (.int (s4.2 + (1 : Int32))), some (.int r27)]) (pc' := 49) X rfl ic_1 (Nat.le_of_ble_eq_true rfl) rfl rfl dX1_spreadOfGood_46 rfl ?_
          refine sk_goto (tgt := 4) X dX1_spreadOfGood_49 rfl ?_
          exact (sk_kill 3 (ih4 (r27, (s4.2 + (1 : Int32)))))
  unfold m_X1_spreadOfGood
  refine sk_iconst (pc' := 1) X ic_m1 dX1_spreadOfGood_0 rfl ?_
  refine sk_istore_n (lv' := [some (.ref (u0 0)), some (.int (-1 : Int32)), none, none]) (pc' := 2) X (Nat.le_of_ble_eq_true rfl) rfl rfl dX1_spreadOfGood_1 rfl ?_
  refine sk_iconst (pc' := 3) X ic_0 dX1_spreadOfGood_2 rfl ?_
  refine sk_istore_n (lv' := [some (.ref (u0 0)), some (.int (-1 : Int32)), some (.int (0 : Int32)), none]) (pc' := 4) X (Nat.le_of_ble_eq_true rfl) rfl rfl dX1_spreadOfGood_3 rfl ?_
  exact (h4 ((-1 : Int32), (0 : Int32)))
def rm_X1_copyFrom : Room := { frames := 2, cells := 0, slots := 0, locals := 61 }
def o_X1_copyFrom : (sk_N × sk_N) → Option Value := fun r => none
def w_X1_copyFrom (G : sk_G) (u0 u1 u2 u3 : Nat → Nat) (S2 : sk_N) (S3 : sk_N) : (sk_N × sk_N) → sk_B := fun r => [(nt_W G u0 (u1 0) r.1), (lg_W G u1 r.2), (nt_W G u2 (u3 0) S2), (lg_W G u3 S3)]
set_option maxHeartbeats 4000000 in
set_option maxRecDepth 100000 in
theorem c_X1_copyFrom (l : Launch) (G : sk_G) (u0 u1 u2 u3 : Nat → Nat) (S0 : sk_N) (S1 : sk_N) (S2 : sk_N) (S3 : sk_N) : sk_ctr l G yX1_copyFrom cX1_copyFrom 2 none rm_X1_copyFrom [.ref (u0 0), .ref (u2 0)] [(nt_W G u0 (u1 0) S0), (lg_W G u1 S1), (nt_W G u2 (u3 0) S2), (lg_W G u3 S3)] (m_X1_copyFrom S0 S1 S2 S3) o_X1_copyFrom (w_X1_copyFrom G u0 u1 u2 u3 S2 S3) := by
  refine sk_entry (own := RX1) (by decide) rfl (lv0 := [some (.ref (u0 0)), some (.ref (u2 0))]) rfl (Nat.le_of_ble_eq_true rfl) ?_
  intro Γ X
  unfold m_X1_copyFrom
  refine sk_aload_n (pc' := 1) X rfl dX1_copyFrom_0 rfl ?_
  refine sk_aload_n (pc' := 2) X rfl dX1_copyFrom_1 rfl ?_
  refine sk_getf (pc' := 5) X 2 0 0 in_RX1 rfl rfl rfl (Nat.le_of_ble_eq_true rfl) fl_RX1_47 rfl dX1_copyFrom_2 rfl ?_
  refine sk_putf (bs' := [(nt_W G u0 (u1 0) (sk_up S0 0 0 (S2 0 0))), (lg_W G u1 S1), (nt_W G u2 (u3 0) S2), (lg_W G u3 S3)]) (pc' := 8) X 0 0 0 in_RX1 tyX1 tyX1_ok nmX1 rfl rfl rfl (Nat.le_of_ble_eq_true rfl) fl_RX1_47 rfl (tyX1_ok 0 (Nat.le_of_ble_eq_true rfl)) rfl rfl (Nat.le_of_ble_eq_true rfl) (sk_st 0 (nt_pf_0 ..) rfl) dX1_copyFrom_5 rfl ?_
  refine sk_lt (bsf := fun z => [(nt_W G u0 (u1 0) z), (lg_W G u1 S1), (nt_W G u2 (u3 0) S2), (lg_W G u3 S3)]) (lvf := fun _ => [some (.ref (u0 0)), some (.ref (u2 0))]) (stf := fun _ => []) (fun N5 => ?_)
  refine sk_aload_n (pc' := 9) X rfl dX1_copyFrom_8 rfl ?_
  refine sk_aload_n (pc' := 10) X rfl dX1_copyFrom_9 rfl ?_
  refine sk_getf (pc' := 13) X 2 0 1 in_RX1 rfl rfl rfl (Nat.le_of_ble_eq_true rfl) fl_RX1_9 rfl dX1_copyFrom_10 rfl ?_
  refine sk_putf (bs' := [(nt_W G u0 (u1 0) (sk_up N5 0 1 (S2 0 1))), (lg_W G u1 S1), (nt_W G u2 (u3 0) S2), (lg_W G u3 S3)]) (pc' := 16) X 0 0 1 in_RX1 tyX1 tyX1_ok nmX1 rfl rfl rfl (Nat.le_of_ble_eq_true rfl) fl_RX1_9 rfl (tyX1_ok 1 (Nat.le_of_ble_eq_true rfl)) rfl rfl (Nat.le_of_ble_eq_true rfl) (sk_st 0 (nt_pf_1 ..) rfl) dX1_copyFrom_13 rfl ?_
  refine sk_lt (bsf := fun z => [(nt_W G u0 (u1 0) z), (lg_W G u1 S1), (nt_W G u2 (u3 0) S2), (lg_W G u3 S3)]) (lvf := fun _ => [some (.ref (u0 0)), some (.ref (u2 0))]) (stf := fun _ => []) (fun N13 => ?_)
  refine sk_aload_n (pc' := 17) X rfl dX1_copyFrom_16 rfl ?_
  refine sk_getf (pc' := 20) X 2 0 2 in_RX1 rfl rfl rfl (Nat.le_of_ble_eq_true rfl) fl_RX1_15 rfl dX1_copyFrom_17 rfl ?_
  refine sk_iconst (pc' := 21) X ic_0 dX1_copyFrom_20 rfl ?_
  refine sk_aload_n (pc' := 22) X rfl dX1_copyFrom_21 rfl ?_
  refine sk_getf (pc' := 25) X 0 0 2 in_RX1 rfl rfl rfl (Nat.le_of_ble_eq_true rfl) fl_RX1_15 rfl dX1_copyFrom_22 rfl ?_
  refine sk_iconst (pc' := 26) X ic_0 dX1_copyFrom_25 rfl ?_
  refine sk_aload_n (pc' := 27) X rfl dX1_copyFrom_26 rfl ?_
  refine sk_getf (pc' := 30) X 0 0 2 in_RX1 rfl rfl rfl (Nat.le_of_ble_eq_true rfl) fl_RX1_15 rfl dX1_copyFrom_27 rfl ?_
  refine sk_alen (v := 3) (pc' := 31) X 0 1 0 rfl rfl rfl rfl dX1_copyFrom_30 rfl ?_
  refine sk_copy (bs' := [(nt_W G u0 (u1 0) (va_up N13 1 (va_cpy (S2 1) (N13 1) 0 0 3))), (lg_W G u1 S1), (nt_W G u2 (u3 0) S2), (lg_W G u3 S3)]) (pc' := 34) X ac_RX1 2 1 0 1 (N := 3) rfl rfl rfl rfl (by decide) (by decide) (Nat.le_of_ble_eq_true rfl) (Nat.le_of_ble_eq_true rfl) (sk_st 0 (nt_cp_1 ..) rfl) (Nat.le_of_ble_eq_true rfl) (Nat.le_of_ble_eq_true rfl) dX1_copyFrom_31 rfl ?_
  refine sk_lt (bsf := fun z => [(nt_W G u0 (u1 0) z), (lg_W G u1 S1), (nt_W G u2 (u3 0) S2), (lg_W G u3 S3)]) (lvf := fun _ => [some (.ref (u0 0)), some (.ref (u2 0))]) (stf := fun _ => []) (fun N31 => ?_)
  refine sk_aload_n (pc' := 35) X rfl dX1_copyFrom_34 rfl ?_
  refine sk_aload_n (pc' := 36) X rfl dX1_copyFrom_35 rfl ?_
  refine sk_getf (pc' := 39) X 2 0 3 in_RX1 rfl rfl rfl (Nat.le_of_ble_eq_true rfl) fl_RX1_56 rfl dX1_copyFrom_36 rfl ?_
  refine sk_putf (bs' := [(nt_W G u0 (u1 0) (sk_up N31 0 3 (S2 0 3))), (lg_W G u1 S1), (nt_W G u2 (u3 0) S2), (lg_W G u3 S3)]) (pc' := 42) X 0 0 3 in_RX1 tyX1 tyX1_ok nmX1 rfl rfl rfl (Nat.le_of_ble_eq_true rfl) fl_RX1_56 rfl (tyX1_ok 3 (Nat.le_of_ble_eq_true rfl)) rfl rfl (Nat.le_of_ble_eq_true rfl) (sk_st 0 (nt_pf_3 ..) rfl) dX1_copyFrom_39 rfl ?_
  refine sk_lt (bsf := fun z => [(nt_W G u0 (u1 0) z), (lg_W G u1 S1), (nt_W G u2 (u3 0) S2), (lg_W G u3 S3)]) (lvf := fun _ => [some (.ref (u0 0)), some (.ref (u2 0))]) (stf := fun _ => []) (fun N39 => ?_)
  refine sk_aload_n (pc' := 43) X rfl dX1_copyFrom_42 rfl ?_
  refine sk_aload_n (pc' := 44) X rfl dX1_copyFrom_43 rfl ?_
  refine sk_getf (pc' := 47) X 2 0 4 in_RX1 rfl rfl rfl (Nat.le_of_ble_eq_true rfl) fl_RX1_59 rfl dX1_copyFrom_44 rfl ?_
  refine sk_putf (bs' := [(nt_W G u0 (u1 0) (sk_up N39 0 4 (S2 0 4))), (lg_W G u1 S1), (nt_W G u2 (u3 0) S2), (lg_W G u3 S3)]) (pc' := 50) X 0 0 4 in_RX1 tyX1 tyX1_ok nmX1 rfl rfl rfl (Nat.le_of_ble_eq_true rfl) fl_RX1_59 rfl (tyX1_ok 4 (Nat.le_of_ble_eq_true rfl)) rfl rfl (Nat.le_of_ble_eq_true rfl) (sk_st 0 (nt_pf_4 ..) rfl) dX1_copyFrom_47 rfl ?_
  refine sk_lt (bsf := fun z => [(nt_W G u0 (u1 0) z), (lg_W G u1 S1), (nt_W G u2 (u3 0) S2), (lg_W G u3 S3)]) (lvf := fun _ => [some (.ref (u0 0)), some (.ref (u2 0))]) (stf := fun _ => []) (fun N47 => ?_)
  refine sk_aload_n (pc' := 51) X rfl dX1_copyFrom_50 rfl ?_
  refine sk_getf (pc' := 54) X 0 0 5 in_RX1 rfl rfl rfl (Nat.le_of_ble_eq_true rfl) fl_RX1_22 rfl dX1_copyFrom_51 rfl ?_
  refine sk_aload_n (pc' := 55) X rfl dX1_copyFrom_54 rfl ?_
  refine sk_getf (pc' := 58) X 2 0 5 in_RX1 rfl rfl rfl (Nat.le_of_ble_eq_true rfl) fl_RX1_22 rfl dX1_copyFrom_55 rfl ?_
  refine sk_callV (bs2 := fun r58 => [(nt_W G u0 (u1 0) N47), (lg_W G u1 r58), (nt_W G u2 (u3 0) S2), (lg_W G u3 S3)]) (st := []) (st2 := fun r58 => []) (As := [.ref (u3 0)]) (pc' := 61) X (c_X0_copyNotes l G u1 u3 S1 S3) lk_RX1_62 [1, 3] rfl (by decide) (fun _ => rfl) rfl rfl rfl ⟨(Nat.le_of_ble_eq_true rfl), (Nat.le_of_ble_eq_true rfl)⟩ ⟨rfl, rfl⟩ ⟨(Nat.le_of_ble_eq_true rfl), (Nat.le_of_ble_eq_true rfl)⟩ rfl (Nat.le_of_ble_eq_true rfl) rfl dX1_copyFrom_58 rfl (fun _ => rfl) (fun _ => rfl) (fun r58 => ?_)
  refine sk_aload_n (pc' := 62) X rfl dX1_copyFrom_61 rfl ?_
  refine sk_getf (pc' := 65) X 2 0 6 in_RX1 rfl rfl rfl (Nat.le_of_ble_eq_true rfl) fl_RX1_26 rfl dX1_copyFrom_62 rfl ?_
  refine sk_iconst (pc' := 66) X ic_0 dX1_copyFrom_65 rfl ?_
  refine sk_aload_n (pc' := 67) X rfl dX1_copyFrom_66 rfl ?_
  refine sk_getf (pc' := 70) X 0 0 6 in_RX1 rfl rfl rfl (Nat.le_of_ble_eq_true rfl) fl_RX1_26 rfl dX1_copyFrom_67 rfl ?_
  refine sk_iconst (pc' := 71) X ic_0 dX1_copyFrom_70 rfl ?_
  refine sk_aload_n (pc' := 72) X rfl dX1_copyFrom_71 rfl ?_
  refine sk_getf (pc' := 75) X 0 0 6 in_RX1 rfl rfl rfl (Nat.le_of_ble_eq_true rfl) fl_RX1_26 rfl dX1_copyFrom_72 rfl ?_
  refine sk_alen (v := 10) (pc' := 76) X 0 2 0 rfl rfl rfl rfl dX1_copyFrom_75 rfl ?_
  refine sk_copy (bs' := [(nt_W G u0 (u1 0) (va_up N47 2 (va_cpy (S2 2) (N47 2) 0 0 10))), (lg_W G u1 r58), (nt_W G u2 (u3 0) S2), (lg_W G u3 S3)]) (pc' := 79) X ac_RX1 2 2 0 2 (N := 10) rfl rfl rfl rfl (by decide) (by decide) (Nat.le_of_ble_eq_true rfl) (Nat.le_of_ble_eq_true rfl) (sk_st 0 (nt_cp_2 ..) rfl) (Nat.le_of_ble_eq_true rfl) (Nat.le_of_ble_eq_true rfl) dX1_copyFrom_76 rfl ?_
  refine sk_lt (bsf := fun z => [(nt_W G u0 (u1 0) z), (lg_W G u1 r58), (nt_W G u2 (u3 0) S2), (lg_W G u3 S3)]) (lvf := fun _ => [some (.ref (u0 0)), some (.ref (u2 0))]) (stf := fun _ => []) (fun N76 => ?_)
  refine sk_aload_n (pc' := 80) X rfl dX1_copyFrom_79 rfl ?_
  refine sk_getf (pc' := 83) X 2 0 7 in_RX1 rfl rfl rfl (Nat.le_of_ble_eq_true rfl) fl_RX1_29 rfl dX1_copyFrom_80 rfl ?_
  refine sk_iconst (pc' := 84) X ic_0 dX1_copyFrom_83 rfl ?_
  refine sk_aload_n (pc' := 85) X rfl dX1_copyFrom_84 rfl ?_
  refine sk_getf (pc' := 88) X 0 0 7 in_RX1 rfl rfl rfl (Nat.le_of_ble_eq_true rfl) fl_RX1_29 rfl dX1_copyFrom_85 rfl ?_
  refine sk_iconst (pc' := 89) X ic_0 dX1_copyFrom_88 rfl ?_
  refine sk_aload_n (pc' := 90) X rfl dX1_copyFrom_89 rfl ?_
  refine sk_getf (pc' := 93) X 0 0 7 in_RX1 rfl rfl rfl (Nat.le_of_ble_eq_true rfl) fl_RX1_29 rfl dX1_copyFrom_90 rfl ?_
  refine sk_alen (v := 10) (pc' := 94) X 0 3 0 rfl rfl rfl rfl dX1_copyFrom_93 rfl ?_
  refine sk_copy (bs' := [(nt_W G u0 (u1 0) (va_up N76 3 (va_cpy (S2 3) (N76 3) 0 0 10))), (lg_W G u1 r58), (nt_W G u2 (u3 0) S2), (lg_W G u3 S3)]) (pc' := 97) X ac_RX1 2 3 0 3 (N := 10) rfl rfl rfl rfl (by decide) (by decide) (Nat.le_of_ble_eq_true rfl) (Nat.le_of_ble_eq_true rfl) (sk_st 0 (nt_cp_3 ..) rfl) (Nat.le_of_ble_eq_true rfl) (Nat.le_of_ble_eq_true rfl) dX1_copyFrom_94 rfl ?_
  refine sk_lt (bsf := fun z => [(nt_W G u0 (u1 0) z), (lg_W G u1 r58), (nt_W G u2 (u3 0) S2), (lg_W G u3 S3)]) (lvf := fun _ => [some (.ref (u0 0)), some (.ref (u2 0))]) (stf := fun _ => []) (fun N94 => ?_)
  refine sk_aload_n (pc' := 98) X rfl dX1_copyFrom_97 rfl ?_
  refine sk_getf (pc' := 101) X 2 0 8 in_RX1 rfl rfl rfl (Nat.le_of_ble_eq_true rfl) fl_RX1_32 rfl dX1_copyFrom_98 rfl ?_
  refine sk_iconst (pc' := 102) X ic_0 dX1_copyFrom_101 rfl ?_
  refine sk_aload_n (pc' := 103) X rfl dX1_copyFrom_102 rfl ?_
  refine sk_getf (pc' := 106) X 0 0 8 in_RX1 rfl rfl rfl (Nat.le_of_ble_eq_true rfl) fl_RX1_32 rfl dX1_copyFrom_103 rfl ?_
  refine sk_iconst (pc' := 107) X ic_0 dX1_copyFrom_106 rfl ?_
  refine sk_aload_n (pc' := 108) X rfl dX1_copyFrom_107 rfl ?_
  refine sk_getf (pc' := 111) X 0 0 8 in_RX1 rfl rfl rfl (Nat.le_of_ble_eq_true rfl) fl_RX1_32 rfl dX1_copyFrom_108 rfl ?_
  refine sk_alen (v := 10) (pc' := 112) X 0 4 0 rfl rfl rfl rfl dX1_copyFrom_111 rfl ?_
  refine sk_copy (bs' := [(nt_W G u0 (u1 0) (va_up N94 4 (va_cpy (S2 4) (N94 4) 0 0 10))), (lg_W G u1 r58), (nt_W G u2 (u3 0) S2), (lg_W G u3 S3)]) (pc' := 115) X ac_RX1 2 4 0 4 (N := 10) rfl rfl rfl rfl (by decide) (by decide) (Nat.le_of_ble_eq_true rfl) (Nat.le_of_ble_eq_true rfl) (sk_st 0 (nt_cp_4 ..) rfl) (Nat.le_of_ble_eq_true rfl) (Nat.le_of_ble_eq_true rfl) dX1_copyFrom_112 rfl ?_
  refine sk_lt (bsf := fun z => [(nt_W G u0 (u1 0) z), (lg_W G u1 r58), (nt_W G u2 (u3 0) S2), (lg_W G u3 S3)]) (lvf := fun _ => [some (.ref (u0 0)), some (.ref (u2 0))]) (stf := fun _ => []) (fun N112 => ?_)
  refine sk_aload_n (pc' := 116) X rfl dX1_copyFrom_115 rfl ?_
  refine sk_getf (pc' := 119) X 2 0 9 in_RX1 rfl rfl rfl (Nat.le_of_ble_eq_true rfl) fl_RX1_35 rfl dX1_copyFrom_116 rfl ?_
  refine sk_iconst (pc' := 120) X ic_0 dX1_copyFrom_119 rfl ?_
  refine sk_aload_n (pc' := 121) X rfl dX1_copyFrom_120 rfl ?_
  refine sk_getf (pc' := 124) X 0 0 9 in_RX1 rfl rfl rfl (Nat.le_of_ble_eq_true rfl) fl_RX1_35 rfl dX1_copyFrom_121 rfl ?_
  refine sk_iconst (pc' := 125) X ic_0 dX1_copyFrom_124 rfl ?_
  refine sk_aload_n (pc' := 126) X rfl dX1_copyFrom_125 rfl ?_
  refine sk_getf (pc' := 129) X 0 0 9 in_RX1 rfl rfl rfl (Nat.le_of_ble_eq_true rfl) fl_RX1_35 rfl dX1_copyFrom_126 rfl ?_
  refine sk_alen (v := 10) (pc' := 130) X 0 5 0 rfl rfl rfl rfl dX1_copyFrom_129 rfl ?_
  refine sk_copy (bs' := [(nt_W G u0 (u1 0) (va_up N112 5 (va_cpy (S2 5) (N112 5) 0 0 10))), (lg_W G u1 r58), (nt_W G u2 (u3 0) S2), (lg_W G u3 S3)]) (pc' := 133) X ac_RX1 2 5 0 5 (N := 10) rfl rfl rfl rfl (by decide) (by decide) (Nat.le_of_ble_eq_true rfl) (Nat.le_of_ble_eq_true rfl) (sk_st 0 (nt_cp_5 ..) rfl) (Nat.le_of_ble_eq_true rfl) (Nat.le_of_ble_eq_true rfl) dX1_copyFrom_130 rfl ?_
  refine sk_lt (bsf := fun z => [(nt_W G u0 (u1 0) z), (lg_W G u1 r58), (nt_W G u2 (u3 0) S2), (lg_W G u3 S3)]) (lvf := fun _ => [some (.ref (u0 0)), some (.ref (u2 0))]) (stf := fun _ => []) (fun N130 => ?_)
  refine sk_aload_n (pc' := 134) X rfl dX1_copyFrom_133 rfl ?_
  refine sk_getf (pc' := 137) X 2 0 10 in_RX1 rfl rfl rfl (Nat.le_of_ble_eq_true rfl) fl_RX1_38 rfl dX1_copyFrom_134 rfl ?_
  refine sk_iconst (pc' := 138) X ic_0 dX1_copyFrom_137 rfl ?_
  refine sk_aload_n (pc' := 139) X rfl dX1_copyFrom_138 rfl ?_
  refine sk_getf (pc' := 142) X 0 0 10 in_RX1 rfl rfl rfl (Nat.le_of_ble_eq_true rfl) fl_RX1_38 rfl dX1_copyFrom_139 rfl ?_
  refine sk_iconst (pc' := 143) X ic_0 dX1_copyFrom_142 rfl ?_
  refine sk_aload_n (pc' := 144) X rfl dX1_copyFrom_143 rfl ?_
  refine sk_getf (pc' := 147) X 0 0 10 in_RX1 rfl rfl rfl (Nat.le_of_ble_eq_true rfl) fl_RX1_38 rfl dX1_copyFrom_144 rfl ?_
  refine sk_alen (v := 100) (pc' := 148) X 0 6 0 rfl rfl rfl rfl dX1_copyFrom_147 rfl ?_
  refine sk_copy (bs' := [(nt_W G u0 (u1 0) (va_up N130 6 (va_cpy (S2 6) (N130 6) 0 0 100))), (lg_W G u1 r58), (nt_W G u2 (u3 0) S2), (lg_W G u3 S3)]) (pc' := 151) X ac_RX1 2 6 0 6 (N := 100) rfl rfl rfl rfl (by decide) (by decide) (Nat.le_of_ble_eq_true rfl) (Nat.le_of_ble_eq_true rfl) (sk_st 0 (nt_cp_6 ..) rfl) (Nat.le_of_ble_eq_true rfl) (Nat.le_of_ble_eq_true rfl) dX1_copyFrom_148 rfl ?_
  refine sk_lt (bsf := fun z => [(nt_W G u0 (u1 0) z), (lg_W G u1 r58), (nt_W G u2 (u3 0) S2), (lg_W G u3 S3)]) (lvf := fun _ => [some (.ref (u0 0)), some (.ref (u2 0))]) (stf := fun _ => []) (fun N148 => ?_)
  refine sk_aload_n (pc' := 152) X rfl dX1_copyFrom_151 rfl ?_
  refine sk_getf (pc' := 155) X 2 0 11 in_RX1 rfl rfl rfl (Nat.le_of_ble_eq_true rfl) fl_RX1_41 rfl dX1_copyFrom_152 rfl ?_
  refine sk_iconst (pc' := 156) X ic_0 dX1_copyFrom_155 rfl ?_
  refine sk_aload_n (pc' := 157) X rfl dX1_copyFrom_156 rfl ?_
  refine sk_getf (pc' := 160) X 0 0 11 in_RX1 rfl rfl rfl (Nat.le_of_ble_eq_true rfl) fl_RX1_41 rfl dX1_copyFrom_157 rfl ?_
  refine sk_iconst (pc' := 161) X ic_0 dX1_copyFrom_160 rfl ?_
  refine sk_aload_n (pc' := 162) X rfl dX1_copyFrom_161 rfl ?_
  refine sk_getf (pc' := 165) X 0 0 11 in_RX1 rfl rfl rfl (Nat.le_of_ble_eq_true rfl) fl_RX1_41 rfl dX1_copyFrom_162 rfl ?_
  refine sk_alen (v := 160) (pc' := 166) X 0 7 0 rfl rfl rfl rfl dX1_copyFrom_165 rfl ?_
  refine sk_copy (bs' := [(nt_W G u0 (u1 0) (va_up N148 7 (va_cpy (S2 7) (N148 7) 0 0 160))), (lg_W G u1 r58), (nt_W G u2 (u3 0) S2), (lg_W G u3 S3)]) (pc' := 169) X ac_RX1 2 7 0 7 (N := 160) rfl rfl rfl rfl (by decide) (by decide) (Nat.le_of_ble_eq_true rfl) (Nat.le_of_ble_eq_true rfl) (sk_st 0 (nt_cp_7 ..) rfl) (Nat.le_of_ble_eq_true rfl) (Nat.le_of_ble_eq_true rfl) dX1_copyFrom_166 rfl ?_
  refine sk_lt (bsf := fun z => [(nt_W G u0 (u1 0) z), (lg_W G u1 r58), (nt_W G u2 (u3 0) S2), (lg_W G u3 S3)]) (lvf := fun _ => [some (.ref (u0 0)), some (.ref (u2 0))]) (stf := fun _ => []) (fun N166 => ?_)
  exact sk_vret X rfl rfl dX1_copyFrom_169
def rm_X1_isPhase : Room := { frames := 0, cells := 0, slots := 0, locals := 0 }
def o_X1_isPhase : (Int32) → Option Value := fun r => some (.int r)
def w_X1_isPhase (G : sk_G) (u0 : Nat → Nat) (a0_log : Nat) (S0 : sk_N) : (Int32) → sk_B := fun r => [(nt_W G u0 a0_log S0)]
set_option maxHeartbeats 4000000 in
set_option maxRecDepth 100000 in
theorem c_X1_isPhase (l : Launch) (G : sk_G) (u0 : Nat → Nat) (a0_log : Nat) (S0 : sk_N) (p1 : Int32) : sk_ctr l G yX1_isPhase cX1_isPhase 2 (some .boolean) rm_X1_isPhase [.ref (u0 0), .int p1] [(nt_W G u0 a0_log S0)] (m_X1_isPhase S0 p1) o_X1_isPhase (w_X1_isPhase G u0 a0_log S0) := by
  refine sk_entry (own := RX1) (by decide) rfl (lv0 := [some (.ref (u0 0)), some (.int p1)]) rfl (Nat.le_of_ble_eq_true rfl) ?_
  intro Γ X
  unfold m_X1_isPhase
  refine sk_iload_n (pc' := 1) X rfl dX1_isPhase_0 rfl ?_
  refine sk_if_lt (tgt := 16) (pc' := 4) X dX1_isPhase_1 rfl rfl ?_ ?_
  · refine sk_iconst (pc' := 17) X ic_0 dX1_isPhase_16 rfl ?_
    exact sk_zret X (by decide) rfl rfl dX1_isPhase_17
  · refine sk_iload_n (pc' := 5) X rfl dX1_isPhase_4 rfl ?_
    refine sk_aload_n (pc' := 6) X rfl dX1_isPhase_5 rfl ?_
    refine sk_getf (pc' := 9) X 0 0 1 in_RX1 rfl rfl rfl (Nat.le_of_ble_eq_true rfl) fl_RX1_9 rfl dX1_isPhase_6 rfl ?_
    refine sk_icmp_ge (tgt := 16) (pc' := 12) X dX1_isPhase_9 rfl rfl ?_ ?_
    · refine sk_iconst (pc' := 17) X ic_0 dX1_isPhase_16 rfl ?_
      exact sk_zret X (by decide) rfl rfl dX1_isPhase_17
    · refine sk_iconst (pc' := 13) X ic_1 dX1_isPhase_12 rfl ?_
      refine sk_goto (tgt := 17) X dX1_isPhase_13 rfl ?_
      exact sk_zret X (by decide) rfl rfl dX1_isPhase_17
def rm_X1_isFull : Room := { frames := 0, cells := 0, slots := 0, locals := 0 }
def o_X1_isFull : (Int32) → Option Value := fun r => some (.int r)
def w_X1_isFull (G : sk_G) (u0 : Nat → Nat) (a0_log : Nat) (S0 : sk_N) : (Int32) → sk_B := fun r => [(nt_W G u0 a0_log S0)]
set_option maxHeartbeats 4000000 in
set_option maxRecDepth 100000 in
theorem c_X1_isFull (l : Launch) (G : sk_G) (u0 : Nat → Nat) (a0_log : Nat) (S0 : sk_N) : sk_ctr l G yX1_isFull cX1_isFull 1 (some .boolean) rm_X1_isFull [.ref (u0 0)] [(nt_W G u0 a0_log S0)] (m_X1_isFull S0) o_X1_isFull (w_X1_isFull G u0 a0_log S0) := by
  refine sk_entry (own := RX1) (by decide) rfl (lv0 := [some (.ref (u0 0))]) rfl (Nat.le_of_ble_eq_true rfl) ?_
  intro Γ X
  unfold m_X1_isFull
  refine sk_aload_n (pc' := 1) X rfl dX1_isFull_0 rfl ?_
  refine sk_getf (pc' := 4) X 0 0 0 in_RX1 rfl rfl rfl (Nat.le_of_ble_eq_true rfl) fl_RX1_47 rfl dX1_isFull_1 rfl ?_
  refine sk_bipush (pc' := 6) X bp_10 dX1_isFull_4 rfl ?_
  refine sk_icmp_lt (tgt := 13) (pc' := 9) X dX1_isFull_6 rfl rfl ?_ ?_
  · refine sk_iconst (pc' := 14) X ic_0 dX1_isFull_13 rfl ?_
    exact sk_zret X (by decide) rfl rfl dX1_isFull_14
  · refine sk_iconst (pc' := 10) X ic_1 dX1_isFull_9 rfl ?_
    refine sk_goto (tgt := 14) X dX1_isFull_10 rfl ?_
    exact sk_zret X (by decide) rfl rfl dX1_isFull_14
def rm_X1_addClock : Room := { frames := 0, cells := 0, slots := 0, locals := 0 }
def o_X1_addClock : (Int32 × sk_N) → Option Value := fun r => some (.int r.1)
def w_X1_addClock (G : sk_G) (u0 : Nat → Nat) (a0_log : Nat) : (Int32 × sk_N) → sk_B := fun r => [(nt_W G u0 a0_log r.2)]
set_option maxHeartbeats 4000000 in
set_option maxRecDepth 100000 in
theorem c_X1_addClock (l : Launch) (G : sk_G) (u0 : Nat → Nat) (a0_log : Nat) (S0 : sk_N) (p1 : Int32) : sk_ctr l G yX1_addClock cX1_addClock 3 (some .int) rm_X1_addClock [.ref (u0 0), .int p1] [(nt_W G u0 a0_log S0)] (m_X1_addClock S0 p1) o_X1_addClock (w_X1_addClock G u0 a0_log) := by
  refine sk_entry (own := RX1) (by decide) rfl (lv0 := [some (.ref (u0 0)), some (.int p1), none]) rfl (Nat.le_of_ble_eq_true rfl) ?_
  intro Γ X
  unfold m_X1_addClock
  refine sk_aload_n (pc' := 1) X rfl dX1_addClock_0 rfl ?_
  refine sk_getf (pc' := 4) X 0 0 0 in_RX1 rfl rfl rfl (Nat.le_of_ble_eq_true rfl) fl_RX1_47 rfl dX1_addClock_1 rfl ?_
  refine sk_istore_n (lv' := [some (.ref (u0 0)), some (.int p1), some (.int (S0 0 0))]) (pc' := 5) X (Nat.le_of_ble_eq_true rfl) rfl rfl dX1_addClock_4 rfl ?_
  refine sk_lt (bsf := fun _ => [(nt_W G u0 a0_log S0)]) (lvf := fun z => [some (.ref (u0 0)), some (.int p1), some (.int z)]) (stf := fun _ => []) (fun x4 => ?_)
  refine sk_aload_n (pc' := 6) X rfl dX1_addClock_5 rfl ?_
  refine sk_getf (pc' := 9) X 0 0 6 in_RX1 rfl rfl rfl (Nat.le_of_ble_eq_true rfl) fl_RX1_26 rfl dX1_addClock_6 rfl ?_
  refine sk_iload_n (pc' := 10) X rfl dX1_addClock_9 rfl ?_
  refine sk_iload_n (pc' := 11) X rfl dX1_addClock_10 rfl ?_
  refine sk_iast (bs' := [(nt_W G u0 a0_log (sk_up S0 2 (x4).toNatClampNeg p1))]) (pc' := 12) X 0 2 rfl rfl (sk_st 0 (nt_st_2 ..) rfl) dX1_addClock_11 rfl ?_
  refine sk_lt (bsf := fun z => [(nt_W G u0 a0_log z)]) (lvf := fun _ => [some (.ref (u0 0)), some (.int p1), some (.int x4)]) (stf := fun _ => []) (fun N11 => ?_)
  refine sk_aload_n (pc' := 13) X rfl dX1_addClock_12 rfl ?_
  refine sk_dup (pc' := 14) X rfl dX1_addClock_13 rfl ?_
  refine sk_getf (pc' := 17) X 0 0 0 in_RX1 rfl rfl rfl (Nat.le_of_ble_eq_true rfl) fl_RX1_47 rfl dX1_addClock_14 rfl ?_
  refine sk_iconst (pc' := 18) X ic_1 dX1_addClock_17 rfl ?_
  refine sk_iadd (pc' := 19) X dX1_addClock_18 rfl ?_
  refine sk_putf (bs' := [(nt_W G u0 a0_log (sk_up N11 0 0 ((N11 0 0) + (1 : Int32))))]) (pc' := 22) X 0 0 0 in_RX1 tyX1 tyX1_ok nmX1 rfl rfl rfl (Nat.le_of_ble_eq_true rfl) fl_RX1_47 rfl (tyX1_ok 0 (Nat.le_of_ble_eq_true rfl)) rfl rfl (Nat.le_of_ble_eq_true rfl) (sk_st 0 (nt_pf_0 ..) rfl) dX1_addClock_19 rfl ?_
  refine sk_lt (bsf := fun z => [(nt_W G u0 a0_log z)]) (lvf := fun _ => [some (.ref (u0 0)), some (.int p1), some (.int x4)]) (stf := fun _ => []) (fun N19 => ?_)
  refine sk_iload_n (pc' := 23) X rfl dX1_addClock_22 rfl ?_
  exact sk_iret X rfl rfl dX1_addClock_23
def rm_X1_hasClock : Room := { frames := 0, cells := 0, slots := 0, locals := 0 }
def o_X1_hasClock : (Int32) → Option Value := fun r => some (.int r)
def w_X1_hasClock (G : sk_G) (u0 : Nat → Nat) (a0_log : Nat) (S0 : sk_N) : (Int32) → sk_B := fun r => [(nt_W G u0 a0_log S0)]
set_option maxHeartbeats 4000000 in
set_option maxRecDepth 100000 in
theorem c_X1_hasClock (l : Launch) (G : sk_G) (u0 : Nat → Nat) (a0_log : Nat) (S0 : sk_N) (p1 : Int32) : sk_ctr l G yX1_hasClock cX1_hasClock 2 (some .boolean) rm_X1_hasClock [.ref (u0 0), .int p1] [(nt_W G u0 a0_log S0)] (m_X1_hasClock S0 p1) o_X1_hasClock (w_X1_hasClock G u0 a0_log S0) := by
  refine sk_entry (own := RX1) (by decide) rfl (lv0 := [some (.ref (u0 0)), some (.int p1)]) rfl (Nat.le_of_ble_eq_true rfl) ?_
  intro Γ X
  unfold m_X1_hasClock
  refine sk_iload_n (pc' := 1) X rfl dX1_hasClock_0 rfl ?_
  refine sk_if_lt (tgt := 16) (pc' := 4) X dX1_hasClock_1 rfl rfl ?_ ?_
  · refine sk_iconst (pc' := 17) X ic_0 dX1_hasClock_16 rfl ?_
    exact sk_zret X (by decide) rfl rfl dX1_hasClock_17
  · refine sk_iload_n (pc' := 5) X rfl dX1_hasClock_4 rfl ?_
    refine sk_aload_n (pc' := 6) X rfl dX1_hasClock_5 rfl ?_
    refine sk_getf (pc' := 9) X 0 0 0 in_RX1 rfl rfl rfl (Nat.le_of_ble_eq_true rfl) fl_RX1_47 rfl dX1_hasClock_6 rfl ?_
    refine sk_icmp_ge (tgt := 16) (pc' := 12) X dX1_hasClock_9 rfl rfl ?_ ?_
    · refine sk_iconst (pc' := 17) X ic_0 dX1_hasClock_16 rfl ?_
      exact sk_zret X (by decide) rfl rfl dX1_hasClock_17
    · refine sk_iconst (pc' := 13) X ic_1 dX1_hasClock_12 rfl ?_
      refine sk_goto (tgt := 17) X dX1_hasClock_13 rfl ?_
      exact sk_zret X (by decide) rfl rfl dX1_hasClock_17
def rm_X1_changePhase : Room := { frames := 0, cells := 0, slots := 0, locals := 0 }
def o_X1_changePhase : (Int32 × sk_N) → Option Value := fun r => some (.int r.1)
def w_X1_changePhase (G : sk_G) (u0 : Nat → Nat) (a0_log : Nat) : (Int32 × sk_N) → sk_B := fun r => [(nt_W G u0 a0_log r.2)]
set_option maxHeartbeats 4000000 in
set_option maxRecDepth 100000 in
theorem c_X1_changePhase (l : Launch) (G : sk_G) (u0 : Nat → Nat) (a0_log : Nat) (S0 : sk_N) (p1 : Int32) (p2 : Int32) : sk_ctr l G yX1_changePhase cX1_changePhase 4 (some .int) rm_X1_changePhase [.ref (u0 0), .int p1, .int p2] [(nt_W G u0 a0_log S0)] (m_X1_changePhase S0 p1 p2) o_X1_changePhase (w_X1_changePhase G u0 a0_log) := by
  refine sk_entry (own := RX1) (by decide) rfl (lv0 := [some (.ref (u0 0)), some (.int p1), some (.int p2), none]) rfl (Nat.le_of_ble_eq_true rfl) ?_
  intro Γ X
  unfold m_X1_changePhase
  refine sk_aload_n (pc' := 1) X rfl dX1_changePhase_0 rfl ?_
  refine sk_getf (pc' := 4) X 0 0 6 in_RX1 rfl rfl rfl (Nat.le_of_ble_eq_true rfl) fl_RX1_26 rfl dX1_changePhase_1 rfl ?_
  refine sk_iload_n (pc' := 5) X rfl dX1_changePhase_4 rfl ?_
  refine sk_iald (pc' := 6) X 0 2 rfl rfl dX1_changePhase_5 rfl ?_
  refine sk_istore_n (lv' := [some (.ref (u0 0)), some (.int p1), some (.int p2), some (.int ((S0 2) (p1).toNatClampNeg))]) (pc' := 7) X (Nat.le_of_ble_eq_true rfl) rfl rfl dX1_changePhase_6 rfl ?_
  refine sk_lt (bsf := fun _ => [(nt_W G u0 a0_log S0)]) (lvf := fun z => [some (.ref (u0 0)), some (.int p1), some (.int p2), some (.int z)]) (stf := fun _ => []) (fun x6 => ?_)
  refine sk_aload_n (pc' := 8) X rfl dX1_changePhase_7 rfl ?_
  refine sk_getf (pc' := 11) X 0 0 6 in_RX1 rfl rfl rfl (Nat.le_of_ble_eq_true rfl) fl_RX1_26 rfl dX1_changePhase_8 rfl ?_
  refine sk_iload_n (pc' := 12) X rfl dX1_changePhase_11 rfl ?_
  refine sk_iload_n (pc' := 13) X rfl dX1_changePhase_12 rfl ?_
  refine sk_iast (bs' := [(nt_W G u0 a0_log (sk_up S0 2 (p1).toNatClampNeg p2))]) (pc' := 14) X 0 2 rfl rfl (sk_st 0 (nt_st_2 ..) rfl) dX1_changePhase_13 rfl ?_
  refine sk_lt (bsf := fun z => [(nt_W G u0 a0_log z)]) (lvf := fun _ => [some (.ref (u0 0)), some (.int p1), some (.int p2), some (.int x6)]) (stf := fun _ => []) (fun N13 => ?_)
  refine sk_iload_n (pc' := 15) X rfl dX1_changePhase_14 rfl ?_
  exact sk_iret X rfl rfl dX1_changePhase_15
def rm_X1_dropPulses : Room := { frames := 0, cells := 0, slots := 0, locals := 0 }
def o_X1_dropPulses : (sk_N) → Option Value := fun r => none
def w_X1_dropPulses (G : sk_G) (u0 : Nat → Nat) (a0_log : Nat) : (sk_N) → sk_B := fun r => [(nt_W G u0 a0_log r)]
set_option maxHeartbeats 4000000 in
set_option maxRecDepth 100000 in
theorem c_X1_dropPulses (l : Launch) (G : sk_G) (u0 : Nat → Nat) (a0_log : Nat) (S0 : sk_N) (p1 : Int32) (p2 : Int32) : sk_ctr l G yX1_dropPulses cX1_dropPulses 4 none rm_X1_dropPulses [.ref (u0 0), .int p1, .int p2] [(nt_W G u0 a0_log S0)] (m_X1_dropPulses S0 p1 p2) o_X1_dropPulses (w_X1_dropPulses G u0 a0_log) := by
  refine sk_entry (own := RX1) (by decide) rfl (lv0 := [some (.ref (u0 0)), some (.int p1), some (.int p2), none]) rfl (Nat.le_of_ble_eq_true rfl) ?_
  intro Γ X
  have h2 : ∀ s2 : sk_N × Int32, sk_S Γ (sk_Φ Γ o_X1_dropPulses (w_X1_dropPulses G u0 a0_log)) 0 0 (m_X1_dropPulses_2 p1 p2 s2) [(nt_W G u0 a0_log s2.1)] [some (.ref (u0 0)), some (.int p1), some (.int p2), some (.int s2.2)] 2 [] := by
    intro s2
    unfold m_X1_dropPulses_2
    refine sk_loop (bsf := fun s2 => [(nt_W G u0 a0_log s2.1)]) (lvf := fun s2 => [some (.ref (u0 0)), some (.int p1), some (.int p2), some (.int s2.2)]) ?_ sk_fuel s2
    intro k2 s2 ih2
    unfold m_X1_dropPulses_2_step
    refine sk_iload_n (pc' := 3) X rfl dX1_dropPulses_2 rfl ?_
    refine sk_bipush (pc' := 5) X bp_16 dX1_dropPulses_3 rfl ?_
    refine sk_icmp_ge (tgt := 33) (pc' := 8) X dX1_dropPulses_5 rfl rfl ?_ ?_
    · exact sk_vret X rfl rfl dX1_dropPulses_33
    · refine sk_aload_n (pc' := 9) X rfl dX1_dropPulses_8 rfl ?_
      refine sk_getf (pc' := 12) X 0 0 11 in_RX1 rfl rfl rfl (Nat.le_of_ble_eq_true rfl) fl_RX1_41 rfl dX1_dropPulses_9 rfl ?_
      refine sk_iload_n (pc' := 13) X rfl dX1_dropPulses_12 rfl ?_
      refine sk_bipush (pc' := 15) X bp_10 dX1_dropPulses_13 rfl ?_
      refine sk_imul (pc' := 16) X dX1_dropPulses_15 rfl ?_
      refine sk_iload_n (pc' := 17) X rfl dX1_dropPulses_16 rfl ?_
      refine sk_iadd (pc' := 18) X dX1_dropPulses_17 rfl ?_
      refine sk_dup2 (pc' := 19) X rfl rfl dX1_dropPulses_18 rfl ?_
      refine sk_iald (pc' := 20) X 0 7 rfl rfl dX1_dropPulses_19 rfl ?_
      refine sk_iconst (pc' := 21) X ic_1 dX1_dropPulses_20 rfl ?_
      refine sk_iload_n (pc' := 22) X rfl dX1_dropPulses_21 rfl ?_
      refine sk_ishl (pc' := 23) X dX1_dropPulses_22 rfl ?_
      refine sk_iconst (pc' := 24) X ic_m1 dX1_dropPulses_23 rfl ?_
      refine sk_ixor (pc' := 25) X dX1_dropPulses_24 rfl ?_
      refine sk_iand (pc' := 26) X dX1_dropPulses_25 rfl ?_
      refine sk_iast (bs' := [(nt_W G u0 a0_log (sk_up s2.1 7 (((s2.2 * (10 : Int32)) + p2)).toNatClampNeg (((s2.1 7) (((s2.2 * (10 : Int32)) + p2)).toNatClampNeg) &&& ((sk_shl (1 : Int32) p1) ^^^ (-1 : Int32)))))]) (pc' := 27) X 0 7 rfl rfl (sk_st 0 (nt_st_7 ..) rfl) dX1_dropPulses_26 rfl ?_
      refine sk_lt (bsf := fun z => [(nt_W G u0 a0_log z)]) (lvf := fun _ => [some (.ref (u0 0)), some (.int p1), some (.int p2), some (.int s2.2)]) (stf := fun _ => []) (fun N26 => ?_)
      refine sk_iinc (lv' := [some (.ref (u0 0)), some (.int p1), some (.int p2), some (.int (s2.2 + (1 : Int32)))]) (pc' := 30) X rfl ic_1 (Nat.le_of_ble_eq_true rfl) rfl rfl dX1_dropPulses_27 rfl ?_
      refine sk_goto (tgt := 2) X dX1_dropPulses_30 rfl ?_
      exact (ih2 (N26, (s2.2 + (1 : Int32))))
  unfold m_X1_dropPulses
  refine sk_iconst (pc' := 1) X ic_0 dX1_dropPulses_0 rfl ?_
  refine sk_istore_n (lv' := [some (.ref (u0 0)), some (.int p1), some (.int p2), some (.int (0 : Int32))]) (pc' := 2) X (Nat.le_of_ble_eq_true rfl) rfl rfl dX1_dropPulses_1 rfl ?_
  exact (h2 (S0, (0 : Int32)))
def rm_X1_changeLink : Room := { frames := 1, cells := 0, slots := 0, locals := 23 }
def o_X1_changeLink : (Int32 × sk_N) → Option Value := fun r => some (.int r.1)
def w_X1_changeLink (G : sk_G) (u0 : Nat → Nat) (a0_log : Nat) : (Int32 × sk_N) → sk_B := fun r => [(nt_W G u0 a0_log r.2)]
set_option maxHeartbeats 4000000 in
set_option maxRecDepth 100000 in
theorem c_X1_changeLink (l : Launch) (G : sk_G) (u0 : Nat → Nat) (a0_log : Nat) (S0 : sk_N) (p1 : Int32) (p2 : Int32) (p3 : Int32) : sk_ctr l G yX1_changeLink cX1_changeLink 5 (some .int) rm_X1_changeLink [.ref (u0 0), .int p1, .int p2, .int p3] [(nt_W G u0 a0_log S0)] (m_X1_changeLink S0 p1 p2 p3) o_X1_changeLink (w_X1_changeLink G u0 a0_log) := by
  refine sk_entry (own := RX1) (by decide) rfl (lv0 := [some (.ref (u0 0)), some (.int p1), some (.int p2), some (.int p3), none]) rfl (Nat.le_of_ble_eq_true rfl) ?_
  intro Γ X
  unfold m_X1_changeLink
  refine sk_aload_n (pc' := 1) X rfl dX1_changeLink_0 rfl ?_
  refine sk_iload_n (pc' := 2) X rfl dX1_changeLink_1 rfl ?_
  refine sk_iload_n (pc' := 3) X rfl dX1_changeLink_2 rfl ?_
  refine sk_callV (bs2 := fun r3 => [(nt_W G u0 a0_log S0)]) (st := []) (st2 := fun r3 => [.int r3]) (As := [.int p1, .int p2]) (pc' := 6) X (c_X1_delayBetween l G u0 a0_log S0 p1 p2) lk_RX1_82 [0] rfl (by decide) (fun _ => rfl) rfl rfl rfl ⟨(Nat.le_of_ble_eq_true rfl), (Nat.le_of_ble_eq_true rfl)⟩ ⟨rfl, rfl⟩ ⟨(Nat.le_of_ble_eq_true rfl), (Nat.le_of_ble_eq_true rfl)⟩ rfl (Nat.le_of_ble_eq_true rfl) rfl dX1_changeLink_3 rfl (fun _ => rfl) (fun _ => rfl) (fun r3 => ?_)
  refine sk_istore (lv' := [some (.ref (u0 0)), some (.int p1), some (.int p2), some (.int p3), some (.int r3)]) (pc' := 8) X (Nat.le_of_ble_eq_true rfl) rfl rfl dX1_changeLink_6 rfl ?_
  refine sk_iload (pc' := 10) X rfl dX1_changeLink_8 rfl ?_
  refine sk_iload_n (pc' := 11) X rfl dX1_changeLink_10 rfl ?_
  refine sk_icmp_eq (tgt := 50) (pc' := 14) X dX1_changeLink_11 rfl rfl ?_ ?_
  · refine sk_iload (pc' := 52) X rfl dX1_changeLink_50 rfl ?_
    exact sk_iret X rfl rfl dX1_changeLink_52
  · refine sk_aload_n (pc' := 15) X rfl dX1_changeLink_14 rfl ?_
    refine sk_iload_n (pc' := 16) X rfl dX1_changeLink_15 rfl ?_
    refine sk_iload_n (pc' := 17) X rfl dX1_changeLink_16 rfl ?_
    refine sk_callV (bs2 := fun r17 => [(nt_W G u0 a0_log r17)]) (st := []) (st2 := fun r17 => []) (As := [.int p1, .int p2]) (pc' := 20) X (c_X1_dropPulses l G u0 a0_log S0 p1 p2) lk_RX1_86 [0] rfl (by decide) (fun _ => rfl) rfl rfl rfl ⟨(Nat.le_of_ble_eq_true rfl), (Nat.le_of_ble_eq_true rfl)⟩ ⟨rfl, rfl⟩ ⟨(Nat.le_of_ble_eq_true rfl), (Nat.le_of_ble_eq_true rfl)⟩ rfl (Nat.le_of_ble_eq_true rfl) rfl dX1_changeLink_17 rfl (fun _ => rfl) (fun _ => rfl) (fun r17 => ?_)
    refine sk_aload_n (pc' := 21) X rfl dX1_changeLink_20 rfl ?_
    refine sk_iload_n (pc' := 22) X rfl dX1_changeLink_21 rfl ?_
    refine sk_iload_n (pc' := 23) X rfl dX1_changeLink_22 rfl ?_
    refine sk_callV (bs2 := fun r23 => [(nt_W G u0 a0_log r23)]) (st := []) (st2 := fun r23 => []) (As := [.int p2, .int p1]) (pc' := 26) X (c_X1_dropPulses l G u0 a0_log r17 p2 p1) lk_RX1_86 [0] rfl (by decide) (fun _ => rfl) rfl rfl rfl ⟨(Nat.le_of_ble_eq_true rfl), (Nat.le_of_ble_eq_true rfl)⟩ ⟨rfl, rfl⟩ ⟨(Nat.le_of_ble_eq_true rfl), (Nat.le_of_ble_eq_true rfl)⟩ rfl (Nat.le_of_ble_eq_true rfl) rfl dX1_changeLink_23 rfl (fun _ => rfl) (fun _ => rfl) (fun r23 => ?_)
    refine sk_aload_n (pc' := 27) X rfl dX1_changeLink_26 rfl ?_
    refine sk_getf (pc' := 30) X 0 0 10 in_RX1 rfl rfl rfl (Nat.le_of_ble_eq_true rfl) fl_RX1_38 rfl dX1_changeLink_27 rfl ?_
    refine sk_iload_n (pc' := 31) X rfl dX1_changeLink_30 rfl ?_
    refine sk_bipush (pc' := 33) X bp_10 dX1_changeLink_31 rfl ?_
    refine sk_imul (pc' := 34) X dX1_changeLink_33 rfl ?_
    refine sk_iload_n (pc' := 35) X rfl dX1_changeLink_34 rfl ?_
    refine sk_iadd (pc' := 36) X dX1_changeLink_35 rfl ?_
    refine sk_iload_n (pc' := 37) X rfl dX1_changeLink_36 rfl ?_
    refine sk_iast (bs' := [(nt_W G u0 a0_log (sk_up r23 6 (((p1 * (10 : Int32)) + p2)).toNatClampNeg p3))]) (pc' := 38) X 0 6 rfl rfl (sk_st 0 (nt_st_6 ..) rfl) dX1_changeLink_37 rfl ?_
    refine sk_lt (bsf := fun z => [(nt_W G u0 a0_log z)]) (lvf := fun _ => [some (.ref (u0 0)), some (.int p1), some (.int p2), some (.int p3), some (.int r3)]) (stf := fun _ => []) (fun N37 => ?_)
    refine sk_aload_n (pc' := 39) X rfl dX1_changeLink_38 rfl ?_
    refine sk_getf (pc' := 42) X 0 0 10 in_RX1 rfl rfl rfl (Nat.le_of_ble_eq_true rfl) fl_RX1_38 rfl dX1_changeLink_39 rfl ?_
    refine sk_iload_n (pc' := 43) X rfl dX1_changeLink_42 rfl ?_
    refine sk_bipush (pc' := 45) X bp_10 dX1_changeLink_43 rfl ?_
    refine sk_imul (pc' := 46) X dX1_changeLink_45 rfl ?_
    refine sk_iload_n (pc' := 47) X rfl dX1_changeLink_46 rfl ?_
    refine sk_iadd (pc' := 48) X dX1_changeLink_47 rfl ?_
    refine sk_iload_n (pc' := 49) X rfl dX1_changeLink_48 rfl ?_
    refine sk_iast (bs' := [(nt_W G u0 a0_log (sk_up N37 6 (((p2 * (10 : Int32)) + p1)).toNatClampNeg p3))]) (pc' := 50) X 0 6 rfl rfl (sk_st 0 (nt_st_6 ..) rfl) dX1_changeLink_49 rfl ?_
    refine sk_lt (bsf := fun z => [(nt_W G u0 a0_log z)]) (lvf := fun _ => [some (.ref (u0 0)), some (.int p1), some (.int p2), some (.int p3), some (.int r3)]) (stf := fun _ => []) (fun N49 => ?_)
    refine sk_iload (pc' := 52) X rfl dX1_changeLink_50 rfl ?_
    exact sk_iret X rfl rfl dX1_changeLink_52
