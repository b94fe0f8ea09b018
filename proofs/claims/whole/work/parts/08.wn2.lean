def rm_X1_makeBlinker : Room := { frames := 0, cells := 0, slots := 0, locals := 0 }
def o_X1_makeBlinker : (sk_N) → Option Value := fun r => none
def w_X1_makeBlinker (G : sk_G) (u0 : Nat → Nat) (a0_log : Nat) : (sk_N) → sk_B := fun r => [(nt_W G u0 a0_log r)]
set_option maxHeartbeats 4000000 in
set_option maxRecDepth 100000 in
theorem c_X1_makeBlinker (l : Launch) (G : sk_G) (u0 : Nat → Nat) (a0_log : Nat) (S0 : sk_N) (p1 : Int32) (p2 : Int32) (p3 : Int32) : sk_ctr l G yX1_makeBlinker cX1_makeBlinker 4 none rm_X1_makeBlinker [.ref (u0 0), .int p1, .int p2, .int p3] [(nt_W G u0 a0_log S0)] (m_X1_makeBlinker S0 p1 p2 p3) o_X1_makeBlinker (w_X1_makeBlinker G u0 a0_log) := by
  refine sk_entry (own := RX1) (by decide) rfl (lv0 := [some (.ref (u0 0)), some (.int p1), some (.int p2), some (.int p3)]) rfl (Nat.le_of_ble_eq_true rfl) ?_
  intro Γ X
  unfold m_X1_makeBlinker
  refine sk_aload_n (pc' := 1) X rfl dX1_makeBlinker_0 rfl ?_
  refine sk_getf (pc' := 4) X 0 0 8 in_RX1 rfl rfl rfl (Nat.le_of_ble_eq_true rfl) fl_RX1_32 rfl dX1_makeBlinker_1 rfl ?_
  refine sk_iload_n (pc' := 5) X rfl dX1_makeBlinker_4 rfl ?_
  refine sk_iload_n (pc' := 6) X rfl dX1_makeBlinker_5 rfl ?_
  refine sk_iast (bs' := [(nt_W G u0 a0_log (sk_up S0 4 (p1).toNatClampNeg p2))]) (pc' := 7) X 0 4 rfl rfl (sk_st 0 (nt_st_4 ..) rfl) dX1_makeBlinker_6 rfl ?_
  refine sk_lt (bsf := fun z => [(nt_W G u0 a0_log z)]) (lvf := fun _ => [some (.ref (u0 0)), some (.int p1), some (.int p2), some (.int p3)]) (stf := fun _ => []) (fun N6 => ?_)
  refine sk_aload_n (pc' := 8) X rfl dX1_makeBlinker_7 rfl ?_
  refine sk_getf (pc' := 11) X 0 0 9 in_RX1 rfl rfl rfl (Nat.le_of_ble_eq_true rfl) fl_RX1_35 rfl dX1_makeBlinker_8 rfl ?_
  refine sk_iload_n (pc' := 12) X rfl dX1_makeBlinker_11 rfl ?_
  refine sk_iload_n (pc' := 13) X rfl dX1_makeBlinker_12 rfl ?_
  refine sk_iast (bs' := [(nt_W G u0 a0_log (sk_up N6 5 (p1).toNatClampNeg p3))]) (pc' := 14) X 0 5 rfl rfl (sk_st 0 (nt_st_5 ..) rfl) dX1_makeBlinker_13 rfl ?_
  refine sk_lt (bsf := fun z => [(nt_W G u0 a0_log z)]) (lvf := fun _ => [some (.ref (u0 0)), some (.int p1), some (.int p2), some (.int p3)]) (stf := fun _ => []) (fun N13 => ?_)
  exact sk_vret X rfl rfl dX1_makeBlinker_14
def rm_X1_stepOf : Room := { frames := 0, cells := 0, slots := 0, locals := 0 }
def o_X1_stepOf : (Int32) → Option Value := fun r => some (.int r)
def w_X1_stepOf (G : sk_G) (u0 : Nat → Nat) (a0_log : Nat) (S0 : sk_N) : (Int32) → sk_B := fun r => [(nt_W G u0 a0_log S0)]
set_option maxHeartbeats 4000000 in
set_option maxRecDepth 100000 in
theorem c_X1_stepOf (l : Launch) (G : sk_G) (u0 : Nat → Nat) (a0_log : Nat) (S0 : sk_N) (p1 : Int32) : sk_ctr l G yX1_stepOf cX1_stepOf 3 (some .int) rm_X1_stepOf [.ref (u0 0), .int p1] [(nt_W G u0 a0_log S0)] (m_X1_stepOf S0 p1) o_X1_stepOf (w_X1_stepOf G u0 a0_log S0) := by
  refine sk_entry (own := RX1) (by decide) rfl (lv0 := [some (.ref (u0 0)), some (.int p1), none]) rfl (Nat.le_of_ble_eq_true rfl) ?_
  intro Γ X
  unfold m_X1_stepOf
  refine sk_aload_n (pc' := 1) X rfl dX1_stepOf_0 rfl ?_
  refine sk_getf (pc' := 4) X 0 0 7 in_RX1 rfl rfl rfl (Nat.le_of_ble_eq_true rfl) fl_RX1_29 rfl dX1_stepOf_1 rfl ?_
  refine sk_iload_n (pc' := 5) X rfl dX1_stepOf_4 rfl ?_
  refine sk_iald (pc' := 6) X 0 3 rfl rfl dX1_stepOf_5 rfl ?_
  refine sk_istore_n (lv' := [some (.ref (u0 0)), some (.int p1), some (.int ((S0 3) (p1).toNatClampNeg))]) (pc' := 7) X (Nat.le_of_ble_eq_true rfl) rfl rfl dX1_stepOf_6 rfl ?_
  refine sk_lt (bsf := fun _ => [(nt_W G u0 a0_log S0)]) (lvf := fun z => [some (.ref (u0 0)), some (.int p1), some (.int z)]) (stf := fun _ => []) (fun x6 => ?_)
  refine sk_iload_n (pc' := 8) X rfl dX1_stepOf_7 rfl ?_
  refine sk_if_eq (tgt := 20) (pc' := 11) X dX1_stepOf_8 rfl rfl ?_ ?_
  · refine sk_iconst (pc' := 21) X ic_1 dX1_stepOf_20 rfl ?_
    exact sk_iret X rfl rfl dX1_stepOf_21
  · refine sk_aload_n (pc' := 12) X rfl dX1_stepOf_11 rfl ?_
    refine sk_getf (pc' := 15) X 0 0 3 in_RX1 rfl rfl rfl (Nat.le_of_ble_eq_true rfl) fl_RX1_56 rfl dX1_stepOf_12 rfl ?_
    refine sk_iload_n (pc' := 16) X rfl dX1_stepOf_15 rfl ?_
    refine sk_irem (pc' := 17) X dX1_stepOf_16 rfl ?_
    refine sk_if_eq (tgt := 22) (pc' := 20) X dX1_stepOf_17 rfl rfl ?_ ?_
    · refine sk_iload_n (pc' := 23) X rfl dX1_stepOf_22 rfl ?_
      refine sk_if_le (tgt := 30) (pc' := 26) X dX1_stepOf_23 rfl rfl ?_ ?_
      · refine sk_iconst (pc' := 31) X ic_0 dX1_stepOf_30 rfl ?_
        exact sk_iret X rfl rfl dX1_stepOf_31
      · refine sk_iconst (pc' := 27) X ic_2 dX1_stepOf_26 rfl ?_
        refine sk_goto (tgt := 31) X dX1_stepOf_27 rfl ?_
        exact sk_iret X rfl rfl dX1_stepOf_31
    · refine sk_iconst (pc' := 21) X ic_1 dX1_stepOf_20 rfl ?_
      exact sk_iret X rfl rfl dX1_stepOf_21
def rm_X1_advancePhases : Room := { frames := 1, cells := 0, slots := 0, locals := 22 }
def o_X1_advancePhases : (sk_N) → Option Value := fun r => none
def w_X1_advancePhases (G : sk_G) (u0 : Nat → Nat) (a0_log : Nat) : (sk_N) → sk_B := fun r => [(nt_W G u0 a0_log r)]
set_option maxHeartbeats 4000000 in
set_option maxRecDepth 100000 in
theorem c_X1_advancePhases (l : Launch) (G : sk_G) (u0 : Nat → Nat) (a0_log : Nat) (S0 : sk_N) : sk_ctr l G yX1_advancePhases cX1_advancePhases 2 none rm_X1_advancePhases [.ref (u0 0)] [(nt_W G u0 a0_log S0)] (m_X1_advancePhases S0) o_X1_advancePhases (w_X1_advancePhases G u0 a0_log) := by
  refine sk_entry (own := RX1) (by decide) rfl (lv0 := [some (.ref (u0 0)), none]) rfl (Nat.le_of_ble_eq_true rfl) ?_
  intro Γ X
  have h2 : ∀ s2 : sk_N × Int32, sk_S Γ (sk_Φ Γ o_X1_advancePhases (w_X1_advancePhases G u0 a0_log)) 0 0 (m_X1_advancePhases_2 s2) [(nt_W G u0 a0_log s2.1)] [some (.ref (u0 0)), some (.int s2.2)] 2 [] := by
    intro s2
    unfold m_X1_advancePhases_2
    refine sk_loop (bsf := fun s2 => [(nt_W G u0 a0_log s2.1)]) (lvf := fun s2 => [some (.ref (u0 0)), some (.int s2.2)]) ?_ sk_fuel s2
    intro k2 s2 ih2
    unfold m_X1_advancePhases_2_step
    refine sk_iload_n (pc' := 3) X rfl dX1_advancePhases_2 rfl ?_
    refine sk_aload_n (pc' := 4) X rfl dX1_advancePhases_3 rfl ?_
    refine sk_getf (pc' := 7) X 0 0 0 in_RX1 rfl rfl rfl (Nat.le_of_ble_eq_true rfl) fl_RX1_47 rfl dX1_advancePhases_4 rfl ?_
    refine sk_icmp_ge (tgt := 38) (pc' := 10) X dX1_advancePhases_7 rfl rfl ?_ ?_
    · exact sk_vret X rfl rfl dX1_advancePhases_38
    · refine sk_aload_n (pc' := 11) X rfl dX1_advancePhases_10 rfl ?_
      refine sk_iload_n (pc' := 12) X rfl dX1_advancePhases_11 rfl ?_
      refine sk_callV (bs2 := fun r12 => [(nt_W G u0 a0_log s2.1)]) (st := []) (st2 := fun r12 => [.int r12]) (As := [.int s2.2]) (pc' := 15) X (c_X1_isGood l G u0 a0_log s2.1 s2.2) lk_RX1_66 [0] rfl (by decide) (fun _ => rfl) rfl rfl rfl ⟨(Nat.le_of_ble_eq_true rfl), (Nat.le_of_ble_eq_true rfl)⟩ ⟨rfl, rfl⟩ ⟨(Nat.le_of_ble_eq_true rfl), (Nat.le_of_ble_eq_true rfl)⟩ rfl (Nat.le_of_ble_eq_true rfl) rfl dX1_advancePhases_12 rfl (fun _ => rfl) (fun _ => rfl) (fun r12 => ?_)
      refine sk_if_eq (tgt := 32) (pc' := 18) X dX1_advancePhases_15 rfl rfl ?_ ?_
      · refine sk_iinc (lv' := [some (.ref (u0 0)), some (.int (s2.2 + (1 : Int32)))]) (pc' := 35) X rfl ic_1 (Nat.le_of_ble_eq_true rfl) rfl rfl dX1_advancePhases_32 rfl ?_
        refine sk_goto (tgt := 2) X dX1_advancePhases_35 rfl ?_
        exact (ih2 (s2.1, (s2.2 + (1 : Int32))))
      · refine sk_aload_n (pc' := 19) X rfl dX1_advancePhases_18 rfl ?_
        refine sk_getf (pc' := 22) X 0 0 6 in_RX1 rfl rfl rfl (Nat.le_of_ble_eq_true rfl) fl_RX1_26 rfl dX1_advancePhases_19 rfl ?_
        refine sk_iload_n (pc' := 23) X rfl dX1_advancePhases_22 rfl ?_
        refine sk_dup2 (pc' := 24) X rfl rfl dX1_advancePhases_23 rfl ?_
        refine sk_iald (pc' := 25) X 0 2 rfl rfl dX1_advancePhases_24 rfl ?_
        refine sk_aload_n (pc' := 26) X rfl dX1_advancePhases_25 rfl ?_
        refine sk_iload_n (pc' := 27) X rfl dX1_advancePhases_26 rfl ?_
        refine sk_callV (bs2 := fun r27 => [(nt_W G u0 a0_log s2.1)]) (st := [.int ((s2.1 2) (s2.2).toNatClampNeg), .int s2.2, .ref (u0 2)]) (st2 := fun r27 => [.int r27, .int ((s2.1 2) (s2.2).toNatClampNeg), .int s2.2, .ref (u0 2)]) (As := [.int s2.2]) (pc' := 30) X (c_X1_stepOf l G u0 a0_log s2.1 s2.2) lk_RX1_117 [0] rfl (by decide) (fun _ => rfl) rfl rfl rfl ⟨(Nat.le_of_ble_eq_true rfl), (Nat.le_of_ble_eq_true rfl)⟩ ⟨rfl, rfl⟩ ⟨(Nat.le_of_ble_eq_true rfl), (Nat.le_of_ble_eq_true rfl)⟩ rfl (Nat.le_of_ble_eq_true rfl) rfl dX1_advancePhases_27 rfl (fun _ => rfl) (fun _ => rfl) (fun r27 => ?_)
        refine sk_iadd (pc' := 31) X dX1_advancePhases_30 rfl ?_
        refine sk_iast (bs' := [(nt_W G u0 a0_log (sk_up s2.1 2 (s2.2).toNatClampNeg (((s2.1 2) (s2.2).toNatClampNeg) + r27)))]) (pc' := 32) X 0 2 rfl rfl (sk_st 0 (nt_st_2 ..) rfl) dX1_advancePhases_31 rfl ?_
        refine sk_lt (bsf := fun z => [(nt_W G u0 a0_log z)]) (lvf := fun _ => [some (.ref (u0 0)), some (.int s2.2)]) (stf := fun _ => []) (fun N31 => ?_)
        refine sk_iinc (lv' := [some (.ref (u0 0)), some (.int (s2.2 + (1 : Int32)))]) (pc' := 35) X rfl ic_1 (Nat.le_of_ble_eq_true rfl) rfl rfl dX1_advancePhases_32 rfl ?_
        refine sk_goto (tgt := 2) X dX1_advancePhases_35 rfl ?_
        exact (ih2 (N31, (s2.2 + (1 : Int32))))
  unfold m_X1_advancePhases
  refine sk_iconst (pc' := 1) X ic_0 dX1_advancePhases_0 rfl ?_
  refine sk_istore_n (lv' := [some (.ref (u0 0)), some (.int (0 : Int32))]) (pc' := 2) X (Nat.le_of_ble_eq_true rfl) rfl rfl dX1_advancePhases_1 rfl ?_
  exact (h2 (S0, (0 : Int32)))
def rm_X1_hasFired : Room := { frames := 0, cells := 0, slots := 0, locals := 0 }
def o_X1_hasFired : (Int32) → Option Value := fun r => some (.int r)
def w_X1_hasFired (G : sk_G) (u0 : Nat → Nat) (a0_log : Nat) (S0 : sk_N) : (Int32) → sk_B := fun r => [(nt_W G u0 a0_log S0)]
set_option maxHeartbeats 4000000 in
set_option maxRecDepth 100000 in
theorem c_X1_hasFired (l : Launch) (G : sk_G) (u0 : Nat → Nat) (a0_log : Nat) (S0 : sk_N) (p1 : Int32) : sk_ctr l G yX1_hasFired cX1_hasFired 2 (some .boolean) rm_X1_hasFired [.ref (u0 0), .int p1] [(nt_W G u0 a0_log S0)] (m_X1_hasFired S0 p1) o_X1_hasFired (w_X1_hasFired G u0 a0_log S0) := by
  refine sk_entry (own := RX1) (by decide) rfl (lv0 := [some (.ref (u0 0)), some (.int p1)]) rfl (Nat.le_of_ble_eq_true rfl) ?_
  intro Γ X
  unfold m_X1_hasFired
  refine sk_aload_n (pc' := 1) X rfl dX1_hasFired_0 rfl ?_
  refine sk_getf (pc' := 4) X 0 0 4 in_RX1 rfl rfl rfl (Nat.le_of_ble_eq_true rfl) fl_RX1_59 rfl dX1_hasFired_1 rfl ?_
  refine sk_iconst (pc' := 5) X ic_1 dX1_hasFired_4 rfl ?_
  refine sk_iload_n (pc' := 6) X rfl dX1_hasFired_5 rfl ?_
  refine sk_ishl (pc' := 7) X dX1_hasFired_6 rfl ?_
  refine sk_iand (pc' := 8) X dX1_hasFired_7 rfl ?_
  refine sk_if_eq (tgt := 15) (pc' := 11) X dX1_hasFired_8 rfl rfl ?_ ?_
  · refine sk_iconst (pc' := 16) X ic_0 dX1_hasFired_15 rfl ?_
    exact sk_zret X (by decide) rfl rfl dX1_hasFired_16
  · refine sk_iconst (pc' := 12) X ic_1 dX1_hasFired_11 rfl ?_
    refine sk_goto (tgt := 16) X dX1_hasFired_12 rfl ?_
    exact sk_zret X (by decide) rfl rfl dX1_hasFired_16
def rm_X1_slotOf : Room := { frames := 0, cells := 0, slots := 0, locals := 0 }
def o_X1_slotOf : (Int32) → Option Value := fun r => some (.int r)
def w_X1_slotOf (G : sk_G) : (Int32) → sk_B := fun r => []
set_option maxHeartbeats 4000000 in
set_option maxRecDepth 100000 in
theorem c_X1_slotOf (l : Launch) (G : sk_G) (p1 : Int32) : sk_ctr l G yX1_slotOf cX1_slotOf 1 (some .int) rm_X1_slotOf [.int p1] [] (m_X1_slotOf p1) o_X1_slotOf (w_X1_slotOf G) := by
  refine sk_entry (own := RX1) (by decide) rfl (lv0 := [some (.int p1)]) rfl (Nat.le_of_ble_eq_true rfl) ?_
  intro Γ X
  unfold m_X1_slotOf
  refine sk_iload_n (pc' := 1) X rfl dX1_slotOf_0 rfl ?_
  refine sk_bipush (pc' := 3) X bp_15 dX1_slotOf_1 rfl ?_
  refine sk_iand (pc' := 4) X dX1_slotOf_3 rfl ?_
  refine sk_bipush (pc' := 6) X bp_10 dX1_slotOf_4 rfl ?_
  refine sk_imul (pc' := 7) X dX1_slotOf_6 rfl ?_
  exact sk_iret X rfl rfl dX1_slotOf_7
def rm_X1_fire : Room := { frames := 1, cells := 0, slots := 0, locals := 22 }
def o_X1_fire : (sk_N) → Option Value := fun r => none
def w_X1_fire (G : sk_G) (u0 : Nat → Nat) (a0_log : Nat) : (sk_N) → sk_B := fun r => [(nt_W G u0 a0_log r)]
set_option maxHeartbeats 4000000 in
set_option maxRecDepth 100000 in
theorem c_X1_fire (l : Launch) (G : sk_G) (u0 : Nat → Nat) (a0_log : Nat) (S0 : sk_N) (p1 : Int32) : sk_ctr l G yX1_fire cX1_fire 4 none rm_X1_fire [.ref (u0 0), .int p1] [(nt_W G u0 a0_log S0)] (m_X1_fire S0 p1) o_X1_fire (w_X1_fire G u0 a0_log) := by
  refine sk_entry (own := RX1) (by decide) rfl (lv0 := [some (.ref (u0 0)), some (.int p1), none, none]) rfl (Nat.le_of_ble_eq_true rfl) ?_
  intro Γ X
  have h70 : ∀ s70 : sk_N × Int32, sk_S Γ (sk_Φ Γ o_X1_fire (w_X1_fire G u0 a0_log)) 0 0 (m_X1_fire_70 p1 s70) [(nt_W G u0 a0_log s70.1)] [some (.ref (u0 0)), some (.int p1), some (.int s70.2), none] 70 [] := by
    intro s70
    unfold m_X1_fire_70
    refine sk_loop (bsf := fun s70 => [(nt_W G u0 a0_log s70.1)]) (lvf := fun s70 => [some (.ref (u0 0)), some (.int p1), some (.int s70.2), none]) ?_ sk_fuel s70
    intro k70 s70 ih70
    unfold m_X1_fire_70_step
    refine sk_iload_n (pc' := 71) X rfl dX1_fire_70 rfl ?_
    refine sk_aload_n (pc' := 72) X rfl dX1_fire_71 rfl ?_
    refine sk_getf (pc' := 75) X 0 0 0 in_RX1 rfl rfl rfl (Nat.le_of_ble_eq_true rfl) fl_RX1_47 rfl dX1_fire_72 rfl ?_
    refine sk_icmp_ge (tgt := 117) (pc' := 78) X dX1_fire_75 rfl rfl ?_ ?_
    · exact sk_vret X rfl rfl dX1_fire_117
    · refine sk_aload_n (pc' := 79) X rfl dX1_fire_78 rfl ?_
      refine sk_iload_n (pc' := 80) X rfl dX1_fire_79 rfl ?_
      refine sk_iload_n (pc' := 81) X rfl dX1_fire_80 rfl ?_
      refine sk_callV (bs2 := fun r81 => [(nt_W G u0 a0_log s70.1)]) (st := []) (st2 := fun r81 => [.int r81]) (As := [.int p1, .int s70.2]) (pc' := 84) X (c_X1_delayBetween l G u0 a0_log s70.1 p1 s70.2) lk_RX1_82 [0] rfl (by decide) (fun _ => rfl) rfl rfl rfl ⟨(Nat.le_of_ble_eq_true rfl), (Nat.le_of_ble_eq_true rfl)⟩ ⟨rfl, rfl⟩ ⟨(Nat.le_of_ble_eq_true rfl), (Nat.le_of_ble_eq_true rfl)⟩ rfl (Nat.le_of_ble_eq_true rfl) rfl dX1_fire_81 rfl (fun _ => rfl) (fun _ => rfl) (fun r81 => ?_)
      refine sk_istore_n (lv' := [some (.ref (u0 0)), some (.int p1), some (.int s70.2), some (.int r81)]) (pc' := 85) X (Nat.le_of_ble_eq_true rfl) rfl rfl dX1_fire_84 rfl ?_
      refine sk_iload_n (pc' := 86) X rfl dX1_fire_85 rfl ?_
      refine sk_if_le (tgt := 111) (pc' := 89) X dX1_fire_86 rfl rfl ?_ ?_
      · refine sk_iinc (lv' := [some (.ref (u0 0)), some (.int p1), some (.int (s70.2 + (1 : Int32))), some (.int r81)]) (pc' := 114) X rfl ic_1 (Nat.le_of_ble_eq_true rfl) rfl rfl dX1_fire_111 rfl ?_
        refine sk_goto (tgt := 70) X dX1_fire_114 rfl ?_
        exact (sk_kill 3 (ih70 (s70.1, (s70.2 + (1 : Int32)))))
      · refine sk_aload_n (pc' := 90) X rfl dX1_fire_89 rfl ?_
        refine sk_getf (pc' := 93) X 0 0 11 in_RX1 rfl rfl rfl (Nat.le_of_ble_eq_true rfl) fl_RX1_41 rfl dX1_fire_90 rfl ?_
        refine sk_aload_n (pc' := 94) X rfl dX1_fire_93 rfl ?_
        refine sk_getf (pc' := 97) X 0 0 3 in_RX1 rfl rfl rfl (Nat.le_of_ble_eq_true rfl) fl_RX1_56 rfl dX1_fire_94 rfl ?_
        refine sk_iload_n (pc' := 98) X rfl dX1_fire_97 rfl ?_
        refine sk_iadd (pc' := 99) X dX1_fire_98 rfl ?_
        refine sk_callS (bs2 := fun r99 => [(nt_W G u0 a0_log s70.1)]) (st := [.ref (u0 7)]) (st2 := fun r99 => [.int r99, .ref (u0 7)]) (As := [.int ((s70.1 0 3) + r81)]) (pc' := 102) X (c_X1_slotOf l G ((s70.1 0 3) + r81)) lk_RX1_124 [] rfl (by decide) (fun _ => rfl) ⟨(Nat.le_of_ble_eq_true rfl), (Nat.le_of_ble_eq_true rfl)⟩ ⟨rfl, rfl⟩ ⟨(Nat.le_of_ble_eq_true rfl), (Nat.le_of_ble_eq_true rfl)⟩ rfl (Nat.le_of_ble_eq_true rfl) rfl dX1_fire_99 rfl (fun _ => rfl) (fun _ => rfl) (fun r99 => ?_)
        refine sk_iload_n (pc' := 103) X rfl dX1_fire_102 rfl ?_
        refine sk_iadd (pc' := 104) X dX1_fire_103 rfl ?_
        refine sk_dup2 (pc' := 105) X rfl rfl dX1_fire_104 rfl ?_
        refine sk_iald (pc' := 106) X 0 7 rfl rfl dX1_fire_105 rfl ?_
        refine sk_iconst (pc' := 107) X ic_1 dX1_fire_106 rfl ?_
        refine sk_iload_n (pc' := 108) X rfl dX1_fire_107 rfl ?_
        refine sk_ishl (pc' := 109) X dX1_fire_108 rfl ?_
        refine sk_ior (pc' := 110) X dX1_fire_109 rfl ?_
        refine sk_iast (bs' := [(nt_W G u0 a0_log (sk_up s70.1 7 ((r99 + s70.2)).toNatClampNeg (((s70.1 7) ((r99 + s70.2)).toNatClampNeg) ||| (sk_shl (1 : Int32) p1))))]) (pc' := 111) X 0 7 rfl rfl (sk_st 0 (nt_st_7 ..) rfl) dX1_fire_110 rfl ?_
        refine sk_lt (bsf := fun z => [(nt_W G u0 a0_log z)]) (lvf := fun _ => [some (.ref (u0 0)), some (.int p1), some (.int s70.2), some (.int r81)]) (stf := fun _ => []) (fun N110 => ?_)
        refine sk_iinc (lv' := [some (.ref (u0 0)), some (.int p1), some (.int (s70.2 + (1 : Int32))), some (.int r81)]) (pc' := 114) X rfl ic_1 (Nat.le_of_ble_eq_true rfl) rfl rfl dX1_fire_111 rfl ?_
        refine sk_goto (tgt := 70) X dX1_fire_114 rfl ?_
        exact (sk_kill 3 (ih70 (N110, (s70.2 + (1 : Int32)))))
  unfold m_X1_fire
  refine sk_aload_n (pc' := 1) X rfl dX1_fire_0 rfl ?_
  refine sk_iload_n (pc' := 2) X rfl dX1_fire_1 rfl ?_
  refine sk_callV (bs2 := fun r2 => [(nt_W G u0 a0_log S0)]) (st := []) (st2 := fun r2 => [.int r2]) (As := [.int p1]) (pc' := 5) X (c_X1_hasFired l G u0 a0_log S0 p1) lk_RX1_130 [0] rfl (by decide) (fun _ => rfl) rfl rfl rfl ⟨(Nat.le_of_ble_eq_true rfl), (Nat.le_of_ble_eq_true rfl)⟩ ⟨rfl, rfl⟩ ⟨(Nat.le_of_ble_eq_true rfl), (Nat.le_of_ble_eq_true rfl)⟩ rfl (Nat.le_of_ble_eq_true rfl) rfl dX1_fire_2 rfl (fun _ => rfl) (fun _ => rfl) (fun r2 => ?_)
  refine sk_if_ne (tgt := 20) (pc' := 8) X dX1_fire_5 rfl rfl ?_ ?_
  · exact sk_vret X rfl rfl dX1_fire_20
  · refine sk_aload_n (pc' := 9) X rfl dX1_fire_8 rfl ?_
    refine sk_getf (pc' := 12) X 0 0 13 in_RX1 rfl rfl rfl (Nat.le_of_ble_eq_true rfl) fl_RX1_96 rfl dX1_fire_9 rfl ?_
    refine sk_aload_n (pc' := 13) X rfl dX1_fire_12 rfl ?_
    refine sk_getf (pc' := 16) X 0 0 12 in_RX1 rfl rfl rfl (Nat.le_of_ble_eq_true rfl) fl_RX1_44 rfl dX1_fire_13 rfl ?_
    refine sk_alen (v := 10) (pc' := 17) X 0 8 0 rfl rfl rfl rfl dX1_fire_16 rfl ?_
    refine sk_icmp_lt (tgt := 21) (pc' := 20) X dX1_fire_17 rfl rfl ?_ ?_
    · refine sk_aload_n (pc' := 22) X rfl dX1_fire_21 rfl ?_
      refine sk_dup (pc' := 23) X rfl dX1_fire_22 rfl ?_
      refine sk_getf (pc' := 26) X 0 0 4 in_RX1 rfl rfl rfl (Nat.le_of_ble_eq_true rfl) fl_RX1_59 rfl dX1_fire_23 rfl ?_
      refine sk_iconst (pc' := 27) X ic_1 dX1_fire_26 rfl ?_
      refine sk_iload_n (pc' := 28) X rfl dX1_fire_27 rfl ?_
      refine sk_ishl (pc' := 29) X dX1_fire_28 rfl ?_
      refine sk_ior (pc' := 30) X dX1_fire_29 rfl ?_
      refine sk_putf (bs' := [(nt_W G u0 a0_log (sk_up S0 0 4 ((S0 0 4) ||| (sk_shl (1 : Int32) p1))))]) (pc' := 33) X 0 0 4 in_RX1 tyX1 tyX1_ok nmX1 rfl rfl rfl (Nat.le_of_ble_eq_true rfl) fl_RX1_59 rfl (tyX1_ok 4 (Nat.le_of_ble_eq_true rfl)) rfl rfl (Nat.le_of_ble_eq_true rfl) (sk_st 0 (nt_pf_4 ..) rfl) dX1_fire_30 rfl ?_
      refine sk_lt (bsf := fun z => [(nt_W G u0 a0_log z)]) (lvf := fun _ => [some (.ref (u0 0)), some (.int p1), none, none]) (stf := fun _ => []) (fun N30 => ?_)
      refine sk_aload_n (pc' := 34) X rfl dX1_fire_33 rfl ?_
      refine sk_getf (pc' := 37) X 0 0 12 in_RX1 rfl rfl rfl (Nat.le_of_ble_eq_true rfl) fl_RX1_44 rfl dX1_fire_34 rfl ?_
      refine sk_aload_n (pc' := 38) X rfl dX1_fire_37 rfl ?_
      refine sk_getf (pc' := 41) X 0 0 13 in_RX1 rfl rfl rfl (Nat.le_of_ble_eq_true rfl) fl_RX1_96 rfl dX1_fire_38 rfl ?_
      refine sk_iload_n (pc' := 42) X rfl dX1_fire_41 rfl ?_
      refine sk_iast (bs' := [(nt_W G u0 a0_log (sk_up N30 8 ((N30 0 13)).toNatClampNeg p1))]) (pc' := 43) X 0 8 rfl rfl (sk_st 0 (nt_st_8 ..) rfl) dX1_fire_42 rfl ?_
      refine sk_lt (bsf := fun z => [(nt_W G u0 a0_log z)]) (lvf := fun _ => [some (.ref (u0 0)), some (.int p1), none, none]) (stf := fun _ => []) (fun N42 => ?_)
      refine sk_aload_n (pc' := 44) X rfl dX1_fire_43 rfl ?_
      refine sk_dup (pc' := 45) X rfl dX1_fire_44 rfl ?_
      refine sk_getf (pc' := 48) X 0 0 13 in_RX1 rfl rfl rfl (Nat.le_of_ble_eq_true rfl) fl_RX1_96 rfl dX1_fire_45 rfl ?_
      refine sk_iconst (pc' := 49) X ic_1 dX1_fire_48 rfl ?_
      refine sk_iadd (pc' := 50) X dX1_fire_49 rfl ?_
      refine sk_putf (bs' := [(nt_W G u0 a0_log (sk_up N42 0 13 ((N42 0 13) + (1 : Int32))))]) (pc' := 53) X 0 0 13 in_RX1 tyX1 tyX1_ok nmX1 rfl rfl rfl (Nat.le_of_ble_eq_true rfl) fl_RX1_96 rfl (tyX1_ok 13 (Nat.le_of_ble_eq_true rfl)) rfl rfl (Nat.le_of_ble_eq_true rfl) (sk_st 0 (nt_pf_13 ..) rfl) dX1_fire_50 rfl ?_
      refine sk_lt (bsf := fun z => [(nt_W G u0 a0_log z)]) (lvf := fun _ => [some (.ref (u0 0)), some (.int p1), none, none]) (stf := fun _ => []) (fun N50 => ?_)
      refine sk_aload_n (pc' := 54) X rfl dX1_fire_53 rfl ?_
      refine sk_iload_n (pc' := 55) X rfl dX1_fire_54 rfl ?_
      refine sk_callV (bs2 := fun r55 => [(nt_W G u0 a0_log N50)]) (st := []) (st2 := fun r55 => [.int r55]) (As := [.int p1]) (pc' := 58) X (c_X1_isGood l G u0 a0_log N50 p1) lk_RX1_66 [0] rfl (by decide) (fun _ => rfl) rfl rfl rfl ⟨(Nat.le_of_ble_eq_true rfl), (Nat.le_of_ble_eq_true rfl)⟩ ⟨rfl, rfl⟩ ⟨(Nat.le_of_ble_eq_true rfl), (Nat.le_of_ble_eq_true rfl)⟩ rfl (Nat.le_of_ble_eq_true rfl) rfl dX1_fire_55 rfl (fun _ => rfl) (fun _ => rfl) (fun r55 => ?_)
      refine sk_if_eq (tgt := 68) (pc' := 61) X dX1_fire_58 rfl rfl ?_ ?_
      · refine sk_iconst (pc' := 69) X ic_0 dX1_fire_68 rfl ?_
        refine sk_istore_n (lv' := [some (.ref (u0 0)), some (.int p1), some (.int (0 : Int32)), none]) (pc' := 70) X (Nat.le_of_ble_eq_true rfl) rfl rfl dX1_fire_69 rfl ?_
        exact (h70 (N50, (0 : Int32)))
      · refine sk_aload_n (pc' := 62) X rfl dX1_fire_61 rfl ?_
        refine sk_getf (pc' := 65) X 0 0 6 in_RX1 rfl rfl rfl (Nat.le_of_ble_eq_true rfl) fl_RX1_26 rfl dX1_fire_62 rfl ?_
        refine sk_iload_n (pc' := 66) X rfl dX1_fire_65 rfl ?_
        refine sk_iconst (pc' := 67) X ic_0 dX1_fire_66 rfl ?_
        refine sk_iast (bs' := [(nt_W G u0 a0_log (sk_up N50 2 (p1).toNatClampNeg (0 : Int32)))]) (pc' := 68) X 0 2 rfl rfl (sk_st 0 (nt_st_2 ..) rfl) dX1_fire_67 rfl ?_
        refine sk_lt (bsf := fun z => [(nt_W G u0 a0_log z)]) (lvf := fun _ => [some (.ref (u0 0)), some (.int p1), none, none]) (stf := fun _ => []) (fun N67 => ?_)
        refine sk_iconst (pc' := 69) X ic_0 dX1_fire_68 rfl ?_
        refine sk_istore_n (lv' := [some (.ref (u0 0)), some (.int p1), some (.int (0 : Int32)), none]) (pc' := 70) X (Nat.le_of_ble_eq_true rfl) rfl rfl dX1_fire_69 rfl ?_
        exact (h70 (N67, (0 : Int32)))
    · exact sk_vret X rfl rfl dX1_fire_20
def rm_X1_fireRipeClocks : Room := { frames := 2, cells := 0, slots := 0, locals := 45 }
def o_X1_fireRipeClocks : (sk_N) → Option Value := fun r => none
def w_X1_fireRipeClocks (G : sk_G) (u0 : Nat → Nat) (a0_log : Nat) : (sk_N) → sk_B := fun r => [(nt_W G u0 a0_log r)]
set_option maxHeartbeats 4000000 in
set_option maxRecDepth 100000 in
theorem c_X1_fireRipeClocks (l : Launch) (G : sk_G) (u0 : Nat → Nat) (a0_log : Nat) (S0 : sk_N) : sk_ctr l G yX1_fireRipeClocks cX1_fireRipeClocks 2 none rm_X1_fireRipeClocks [.ref (u0 0)] [(nt_W G u0 a0_log S0)] (m_X1_fireRipeClocks S0) o_X1_fireRipeClocks (w_X1_fireRipeClocks G u0 a0_log) := by
  refine sk_entry (own := RX1) (by decide) rfl (lv0 := [some (.ref (u0 0)), none]) rfl (Nat.le_of_ble_eq_true rfl) ?_
  intro Γ X
  have h2 : ∀ s2 : sk_N × Int32, sk_S Γ (sk_Φ Γ o_X1_fireRipeClocks (w_X1_fireRipeClocks G u0 a0_log)) 0 0 (m_X1_fireRipeClocks_2 s2) [(nt_W G u0 a0_log s2.1)] [some (.ref (u0 0)), some (.int s2.2)] 2 [] := by
    intro s2
    unfold m_X1_fireRipeClocks_2
    refine sk_loop (bsf := fun s2 => [(nt_W G u0 a0_log s2.1)]) (lvf := fun s2 => [some (.ref (u0 0)), some (.int s2.2)]) ?_ sk_fuel s2
    intro k2 s2 ih2
    unfold m_X1_fireRipeClocks_2_step
    refine sk_iload_n (pc' := 3) X rfl dX1_fireRipeClocks_2 rfl ?_
    refine sk_aload_n (pc' := 4) X rfl dX1_fireRipeClocks_3 rfl ?_
    refine sk_getf (pc' := 7) X 0 0 0 in_RX1 rfl rfl rfl (Nat.le_of_ble_eq_true rfl) fl_RX1_47 rfl dX1_fireRipeClocks_4 rfl ?_
    refine sk_icmp_ge (tgt := 42) (pc' := 10) X dX1_fireRipeClocks_7 rfl rfl ?_ ?_
    · exact sk_vret X rfl rfl dX1_fireRipeClocks_42
    · refine sk_aload_n (pc' := 11) X rfl dX1_fireRipeClocks_10 rfl ?_
      refine sk_iload_n (pc' := 12) X rfl dX1_fireRipeClocks_11 rfl ?_
      refine sk_callV (bs2 := fun r12 => [(nt_W G u0 a0_log s2.1)]) (st := []) (st2 := fun r12 => [.int r12]) (As := [.int s2.2]) (pc' := 15) X (c_X1_isGood l G u0 a0_log s2.1 s2.2) lk_RX1_66 [0] rfl (by decide) (fun _ => rfl) rfl rfl rfl ⟨(Nat.le_of_ble_eq_true rfl), (Nat.le_of_ble_eq_true rfl)⟩ ⟨rfl, rfl⟩ ⟨(Nat.le_of_ble_eq_true rfl), (Nat.le_of_ble_eq_true rfl)⟩ rfl (Nat.le_of_ble_eq_true rfl) rfl dX1_fireRipeClocks_12 rfl (fun _ => rfl) (fun _ => rfl) (fun r12 => ?_)
      refine sk_if_eq (tgt := 36) (pc' := 18) X dX1_fireRipeClocks_15 rfl rfl ?_ ?_
      · refine sk_iinc (lv' := [some (.ref (u0 0)), some (.int (s2.2 + (1 : Int32)))]) (pc' := 39) X rfl ic_1 (Nat.le_of_ble_eq_true rfl) rfl rfl dX1_fireRipeClocks_36 rfl ?_
        refine sk_goto (tgt := 2) X dX1_fireRipeClocks_39 rfl ?_
        exact (ih2 (s2.1, (s2.2 + (1 : Int32))))
      · refine sk_aload_n (pc' := 19) X rfl dX1_fireRipeClocks_18 rfl ?_
        refine sk_getf (pc' := 22) X 0 0 6 in_RX1 rfl rfl rfl (Nat.le_of_ble_eq_true rfl) fl_RX1_26 rfl dX1_fireRipeClocks_19 rfl ?_
        refine sk_iload_n (pc' := 23) X rfl dX1_fireRipeClocks_22 rfl ?_
        refine sk_iald (pc' := 24) X 0 2 rfl rfl dX1_fireRipeClocks_23 rfl ?_
        refine sk_aload_n (pc' := 25) X rfl dX1_fireRipeClocks_24 rfl ?_
        refine sk_getf (pc' := 28) X 0 0 1 in_RX1 rfl rfl rfl (Nat.le_of_ble_eq_true rfl) fl_RX1_9 rfl dX1_fireRipeClocks_25 rfl ?_
        refine sk_icmp_lt (tgt := 36) (pc' := 31) X dX1_fireRipeClocks_28 rfl rfl ?_ ?_
        · refine sk_iinc (lv' := [some (.ref (u0 0)), some (.int (s2.2 + (1 : Int32)))]) (pc' := 39) X rfl ic_1 (Nat.le_of_ble_eq_true rfl) rfl rfl dX1_fireRipeClocks_36 rfl ?_
          refine sk_goto (tgt := 2) X dX1_fireRipeClocks_39 rfl ?_
          exact (ih2 (s2.1, (s2.2 + (1 : Int32))))
        · refine sk_aload_n (pc' := 32) X rfl dX1_fireRipeClocks_31 rfl ?_
          refine sk_iload_n (pc' := 33) X rfl dX1_fireRipeClocks_32 rfl ?_
          refine sk_callV (bs2 := fun r33 => [(nt_W G u0 a0_log r33)]) (st := []) (st2 := fun r33 => []) (As := [.int s2.2]) (pc' := 36) X (c_X1_fire l G u0 a0_log s2.1 s2.2) lk_RX1_120 [0] rfl (by decide) (fun _ => rfl) rfl rfl rfl ⟨(Nat.le_of_ble_eq_true rfl), (Nat.le_of_ble_eq_true rfl)⟩ ⟨rfl, rfl⟩ ⟨(Nat.le_of_ble_eq_true rfl), (Nat.le_of_ble_eq_true rfl)⟩ rfl (Nat.le_of_ble_eq_true rfl) rfl dX1_fireRipeClocks_33 rfl (fun _ => rfl) (fun _ => rfl) (fun r33 => ?_)
          refine sk_iinc (lv' := [some (.ref (u0 0)), some (.int (s2.2 + (1 : Int32)))]) (pc' := 39) X rfl ic_1 (Nat.le_of_ble_eq_true rfl) rfl rfl dX1_fireRipeClocks_36 rfl ?_
          refine sk_goto (tgt := 2) X dX1_fireRipeClocks_39 rfl ?_
          exact (ih2 (r33, (s2.2 + (1 : Int32))))
  unfold m_X1_fireRipeClocks
  refine sk_iconst (pc' := 1) X ic_0 dX1_fireRipeClocks_0 rfl ?_
  refine sk_istore_n (lv' := [some (.ref (u0 0)), some (.int (0 : Int32))]) (pc' := 2) X (Nat.le_of_ble_eq_true rfl) rfl rfl dX1_fireRipeClocks_1 rfl ?_
  exact (h2 (S0, (0 : Int32)))
def rm_X1_fireBlinkers : Room := { frames := 2, cells := 0, slots := 0, locals := 45 }
def o_X1_fireBlinkers : (sk_N) → Option Value := fun r => none
def w_X1_fireBlinkers (G : sk_G) (u0 : Nat → Nat) (a0_log : Nat) : (sk_N) → sk_B := fun r => [(nt_W G u0 a0_log r)]
set_option maxHeartbeats 4000000 in
set_option maxRecDepth 100000 in
theorem c_X1_fireBlinkers (l : Launch) (G : sk_G) (u0 : Nat → Nat) (a0_log : Nat) (S0 : sk_N) : sk_ctr l G yX1_fireBlinkers cX1_fireBlinkers 3 none rm_X1_fireBlinkers [.ref (u0 0)] [(nt_W G u0 a0_log S0)] (m_X1_fireBlinkers S0) o_X1_fireBlinkers (w_X1_fireBlinkers G u0 a0_log) := by
  refine sk_entry (own := RX1) (by decide) rfl (lv0 := [some (.ref (u0 0)), none, none]) rfl (Nat.le_of_ble_eq_true rfl) ?_
  intro Γ X
  have h2 : ∀ s2 : sk_N × Int32, sk_S Γ (sk_Φ Γ o_X1_fireBlinkers (w_X1_fireBlinkers G u0 a0_log)) 0 0 (m_X1_fireBlinkers_2 s2) [(nt_W G u0 a0_log s2.1)] [some (.ref (u0 0)), some (.int s2.2), none] 2 [] := by
    intro s2
    unfold m_X1_fireBlinkers_2
    refine sk_loop (bsf := fun s2 => [(nt_W G u0 a0_log s2.1)]) (lvf := fun s2 => [some (.ref (u0 0)), some (.int s2.2), none]) ?_ sk_fuel s2
    intro k2 s2 ih2
    unfold m_X1_fireBlinkers_2_step
    refine sk_iload_n (pc' := 3) X rfl dX1_fireBlinkers_2 rfl ?_
    refine sk_aload_n (pc' := 4) X rfl dX1_fireBlinkers_3 rfl ?_
    refine sk_getf (pc' := 7) X 0 0 0 in_RX1 rfl rfl rfl (Nat.le_of_ble_eq_true rfl) fl_RX1_47 rfl dX1_fireBlinkers_4 rfl ?_
    refine sk_icmp_ge (tgt := 48) (pc' := 10) X dX1_fireBlinkers_7 rfl rfl ?_ ?_
    · exact sk_vret X rfl rfl dX1_fireBlinkers_48
    · refine sk_aload_n (pc' := 11) X rfl dX1_fireBlinkers_10 rfl ?_
      refine sk_getf (pc' := 14) X 0 0 8 in_RX1 rfl rfl rfl (Nat.le_of_ble_eq_true rfl) fl_RX1_32 rfl dX1_fireBlinkers_11 rfl ?_
      refine sk_iload_n (pc' := 15) X rfl dX1_fireBlinkers_14 rfl ?_
      refine sk_iald (pc' := 16) X 0 4 rfl rfl dX1_fireBlinkers_15 rfl ?_
      refine sk_istore_n (lv' := [some (.ref (u0 0)), some (.int s2.2), some (.int ((s2.1 4) (s2.2).toNatClampNeg))]) (pc' := 17) X (Nat.le_of_ble_eq_true rfl) rfl rfl dX1_fireBlinkers_16 rfl ?_
      refine sk_lt (bsf := fun _ => [(nt_W G u0 a0_log s2.1)]) (lvf := fun z => [some (.ref (u0 0)), some (.int s2.2), some (.int z)]) (stf := fun _ => []) (fun x16 => ?_)
      refine sk_iload_n (pc' := 18) X rfl dX1_fireBlinkers_17 rfl ?_
      refine sk_if_eq (tgt := 42) (pc' := 21) X dX1_fireBlinkers_18 rfl rfl ?_ ?_
      · refine sk_iinc (lv' := [some (.ref (u0 0)), some (.int (s2.2 + (1 : Int32))), some (.int x16)]) (pc' := 45) X rfl ic_1 (Nat.le_of_ble_eq_true rfl) rfl rfl dX1_fireBlinkers_42 rfl ?_
        refine sk_goto (tgt := 2) X dX1_fireBlinkers_45 rfl ?_
        exact (sk_kill 2 (ih2 (s2.1, (s2.2 + (1 : Int32)))))
      · refine sk_aload_n (pc' := 22) X rfl dX1_fireBlinkers_21 rfl ?_
        refine sk_getf (pc' := 25) X 0 0 3 in_RX1 rfl rfl rfl (Nat.le_of_ble_eq_true rfl) fl_RX1_56 rfl dX1_fireBlinkers_22 rfl ?_
        refine sk_aload_n (pc' := 26) X rfl dX1_fireBlinkers_25 rfl ?_
        refine sk_getf (pc' := 29) X 0 0 9 in_RX1 rfl rfl rfl (Nat.le_of_ble_eq_true rfl) fl_RX1_35 rfl dX1_fireBlinkers_26 rfl ?_
        refine sk_iload_n (pc' := 30) X rfl dX1_fireBlinkers_29 rfl ?_
        refine sk_iald (pc' := 31) X 0 5 rfl rfl dX1_fireBlinkers_30 rfl ?_
        refine sk_iadd (pc' := 32) X dX1_fireBlinkers_31 rfl ?_
        refine sk_iload_n (pc' := 33) X rfl dX1_fireBlinkers_32 rfl ?_
        refine sk_irem (pc' := 34) X dX1_fireBlinkers_33 rfl ?_
        refine sk_if_ne (tgt := 42) (pc' := 37) X dX1_fireBlinkers_34 rfl rfl ?_ ?_
        · refine sk_iinc (lv' := [some (.ref (u0 0)), some (.int (s2.2 + (1 : Int32))), some (.int x16)]) (pc' := 45) X rfl ic_1 (Nat.le_of_ble_eq_true rfl) rfl rfl dX1_fireBlinkers_42 rfl ?_
          refine sk_goto (tgt := 2) X dX1_fireBlinkers_45 rfl ?_
          exact (sk_kill 2 (ih2 (s2.1, (s2.2 + (1 : Int32)))))
        · refine sk_aload_n (pc' := 38) X rfl dX1_fireBlinkers_37 rfl ?_
          refine sk_iload_n (pc' := 39) X rfl dX1_fireBlinkers_38 rfl ?_
          refine sk_callV (bs2 := fun r39 => [(nt_W G u0 a0_log r39)]) (st := []) (st2 := fun r39 => []) (As := [.int s2.2]) (pc' := 42) X (c_X1_fire l G u0 a0_log s2.1 s2.2) lk_RX1_120 [0] rfl (by decide) (fun _ => rfl) rfl rfl rfl ⟨(Nat.le_of_ble_eq_true rfl), (Nat.le_of_ble_eq_true rfl)⟩ ⟨rfl, rfl⟩ ⟨(Nat.le_of_ble_eq_true rfl), (Nat.le_of_ble_eq_true rfl)⟩ rfl (Nat.le_of_ble_eq_true rfl) rfl dX1_fireBlinkers_39 rfl (fun _ => rfl) (fun _ => rfl) (fun r39 => ?_)
          refine sk_iinc (lv' := [some (.ref (u0 0)), some (.int (s2.2 + (1 : Int32))), some (.int x16)]) (pc' := 45) X rfl ic_1 (Nat.le_of_ble_eq_true rfl) rfl rfl dX1_fireBlinkers_42 rfl ?_
          refine sk_goto (tgt := 2) X dX1_fireBlinkers_45 rfl ?_
          exact (sk_kill 2 (ih2 (r39, (s2.2 + (1 : Int32)))))
  unfold m_X1_fireBlinkers
  refine sk_iconst (pc' := 1) X ic_0 dX1_fireBlinkers_0 rfl ?_
  refine sk_istore_n (lv' := [some (.ref (u0 0)), some (.int (0 : Int32)), none]) (pc' := 2) X (Nat.le_of_ble_eq_true rfl) rfl rfl dX1_fireBlinkers_1 rfl ?_
  exact (h2 (S0, (0 : Int32)))
def rm_X1_movedBy : Room := { frames := 0, cells := 0, slots := 0, locals := 0 }
def o_X1_movedBy : (Int32) → Option Value := fun r => some (.int r)
def w_X1_movedBy (G : sk_G) (u0 : Nat → Nat) (a0_log : Nat) (S0 : sk_N) : (Int32) → sk_B := fun r => [(nt_W G u0 a0_log S0)]
set_option maxHeartbeats 4000000 in
set_option maxRecDepth 100000 in
theorem c_X1_movedBy (l : Launch) (G : sk_G) (u0 : Nat → Nat) (a0_log : Nat) (S0 : sk_N) (p1 : Int32) : sk_ctr l G yX1_movedBy cX1_movedBy 4 (some .int) rm_X1_movedBy [.ref (u0 0), .int p1] [(nt_W G u0 a0_log S0)] (m_X1_movedBy S0 p1) o_X1_movedBy (w_X1_movedBy G u0 a0_log S0) := by
  refine sk_entry (own := RX1) (by decide) rfl (lv0 := [some (.ref (u0 0)), some (.int p1), none, none]) rfl (Nat.le_of_ble_eq_true rfl) ?_
  intro Γ X
  unfold m_X1_movedBy
  refine sk_aload_n (pc' := 1) X rfl dX1_movedBy_0 rfl ?_
  refine sk_getf (pc' := 4) X 0 0 2 in_RX1 rfl rfl rfl (Nat.le_of_ble_eq_true rfl) fl_RX1_15 rfl dX1_movedBy_1 rfl ?_
  refine sk_iconst (pc' := 5) X ic_1 dX1_movedBy_4 rfl ?_
  refine sk_iald (pc' := 6) X 0 1 rfl rfl dX1_movedBy_5 rfl ?_
  refine sk_istore_n (lv' := [some (.ref (u0 0)), some (.int p1), some (.int ((S0 1) ((1 : Int32)).toNatClampNeg)), none]) (pc' := 7) X (Nat.le_of_ble_eq_true rfl) rfl rfl dX1_movedBy_6 rfl ?_
  refine sk_lt (bsf := fun _ => [(nt_W G u0 a0_log S0)]) (lvf := fun z => [some (.ref (u0 0)), some (.int p1), some (.int z), none]) (stf := fun _ => []) (fun x6 => ?_)
  refine sk_bipush (pc' := 9) X bp_16 dX1_movedBy_7 rfl ?_
  refine sk_aload_n (pc' := 10) X rfl dX1_movedBy_9 rfl ?_
  refine sk_getf (pc' := 13) X 0 0 1 in_RX1 rfl rfl rfl (Nat.le_of_ble_eq_true rfl) fl_RX1_9 rfl dX1_movedBy_10 rfl ?_
  refine sk_imul (pc' := 14) X dX1_movedBy_13 rfl ?_
  refine sk_istore_n (lv' := [some (.ref (u0 0)), some (.int p1), some (.int x6), some (.int ((16 : Int32) * (S0 0 1)))]) (pc' := 15) X (Nat.le_of_ble_eq_true rfl) rfl rfl dX1_movedBy_14 rfl ?_
  refine sk_lt (bsf := fun _ => [(nt_W G u0 a0_log S0)]) (lvf := fun z => [some (.ref (u0 0)), some (.int p1), some (.int x6), some (.int z)]) (stf := fun _ => []) (fun x14 => ?_)
  refine sk_aload_n (pc' := 16) X rfl dX1_movedBy_15 rfl ?_
  refine sk_getf (pc' := 19) X 0 0 2 in_RX1 rfl rfl rfl (Nat.le_of_ble_eq_true rfl) fl_RX1_15 rfl dX1_movedBy_16 rfl ?_
  refine sk_iconst (pc' := 20) X ic_2 dX1_movedBy_19 rfl ?_
  refine sk_iald (pc' := 21) X 0 1 rfl rfl dX1_movedBy_20 rfl ?_
  refine sk_ite (fun hs21_0 => ?_) (fun hs21_0 => ?_)
  · refine sk_lookup (tgt := 48) X dX1_movedBy_21 rfl (by rw [hs21_0]; try rfl) rfl ?_
    refine sk_iload_n (pc' := 49) X rfl dX1_movedBy_48 rfl ?_
    refine sk_iload_n (pc' := 50) X rfl dX1_movedBy_49 rfl ?_
    refine sk_iload_n (pc' := 51) X rfl dX1_movedBy_50 rfl ?_
    refine sk_imul (pc' := 52) X dX1_movedBy_51 rfl ?_
    refine sk_bipush (pc' := 54) X bp_16 dX1_movedBy_52 rfl ?_
    refine sk_idiv (pc' := 55) X dX1_movedBy_54 rfl ?_
    refine sk_iadd (pc' := 56) X dX1_movedBy_55 rfl ?_
    exact sk_iret X rfl rfl dX1_movedBy_56
  ·
    refine sk_ite (fun hs21_1 => ?_) (fun hs21_1 => ?_)
    · refine sk_lookup (tgt := 57) X dX1_movedBy_21 rfl (by rw [hs21_1]; try rfl) rfl ?_
      refine sk_iload_n (pc' := 58) X rfl dX1_movedBy_57 rfl ?_
      refine sk_iload_n (pc' := 59) X rfl dX1_movedBy_58 rfl ?_
      refine sk_iadd (pc' := 60) X dX1_movedBy_59 rfl ?_
      exact sk_iret X rfl rfl dX1_movedBy_60
    ·
      refine sk_lookup (tgt := 61) X dX1_movedBy_21 rfl ((lv_osw hs21_0 (by decide)).trans ((lv_osw hs21_1 (by decide)).trans (rfl))) rfl ?_
      refine sk_iload_n (pc' := 62) X rfl dX1_movedBy_61 rfl ?_
      refine sk_if_ne (tgt := 69) (pc' := 65) X dX1_movedBy_62 rfl rfl ?_ ?_
      · refine sk_iload_n (pc' := 70) X rfl dX1_movedBy_69 rfl ?_
        refine sk_iload_n (pc' := 71) X rfl dX1_movedBy_70 rfl ?_
        refine sk_iload_n (pc' := 72) X rfl dX1_movedBy_71 rfl ?_
        refine sk_imul (pc' := 73) X dX1_movedBy_72 rfl ?_
        refine sk_iload_n (pc' := 74) X rfl dX1_movedBy_73 rfl ?_
        refine sk_imul (pc' := 75) X dX1_movedBy_74 rfl ?_
        refine sk_iload_n (pc' := 76) X rfl dX1_movedBy_75 rfl ?_
        refine sk_idiv (pc' := 77) X dX1_movedBy_76 rfl ?_
        refine sk_iadd (pc' := 78) X dX1_movedBy_77 rfl ?_
        exact sk_iret X rfl rfl dX1_movedBy_78
      · refine sk_iload_n (pc' := 66) X rfl dX1_movedBy_65 rfl ?_
        refine sk_goto (tgt := 78) X dX1_movedBy_66 rfl ?_
        exact sk_iret X rfl rfl dX1_movedBy_78
def rm_X1_reach : Room := { frames := 2, cells := 0, slots := 0, locals := 45 }
def o_X1_reach : (sk_N) → Option Value := fun r => none
def w_X1_reach (G : sk_G) (u0 : Nat → Nat) (a0_log : Nat) : (sk_N) → sk_B := fun r => [(nt_W G u0 a0_log r)]
set_option maxHeartbeats 4000000 in
set_option maxRecDepth 100000 in
theorem c_X1_reach (l : Launch) (G : sk_G) (u0 : Nat → Nat) (a0_log : Nat) (S0 : sk_N) (p1 : Int32) : sk_ctr l G yX1_reach cX1_reach 2 none rm_X1_reach [.ref (u0 0), .int p1] [(nt_W G u0 a0_log S0)] (m_X1_reach S0 p1) o_X1_reach (w_X1_reach G u0 a0_log) := by
  refine sk_entry (own := RX1) (by decide) rfl (lv0 := [some (.ref (u0 0)), some (.int p1)]) rfl (Nat.le_of_ble_eq_true rfl) ?_
  intro Γ X
  unfold m_X1_reach
  refine sk_aload_n (pc' := 1) X rfl dX1_reach_0 rfl ?_
  refine sk_iload_n (pc' := 2) X rfl dX1_reach_1 rfl ?_
  refine sk_callV (bs2 := fun r2 => [(nt_W G u0 a0_log S0)]) (st := []) (st2 := fun r2 => [.int r2]) (As := [.int p1]) (pc' := 5) X (c_X1_isGood l G u0 a0_log S0 p1) lk_RX1_66 [0] rfl (by decide) (fun _ => rfl) rfl rfl rfl ⟨(Nat.le_of_ble_eq_true rfl), (Nat.le_of_ble_eq_true rfl)⟩ ⟨rfl, rfl⟩ ⟨(Nat.le_of_ble_eq_true rfl), (Nat.le_of_ble_eq_true rfl)⟩ rfl (Nat.le_of_ble_eq_true rfl) rfl dX1_reach_2 rfl (fun _ => rfl) (fun _ => rfl) (fun r2 => ?_)
  refine sk_if_eq (tgt := 31) (pc' := 8) X dX1_reach_5 rfl rfl ?_ ?_
  · exact sk_vret X rfl rfl dX1_reach_31
  · refine sk_aload_n (pc' := 9) X rfl dX1_reach_8 rfl ?_
    refine sk_iload_n (pc' := 10) X rfl dX1_reach_9 rfl ?_
    refine sk_callV (bs2 := fun r10 => [(nt_W G u0 a0_log S0)]) (st := []) (st2 := fun r10 => [.int r10]) (As := [.int p1]) (pc' := 13) X (c_X1_hasFired l G u0 a0_log S0 p1) lk_RX1_130 [0] rfl (by decide) (fun _ => rfl) rfl rfl rfl ⟨(Nat.le_of_ble_eq_true rfl), (Nat.le_of_ble_eq_true rfl)⟩ ⟨rfl, rfl⟩ ⟨(Nat.le_of_ble_eq_true rfl), (Nat.le_of_ble_eq_true rfl)⟩ rfl (Nat.le_of_ble_eq_true rfl) rfl dX1_reach_10 rfl (fun _ => rfl) (fun _ => rfl) (fun r10 => ?_)
    refine sk_if_ne (tgt := 31) (pc' := 16) X dX1_reach_13 rfl rfl ?_ ?_
    · exact sk_vret X rfl rfl dX1_reach_31
    · refine sk_aload_n (pc' := 17) X rfl dX1_reach_16 rfl ?_
      refine sk_getf (pc' := 20) X 0 0 6 in_RX1 rfl rfl rfl (Nat.le_of_ble_eq_true rfl) fl_RX1_26 rfl dX1_reach_17 rfl ?_
      refine sk_iload_n (pc' := 21) X rfl dX1_reach_20 rfl ?_
      refine sk_iald (pc' := 22) X 0 2 rfl rfl dX1_reach_21 rfl ?_
      refine sk_aload_n (pc' := 23) X rfl dX1_reach_22 rfl ?_
      refine sk_getf (pc' := 26) X 0 0 2 in_RX1 rfl rfl rfl (Nat.le_of_ble_eq_true rfl) fl_RX1_15 rfl dX1_reach_23 rfl ?_
      refine sk_iconst (pc' := 27) X ic_0 dX1_reach_26 rfl ?_
      refine sk_iald (pc' := 28) X 0 1 rfl rfl dX1_reach_27 rfl ?_
      refine sk_icmp_ge (tgt := 32) (pc' := 31) X dX1_reach_28 rfl rfl ?_ ?_
      · refine sk_aload_n (pc' := 33) X rfl dX1_reach_32 rfl ?_
        refine sk_getf (pc' := 36) X 0 0 6 in_RX1 rfl rfl rfl (Nat.le_of_ble_eq_true rfl) fl_RX1_26 rfl dX1_reach_33 rfl ?_
        refine sk_iload_n (pc' := 37) X rfl dX1_reach_36 rfl ?_
        refine sk_aload_n (pc' := 38) X rfl dX1_reach_37 rfl ?_
        refine sk_aload_n (pc' := 39) X rfl dX1_reach_38 rfl ?_
        refine sk_getf (pc' := 42) X 0 0 6 in_RX1 rfl rfl rfl (Nat.le_of_ble_eq_true rfl) fl_RX1_26 rfl dX1_reach_39 rfl ?_
        refine sk_iload_n (pc' := 43) X rfl dX1_reach_42 rfl ?_
        refine sk_iald (pc' := 44) X 0 2 rfl rfl dX1_reach_43 rfl ?_
        refine sk_callV (bs2 := fun r44 => [(nt_W G u0 a0_log S0)]) (st := [.int p1, .ref (u0 2)]) (st2 := fun r44 => [.int r44, .int p1, .ref (u0 2)]) (As := [.int ((S0 2) (p1).toNatClampNeg)]) (pc' := 47) X (c_X1_movedBy l G u0 a0_log S0 ((S0 2) (p1).toNatClampNeg)) lk_RX1_133 [0] rfl (by decide) (fun _ => rfl) rfl rfl rfl ⟨(Nat.le_of_ble_eq_true rfl), (Nat.le_of_ble_eq_true rfl)⟩ ⟨rfl, rfl⟩ ⟨(Nat.le_of_ble_eq_true rfl), (Nat.le_of_ble_eq_true rfl)⟩ rfl (Nat.le_of_ble_eq_true rfl) rfl dX1_reach_44 rfl (fun _ => rfl) (fun _ => rfl) (fun r44 => ?_)
        refine sk_iast (bs' := [(nt_W G u0 a0_log (sk_up S0 2 (p1).toNatClampNeg r44))]) (pc' := 48) X 0 2 rfl rfl (sk_st 0 (nt_st_2 ..) rfl) dX1_reach_47 rfl ?_
        refine sk_lt (bsf := fun z => [(nt_W G u0 a0_log z)]) (lvf := fun _ => [some (.ref (u0 0)), some (.int p1)]) (stf := fun _ => []) (fun N47 => ?_)
        refine sk_aload_n (pc' := 49) X rfl dX1_reach_48 rfl ?_
        refine sk_getf (pc' := 52) X 0 0 6 in_RX1 rfl rfl rfl (Nat.le_of_ble_eq_true rfl) fl_RX1_26 rfl dX1_reach_49 rfl ?_
        refine sk_iload_n (pc' := 53) X rfl dX1_reach_52 rfl ?_
        refine sk_iald (pc' := 54) X 0 2 rfl rfl dX1_reach_53 rfl ?_
        refine sk_aload_n (pc' := 55) X rfl dX1_reach_54 rfl ?_
        refine sk_getf (pc' := 58) X 0 0 1 in_RX1 rfl rfl rfl (Nat.le_of_ble_eq_true rfl) fl_RX1_9 rfl dX1_reach_55 rfl ?_
        refine sk_icmp_lt (tgt := 66) (pc' := 61) X dX1_reach_58 rfl rfl ?_ ?_
        · exact sk_vret X rfl rfl dX1_reach_66
        · refine sk_aload_n (pc' := 62) X rfl dX1_reach_61 rfl ?_
          refine sk_iload_n (pc' := 63) X rfl dX1_reach_62 rfl ?_
          refine sk_callV (bs2 := fun r63 => [(nt_W G u0 a0_log r63)]) (st := []) (st2 := fun r63 => []) (As := [.int p1]) (pc' := 66) X (c_X1_fire l G u0 a0_log N47 p1) lk_RX1_120 [0] rfl (by decide) (fun _ => rfl) rfl rfl rfl ⟨(Nat.le_of_ble_eq_true rfl), (Nat.le_of_ble_eq_true rfl)⟩ ⟨rfl, rfl⟩ ⟨(Nat.le_of_ble_eq_true rfl), (Nat.le_of_ble_eq_true rfl)⟩ rfl (Nat.le_of_ble_eq_true rfl) rfl dX1_reach_63 rfl (fun _ => rfl) (fun _ => rfl) (fun r63 => ?_)
          exact sk_vret X rfl rfl dX1_reach_66
      · exact sk_vret X rfl rfl dX1_reach_31
def rm_X1_deliverDelayedPulses : Room := { frames := 3, cells := 0, slots := 0, locals := 66 }
def o_X1_deliverDelayedPulses : (sk_N) → Option Value := fun r => none
def w_X1_deliverDelayedPulses (G : sk_G) (u0 : Nat → Nat) (a0_log : Nat) : (sk_N) → sk_B := fun r => [(nt_W G u0 a0_log r)]
set_option maxHeartbeats 4000000 in
set_option maxRecDepth 100000 in
theorem c_X1_deliverDelayedPulses (l : Launch) (G : sk_G) (u0 : Nat → Nat) (a0_log : Nat) (S0 : sk_N) : sk_ctr l G yX1_deliverDelayedPulses cX1_deliverDelayedPulses 5 none rm_X1_deliverDelayedPulses [.ref (u0 0)] [(nt_W G u0 a0_log S0)] (m_X1_deliverDelayedPulses S0) o_X1_deliverDelayedPulses (w_X1_deliverDelayedPulses G u0 a0_log) := by
  refine sk_entry (own := RX1) (by decide) rfl (lv0 := [some (.ref (u0 0)), none, none, none, none]) rfl (Nat.le_of_ble_eq_true rfl) ?_
  intro Γ X
  have h10 : ∀ s10 : sk_N × Int32 × Int32, sk_S Γ (sk_Φ Γ o_X1_deliverDelayedPulses (w_X1_deliverDelayedPulses G u0 a0_log)) 0 0 (m_X1_deliverDelayedPulses_10 s10) [(nt_W G u0 a0_log s10.1)] [some (.ref (u0 0)), some (.int s10.2.1), some (.int s10.2.2), none, none] 10 [] := by
    intro s10
    unfold m_X1_deliverDelayedPulses_10
    refine sk_loop (bsf := fun s10 => [(nt_W G u0 a0_log s10.1)]) (lvf := fun s10 => [some (.ref (u0 0)), some (.int s10.2.1), some (.int s10.2.2), none, none]) ?_ sk_fuel s10
    intro k10 s10 ih10
    have h42 : ∀ s42 : sk_N × Int32 × Int32 × Int32 × Int32, sk_S Γ (sk_Φ Γ o_X1_deliverDelayedPulses (w_X1_deliverDelayedPulses G u0 a0_log)) 0 0 (m_X1_deliverDelayedPulses_42 k10 s42) [(nt_W G u0 a0_log s42.1)] [some (.ref (u0 0)), some (.int s42.2.1), some (.int s42.2.2.1), some (.int s42.2.2.2.1), some (.int s42.2.2.2.2)] 42 [] := by
      intro s42
      unfold m_X1_deliverDelayedPulses_42
      refine sk_loop (bsf := fun s42 => [(nt_W G u0 a0_log s42.1)]) (lvf := fun s42 => [some (.ref (u0 0)), some (.int s42.2.1), some (.int s42.2.2.1), some (.int s42.2.2.2.1), some (.int s42.2.2.2.2)]) ?_ sk_fuel s42
      intro k42 s42 ih42
      unfold m_X1_deliverDelayedPulses_42_step
      refine sk_iload (pc' := 44) X rfl dX1_deliverDelayedPulses_42 rfl ?_
      refine sk_iload_n (pc' := 45) X rfl dX1_deliverDelayedPulses_44 rfl ?_
      refine sk_icmp_ge (tgt := 59) (pc' := 48) X dX1_deliverDelayedPulses_45 rfl rfl ?_ ?_
      · refine sk_iinc (lv' := [some (.ref (u0 0)), some (.int s42.2.1), some (.int (s42.2.2.1 + (1 : Int32))), some (.int s42.2.2.2.1), some (.int s42.2.2.2.2)]) (pc' := 62) X rfl ic_1 (Nat.le_of_ble_eq_true rfl) rfl rfl dX1_deliverDelayedPulses_59 rfl ?_
        refine sk_goto (tgt := 10) X dX1_deliverDelayedPulses_62 rfl ?_
        exact (sk_kill 4 (sk_kill 3 (ih10 (s42.1, s42.2.1, (s42.2.2.1 + (1 : Int32))))))
      · refine sk_aload_n (pc' := 49) X rfl dX1_deliverDelayedPulses_48 rfl ?_
        refine sk_iload_n (pc' := 50) X rfl dX1_deliverDelayedPulses_49 rfl ?_
        refine sk_callV (bs2 := fun r50 => [(nt_W G u0 a0_log r50)]) (st := []) (st2 := fun r50 => []) (As := [.int s42.2.2.1]) (pc' := 53) X (c_X1_reach l G u0 a0_log s42.1 s42.2.2.1) lk_RX1_127 [0] rfl (by decide) (fun _ => rfl) rfl rfl rfl ⟨(Nat.le_of_ble_eq_true rfl), (Nat.le_of_ble_eq_true rfl)⟩ ⟨rfl, rfl⟩ ⟨(Nat.le_of_ble_eq_true rfl), (Nat.le_of_ble_eq_true rfl)⟩ rfl (Nat.le_of_ble_eq_true rfl) rfl dX1_deliverDelayedPulses_50 rfl (fun _ => rfl) (fun _ => rfl) (fun r50 => ?_)
        refine sk_iinc (lv' := [some (.ref (u0 0)), some (.int s42.2.1), some (.int s42.2.2.1), some (.int s42.2.2.2.1), some (.int (s42.2.2.2.2 + (1 : Int32)))]) (pc' := 56) X rfl ic_1 (Nat.le_of_ble_eq_true rfl) rfl rfl dX1_deliverDelayedPulses_53 rfl ?_
        refine sk_goto (tgt := 42) X dX1_deliverDelayedPulses_56 rfl ?_
        exact (ih42 (r50, s42.2.1, s42.2.2.1, s42.2.2.2.1, (s42.2.2.2.2 + (1 : Int32))))
    unfold m_X1_deliverDelayedPulses_10_step
    refine sk_iload_n (pc' := 11) X rfl dX1_deliverDelayedPulses_10 rfl ?_
    refine sk_aload_n (pc' := 12) X rfl dX1_deliverDelayedPulses_11 rfl ?_
    refine sk_getf (pc' := 15) X 0 0 0 in_RX1 rfl rfl rfl (Nat.le_of_ble_eq_true rfl) fl_RX1_47 rfl dX1_deliverDelayedPulses_12 rfl ?_
    refine sk_icmp_ge (tgt := 65) (pc' := 18) X dX1_deliverDelayedPulses_15 rfl rfl ?_ ?_
    · exact sk_vret X rfl rfl dX1_deliverDelayedPulses_65
    · refine sk_aload_n (pc' := 19) X rfl dX1_deliverDelayedPulses_18 rfl ?_
      refine sk_getf (pc' := 22) X 0 0 11 in_RX1 rfl rfl rfl (Nat.le_of_ble_eq_true rfl) fl_RX1_41 rfl dX1_deliverDelayedPulses_19 rfl ?_
      refine sk_iload_n (pc' := 23) X rfl dX1_deliverDelayedPulses_22 rfl ?_
      refine sk_iload_n (pc' := 24) X rfl dX1_deliverDelayedPulses_23 rfl ?_
      refine sk_iadd (pc' := 25) X dX1_deliverDelayedPulses_24 rfl ?_
      refine sk_iald (pc' := 26) X 0 7 rfl rfl dX1_deliverDelayedPulses_25 rfl ?_
      refine sk_callS (bs2 := fun r26 => [(nt_W G u0 a0_log s10.1)]) (st := []) (st2 := fun r26 => [.int r26]) (As := [.int ((s10.1 7) ((s10.2.1 + s10.2.2)).toNatClampNeg)]) (pc' := 29) X (c_J6_bitCount_0f7a4 l G ((s10.1 7) ((s10.2.1 + s10.2.2)).toNatClampNeg)) lk_RX1_74 [] rfl (by decide) (fun _ => rfl) ⟨(Nat.le_of_ble_eq_true rfl), (Nat.le_of_ble_eq_true rfl)⟩ ⟨rfl, rfl⟩ ⟨(Nat.le_of_ble_eq_true rfl), (Nat.le_of_ble_eq_true rfl)⟩ rfl (Nat.le_of_ble_eq_true rfl) rfl dX1_deliverDelayedPulses_26 rfl (fun _ => rfl) (fun _ => rfl) (fun r26 => ?_)
      refine sk_istore_n (lv' := [some (.ref (u0 0)), some (.int s10.2.1), some (.int s10.2.2), some (.int r26), none]) (pc' := 30) X (Nat.le_of_ble_eq_true rfl) rfl rfl dX1_deliverDelayedPulses_29 rfl ?_
      refine sk_aload_n (pc' := 31) X rfl dX1_deliverDelayedPulses_30 rfl ?_
      refine sk_getf (pc' := 34) X 0 0 11 in_RX1 rfl rfl rfl (Nat.le_of_ble_eq_true rfl) fl_RX1_41 rfl dX1_deliverDelayedPulses_31 rfl ?_
      refine sk_iload_n (pc' := 35) X rfl dX1_deliverDelayedPulses_34 rfl ?_
      refine sk_iload_n (pc' := 36) X rfl dX1_deliverDelayedPulses_35 rfl ?_
      refine sk_iadd (pc' := 37) X dX1_deliverDelayedPulses_36 rfl ?_
      refine sk_iconst (pc' := 38) X ic_0 dX1_deliverDelayedPulses_37 rfl ?_
      refine sk_iast (bs' := [(nt_W G u0 a0_log (sk_up s10.1 7 ((s10.2.1 + s10.2.2)).toNatClampNeg (0 : Int32)))]) (pc' := 39) X 0 7 rfl rfl (sk_st 0 (nt_st_7 ..) rfl) dX1_deliverDelayedPulses_38 rfl ?_
      refine sk_lt (bsf := fun z => [(nt_W G u0 a0_log z)]) (lvf := fun _ => [some (.ref (u0 0)), some (.int s10.2.1), some (.int s10.2.2), some (.int r26), none]) (stf := fun _ => []) (fun N38 => ?_)
      refine sk_iconst (pc' := 40) X ic_0 dX1_deliverDelayedPulses_39 rfl ?_
      refine sk_istore (lv' := [some (.ref (u0 0)), some (.int s10.2.1), some (.int s10.2.2), some (.int r26), some (.int (0 : Int32))]) (pc' := 42) X (Nat.le_of_ble_eq_true rfl) rfl rfl dX1_deliverDelayedPulses_40 rfl ?_
      exact (h42 (N38, s10.2.1, s10.2.2, r26, (0 : Int32)))
  unfold m_X1_deliverDelayedPulses
  refine sk_aload_n (pc' := 1) X rfl dX1_deliverDelayedPulses_0 rfl ?_
  refine sk_getf (pc' := 4) X 0 0 3 in_RX1 rfl rfl rfl (Nat.le_of_ble_eq_true rfl) fl_RX1_56 rfl dX1_deliverDelayedPulses_1 rfl ?_
  refine sk_callS (bs2 := fun r4 => [(nt_W G u0 a0_log S0)]) (st := []) (st2 := fun r4 => [.int r4]) (As := [.int (S0 0 3)]) (pc' := 7) X (c_X1_slotOf l G (S0 0 3)) lk_RX1_124 [] rfl (by decide) (fun _ => rfl) ⟨(Nat.le_of_ble_eq_true rfl), (Nat.le_of_ble_eq_true rfl)⟩ ⟨rfl, rfl⟩ ⟨(Nat.le_of_ble_eq_true rfl), (Nat.le_of_ble_eq_true rfl)⟩ rfl (Nat.le_of_ble_eq_true rfl) rfl dX1_deliverDelayedPulses_4 rfl (fun _ => rfl) (fun _ => rfl) (fun r4 => ?_)
  refine sk_istore_n (lv' := [some (.ref (u0 0)), some (.int r4), none, none, none]) (pc' := 8) X (Nat.le_of_ble_eq_true rfl) rfl rfl dX1_deliverDelayedPulses_7 rfl ?_
  refine sk_iconst (pc' := 9) X ic_0 dX1_deliverDelayedPulses_8 rfl ?_
  refine sk_istore_n (lv' := [some (.ref (u0 0)), some (.int r4), some (.int (0 : Int32)), none, none]) (pc' := 10) X (Nat.le_of_ble_eq_true rfl) rfl rfl dX1_deliverDelayedPulses_9 rfl ?_
  exact (h10 (S0, r4, (0 : Int32)))
def rm_X1_deliverPulsesAtOnce : Room := { frames := 3, cells := 0, slots := 0, locals := 66 }
def o_X1_deliverPulsesAtOnce : (sk_N) → Option Value := fun r => none
def w_X1_deliverPulsesAtOnce (G : sk_G) (u0 : Nat → Nat) (a0_log : Nat) : (sk_N) → sk_B := fun r => [(nt_W G u0 a0_log r)]
set_option maxHeartbeats 4000000 in
set_option maxRecDepth 100000 in
theorem c_X1_deliverPulsesAtOnce (l : Launch) (G : sk_G) (u0 : Nat → Nat) (a0_log : Nat) (S0 : sk_N) : sk_ctr l G yX1_deliverPulsesAtOnce cX1_deliverPulsesAtOnce 3 none rm_X1_deliverPulsesAtOnce [.ref (u0 0)] [(nt_W G u0 a0_log S0)] (m_X1_deliverPulsesAtOnce S0) o_X1_deliverPulsesAtOnce (w_X1_deliverPulsesAtOnce G u0 a0_log) := by
  refine sk_entry (own := RX1) (by decide) rfl (lv0 := [some (.ref (u0 0)), none, none]) rfl (Nat.le_of_ble_eq_true rfl) ?_
  intro Γ X
  have h2 : ∀ s2 : sk_N × Int32, sk_S Γ (sk_Φ Γ o_X1_deliverPulsesAtOnce (w_X1_deliverPulsesAtOnce G u0 a0_log)) 0 0 (m_X1_deliverPulsesAtOnce_2 s2) [(nt_W G u0 a0_log s2.1)] [some (.ref (u0 0)), some (.int s2.2), none] 2 [] := by
    intro s2
    unfold m_X1_deliverPulsesAtOnce_2
    refine sk_loop (bsf := fun s2 => [(nt_W G u0 a0_log s2.1)]) (lvf := fun s2 => [some (.ref (u0 0)), some (.int s2.2), none]) ?_ sk_fuel s2
    intro k2 s2 ih2
    have h21 : ∀ s21 : sk_N × Int32 × Int32, sk_S Γ (sk_Φ Γ o_X1_deliverPulsesAtOnce (w_X1_deliverPulsesAtOnce G u0 a0_log)) 0 0 (m_X1_deliverPulsesAtOnce_21 k2 s21) [(nt_W G u0 a0_log s21.1)] [some (.ref (u0 0)), some (.int s21.2.1), some (.int s21.2.2)] 21 [] := by
      intro s21
      unfold m_X1_deliverPulsesAtOnce_21
      refine sk_loop (bsf := fun s21 => [(nt_W G u0 a0_log s21.1)]) (lvf := fun s21 => [some (.ref (u0 0)), some (.int s21.2.1), some (.int s21.2.2)]) ?_ sk_fuel s21
      intro k21 s21 ih21
      unfold m_X1_deliverPulsesAtOnce_21_step
      refine sk_iload_n (pc' := 22) X rfl dX1_deliverPulsesAtOnce_21 rfl ?_
      refine sk_aload_n (pc' := 23) X rfl dX1_deliverPulsesAtOnce_22 rfl ?_
      refine sk_getf (pc' := 26) X 0 0 0 in_RX1 rfl rfl rfl (Nat.le_of_ble_eq_true rfl) fl_RX1_47 rfl dX1_deliverPulsesAtOnce_23 rfl ?_
      refine sk_icmp_ge (tgt := 54) (pc' := 29) X dX1_deliverPulsesAtOnce_26 rfl rfl ?_ ?_
      · refine sk_iinc (lv' := [some (.ref (u0 0)), some (.int (s21.2.1 + (1 : Int32))), some (.int s21.2.2)]) (pc' := 57) X rfl ic_1 (Nat.le_of_ble_eq_true rfl) rfl rfl dX1_deliverPulsesAtOnce_54 rfl ?_
        refine sk_goto (tgt := 2) X dX1_deliverPulsesAtOnce_57 rfl ?_
        exact (sk_kill 2 (ih2 (s21.1, (s21.2.1 + (1 : Int32)))))
      · refine sk_aload_n (pc' := 30) X rfl dX1_deliverPulsesAtOnce_29 rfl ?_
        refine sk_aload_n (pc' := 31) X rfl dX1_deliverPulsesAtOnce_30 rfl ?_
        refine sk_getf (pc' := 34) X 0 0 12 in_RX1 rfl rfl rfl (Nat.le_of_ble_eq_true rfl) fl_RX1_44 rfl dX1_deliverPulsesAtOnce_31 rfl ?_
        refine sk_iload_n (pc' := 35) X rfl dX1_deliverPulsesAtOnce_34 rfl ?_
        refine sk_iald (pc' := 36) X 0 8 rfl rfl dX1_deliverPulsesAtOnce_35 rfl ?_
        refine sk_iload_n (pc' := 37) X rfl dX1_deliverPulsesAtOnce_36 rfl ?_
        refine sk_callV (bs2 := fun r37 => [(nt_W G u0 a0_log s21.1)]) (st := []) (st2 := fun r37 => [.int r37]) (As := [.int ((s21.1 8) (s21.2.1).toNatClampNeg), .int s21.2.2]) (pc' := 40) X (c_X1_delayBetween l G u0 a0_log s21.1 ((s21.1 8) (s21.2.1).toNatClampNeg) s21.2.2) lk_RX1_82 [0] rfl (by decide) (fun _ => rfl) rfl rfl rfl ⟨(Nat.le_of_ble_eq_true rfl), (Nat.le_of_ble_eq_true rfl)⟩ ⟨rfl, rfl⟩ ⟨(Nat.le_of_ble_eq_true rfl), (Nat.le_of_ble_eq_true rfl)⟩ rfl (Nat.le_of_ble_eq_true rfl) rfl dX1_deliverPulsesAtOnce_37 rfl (fun _ => rfl) (fun _ => rfl) (fun r37 => ?_)
        refine sk_if_ne (tgt := 48) (pc' := 43) X dX1_deliverPulsesAtOnce_40 rfl rfl ?_ ?_
        · refine sk_iinc (lv' := [some (.ref (u0 0)), some (.int s21.2.1), some (.int (s21.2.2 + (1 : Int32)))]) (pc' := 51) X rfl ic_1 (Nat.le_of_ble_eq_true rfl) rfl rfl dX1_deliverPulsesAtOnce_48 rfl ?_
          refine sk_goto (tgt := 21) X dX1_deliverPulsesAtOnce_51 rfl ?_
          exact (ih21 (s21.1, s21.2.1, (s21.2.2 + (1 : Int32))))
        · refine sk_aload_n (pc' := 44) X rfl dX1_deliverPulsesAtOnce_43 rfl ?_
          refine sk_iload_n (pc' := 45) X rfl dX1_deliverPulsesAtOnce_44 rfl ?_
          refine sk_callV (bs2 := fun r45 => [(nt_W G u0 a0_log r45)]) (st := []) (st2 := fun r45 => []) (As := [.int s21.2.2]) (pc' := 48) X (c_X1_reach l G u0 a0_log s21.1 s21.2.2) lk_RX1_127 [0] rfl (by decide) (fun _ => rfl) rfl rfl rfl ⟨(Nat.le_of_ble_eq_true rfl), (Nat.le_of_ble_eq_true rfl)⟩ ⟨rfl, rfl⟩ ⟨(Nat.le_of_ble_eq_true rfl), (Nat.le_of_ble_eq_true rfl)⟩ rfl (Nat.le_of_ble_eq_true rfl) rfl dX1_deliverPulsesAtOnce_45 rfl (fun _ => rfl) (fun _ => rfl) (fun r45 => ?_)
          refine sk_iinc (lv' := [some (.ref (u0 0)), some (.int s21.2.1), some (.int (s21.2.2 + (1 : Int32)))]) (pc' := 51) X rfl ic_1 (Nat.le_of_ble_eq_true rfl) rfl rfl dX1_deliverPulsesAtOnce_48 rfl ?_
          refine sk_goto (tgt := 21) X dX1_deliverPulsesAtOnce_51 rfl ?_
          exact (ih21 (r45, s21.2.1, (s21.2.2 + (1 : Int32))))
    unfold m_X1_deliverPulsesAtOnce_2_step
    refine sk_iload_n (pc' := 3) X rfl dX1_deliverPulsesAtOnce_2 rfl ?_
    refine sk_aload_n (pc' := 4) X rfl dX1_deliverPulsesAtOnce_3 rfl ?_
    refine sk_getf (pc' := 7) X 0 0 12 in_RX1 rfl rfl rfl (Nat.le_of_ble_eq_true rfl) fl_RX1_44 rfl dX1_deliverPulsesAtOnce_4 rfl ?_
    refine sk_alen (v := 10) (pc' := 8) X 0 8 0 rfl rfl rfl rfl dX1_deliverPulsesAtOnce_7 rfl ?_
    refine sk_icmp_ge (tgt := 60) (pc' := 11) X dX1_deliverPulsesAtOnce_8 rfl rfl ?_ ?_
    · exact sk_vret X rfl rfl dX1_deliverPulsesAtOnce_60
    · refine sk_iload_n (pc' := 12) X rfl dX1_deliverPulsesAtOnce_11 rfl ?_
      refine sk_aload_n (pc' := 13) X rfl dX1_deliverPulsesAtOnce_12 rfl ?_
      refine sk_getf (pc' := 16) X 0 0 13 in_RX1 rfl rfl rfl (Nat.le_of_ble_eq_true rfl) fl_RX1_96 rfl dX1_deliverPulsesAtOnce_13 rfl ?_
      refine sk_icmp_ge (tgt := 60) (pc' := 19) X dX1_deliverPulsesAtOnce_16 rfl rfl ?_ ?_
      · exact sk_vret X rfl rfl dX1_deliverPulsesAtOnce_60
      · refine sk_iconst (pc' := 20) X ic_0 dX1_deliverPulsesAtOnce_19 rfl ?_
        refine sk_istore_n (lv' := [some (.ref (u0 0)), some (.int s2.2), some (.int (0 : Int32))]) (pc' := 21) X (Nat.le_of_ble_eq_true rfl) rfl rfl dX1_deliverPulsesAtOnce_20 rfl ?_
        exact (h21 (s2.1, s2.2, (0 : Int32)))
  unfold m_X1_deliverPulsesAtOnce
  refine sk_iconst (pc' := 1) X ic_0 dX1_deliverPulsesAtOnce_0 rfl ?_
  refine sk_istore_n (lv' := [some (.ref (u0 0)), some (.int (0 : Int32)), none]) (pc' := 2) X (Nat.le_of_ble_eq_true rfl) rfl rfl dX1_deliverPulsesAtOnce_1 rfl ?_
  exact (h2 (S0, (0 : Int32)))
def rm_X1_noteFires : Room := { frames := 1, cells := 0, slots := 0, locals := 22 }
def o_X1_noteFires : (sk_N) → Option Value := fun r => none
def w_X1_noteFires (G : sk_G) (u0 u1 : Nat → Nat) (S0 : sk_N) : (sk_N) → sk_B := fun r => [(nt_W G u0 (u1 0) S0), (lg_W G u1 r)]
set_option maxHeartbeats 4000000 in
set_option maxRecDepth 100000 in
theorem c_X1_noteFires (l : Launch) (G : sk_G) (u0 u1 : Nat → Nat) (S0 : sk_N) (S1 : sk_N) : sk_ctr l G yX1_noteFires cX1_noteFires 2 none rm_X1_noteFires [.ref (u0 0)] [(nt_W G u0 (u1 0) S0), (lg_W G u1 S1)] (m_X1_noteFires S0 S1) o_X1_noteFires (w_X1_noteFires G u0 u1 S0) := by
  refine sk_entry (own := RX1) (by decide) rfl (lv0 := [some (.ref (u0 0)), none]) rfl (Nat.le_of_ble_eq_true rfl) ?_
  intro Γ X
  have h2 : ∀ s2 : sk_N × Int32, sk_S Γ (sk_Φ Γ o_X1_noteFires (w_X1_noteFires G u0 u1 S0)) 0 0 (m_X1_noteFires_2 S0 s2) [(nt_W G u0 (u1 0) S0), (lg_W G u1 s2.1)] [some (.ref (u0 0)), some (.int s2.2)] 2 [] := by
    intro s2
    unfold m_X1_noteFires_2
    refine sk_loop (bsf := fun s2 => [(nt_W G u0 (u1 0) S0), (lg_W G u1 s2.1)]) (lvf := fun s2 => [some (.ref (u0 0)), some (.int s2.2)]) ?_ sk_fuel s2
    intro k2 s2 ih2
    unfold m_X1_noteFires_2_step
    refine sk_iload_n (pc' := 3) X rfl dX1_noteFires_2 rfl ?_
    refine sk_aload_n (pc' := 4) X rfl dX1_noteFires_3 rfl ?_
    refine sk_getf (pc' := 7) X 0 0 12 in_RX1 rfl rfl rfl (Nat.le_of_ble_eq_true rfl) fl_RX1_44 rfl dX1_noteFires_4 rfl ?_
    refine sk_alen (v := 10) (pc' := 8) X 0 8 0 rfl rfl rfl rfl dX1_noteFires_7 rfl ?_
    refine sk_icmp_ge (tgt := 42) (pc' := 11) X dX1_noteFires_8 rfl rfl ?_ ?_
    · exact sk_vret X rfl rfl dX1_noteFires_42
    · refine sk_iload_n (pc' := 12) X rfl dX1_noteFires_11 rfl ?_
      refine sk_aload_n (pc' := 13) X rfl dX1_noteFires_12 rfl ?_
      refine sk_getf (pc' := 16) X 0 0 13 in_RX1 rfl rfl rfl (Nat.le_of_ble_eq_true rfl) fl_RX1_96 rfl dX1_noteFires_13 rfl ?_
      refine sk_icmp_ge (tgt := 42) (pc' := 19) X dX1_noteFires_16 rfl rfl ?_ ?_
      · exact sk_vret X rfl rfl dX1_noteFires_42
      · refine sk_aload_n (pc' := 20) X rfl dX1_noteFires_19 rfl ?_
        refine sk_getf (pc' := 23) X 0 0 5 in_RX1 rfl rfl rfl (Nat.le_of_ble_eq_true rfl) fl_RX1_22 rfl dX1_noteFires_20 rfl ?_
        refine sk_aload_n (pc' := 24) X rfl dX1_noteFires_23 rfl ?_
        refine sk_getf (pc' := 27) X 0 0 3 in_RX1 rfl rfl rfl (Nat.le_of_ble_eq_true rfl) fl_RX1_56 rfl dX1_noteFires_24 rfl ?_
        refine sk_aload_n (pc' := 28) X rfl dX1_noteFires_27 rfl ?_
        refine sk_getf (pc' := 31) X 0 0 12 in_RX1 rfl rfl rfl (Nat.le_of_ble_eq_true rfl) fl_RX1_44 rfl dX1_noteFires_28 rfl ?_
        refine sk_iload_n (pc' := 32) X rfl dX1_noteFires_31 rfl ?_
        refine sk_iald (pc' := 33) X 0 8 rfl rfl dX1_noteFires_32 rfl ?_
        refine sk_callV (bs2 := fun r33 => [(nt_W G u0 (u1 0) S0), (lg_W G u1 r33)]) (st := []) (st2 := fun r33 => []) (As := [.int (S0 0 3), .int ((S0 8) (s2.2).toNatClampNeg)]) (pc' := 36) X (c_X0_note l G u1 s2.1 (S0 0 3) ((S0 8) (s2.2).toNatClampNeg)) lk_RX1_136 [1] rfl (by decide) (fun _ => rfl) rfl rfl rfl ⟨(Nat.le_of_ble_eq_true rfl), (Nat.le_of_ble_eq_true rfl)⟩ ⟨rfl, rfl⟩ ⟨(Nat.le_of_ble_eq_true rfl), (Nat.le_of_ble_eq_true rfl)⟩ rfl (Nat.le_of_ble_eq_true rfl) rfl dX1_noteFires_33 rfl (fun _ => rfl) (fun _ => rfl) (fun r33 => ?_)
        refine sk_iinc (lv' := [some (.ref (u0 0)), some (.int (s2.2 + (1 : Int32)))]) (pc' := 39) X rfl ic_1 (Nat.le_of_ble_eq_true rfl) rfl rfl dX1_noteFires_36 rfl ?_
        refine sk_goto (tgt := 2) X dX1_noteFires_39 rfl ?_
        exact (ih2 (r33, (s2.2 + (1 : Int32))))
  unfold m_X1_noteFires
  refine sk_iconst (pc' := 1) X ic_0 dX1_noteFires_0 rfl ?_
  refine sk_istore_n (lv' := [some (.ref (u0 0)), some (.int (0 : Int32))]) (pc' := 2) X (Nat.le_of_ble_eq_true rfl) rfl rfl dX1_noteFires_1 rfl ?_
  exact (h2 (S1, (0 : Int32)))
def rm_X1_passTicks : Room := { frames := 4, cells := 0, slots := 0, locals := 90 }
def o_X1_passTicks : (Int32 × sk_N × sk_N) → Option Value := fun r => some (.int r.1)
def w_X1_passTicks (G : sk_G) (u0 u1 : Nat → Nat) : (Int32 × sk_N × sk_N) → sk_B := fun r => [(nt_W G u0 (u1 0) r.2.1), (lg_W G u1 r.2.2)]
set_option maxHeartbeats 4000000 in
set_option maxRecDepth 100000 in
theorem c_X1_passTicks (l : Launch) (G : sk_G) (u0 u1 : Nat → Nat) (S0 : sk_N) (S1 : sk_N) (p1 : Int32) : sk_ctr l G yX1_passTicks cX1_passTicks 4 (some .int) rm_X1_passTicks [.ref (u0 0), .int p1] [(nt_W G u0 (u1 0) S0), (lg_W G u1 S1)] (m_X1_passTicks S0 S1 p1) o_X1_passTicks (w_X1_passTicks G u0 u1) := by
  refine sk_entry (own := RX1) (by decide) rfl (lv0 := [some (.ref (u0 0)), some (.int p1), none, none]) rfl (Nat.le_of_ble_eq_true rfl) ?_
  intro Γ X
  have h4 : ∀ s4 : sk_N × sk_N × Int32 × Int32, sk_S Γ (sk_Φ Γ o_X1_passTicks (w_X1_passTicks G u0 u1)) 0 0 (m_X1_passTicks_4 p1 s4) [(nt_W G u0 (u1 0) s4.1), (lg_W G u1 s4.2.1)] [some (.ref (u0 0)), some (.int p1), some (.int s4.2.2.1), some (.int s4.2.2.2)] 4 [] := by
    intro s4
    unfold m_X1_passTicks_4
    refine sk_loop (bsf := fun s4 => [(nt_W G u0 (u1 0) s4.1), (lg_W G u1 s4.2.1)]) (lvf := fun s4 => [some (.ref (u0 0)), some (.int p1), some (.int s4.2.2.1), some (.int s4.2.2.2)]) ?_ sk_fuel s4
    intro k4 s4 ih4
    unfold m_X1_passTicks_4_step
    refine sk_iload_n (pc' := 5) X rfl dX1_passTicks_4 rfl ?_
    refine sk_iload_n (pc' := 6) X rfl dX1_passTicks_5 rfl ?_
    refine sk_icmp_ge (tgt := 66) (pc' := 9) X dX1_passTicks_6 rfl rfl ?_ ?_
    · refine sk_iload_n (pc' := 67) X rfl dX1_passTicks_66 rfl ?_
      exact sk_iret X rfl rfl dX1_passTicks_67
    · refine sk_aload_n (pc' := 10) X rfl dX1_passTicks_9 rfl ?_
      refine sk_dup (pc' := 11) X rfl dX1_passTicks_10 rfl ?_
      refine sk_getf (pc' := 14) X 0 0 3 in_RX1 rfl rfl rfl (Nat.le_of_ble_eq_true rfl) fl_RX1_56 rfl dX1_passTicks_11 rfl ?_
      refine sk_iconst (pc' := 15) X ic_1 dX1_passTicks_14 rfl ?_
      refine sk_iadd (pc' := 16) X dX1_passTicks_15 rfl ?_
      refine sk_putf (bs' := [(nt_W G u0 (u1 0) (sk_up s4.1 0 3 ((s4.1 0 3) + (1 : Int32)))), (lg_W G u1 s4.2.1)]) (pc' := 19) X 0 0 3 in_RX1 tyX1 tyX1_ok nmX1 rfl rfl rfl (Nat.le_of_ble_eq_true rfl) fl_RX1_56 rfl (tyX1_ok 3 (Nat.le_of_ble_eq_true rfl)) rfl rfl (Nat.le_of_ble_eq_true rfl) (sk_st 0 (nt_pf_3 ..) rfl) dX1_passTicks_16 rfl ?_
      refine sk_lt (bsf := fun z => [(nt_W G u0 (u1 0) z), (lg_W G u1 s4.2.1)]) (lvf := fun _ => [some (.ref (u0 0)), some (.int p1), some (.int s4.2.2.1), some (.int s4.2.2.2)]) (stf := fun _ => []) (fun N16 => ?_)
      refine sk_aload_n (pc' := 20) X rfl dX1_passTicks_19 rfl ?_
      refine sk_iconst (pc' := 21) X ic_0 dX1_passTicks_20 rfl ?_
      refine sk_putf (bs' := [(nt_W G u0 (u1 0) (sk_up N16 0 4 (0 : Int32))), (lg_W G u1 s4.2.1)]) (pc' := 24) X 0 0 4 in_RX1 tyX1 tyX1_ok nmX1 rfl rfl rfl (Nat.le_of_ble_eq_true rfl) fl_RX1_59 rfl (tyX1_ok 4 (Nat.le_of_ble_eq_true rfl)) rfl rfl (Nat.le_of_ble_eq_true rfl) (sk_st 0 (nt_pf_4 ..) rfl) dX1_passTicks_21 rfl ?_
      refine sk_lt (bsf := fun z => [(nt_W G u0 (u1 0) z), (lg_W G u1 s4.2.1)]) (lvf := fun _ => [some (.ref (u0 0)), some (.int p1), some (.int s4.2.2.1), some (.int s4.2.2.2)]) (stf := fun _ => []) (fun N21 => ?_)
      refine sk_aload_n (pc' := 25) X rfl dX1_passTicks_24 rfl ?_
      refine sk_iconst (pc' := 26) X ic_0 dX1_passTicks_25 rfl ?_
      refine sk_putf (bs' := [(nt_W G u0 (u1 0) (sk_up N21 0 13 (0 : Int32))), (lg_W G u1 s4.2.1)]) (pc' := 29) X 0 0 13 in_RX1 tyX1 tyX1_ok nmX1 rfl rfl rfl (Nat.le_of_ble_eq_true rfl) fl_RX1_96 rfl (tyX1_ok 13 (Nat.le_of_ble_eq_true rfl)) rfl rfl (Nat.le_of_ble_eq_true rfl) (sk_st 0 (nt_pf_13 ..) rfl) dX1_passTicks_26 rfl ?_
      refine sk_lt (bsf := fun z => [(nt_W G u0 (u1 0) z), (lg_W G u1 s4.2.1)]) (lvf := fun _ => [some (.ref (u0 0)), some (.int p1), some (.int s4.2.2.1), some (.int s4.2.2.2)]) (stf := fun _ => []) (fun N26 => ?_)
      refine sk_aload_n (pc' := 30) X rfl dX1_passTicks_29 rfl ?_
      refine sk_callV (bs2 := fun r30 => [(nt_W G u0 (u1 0) r30), (lg_W G u1 s4.2.1)]) (st := []) (st2 := fun r30 => []) (As := []) (pc' := 33) X (c_X1_advancePhases l G u0 (u1 0) N26) lk_RX1_99 [0] rfl (by decide) (fun _ => rfl) rfl rfl rfl ⟨(Nat.le_of_ble_eq_true rfl), (Nat.le_of_ble_eq_true rfl)⟩ ⟨rfl, rfl⟩ ⟨(Nat.le_of_ble_eq_true rfl), (Nat.le_of_ble_eq_true rfl)⟩ rfl (Nat.le_of_ble_eq_true rfl) rfl dX1_passTicks_30 rfl (fun _ => rfl) (fun _ => rfl) (fun r30 => ?_)
      refine sk_aload_n (pc' := 34) X rfl dX1_passTicks_33 rfl ?_
      refine sk_callV (bs2 := fun r34 => [(nt_W G u0 (u1 0) r34), (lg_W G u1 s4.2.1)]) (st := []) (st2 := fun r34 => []) (As := []) (pc' := 37) X (c_X1_fireRipeClocks l G u0 (u1 0) r30) lk_RX1_102 [0] rfl (by decide) (fun _ => rfl) rfl rfl rfl ⟨(Nat.le_of_ble_eq_true rfl), (Nat.le_of_ble_eq_true rfl)⟩ ⟨rfl, rfl⟩ ⟨(Nat.le_of_ble_eq_true rfl), (Nat.le_of_ble_eq_true rfl)⟩ rfl (Nat.le_of_ble_eq_true rfl) rfl dX1_passTicks_34 rfl (fun _ => rfl) (fun _ => rfl) (fun r34 => ?_)
      refine sk_aload_n (pc' := 38) X rfl dX1_passTicks_37 rfl ?_
      refine sk_callV (bs2 := fun r38 => [(nt_W G u0 (u1 0) r38), (lg_W G u1 s4.2.1)]) (st := []) (st2 := fun r38 => []) (As := []) (pc' := 41) X (c_X1_fireBlinkers l G u0 (u1 0) r34) lk_RX1_105 [0] rfl (by decide) (fun _ => rfl) rfl rfl rfl ⟨(Nat.le_of_ble_eq_true rfl), (Nat.le_of_ble_eq_true rfl)⟩ ⟨rfl, rfl⟩ ⟨(Nat.le_of_ble_eq_true rfl), (Nat.le_of_ble_eq_true rfl)⟩ rfl (Nat.le_of_ble_eq_true rfl) rfl dX1_passTicks_38 rfl (fun _ => rfl) (fun _ => rfl) (fun r38 => ?_)
      refine sk_aload_n (pc' := 42) X rfl dX1_passTicks_41 rfl ?_
      refine sk_callV (bs2 := fun r42 => [(nt_W G u0 (u1 0) r42), (lg_W G u1 s4.2.1)]) (st := []) (st2 := fun r42 => []) (As := []) (pc' := 45) X (c_X1_deliverDelayedPulses l G u0 (u1 0) r38) lk_RX1_108 [0] rfl (by decide) (fun _ => rfl) rfl rfl rfl ⟨(Nat.le_of_ble_eq_true rfl), (Nat.le_of_ble_eq_true rfl)⟩ ⟨rfl, rfl⟩ ⟨(Nat.le_of_ble_eq_true rfl), (Nat.le_of_ble_eq_true rfl)⟩ rfl (Nat.le_of_ble_eq_true rfl) rfl dX1_passTicks_42 rfl (fun _ => rfl) (fun _ => rfl) (fun r42 => ?_)
      refine sk_aload_n (pc' := 46) X rfl dX1_passTicks_45 rfl ?_
      refine sk_callV (bs2 := fun r46 => [(nt_W G u0 (u1 0) r46), (lg_W G u1 s4.2.1)]) (st := []) (st2 := fun r46 => []) (As := []) (pc' := 49) X (c_X1_deliverPulsesAtOnce l G u0 (u1 0) r42) lk_RX1_111 [0] rfl (by decide) (fun _ => rfl) rfl rfl rfl ⟨(Nat.le_of_ble_eq_true rfl), (Nat.le_of_ble_eq_true rfl)⟩ ⟨rfl, rfl⟩ ⟨(Nat.le_of_ble_eq_true rfl), (Nat.le_of_ble_eq_true rfl)⟩ rfl (Nat.le_of_ble_eq_true rfl) rfl dX1_passTicks_46 rfl (fun _ => rfl) (fun _ => rfl) (fun r46 => ?_)
      refine sk_aload_n (pc' := 50) X rfl dX1_passTicks_49 rfl ?_
      refine sk_callV (bs2 := fun r50 => [(nt_W G u0 (u1 0) r46), (lg_W G u1 r50)]) (st := []) (st2 := fun r50 => []) (As := []) (pc' := 53) X (c_X1_noteFires l G u0 u1 r46 s4.2.1) lk_RX1_114 [0, 1] rfl (by decide) (fun _ => rfl) rfl rfl rfl ⟨(Nat.le_of_ble_eq_true rfl), (Nat.le_of_ble_eq_true rfl)⟩ ⟨rfl, rfl⟩ ⟨(Nat.le_of_ble_eq_true rfl), (Nat.le_of_ble_eq_true rfl)⟩ rfl (Nat.le_of_ble_eq_true rfl) rfl dX1_passTicks_50 rfl (fun _ => rfl) (fun _ => rfl) (fun r50 => ?_)
      refine sk_iload_n (pc' := 54) X rfl dX1_passTicks_53 rfl ?_
      refine sk_aload_n (pc' := 55) X rfl dX1_passTicks_54 rfl ?_
      refine sk_getf (pc' := 58) X 0 0 13 in_RX1 rfl rfl rfl (Nat.le_of_ble_eq_true rfl) fl_RX1_96 rfl dX1_passTicks_55 rfl ?_
      refine sk_iadd (pc' := 59) X dX1_passTicks_58 rfl ?_
      refine sk_istore_n (lv' := [some (.ref (u0 0)), some (.int p1), some (.int (s4.2.2.1 + (r46 0 13))), some (.int s4.2.2.2)]) (pc' := 60) X (Nat.le_of_ble_eq_true rfl) rfl rfl dX1_passTicks_59 rfl ?_
      refine sk_lt (bsf := fun _ => [(nt_W G u0 (u1 0) r46), (lg_W G u1 r50)]) (lvf := fun z => [some (.ref (u0 0)), some (.int p1), some (.int z), some (.int s4.2.2.2)]) (stf := fun _ => []) (fun x59 => ?_)
      refine sk_iinc (lv' := [some (.ref (u0 0)), some (.int p1), some (.int x59), some (.int (s4.2.2.2 + (1 : Int32)))]) (pc' := 63) X rfl ic_1 (Nat.le_of_ble_eq_true rfl) rfl rfl dX1_passTicks_60 rfl ?_
      refine sk_goto (tgt := 4) X dX1_passTicks_63 rfl ?_
      exact (ih4 (r46, r50, x59, (s4.2.2.2 + (1 : Int32))))
  unfold m_X1_passTicks
  refine sk_iconst (pc' := 1) X ic_0 dX1_passTicks_0 rfl ?_
  refine sk_istore_n (lv' := [some (.ref (u0 0)), some (.int p1), some (.int (0 : Int32)), none]) (pc' := 2) X (Nat.le_of_ble_eq_true rfl) rfl rfl dX1_passTicks_1 rfl ?_
  refine sk_iconst (pc' := 3) X ic_0 dX1_passTicks_2 rfl ?_
  refine sk_istore_n (lv' := [some (.ref (u0 0)), some (.int p1), some (.int (0 : Int32)), some (.int (0 : Int32))]) (pc' := 4) X (Nat.le_of_ble_eq_true rfl) rfl rfl dX1_passTicks_3 rfl ?_
  exact (h4 (S0, S1, (0 : Int32), (0 : Int32)))
def rm_X1_about : Room := { frames := 2, cells := 0, slots := 0, locals := 45 }
def o_X1_about : (Int32) → Option Value := fun r => some (.int r)
def w_X1_about (G : sk_G) (u0 : Nat → Nat) (a0_log : Nat) (S0 : sk_N) : (Int32) → sk_B := fun r => [(nt_W G u0 a0_log S0)]
set_option maxHeartbeats 4000000 in
set_option maxRecDepth 100000 in
theorem c_X1_about (l : Launch) (G : sk_G) (u0 : Nat → Nat) (a0_log : Nat) (S0 : sk_N) (p1 : Int32) (p2 : Int32) : sk_ctr l G yX1_about cX1_about 3 (some .int) rm_X1_about [.ref (u0 0), .int p1, .int p2] [(nt_W G u0 a0_log S0)] (m_X1_about S0 p1 p2) o_X1_about (w_X1_about G u0 a0_log S0) := by
  refine sk_entry (own := RX1) (by decide) rfl (lv0 := [some (.ref (u0 0)), some (.int p1), some (.int p2)]) rfl (Nat.le_of_ble_eq_true rfl) ?_
  intro Γ X
  unfold m_X1_about
  refine sk_iload_n (pc' := 1) X rfl dX1_about_0 rfl ?_
  refine sk_ite (fun hs1_0 => ?_) (fun hs1_0 => ?_)
  · refine sk_tableIn (tgt := 40) X dX1_about_1 (by rw [hs1_0]; decide) (by rw [hs1_0]; decide) (by rw [hs1_0]; try rfl) rfl ?_
    refine sk_aload_n (pc' := 41) X rfl dX1_about_40 rfl ?_
    refine sk_getf (pc' := 44) X 0 0 6 in_RX1 rfl rfl rfl (Nat.le_of_ble_eq_true rfl) fl_RX1_26 rfl dX1_about_41 rfl ?_
    refine sk_iload_n (pc' := 45) X rfl dX1_about_44 rfl ?_
    refine sk_iald (pc' := 46) X 0 2 rfl rfl dX1_about_45 rfl ?_
    exact sk_iret X rfl rfl dX1_about_46
  ·
    refine sk_ite (fun hs1_1 => ?_) (fun hs1_1 => ?_)
    · refine sk_tableIn (tgt := 47) X dX1_about_1 (by rw [hs1_1]; decide) (by rw [hs1_1]; decide) (by rw [hs1_1]; try rfl) rfl ?_
      refine sk_aload_n (pc' := 48) X rfl dX1_about_47 rfl ?_
      refine sk_getf (pc' := 51) X 0 0 7 in_RX1 rfl rfl rfl (Nat.le_of_ble_eq_true rfl) fl_RX1_29 rfl dX1_about_48 rfl ?_
      refine sk_iload_n (pc' := 52) X rfl dX1_about_51 rfl ?_
      refine sk_iald (pc' := 53) X 0 3 rfl rfl dX1_about_52 rfl ?_
      exact sk_iret X rfl rfl dX1_about_53
    ·
      refine sk_ite (fun hs1_2 => ?_) (fun hs1_2 => ?_)
      · refine sk_tableIn (tgt := 54) X dX1_about_1 (by rw [hs1_2]; decide) (by rw [hs1_2]; decide) (by rw [hs1_2]; try rfl) rfl ?_
        refine sk_aload_n (pc' := 55) X rfl dX1_about_54 rfl ?_
        refine sk_iload_n (pc' := 56) X rfl dX1_about_55 rfl ?_
        refine sk_callV (bs2 := fun r56 => [(nt_W G u0 a0_log S0)]) (st := []) (st2 := fun r56 => [.int r56]) (As := [.int p1]) (pc' := 59) X (c_X1_isGood l G u0 a0_log S0 p1) lk_RX1_66 [0] rfl (by decide) (fun _ => rfl) rfl rfl rfl ⟨(Nat.le_of_ble_eq_true rfl), (Nat.le_of_ble_eq_true rfl)⟩ ⟨rfl, rfl⟩ ⟨(Nat.le_of_ble_eq_true rfl), (Nat.le_of_ble_eq_true rfl)⟩ rfl (Nat.le_of_ble_eq_true rfl) rfl dX1_about_56 rfl (fun _ => rfl) (fun _ => rfl) (fun r56 => ?_)
        refine sk_if_eq (tgt := 66) (pc' := 62) X dX1_about_59 rfl rfl ?_ ?_
        · refine sk_iconst (pc' := 67) X ic_1 dX1_about_66 rfl ?_
          exact sk_iret X rfl rfl dX1_about_67
        · refine sk_iconst (pc' := 63) X ic_0 dX1_about_62 rfl ?_
          refine sk_goto (tgt := 67) X dX1_about_63 rfl ?_
          exact sk_iret X rfl rfl dX1_about_67
      ·
        refine sk_ite (fun hs1_3 => ?_) (fun hs1_3 => ?_)
        · refine sk_tableIn (tgt := 68) X dX1_about_1 (by rw [hs1_3]; decide) (by rw [hs1_3]; decide) (by rw [hs1_3]; try rfl) rfl ?_
          refine sk_aload_n (pc' := 69) X rfl dX1_about_68 rfl ?_
          refine sk_iload_n (pc' := 70) X rfl dX1_about_69 rfl ?_
          refine sk_callV (bs2 := fun r70 => [(nt_W G u0 a0_log S0)]) (st := []) (st2 := fun r70 => [.int r70]) (As := [.int p1]) (pc' := 73) X (c_X1_isGood l G u0 a0_log S0 p1) lk_RX1_66 [0] rfl (by decide) (fun _ => rfl) rfl rfl rfl ⟨(Nat.le_of_ble_eq_true rfl), (Nat.le_of_ble_eq_true rfl)⟩ ⟨rfl, rfl⟩ ⟨(Nat.le_of_ble_eq_true rfl), (Nat.le_of_ble_eq_true rfl)⟩ rfl (Nat.le_of_ble_eq_true rfl) rfl dX1_about_70 rfl (fun _ => rfl) (fun _ => rfl) (fun r70 => ?_)
          refine sk_if_eq (tgt := 80) (pc' := 76) X dX1_about_73 rfl rfl ?_ ?_
          · refine sk_aload_n (pc' := 81) X rfl dX1_about_80 rfl ?_
            refine sk_getf (pc' := 84) X 0 0 8 in_RX1 rfl rfl rfl (Nat.le_of_ble_eq_true rfl) fl_RX1_32 rfl dX1_about_81 rfl ?_
            refine sk_iload_n (pc' := 85) X rfl dX1_about_84 rfl ?_
            refine sk_iald (pc' := 86) X 0 4 rfl rfl dX1_about_85 rfl ?_
            exact sk_iret X rfl rfl dX1_about_86
          · refine sk_iconst (pc' := 77) X ic_m1 dX1_about_76 rfl ?_
            refine sk_goto (tgt := 86) X dX1_about_77 rfl ?_
            exact sk_iret X rfl rfl dX1_about_86
        ·
          refine sk_ite (fun hs1_4 => ?_) (fun hs1_4 => ?_)
          · refine sk_tableIn (tgt := 87) X dX1_about_1 (by rw [hs1_4]; decide) (by rw [hs1_4]; decide) (by rw [hs1_4]; try rfl) rfl ?_
            refine sk_aload_n (pc' := 88) X rfl dX1_about_87 rfl ?_
            refine sk_iload_n (pc' := 89) X rfl dX1_about_88 rfl ?_
            refine sk_callV (bs2 := fun r89 => [(nt_W G u0 a0_log S0)]) (st := []) (st2 := fun r89 => [.int r89]) (As := [.int p1]) (pc' := 92) X (c_X1_isGood l G u0 a0_log S0 p1) lk_RX1_66 [0] rfl (by decide) (fun _ => rfl) rfl rfl rfl ⟨(Nat.le_of_ble_eq_true rfl), (Nat.le_of_ble_eq_true rfl)⟩ ⟨rfl, rfl⟩ ⟨(Nat.le_of_ble_eq_true rfl), (Nat.le_of_ble_eq_true rfl)⟩ rfl (Nat.le_of_ble_eq_true rfl) rfl dX1_about_89 rfl (fun _ => rfl) (fun _ => rfl) (fun r89 => ?_)
            refine sk_if_eq (tgt := 99) (pc' := 95) X dX1_about_92 rfl rfl ?_ ?_
            · refine sk_aload_n (pc' := 100) X rfl dX1_about_99 rfl ?_
              refine sk_getf (pc' := 103) X 0 0 9 in_RX1 rfl rfl rfl (Nat.le_of_ble_eq_true rfl) fl_RX1_35 rfl dX1_about_100 rfl ?_
              refine sk_iload_n (pc' := 104) X rfl dX1_about_103 rfl ?_
              refine sk_iald (pc' := 105) X 0 5 rfl rfl dX1_about_104 rfl ?_
              exact sk_iret X rfl rfl dX1_about_105
            · refine sk_iconst (pc' := 96) X ic_m1 dX1_about_95 rfl ?_
              refine sk_goto (tgt := 105) X dX1_about_96 rfl ?_
              exact sk_iret X rfl rfl dX1_about_105
          ·
            refine sk_ite (fun hs1_5 => ?_) (fun hs1_5 => ?_)
            · refine sk_tableIn (tgt := 106) X dX1_about_1 (by rw [hs1_5]; decide) (by rw [hs1_5]; decide) (by rw [hs1_5]; try rfl) rfl ?_
              refine sk_aload_n (pc' := 107) X rfl dX1_about_106 rfl ?_
              refine sk_iload_n (pc' := 108) X rfl dX1_about_107 rfl ?_
              refine sk_callV (bs2 := fun r108 => [(nt_W G u0 a0_log S0)]) (st := []) (st2 := fun r108 => [.int r108]) (As := [.int p1]) (pc' := 111) X (c_X1_neighboursOf l G u0 a0_log S0 p1) lk_RX1_70 [0] rfl (by decide) (fun _ => rfl) rfl rfl rfl ⟨(Nat.le_of_ble_eq_true rfl), (Nat.le_of_ble_eq_true rfl)⟩ ⟨rfl, rfl⟩ ⟨(Nat.le_of_ble_eq_true rfl), (Nat.le_of_ble_eq_true rfl)⟩ rfl (Nat.le_of_ble_eq_true rfl) rfl dX1_about_108 rfl (fun _ => rfl) (fun _ => rfl) (fun r108 => ?_)
              refine sk_callS (bs2 := fun r111 => [(nt_W G u0 a0_log S0)]) (st := []) (st2 := fun r111 => [.int r111]) (As := [.int r108]) (pc' := 114) X (c_J6_bitCount_0f7a4 l G r108) lk_RX1_74 [] rfl (by decide) (fun _ => rfl) ⟨(Nat.le_of_ble_eq_true rfl), (Nat.le_of_ble_eq_true rfl)⟩ ⟨rfl, rfl⟩ ⟨(Nat.le_of_ble_eq_true rfl), (Nat.le_of_ble_eq_true rfl)⟩ rfl (Nat.le_of_ble_eq_true rfl) rfl dX1_about_111 rfl (fun _ => rfl) (fun _ => rfl) (fun r111 => ?_)
              exact sk_iret X rfl rfl dX1_about_114
            ·
              refine sk_tableOut (tgt := 115) X dX1_about_1 (by have a0 := lv_neT hs1_0 (a := 0) (by decide); have a1 := lv_neT hs1_1 (a := 1) (by decide); have a2 := lv_neT hs1_2 (a := 2) (by decide); have a3 := lv_neT hs1_3 (a := 3) (by decide); have a4 := lv_neT hs1_4 (a := 4) (by decide); have a5 := lv_neT hs1_5 (a := 5) (by decide); omega) rfl ?_
              refine sk_aload_n (pc' := 116) X rfl dX1_about_115 rfl ?_
              refine sk_iload_n (pc' := 117) X rfl dX1_about_116 rfl ?_
              refine sk_callV (bs2 := fun r117 => [(nt_W G u0 a0_log S0)]) (st := []) (st2 := fun r117 => [.int r117]) (As := [.int p1]) (pc' := 120) X (c_X1_pulsesTo l G u0 a0_log S0 p1) lk_RX1_79 [0] rfl (by decide) (fun _ => rfl) rfl rfl rfl ⟨(Nat.le_of_ble_eq_true rfl), (Nat.le_of_ble_eq_true rfl)⟩ ⟨rfl, rfl⟩ ⟨(Nat.le_of_ble_eq_true rfl), (Nat.le_of_ble_eq_true rfl)⟩ rfl (Nat.le_of_ble_eq_true rfl) rfl dX1_about_117 rfl (fun _ => rfl) (fun _ => rfl) (fun r117 => ?_)
              exact sk_iret X rfl rfl dX1_about_120
def rm_X1_goodClocksAt : Room := { frames := 1, cells := 0, slots := 0, locals := 21 }
def o_X1_goodClocksAt : (Int32) → Option Value := fun r => some (.int r)
def w_X1_goodClocksAt (G : sk_G) (u0 : Nat → Nat) (a0_log : Nat) (S0 : sk_N) : (Int32) → sk_B := fun r => [(nt_W G u0 a0_log S0)]
set_option maxHeartbeats 4000000 in
set_option maxRecDepth 100000 in
theorem c_X1_goodClocksAt (l : Launch) (G : sk_G) (u0 : Nat → Nat) (a0_log : Nat) (S0 : sk_N) (p1 : Int32) : sk_ctr l G yX1_goodClocksAt cX1_goodClocksAt 4 (some .int) rm_X1_goodClocksAt [.ref (u0 0), .int p1] [(nt_W G u0 a0_log S0)] (m_X1_goodClocksAt S0 p1) o_X1_goodClocksAt (w_X1_goodClocksAt G u0 a0_log S0) := by
  refine sk_entry (own := RX1) (by decide) rfl (lv0 := [some (.ref (u0 0)), some (.int p1), none, none]) rfl (Nat.le_of_ble_eq_true rfl) ?_
  intro Γ X
  have h4 : ∀ s4 : Int32 × Int32, sk_S Γ (sk_Φ Γ o_X1_goodClocksAt (w_X1_goodClocksAt G u0 a0_log S0)) 0 0 (m_X1_goodClocksAt_4 S0 p1 s4) [(nt_W G u0 a0_log S0)] [some (.ref (u0 0)), some (.int p1), some (.int s4.1), some (.int s4.2)] 4 [] := by
    intro s4
    unfold m_X1_goodClocksAt_4
    refine sk_loop (bsf := fun s4 => [(nt_W G u0 a0_log S0)]) (lvf := fun s4 => [some (.ref (u0 0)), some (.int p1), some (.int s4.1), some (.int s4.2)]) ?_ sk_fuel s4
    intro k4 s4 ih4
    unfold m_X1_goodClocksAt_4_step
    refine sk_iload_n (pc' := 5) X rfl dX1_goodClocksAt_4 rfl ?_
    refine sk_aload_n (pc' := 6) X rfl dX1_goodClocksAt_5 rfl ?_
    refine sk_getf (pc' := 9) X 0 0 0 in_RX1 rfl rfl rfl (Nat.le_of_ble_eq_true rfl) fl_RX1_47 rfl dX1_goodClocksAt_6 rfl ?_
    refine sk_icmp_ge (tgt := 42) (pc' := 12) X dX1_goodClocksAt_9 rfl rfl ?_ ?_
    · refine sk_iload_n (pc' := 43) X rfl dX1_goodClocksAt_42 rfl ?_
      exact sk_iret X rfl rfl dX1_goodClocksAt_43
    · refine sk_aload_n (pc' := 13) X rfl dX1_goodClocksAt_12 rfl ?_
      refine sk_iload_n (pc' := 14) X rfl dX1_goodClocksAt_13 rfl ?_
      refine sk_callV (bs2 := fun r14 => [(nt_W G u0 a0_log S0)]) (st := []) (st2 := fun r14 => [.int r14]) (As := [.int s4.2]) (pc' := 17) X (c_X1_isGood l G u0 a0_log S0 s4.2) lk_RX1_66 [0] rfl (by decide) (fun _ => rfl) rfl rfl rfl ⟨(Nat.le_of_ble_eq_true rfl), (Nat.le_of_ble_eq_true rfl)⟩ ⟨rfl, rfl⟩ ⟨(Nat.le_of_ble_eq_true rfl), (Nat.le_of_ble_eq_true rfl)⟩ rfl (Nat.le_of_ble_eq_true rfl) rfl dX1_goodClocksAt_14 rfl (fun _ => rfl) (fun _ => rfl) (fun r14 => ?_)
      refine sk_if_eq (tgt := 36) (pc' := 20) X dX1_goodClocksAt_17 rfl rfl ?_ ?_
      · refine sk_iinc (lv' := [some (.ref (u0 0)), some (.int p1), some (.int s4.1), some (.int (s4.2 + (1 : Int32)))]) (pc' := 39) X rfl ic_1 (Nat.le_of_ble_eq_true rfl) rfl rfl dX1_goodClocksAt_36 rfl ?_
        refine sk_goto (tgt := 4) X dX1_goodClocksAt_39 rfl ?_
        exact (ih4 (s4.1, (s4.2 + (1 : Int32))))
      · refine sk_aload_n (pc' := 21) X rfl dX1_goodClocksAt_20 rfl ?_
        refine sk_getf (pc' := 24) X 0 0 6 in_RX1 rfl rfl rfl (Nat.le_of_ble_eq_true rfl) fl_RX1_26 rfl dX1_goodClocksAt_21 rfl ?_
        refine sk_iload_n (pc' := 25) X rfl dX1_goodClocksAt_24 rfl ?_
        refine sk_iald (pc' := 26) X 0 2 rfl rfl dX1_goodClocksAt_25 rfl ?_
        refine sk_iload_n (pc' := 27) X rfl dX1_goodClocksAt_26 rfl ?_
        refine sk_icmp_ne (tgt := 36) (pc' := 30) X dX1_goodClocksAt_27 rfl rfl ?_ ?_
        · refine sk_iinc (lv' := [some (.ref (u0 0)), some (.int p1), some (.int s4.1), some (.int (s4.2 + (1 : Int32)))]) (pc' := 39) X rfl ic_1 (Nat.le_of_ble_eq_true rfl) rfl rfl dX1_goodClocksAt_36 rfl ?_
          refine sk_goto (tgt := 4) X dX1_goodClocksAt_39 rfl ?_
          exact (ih4 (s4.1, (s4.2 + (1 : Int32))))
        · refine sk_iload_n (pc' := 31) X rfl dX1_goodClocksAt_30 rfl ?_
          refine sk_iconst (pc' := 32) X ic_1 dX1_goodClocksAt_31 rfl ?_
          refine sk_iload_n (pc' := 33) X rfl dX1_goodClocksAt_32 rfl ?_
          refine sk_ishl (pc' := 34) X dX1_goodClocksAt_33 rfl ?_
          refine sk_ior (pc' := 35) X dX1_goodClocksAt_34 rfl ?_
          refine sk_istore_n (lv' := [some (.ref (u0 0)), some (.int p1), some (.int (s4.1 ||| (sk_shl (1 : Int32) s4.2))), some (.int s4.2)]) (pc' := 36) X (Nat.le_of_ble_eq_true rfl) rfl rfl dX1_goodClocksAt_35 rfl ?_
          refine sk_lt (bsf := fun _ => [(nt_W G u0 a0_log S0)]) (lvf := fun z => [some (.ref (u0 0)), some (.int p1), some (.int z), some (.int s4.2)]) (stf := fun _ => []) (fun x35 => ?_)
          refine sk_iinc (lv' := [some (.ref (u0 0)), some (.int p1), some (.int x35), some (.int (s4.2 + (1 : Int32)))]) (pc' := 39) X rfl ic_1 (Nat.le_of_ble_eq_true rfl) rfl rfl dX1_goodClocksAt_36 rfl ?_
          refine sk_goto (tgt := 4) X dX1_goodClocksAt_39 rfl ?_
          exact (ih4 (x35, (s4.2 + (1 : Int32))))
  unfold m_X1_goodClocksAt
  refine sk_iconst (pc' := 1) X ic_0 dX1_goodClocksAt_0 rfl ?_
  refine sk_istore_n (lv' := [some (.ref (u0 0)), some (.int p1), some (.int (0 : Int32)), none]) (pc' := 2) X (Nat.le_of_ble_eq_true rfl) rfl rfl dX1_goodClocksAt_1 rfl ?_
  refine sk_iconst (pc' := 3) X ic_0 dX1_goodClocksAt_2 rfl ?_
  refine sk_istore_n (lv' := [some (.ref (u0 0)), some (.int p1), some (.int (0 : Int32)), some (.int (0 : Int32))]) (pc' := 4) X (Nat.le_of_ble_eq_true rfl) rfl rfl dX1_goodClocksAt_3 rfl ?_
  exact (h4 ((0 : Int32), (0 : Int32)))
def rm_X1_changeDrift : Room := { frames := 0, cells := 0, slots := 0, locals := 0 }
def o_X1_changeDrift : (Int32 × sk_N) → Option Value := fun r => some (.int r.1)
def w_X1_changeDrift (G : sk_G) (u0 : Nat → Nat) (a0_log : Nat) : (Int32 × sk_N) → sk_B := fun r => [(nt_W G u0 a0_log r.2)]
set_option maxHeartbeats 4000000 in
set_option maxRecDepth 100000 in
theorem c_X1_changeDrift (l : Launch) (G : sk_G) (u0 : Nat → Nat) (a0_log : Nat) (S0 : sk_N) (p1 : Int32) (p2 : Int32) : sk_ctr l G yX1_changeDrift cX1_changeDrift 4 (some .int) rm_X1_changeDrift [.ref (u0 0), .int p1, .int p2] [(nt_W G u0 a0_log S0)] (m_X1_changeDrift S0 p1 p2) o_X1_changeDrift (w_X1_changeDrift G u0 a0_log) := by
  refine sk_entry (own := RX1) (by decide) rfl (lv0 := [some (.ref (u0 0)), some (.int p1), some (.int p2), none]) rfl (Nat.le_of_ble_eq_true rfl) ?_
  intro Γ X
  unfold m_X1_changeDrift
  refine sk_aload_n (pc' := 1) X rfl dX1_changeDrift_0 rfl ?_
  refine sk_getf (pc' := 4) X 0 0 7 in_RX1 rfl rfl rfl (Nat.le_of_ble_eq_true rfl) fl_RX1_29 rfl dX1_changeDrift_1 rfl ?_
  refine sk_iload_n (pc' := 5) X rfl dX1_changeDrift_4 rfl ?_
  refine sk_iald (pc' := 6) X 0 3 rfl rfl dX1_changeDrift_5 rfl ?_
  refine sk_istore_n (lv' := [some (.ref (u0 0)), some (.int p1), some (.int p2), some (.int ((S0 3) (p1).toNatClampNeg))]) (pc' := 7) X (Nat.le_of_ble_eq_true rfl) rfl rfl dX1_changeDrift_6 rfl ?_
  refine sk_lt (bsf := fun _ => [(nt_W G u0 a0_log S0)]) (lvf := fun z => [some (.ref (u0 0)), some (.int p1), some (.int p2), some (.int z)]) (stf := fun _ => []) (fun x6 => ?_)
  refine sk_aload_n (pc' := 8) X rfl dX1_changeDrift_7 rfl ?_
  refine sk_getf (pc' := 11) X 0 0 7 in_RX1 rfl rfl rfl (Nat.le_of_ble_eq_true rfl) fl_RX1_29 rfl dX1_changeDrift_8 rfl ?_
  refine sk_iload_n (pc' := 12) X rfl dX1_changeDrift_11 rfl ?_
  refine sk_iload_n (pc' := 13) X rfl dX1_changeDrift_12 rfl ?_
  refine sk_iast (bs' := [(nt_W G u0 a0_log (sk_up S0 3 (p1).toNatClampNeg p2))]) (pc' := 14) X 0 3 rfl rfl (sk_st 0 (nt_st_3 ..) rfl) dX1_changeDrift_13 rfl ?_
  refine sk_lt (bsf := fun z => [(nt_W G u0 a0_log z)]) (lvf := fun _ => [some (.ref (u0 0)), some (.int p1), some (.int p2), some (.int x6)]) (stf := fun _ => []) (fun N13 => ?_)
  refine sk_iload_n (pc' := 15) X rfl dX1_changeDrift_14 rfl ?_
  exact sk_iret X rfl rfl dX1_changeDrift_15
def rm_X1_blinkerCount : Room := { frames := 1, cells := 0, slots := 0, locals := 21 }
def o_X1_blinkerCount : (Int32) → Option Value := fun r => some (.int r)
def w_X1_blinkerCount (G : sk_G) (u0 : Nat → Nat) (a0_log : Nat) (S0 : sk_N) : (Int32) → sk_B := fun r => [(nt_W G u0 a0_log S0)]
set_option maxHeartbeats 4000000 in
set_option maxRecDepth 100000 in
theorem c_X1_blinkerCount (l : Launch) (G : sk_G) (u0 : Nat → Nat) (a0_log : Nat) (S0 : sk_N) : sk_ctr l G yX1_blinkerCount cX1_blinkerCount 3 (some .int) rm_X1_blinkerCount [.ref (u0 0)] [(nt_W G u0 a0_log S0)] (m_X1_blinkerCount S0) o_X1_blinkerCount (w_X1_blinkerCount G u0 a0_log S0) := by
  refine sk_entry (own := RX1) (by decide) rfl (lv0 := [some (.ref (u0 0)), none, none]) rfl (Nat.le_of_ble_eq_true rfl) ?_
  intro Γ X
  have h4 : ∀ s4 : Int32 × Int32, sk_S Γ (sk_Φ Γ o_X1_blinkerCount (w_X1_blinkerCount G u0 a0_log S0)) 0 0 (m_X1_blinkerCount_4 S0 s4) [(nt_W G u0 a0_log S0)] [some (.ref (u0 0)), some (.int s4.1), some (.int s4.2)] 4 [] := by
    intro s4
    unfold m_X1_blinkerCount_4
    refine sk_loop (bsf := fun s4 => [(nt_W G u0 a0_log S0)]) (lvf := fun s4 => [some (.ref (u0 0)), some (.int s4.1), some (.int s4.2)]) ?_ sk_fuel s4
    intro k4 s4 ih4
    unfold m_X1_blinkerCount_4_step
    refine sk_iload_n (pc' := 5) X rfl dX1_blinkerCount_4 rfl ?_
    refine sk_aload_n (pc' := 6) X rfl dX1_blinkerCount_5 rfl ?_
    refine sk_getf (pc' := 9) X 0 0 0 in_RX1 rfl rfl rfl (Nat.le_of_ble_eq_true rfl) fl_RX1_47 rfl dX1_blinkerCount_6 rfl ?_
    refine sk_icmp_ge (tgt := 29) (pc' := 12) X dX1_blinkerCount_9 rfl rfl ?_ ?_
    · refine sk_iload_n (pc' := 30) X rfl dX1_blinkerCount_29 rfl ?_
      exact sk_iret X rfl rfl dX1_blinkerCount_30
    · refine sk_aload_n (pc' := 13) X rfl dX1_blinkerCount_12 rfl ?_
      refine sk_iload_n (pc' := 14) X rfl dX1_blinkerCount_13 rfl ?_
      refine sk_callV (bs2 := fun r14 => [(nt_W G u0 a0_log S0)]) (st := []) (st2 := fun r14 => [.int r14]) (As := [.int s4.2]) (pc' := 17) X (c_X1_isGood l G u0 a0_log S0 s4.2) lk_RX1_66 [0] rfl (by decide) (fun _ => rfl) rfl rfl rfl ⟨(Nat.le_of_ble_eq_true rfl), (Nat.le_of_ble_eq_true rfl)⟩ ⟨rfl, rfl⟩ ⟨(Nat.le_of_ble_eq_true rfl), (Nat.le_of_ble_eq_true rfl)⟩ rfl (Nat.le_of_ble_eq_true rfl) rfl dX1_blinkerCount_14 rfl (fun _ => rfl) (fun _ => rfl) (fun r14 => ?_)
      refine sk_if_ne (tgt := 23) (pc' := 20) X dX1_blinkerCount_17 rfl rfl ?_ ?_
      · refine sk_iinc (lv' := [some (.ref (u0 0)), some (.int s4.1), some (.int (s4.2 + (1 : Int32)))]) (pc' := 26) X rfl ic_1 (Nat.le_of_ble_eq_true rfl) rfl rfl dX1_blinkerCount_23 rfl ?_
        refine sk_goto (tgt := 4) X dX1_blinkerCount_26 rfl ?_
        exact (ih4 (s4.1, (s4.2 + (1 : Int32))))
      · refine sk_iinc (lv' := [some (.ref (u0 0)), some (.int (s4.1 + (1 : Int32))), some (.int s4.2)]) (pc' := 23) X rfl ic_1 (Nat.le_of_ble_eq_true rfl) rfl rfl dX1_blinkerCount_20 rfl ?_
        refine sk_iinc (lv' := [some (.ref (u0 0)), some (.int (s4.1 + (1 : Int32))), some (.int (s4.2 + (1 : Int32)))]) (pc' := 26) X rfl ic_1 (Nat.le_of_ble_eq_true rfl) rfl rfl dX1_blinkerCount_23 rfl ?_
        refine sk_goto (tgt := 4) X dX1_blinkerCount_26 rfl ?_
        exact (ih4 ((s4.1 + (1 : Int32)), (s4.2 + (1 : Int32))))
  unfold m_X1_blinkerCount
  refine sk_iconst (pc' := 1) X ic_0 dX1_blinkerCount_0 rfl ?_
  refine sk_istore_n (lv' := [some (.ref (u0 0)), some (.int (0 : Int32)), none]) (pc' := 2) X (Nat.le_of_ble_eq_true rfl) rfl rfl dX1_blinkerCount_1 rfl ?_
  refine sk_iconst (pc' := 3) X ic_0 dX1_blinkerCount_2 rfl ?_
  refine sk_istore_n (lv' := [some (.ref (u0 0)), some (.int (0 : Int32)), some (.int (0 : Int32))]) (pc' := 4) X (Nat.le_of_ble_eq_true rfl) rfl rfl dX1_blinkerCount_3 rfl ?_
  exact (h4 ((0 : Int32), (0 : Int32)))
def rm_X1_makeGood : Room := { frames := 0, cells := 0, slots := 0, locals := 0 }
def o_X1_makeGood : (sk_N) → Option Value := fun r => none
def w_X1_makeGood (G : sk_G) (u0 : Nat → Nat) (a0_log : Nat) : (sk_N) → sk_B := fun r => [(nt_W G u0 a0_log r)]
set_option maxHeartbeats 4000000 in
set_option maxRecDepth 100000 in
theorem c_X1_makeGood (l : Launch) (G : sk_G) (u0 : Nat → Nat) (a0_log : Nat) (S0 : sk_N) (p1 : Int32) : sk_ctr l G yX1_makeGood cX1_makeGood 2 none rm_X1_makeGood [.ref (u0 0), .int p1] [(nt_W G u0 a0_log S0)] (m_X1_makeGood S0 p1) o_X1_makeGood (w_X1_makeGood G u0 a0_log) := by
  refine sk_entry (own := RX1) (by decide) rfl (lv0 := [some (.ref (u0 0)), some (.int p1)]) rfl (Nat.le_of_ble_eq_true rfl) ?_
  intro Γ X
  unfold m_X1_makeGood
  refine sk_aload_n (pc' := 1) X rfl dX1_makeGood_0 rfl ?_
  refine sk_getf (pc' := 4) X 0 0 8 in_RX1 rfl rfl rfl (Nat.le_of_ble_eq_true rfl) fl_RX1_32 rfl dX1_makeGood_1 rfl ?_
  refine sk_iload_n (pc' := 5) X rfl dX1_makeGood_4 rfl ?_
  refine sk_iconst (pc' := 6) X ic_0 dX1_makeGood_5 rfl ?_
  refine sk_iast (bs' := [(nt_W G u0 a0_log (sk_up S0 4 (p1).toNatClampNeg (0 : Int32)))]) (pc' := 7) X 0 4 rfl rfl (sk_st 0 (nt_st_4 ..) rfl) dX1_makeGood_6 rfl ?_
  refine sk_lt (bsf := fun z => [(nt_W G u0 a0_log z)]) (lvf := fun _ => [some (.ref (u0 0)), some (.int p1)]) (stf := fun _ => []) (fun N6 => ?_)
  refine sk_aload_n (pc' := 8) X rfl dX1_makeGood_7 rfl ?_
  refine sk_getf (pc' := 11) X 0 0 9 in_RX1 rfl rfl rfl (Nat.le_of_ble_eq_true rfl) fl_RX1_35 rfl dX1_makeGood_8 rfl ?_
  refine sk_iload_n (pc' := 12) X rfl dX1_makeGood_11 rfl ?_
  refine sk_iconst (pc' := 13) X ic_0 dX1_makeGood_12 rfl ?_
  refine sk_iast (bs' := [(nt_W G u0 a0_log (sk_up N6 5 (p1).toNatClampNeg (0 : Int32)))]) (pc' := 14) X 0 5 rfl rfl (sk_st 0 (nt_st_5 ..) rfl) dX1_makeGood_13 rfl ?_
  refine sk_lt (bsf := fun z => [(nt_W G u0 a0_log z)]) (lvf := fun _ => [some (.ref (u0 0)), some (.int p1)]) (stf := fun _ => []) (fun N13 => ?_)
  exact sk_vret X rfl rfl dX1_makeGood_14
def rm_X1_linkCount : Room := { frames := 2, cells := 0, slots := 0, locals := 45 }
def o_X1_linkCount : (Int32) → Option Value := fun r => some (.int r)
def w_X1_linkCount (G : sk_G) (u0 : Nat → Nat) (a0_log : Nat) (S0 : sk_N) : (Int32) → sk_B := fun r => [(nt_W G u0 a0_log S0)]
set_option maxHeartbeats 4000000 in
set_option maxRecDepth 100000 in
theorem c_X1_linkCount (l : Launch) (G : sk_G) (u0 : Nat → Nat) (a0_log : Nat) (S0 : sk_N) : sk_ctr l G yX1_linkCount cX1_linkCount 3 (some .int) rm_X1_linkCount [.ref (u0 0)] [(nt_W G u0 a0_log S0)] (m_X1_linkCount S0) o_X1_linkCount (w_X1_linkCount G u0 a0_log S0) := by
  refine sk_entry (own := RX1) (by decide) rfl (lv0 := [some (.ref (u0 0)), none, none]) rfl (Nat.le_of_ble_eq_true rfl) ?_
  intro Γ X
  have h4 : ∀ s4 : Int32 × Int32, sk_S Γ (sk_Φ Γ o_X1_linkCount (w_X1_linkCount G u0 a0_log S0)) 0 0 (m_X1_linkCount_4 S0 s4) [(nt_W G u0 a0_log S0)] [some (.ref (u0 0)), some (.int s4.1), some (.int s4.2)] 4 [] := by
    intro s4
    unfold m_X1_linkCount_4
    refine sk_loop (bsf := fun s4 => [(nt_W G u0 a0_log S0)]) (lvf := fun s4 => [some (.ref (u0 0)), some (.int s4.1), some (.int s4.2)]) ?_ sk_fuel s4
    intro k4 s4 ih4
    unfold m_X1_linkCount_4_step
    refine sk_iload_n (pc' := 5) X rfl dX1_linkCount_4 rfl ?_
    refine sk_aload_n (pc' := 6) X rfl dX1_linkCount_5 rfl ?_
    refine sk_getf (pc' := 9) X 0 0 0 in_RX1 rfl rfl rfl (Nat.le_of_ble_eq_true rfl) fl_RX1_47 rfl dX1_linkCount_6 rfl ?_
    refine sk_icmp_ge (tgt := 29) (pc' := 12) X dX1_linkCount_9 rfl rfl ?_ ?_
    · refine sk_iload_n (pc' := 30) X rfl dX1_linkCount_29 rfl ?_
      refine sk_iconst (pc' := 31) X ic_2 dX1_linkCount_30 rfl ?_
      refine sk_idiv (pc' := 32) X dX1_linkCount_31 rfl ?_
      exact sk_iret X rfl rfl dX1_linkCount_32
    · refine sk_iload_n (pc' := 13) X rfl dX1_linkCount_12 rfl ?_
      refine sk_aload_n (pc' := 14) X rfl dX1_linkCount_13 rfl ?_
      refine sk_iload_n (pc' := 15) X rfl dX1_linkCount_14 rfl ?_
      refine sk_callV (bs2 := fun r15 => [(nt_W G u0 a0_log S0)]) (st := [.int s4.1]) (st2 := fun r15 => [.int r15, .int s4.1]) (As := [.int s4.2]) (pc' := 18) X (c_X1_neighboursOf l G u0 a0_log S0 s4.2) lk_RX1_70 [0] rfl (by decide) (fun _ => rfl) rfl rfl rfl ⟨(Nat.le_of_ble_eq_true rfl), (Nat.le_of_ble_eq_true rfl)⟩ ⟨rfl, rfl⟩ ⟨(Nat.le_of_ble_eq_true rfl), (Nat.le_of_ble_eq_true rfl)⟩ rfl (Nat.le_of_ble_eq_true rfl) rfl dX1_linkCount_15 rfl (fun _ => rfl) (fun _ => rfl) (fun r15 => ?_)
      refine sk_callS (bs2 := fun r18 => [(nt_W G u0 a0_log S0)]) (st := [.int s4.1]) (st2 := fun r18 => [.int r18, .int s4.1]) (As := [.int r15]) (pc' := 21) X (c_J6_bitCount_0f7a4 l G r15) lk_RX1_74 [] rfl (by decide) (fun _ => rfl) ⟨(Nat.le_of_ble_eq_true rfl), (Nat.le_of_ble_eq_true rfl)⟩ ⟨rfl, rfl⟩ ⟨(Nat.le_of_ble_eq_true rfl), (Nat.le_of_ble_eq_true rfl)⟩ rfl (Nat.le_of_ble_eq_true rfl) rfl dX1_linkCount_18 rfl (fun _ => rfl) (fun _ => rfl) (fun r18 => ?_)
      refine sk_iadd (pc' := 22) X dX1_linkCount_21 rfl ?_
      refine sk_istore_n (lv' := [some (.ref (u0 0)), some (.int (s4.1 + r18)), some (.int s4.2)]) (pc' := 23) X (Nat.le_of_ble_eq_true rfl) rfl rfl dX1_linkCount_22 rfl ?_
      refine sk_lt (bsf := fun _ => [(nt_W G u0 a0_log S0)]) (lvf := fun z => [some (.ref (u0 0)), some (.int z), some (.int s4.2)]) (stf := fun _ => []) (fun x22 => ?_)
      refine sk_iinc (lv' := [some (.ref (u0 0)), some (.int x22), some (.int (s4.2 + (1 : Int32)))]) (pc' := 26) X rfl ic_1 (Nat.le_of_ble_eq_true rfl) rfl rfl dX1_linkCount_23 rfl ?_
      refine sk_goto (tgt := 4) X dX1_linkCount_26 rfl ?_
      exact (ih4 (x22, (s4.2 + (1 : Int32))))
  unfold m_X1_linkCount
  refine sk_iconst (pc' := 1) X ic_0 dX1_linkCount_0 rfl ?_
  refine sk_istore_n (lv' := [some (.ref (u0 0)), some (.int (0 : Int32)), none]) (pc' := 2) X (Nat.le_of_ble_eq_true rfl) rfl rfl dX1_linkCount_1 rfl ?_
  refine sk_iconst (pc' := 3) X ic_0 dX1_linkCount_2 rfl ?_
  refine sk_istore_n (lv' := [some (.ref (u0 0)), some (.int (0 : Int32)), some (.int (0 : Int32))]) (pc' := 4) X (Nat.le_of_ble_eq_true rfl) rfl rfl dX1_linkCount_3 rfl ?_
  exact (h4 ((0 : Int32), (0 : Int32)))
def rm_X1_changePeriod : Room := { frames := 0, cells := 0, slots := 0, locals := 0 }
def o_X1_changePeriod : (Int32 × sk_N) → Option Value := fun r => some (.int r.1)
def w_X1_changePeriod (G : sk_G) (u0 : Nat → Nat) (a0_log : Nat) : (Int32 × sk_N) → sk_B := fun r => [(nt_W G u0 a0_log r.2)]
set_option maxHeartbeats 4000000 in
set_option maxRecDepth 100000 in
theorem c_X1_changePeriod (l : Launch) (G : sk_G) (u0 : Nat → Nat) (a0_log : Nat) (S0 : sk_N) (p1 : Int32) : sk_ctr l G yX1_changePeriod cX1_changePeriod 4 (some .int) rm_X1_changePeriod [.ref (u0 0), .int p1] [(nt_W G u0 a0_log S0)] (m_X1_changePeriod S0 p1) o_X1_changePeriod (w_X1_changePeriod G u0 a0_log) := by
  refine sk_entry (own := RX1) (by decide) rfl (lv0 := [some (.ref (u0 0)), some (.int p1), none, none]) rfl (Nat.le_of_ble_eq_true rfl) ?_
  intro Γ X
  have h16 : ∀ s16 : sk_N × Int32 × Int32, sk_S Γ (sk_Φ Γ o_X1_changePeriod (w_X1_changePeriod G u0 a0_log)) 0 0 (m_X1_changePeriod_16 p1 s16) [(nt_W G u0 a0_log s16.1)] [some (.ref (u0 0)), some (.int p1), some (.int s16.2.1), some (.int s16.2.2)] 16 [] := by
    intro s16
    unfold m_X1_changePeriod_16
    refine sk_loop (bsf := fun s16 => [(nt_W G u0 a0_log s16.1)]) (lvf := fun s16 => [some (.ref (u0 0)), some (.int p1), some (.int s16.2.1), some (.int s16.2.2)]) ?_ sk_fuel s16
    intro k16 s16 ih16
    unfold m_X1_changePeriod_16_step
    refine sk_iload_n (pc' := 17) X rfl dX1_changePeriod_16 rfl ?_
    refine sk_aload_n (pc' := 18) X rfl dX1_changePeriod_17 rfl ?_
    refine sk_getf (pc' := 21) X 0 0 0 in_RX1 rfl rfl rfl (Nat.le_of_ble_eq_true rfl) fl_RX1_47 rfl dX1_changePeriod_18 rfl ?_
    refine sk_icmp_ge (tgt := 40) (pc' := 24) X dX1_changePeriod_21 rfl rfl ?_ ?_
    · refine sk_iload_n (pc' := 41) X rfl dX1_changePeriod_40 rfl ?_
      exact sk_iret X rfl rfl dX1_changePeriod_41
    · refine sk_aload_n (pc' := 25) X rfl dX1_changePeriod_24 rfl ?_
      refine sk_getf (pc' := 28) X 0 0 6 in_RX1 rfl rfl rfl (Nat.le_of_ble_eq_true rfl) fl_RX1_26 rfl dX1_changePeriod_25 rfl ?_
      refine sk_iload_n (pc' := 29) X rfl dX1_changePeriod_28 rfl ?_
      refine sk_dup2 (pc' := 30) X rfl rfl dX1_changePeriod_29 rfl ?_
      refine sk_iald (pc' := 31) X 0 2 rfl rfl dX1_changePeriod_30 rfl ?_
      refine sk_iload_n (pc' := 32) X rfl dX1_changePeriod_31 rfl ?_
      refine sk_irem (pc' := 33) X dX1_changePeriod_32 rfl ?_
      refine sk_iast (bs' := [(nt_W G u0 a0_log (sk_up s16.1 2 (s16.2.2).toNatClampNeg (sk_rem ((s16.1 2) (s16.2.2).toNatClampNeg) p1)))]) (pc' := 34) X 0 2 rfl rfl (sk_st 0 (nt_st_2 ..) rfl) dX1_changePeriod_33 rfl ?_
      refine sk_lt (bsf := fun z => [(nt_W G u0 a0_log z)]) (lvf := fun _ => [some (.ref (u0 0)), some (.int p1), some (.int s16.2.1), some (.int s16.2.2)]) (stf := fun _ => []) (fun N33 => ?_)
      refine sk_iinc (lv' := [some (.ref (u0 0)), some (.int p1), some (.int s16.2.1), some (.int (s16.2.2 + (1 : Int32)))]) (pc' := 37) X rfl ic_1 (Nat.le_of_ble_eq_true rfl) rfl rfl dX1_changePeriod_34 rfl ?_
      refine sk_goto (tgt := 16) X dX1_changePeriod_37 rfl ?_
      exact (ih16 (N33, s16.2.1, (s16.2.2 + (1 : Int32))))
  unfold m_X1_changePeriod
  refine sk_aload_n (pc' := 1) X rfl dX1_changePeriod_0 rfl ?_
  refine sk_getf (pc' := 4) X 0 0 1 in_RX1 rfl rfl rfl (Nat.le_of_ble_eq_true rfl) fl_RX1_9 rfl dX1_changePeriod_1 rfl ?_
  refine sk_istore_n (lv' := [some (.ref (u0 0)), some (.int p1), some (.int (S0 0 1)), none]) (pc' := 5) X (Nat.le_of_ble_eq_true rfl) rfl rfl dX1_changePeriod_4 rfl ?_
  refine sk_lt (bsf := fun _ => [(nt_W G u0 a0_log S0)]) (lvf := fun z => [some (.ref (u0 0)), some (.int p1), some (.int z), none]) (stf := fun _ => []) (fun x4 => ?_)
  refine sk_iload_n (pc' := 6) X rfl dX1_changePeriod_5 rfl ?_
  refine sk_if_le (tgt := 40) (pc' := 9) X dX1_changePeriod_6 rfl rfl ?_ ?_
  · refine sk_iload_n (pc' := 41) X rfl dX1_changePeriod_40 rfl ?_
    exact sk_iret X rfl rfl dX1_changePeriod_41
  · refine sk_aload_n (pc' := 10) X rfl dX1_changePeriod_9 rfl ?_
    refine sk_iload_n (pc' := 11) X rfl dX1_changePeriod_10 rfl ?_
    refine sk_putf (bs' := [(nt_W G u0 a0_log (sk_up S0 0 1 p1))]) (pc' := 14) X 0 0 1 in_RX1 tyX1 tyX1_ok nmX1 rfl rfl rfl (Nat.le_of_ble_eq_true rfl) fl_RX1_9 rfl (tyX1_ok 1 (Nat.le_of_ble_eq_true rfl)) rfl rfl (Nat.le_of_ble_eq_true rfl) (sk_st 0 (nt_pf_1 ..) rfl) dX1_changePeriod_11 rfl ?_
    refine sk_lt (bsf := fun z => [(nt_W G u0 a0_log z)]) (lvf := fun _ => [some (.ref (u0 0)), some (.int p1), some (.int x4), none]) (stf := fun _ => []) (fun N11 => ?_)
    refine sk_iconst (pc' := 15) X ic_0 dX1_changePeriod_14 rfl ?_
    refine sk_istore_n (lv' := [some (.ref (u0 0)), some (.int p1), some (.int x4), some (.int (0 : Int32))]) (pc' := 16) X (Nat.le_of_ble_eq_true rfl) rfl rfl dX1_changePeriod_15 rfl ?_
    exact (h16 (N11, x4, (0 : Int32)))
def rm_X1_changeResponse : Room := { frames := 0, cells := 0, slots := 0, locals := 0 }
def o_X1_changeResponse : (Int32 × sk_N) → Option Value := fun r => some (.int r.1)
def w_X1_changeResponse (G : sk_G) (u0 : Nat → Nat) (a0_log : Nat) : (Int32 × sk_N) → sk_B := fun r => [(nt_W G u0 a0_log r.2)]
set_option maxHeartbeats 4000000 in
set_option maxRecDepth 100000 in
theorem c_X1_changeResponse (l : Launch) (G : sk_G) (u0 : Nat → Nat) (a0_log : Nat) (S0 : sk_N) (p1 : Int32) (p2 : Int32) : sk_ctr l G yX1_changeResponse cX1_changeResponse 4 (some .int) rm_X1_changeResponse [.ref (u0 0), .int p1, .int p2] [(nt_W G u0 a0_log S0)] (m_X1_changeResponse S0 p1 p2) o_X1_changeResponse (w_X1_changeResponse G u0 a0_log) := by
  refine sk_entry (own := RX1) (by decide) rfl (lv0 := [some (.ref (u0 0)), some (.int p1), some (.int p2), none]) rfl (Nat.le_of_ble_eq_true rfl) ?_
  intro Γ X
  unfold m_X1_changeResponse
  refine sk_aload_n (pc' := 1) X rfl dX1_changeResponse_0 rfl ?_
  refine sk_getf (pc' := 4) X 0 0 2 in_RX1 rfl rfl rfl (Nat.le_of_ble_eq_true rfl) fl_RX1_15 rfl dX1_changeResponse_1 rfl ?_
  refine sk_iload_n (pc' := 5) X rfl dX1_changeResponse_4 rfl ?_
  refine sk_iald (pc' := 6) X 0 1 rfl rfl dX1_changeResponse_5 rfl ?_
  refine sk_istore_n (lv' := [some (.ref (u0 0)), some (.int p1), some (.int p2), some (.int ((S0 1) (p1).toNatClampNeg))]) (pc' := 7) X (Nat.le_of_ble_eq_true rfl) rfl rfl dX1_changeResponse_6 rfl ?_
  refine sk_lt (bsf := fun _ => [(nt_W G u0 a0_log S0)]) (lvf := fun z => [some (.ref (u0 0)), some (.int p1), some (.int p2), some (.int z)]) (stf := fun _ => []) (fun x6 => ?_)
  refine sk_aload_n (pc' := 8) X rfl dX1_changeResponse_7 rfl ?_
  refine sk_getf (pc' := 11) X 0 0 2 in_RX1 rfl rfl rfl (Nat.le_of_ble_eq_true rfl) fl_RX1_15 rfl dX1_changeResponse_8 rfl ?_
  refine sk_iload_n (pc' := 12) X rfl dX1_changeResponse_11 rfl ?_
  refine sk_iload_n (pc' := 13) X rfl dX1_changeResponse_12 rfl ?_
  refine sk_iast (bs' := [(nt_W G u0 a0_log (sk_up S0 1 (p1).toNatClampNeg p2))]) (pc' := 14) X 0 1 rfl rfl (sk_st 0 (nt_st_1 ..) rfl) dX1_changeResponse_13 rfl ?_
  refine sk_lt (bsf := fun z => [(nt_W G u0 a0_log z)]) (lvf := fun _ => [some (.ref (u0 0)), some (.int p1), some (.int p2), some (.int x6)]) (stf := fun _ => []) (fun N13 => ?_)
  refine sk_iload_n (pc' := 15) X rfl dX1_changeResponse_14 rfl ?_
  exact sk_iret X rfl rfl dX1_changeResponse_15
def rm_X1_linksFromTo : Room := { frames := 3, cells := 0, slots := 0, locals := 68 }
def o_X1_linksFromTo : (Int32) → Option Value := fun r => some (.int r)
def w_X1_linksFromTo (G : sk_G) (u0 : Nat → Nat) (a0_log : Nat) (S0 : sk_N) : (Int32) → sk_B := fun r => [(nt_W G u0 a0_log S0)]
set_option maxHeartbeats 4000000 in
set_option maxRecDepth 100000 in
theorem c_X1_linksFromTo (l : Launch) (G : sk_G) (u0 : Nat → Nat) (a0_log : Nat) (S0 : sk_N) (p1 : Int32) (p2 : Int32) : sk_ctr l G yX1_linksFromTo cX1_linksFromTo 5 (some .int) rm_X1_linksFromTo [.ref (u0 0), .int p1, .int p2] [(nt_W G u0 a0_log S0)] (m_X1_linksFromTo S0 p1 p2) o_X1_linksFromTo (w_X1_linksFromTo G u0 a0_log S0) := by
  refine sk_entry (own := RX1) (by decide) rfl (lv0 := [some (.ref (u0 0)), some (.int p1), some (.int p2), none, none]) rfl (Nat.le_of_ble_eq_true rfl) ?_
  intro Γ X
  have h7 : ∀ s7 : Int32 × Int32, sk_S Γ (sk_Φ Γ o_X1_linksFromTo (w_X1_linksFromTo G u0 a0_log S0)) 0 0 (m_X1_linksFromTo_7 S0 p1 p2 s7) [(nt_W G u0 a0_log S0)] [some (.ref (u0 0)), none, some (.int p2), some (.int s7.1), some (.int s7.2)] 7 [] := by
    intro s7
    unfold m_X1_linksFromTo_7
    refine sk_loop (bsf := fun s7 => [(nt_W G u0 a0_log S0)]) (lvf := fun s7 => [some (.ref (u0 0)), none, some (.int p2), some (.int s7.1), some (.int s7.2)]) ?_ sk_fuel s7
    intro k7 s7 ih7
    unfold m_X1_linksFromTo_7_step
    refine sk_iload (pc' := 9) X rfl dX1_linksFromTo_7 rfl ?_
    refine sk_aload_n (pc' := 10) X rfl dX1_linksFromTo_9 rfl ?_
    refine sk_getf (pc' := 13) X 0 0 0 in_RX1 rfl rfl rfl (Nat.le_of_ble_eq_true rfl) fl_RX1_47 rfl dX1_linksFromTo_10 rfl ?_
    refine sk_icmp_ge (tgt := 39) (pc' := 16) X dX1_linksFromTo_13 rfl rfl ?_ ?_
    · refine sk_iconst (pc' := 40) X ic_m1 dX1_linksFromTo_39 rfl ?_
      exact sk_iret X rfl rfl dX1_linksFromTo_40
    · refine sk_iload_n (pc' := 17) X rfl dX1_linksFromTo_16 rfl ?_
      refine sk_iconst (pc' := 18) X ic_1 dX1_linksFromTo_17 rfl ?_
      refine sk_iload_n (pc' := 19) X rfl dX1_linksFromTo_18 rfl ?_
      refine sk_ishl (pc' := 20) X dX1_linksFromTo_19 rfl ?_
      refine sk_iand (pc' := 21) X dX1_linksFromTo_20 rfl ?_
      refine sk_if_eq (tgt := 27) (pc' := 24) X dX1_linksFromTo_21 rfl rfl ?_ ?_
      · refine sk_aload_n (pc' := 28) X rfl dX1_linksFromTo_27 rfl ?_
        refine sk_iload_n (pc' := 29) X rfl dX1_linksFromTo_28 rfl ?_
        refine sk_callV (bs2 := fun r29 => [(nt_W G u0 a0_log S0)]) (st := []) (st2 := fun r29 => [.int r29]) (As := [.int s7.1]) (pc' := 32) X (c_X1_withNeighbours l G u0 a0_log S0 s7.1) lk_RX1_90 [0] rfl (by decide) (fun _ => rfl) rfl rfl rfl ⟨(Nat.le_of_ble_eq_true rfl), (Nat.le_of_ble_eq_true rfl)⟩ ⟨rfl, rfl⟩ ⟨(Nat.le_of_ble_eq_true rfl), (Nat.le_of_ble_eq_true rfl)⟩ rfl (Nat.le_of_ble_eq_true rfl) rfl dX1_linksFromTo_29 rfl (fun _ => rfl) (fun _ => rfl) (fun r29 => ?_)
        refine sk_istore_n (lv' := [some (.ref (u0 0)), none, some (.int p2), some (.int r29), some (.int s7.2)]) (pc' := 33) X (Nat.le_of_ble_eq_true rfl) rfl rfl dX1_linksFromTo_32 rfl ?_
        refine sk_iinc (lv' := [some (.ref (u0 0)), none, some (.int p2), some (.int r29), some (.int (s7.2 + (1 : Int32)))]) (pc' := 36) X rfl ic_1 (Nat.le_of_ble_eq_true rfl) rfl rfl dX1_linksFromTo_33 rfl ?_
        refine sk_goto (tgt := 7) X dX1_linksFromTo_36 rfl ?_
        exact (ih7 (r29, (s7.2 + (1 : Int32))))
      · refine sk_iload (pc' := 26) X rfl dX1_linksFromTo_24 rfl ?_
        exact sk_iret X rfl rfl dX1_linksFromTo_26
  unfold m_X1_linksFromTo
  refine sk_iconst (pc' := 1) X ic_1 dX1_linksFromTo_0 rfl ?_
  refine sk_iload_n (pc' := 2) X rfl dX1_linksFromTo_1 rfl ?_
  refine sk_ishl (pc' := 3) X dX1_linksFromTo_2 rfl ?_
  refine sk_istore_n (lv' := [some (.ref (u0 0)), some (.int p1), some (.int p2), some (.int (sk_shl (1 : Int32) p1)), none]) (pc' := 4) X (Nat.le_of_ble_eq_true rfl) rfl rfl dX1_linksFromTo_3 rfl ?_
  refine sk_lt (bsf := fun _ => [(nt_W G u0 a0_log S0)]) (lvf := fun z => [some (.ref (u0 0)), some (.int p1), some (.int p2), some (.int z), none]) (stf := fun _ => []) (fun x3 => ?_)
  refine sk_iconst (pc' := 5) X ic_0 dX1_linksFromTo_4 rfl ?_
  refine sk_istore (lv' := [some (.ref (u0 0)), some (.int p1), some (.int p2), some (.int x3), some (.int (0 : Int32))]) (pc' := 7) X (Nat.le_of_ble_eq_true rfl) rfl rfl dX1_linksFromTo_5 rfl ?_
  exact (sk_kill 1 (h7 (x3, (0 : Int32))))
