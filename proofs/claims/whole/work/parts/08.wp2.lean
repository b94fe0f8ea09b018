def rm_X4_requirePhase : Room := { frames := 6, cells := 1, slots := 6, locals := 90 }
def o_X4_requirePhase : (Unit) → Option Value := fun r => none
def w_X4_requirePhase (G : sk_G) (u0 u1 : Nat → Nat) (a0_thought a0_ahead a0_savings a0_script a1_log : Nat) (S1 : sk_N) : (Unit) → sk_B := fun r => [(pc_W u0 (u1 0) a0_thought a0_ahead a0_savings a0_script), (nt_W G u1 a1_log S1)]
set_option maxHeartbeats 4000000 in
set_option maxRecDepth 100000 in
theorem c_X4_requirePhase (l : Launch) (hl0 : l.stackTraces = false) (t : Nat) (G : sk_G) (u0 u1 : Nat → Nat) (a0_thought a0_ahead a0_savings a0_script a1_log : Nat) (S1 : sk_N) (p1 : Int32) : sk_xtr l G t yX4_requirePhase cX4_requirePhase 2 none rm_X4_requirePhase 1 6 [.ref (u0 0), .int p1] [(pc_W u0 (u1 0) a0_thought a0_ahead a0_savings a0_script), (nt_W G u1 a1_log S1)] (m_X4_requirePhase S1 p1) o_X4_requirePhase (w_X4_requirePhase G u0 u1 a0_thought a0_ahead a0_savings a0_script a1_log S1) := by
  refine sk_xentry hl0 (own := RX4) (by decide) rfl (lv0 := [some (.ref (u0 0)), some (.int p1)]) rfl (Nat.le_of_ble_eq_true rfl) ?_
  intro Γ X E
  unfold m_X4_requirePhase
  refine sk_aload_n (pc' := 1) X rfl dX4_requirePhase_0 rfl ?_
  refine sk_getf (pc' := 4) X 0 0 0 in_RX4 rfl rfl rfl (Nat.le_of_ble_eq_true rfl) fl_RX4_10 rfl dX4_requirePhase_1 rfl ?_
  refine sk_iload_n (pc' := 5) X rfl dX4_requirePhase_4 rfl ?_
  refine sk_callV (bs2 := fun r5 => [(pc_W u0 (u1 0) a0_thought a0_ahead a0_savings a0_script), (nt_W G u1 a1_log S1)]) (st := []) (st2 := fun r5 => [.int r5]) (As := [.int p1]) (pc' := 8) X (c_X1_isPhase l G u1 a1_log S1 p1) lk_RX4_280 [1] rfl (by decide) (fun _ => rfl) rfl rfl rfl ⟨(Nat.le_of_ble_eq_true rfl), (Nat.le_of_ble_eq_true rfl)⟩ ⟨rfl, rfl⟩ ⟨(Nat.le_of_ble_eq_true rfl), (Nat.le_of_ble_eq_true rfl)⟩ rfl (Nat.le_of_ble_eq_true rfl) rfl dX4_requirePhase_5 rfl (fun _ => rfl) (fun _ => rfl) (fun r5 => ?_)
  refine sk_if_ne (tgt := 22) (pc' := 11) X dX4_requirePhase_8 rfl rfl ?_ ?_
  · exact sk_xvret X (Nat.le_of_ble_eq_true rfl) (Nat.le_of_ble_eq_true rfl) rfl rfl dX4_requirePhase_22
  · exact sk_xthrowW X E 1 tw_1 xs_283 (by decide) (Nat.le_of_ble_eq_true rfl) (Nat.le_of_ble_eq_true rfl) (Nat.le_of_ble_eq_true rfl) (Nat.le_of_ble_eq_true rfl) ⟨(Nat.le_of_ble_eq_true rfl), (Nat.le_of_ble_eq_true rfl)⟩ dX4_requirePhase_11 dX4_requirePhase_14 dX4_requirePhase_15 dX4_requirePhase_18 dX4_requirePhase_21
def rm_X4_add : Room := { frames := 7, cells := 2, slots := 12, locals := 111 }
def o_X4_add : (Int32 × sk_N × sk_N × sk_N × sk_N × sk_N × sk_N × sk_N × sk_N × sk_N × sk_N) → Option Value := fun r => some (.int r.1)
def w_X4_add (G : sk_G) (u0 u1 u2 u3 u4 u5 u6 u7 u8 u9 u10 u11 : Nat → Nat) (a0_thought a0_ahead a0_script : Nat) (S2 : sk_N) : (Int32 × sk_N × sk_N × sk_N × sk_N × sk_N × sk_N × sk_N × sk_N × sk_N × sk_N) → sk_B := fun r => [(pc_W u0 (u1 0) a0_thought a0_ahead (u3 0) a0_script), (nt_W G u1 (u2 0) r.2.1), (lg_W G u2 S2), (sv_W G u3 (u4 0) (u6 0) (u8 0) (u10 0) r.2.2.1), (nt_W G u4 (u5 0) r.2.2.2.1), (lg_W G u5 r.2.2.2.2.1), (nt_W G u6 (u7 0) r.2.2.2.2.2.1), (lg_W G u7 r.2.2.2.2.2.2.1), (nt_W G u8 (u9 0) r.2.2.2.2.2.2.2.1), (lg_W G u9 r.2.2.2.2.2.2.2.2.1), (nt_W G u10 (u11 0) r.2.2.2.2.2.2.2.2.2.1), (lg_W G u11 r.2.2.2.2.2.2.2.2.2.2)]
set_option maxHeartbeats 4000000 in
set_option maxRecDepth 100000 in
theorem c_X4_add (l : Launch) (hl0 : l.stackTraces = false) (t : Nat) (G : sk_G) (u0 u1 u2 u3 u4 u5 u6 u7 u8 u9 u10 u11 : Nat → Nat) (a0_thought a0_ahead a0_script : Nat) (S1 : sk_N) (S2 : sk_N) (S3 : sk_N) (S4 : sk_N) (S5 : sk_N) (S6 : sk_N) (S7 : sk_N) (S8 : sk_N) (S9 : sk_N) (S10 : sk_N) (S11 : sk_N) (p1 : Int32) : sk_xtr l G t yX4_add cX4_add 2 (some .int) rm_X4_add 2 12 [.ref (u0 0), .int p1] [(pc_W u0 (u1 0) a0_thought a0_ahead (u3 0) a0_script), (nt_W G u1 (u2 0) S1), (lg_W G u2 S2), (sv_W G u3 (u4 0) (u6 0) (u8 0) (u10 0) S3), (nt_W G u4 (u5 0) S4), (lg_W G u5 S5), (nt_W G u6 (u7 0) S6), (lg_W G u7 S7), (nt_W G u8 (u9 0) S8), (lg_W G u9 S9), (nt_W G u10 (u11 0) S10), (lg_W G u11 S11)] (m_X4_add S1 S2 S3 S4 S5 S6 S7 S8 S9 S10 S11 p1) o_X4_add (w_X4_add G u0 u1 u2 u3 u4 u5 u6 u7 u8 u9 u10 u11 a0_thought a0_ahead a0_script S2) := by
  refine sk_xentry hl0 (own := RX4) (by decide) rfl (lv0 := [some (.ref (u0 0)), some (.int p1)]) rfl (Nat.le_of_ble_eq_true rfl) ?_
  intro Γ X E
  unfold m_X4_add
  refine sk_aload_n (pc' := 1) X rfl dX4_add_0 rfl ?_
  refine sk_iload_n (pc' := 2) X rfl dX4_add_1 rfl ?_
  refine sk_callVX (bs2 := fun r2 => [(pc_W u0 (u1 0) a0_thought a0_ahead (u3 0) a0_script), (nt_W G u1 (u2 0) S1), (lg_W G u2 S2), (sv_W G u3 (u4 0) (u6 0) (u8 0) (u10 0) S3), (nt_W G u4 (u5 0) S4), (lg_W G u5 S5), (nt_W G u6 (u7 0) S6), (lg_W G u7 S7), (nt_W G u8 (u9 0) S8), (lg_W G u9 S9), (nt_W G u10 (u11 0) S10), (lg_W G u11 S11)]) (st := []) (st2 := fun r2 => []) (As := [.int p1]) (pc' := 5) X E (c_X4_requirePhase l hl0 t G u0 u1 a0_thought a0_ahead (u3 0) a0_script (u2 0) S1 p1) lk_RX4_36 [0, 1] rfl (by decide) (fun _ => rfl) rfl rfl rfl ⟨(Nat.le_of_ble_eq_true rfl), (Nat.le_of_ble_eq_true rfl)⟩ ⟨rfl, rfl⟩ ⟨(Nat.le_of_ble_eq_true rfl), (Nat.le_of_ble_eq_true rfl)⟩ ⟨(Nat.le_of_ble_eq_true rfl), (Nat.le_of_ble_eq_true rfl)⟩ rfl (Nat.le_of_ble_eq_true rfl) rfl dX4_add_2 rfl (fun _ => rfl) rfl (fun _ => rfl) (fun r2 => ?_)
  refine sk_aload_n (pc' := 6) X rfl dX4_add_5 rfl ?_
  refine sk_getf (pc' := 9) X 0 0 0 in_RX4 rfl rfl rfl (Nat.le_of_ble_eq_true rfl) fl_RX4_10 rfl dX4_add_6 rfl ?_
  refine sk_callV (bs2 := fun r9 => [(pc_W u0 (u1 0) a0_thought a0_ahead (u3 0) a0_script), (nt_W G u1 (u2 0) S1), (lg_W G u2 S2), (sv_W G u3 (u4 0) (u6 0) (u8 0) (u10 0) S3), (nt_W G u4 (u5 0) S4), (lg_W G u5 S5), (nt_W G u6 (u7 0) S6), (lg_W G u7 S7), (nt_W G u8 (u9 0) S8), (lg_W G u9 S9), (nt_W G u10 (u11 0) S10), (lg_W G u11 S11)]) (st := []) (st2 := fun r9 => [.int r9]) (As := []) (pc' := 12) X (c_X1_isFull l G u1 (u2 0) S1) lk_RX4_40 [1] rfl (by decide) (fun _ => rfl) rfl rfl rfl ⟨(Nat.le_of_ble_eq_true rfl), (Nat.le_of_ble_eq_true rfl)⟩ ⟨rfl, rfl⟩ ⟨(Nat.le_of_ble_eq_true rfl), (Nat.le_of_ble_eq_true rfl)⟩ rfl (Nat.le_of_ble_eq_true rfl) rfl dX4_add_9 rfl (fun _ => rfl) (fun _ => rfl) (fun r9 => ?_)
  refine sk_if_eq (tgt := 25) (pc' := 15) X dX4_add_12 rfl rfl ?_ ?_
  · refine sk_aload_n (pc' := 26) X rfl dX4_add_25 rfl ?_
    refine sk_getf (pc' := 29) X 0 0 3 in_RX4 rfl rfl rfl (Nat.le_of_ble_eq_true rfl) fl_RX4_25 rfl dX4_add_26 rfl ?_
    refine sk_aload_n (pc' := 30) X rfl dX4_add_29 rfl ?_
    refine sk_getf (pc' := 33) X 0 0 0 in_RX4 rfl rfl rfl (Nat.le_of_ble_eq_true rfl) fl_RX4_10 rfl dX4_add_30 rfl ?_
    refine sk_callV (bs2 := fun r33 => [(pc_W u0 (u1 0) a0_thought a0_ahead (u3 0) a0_script), (nt_W G u1 (u2 0) S1), (lg_W G u2 S2), (sv_W G u3 (u4 0) (u6 0) (u8 0) (u10 0) r33.1), (nt_W G u4 (u5 0) r33.2.1), (lg_W G u5 r33.2.2.1), (nt_W G u6 (u7 0) r33.2.2.2.1), (lg_W G u7 r33.2.2.2.2.1), (nt_W G u8 (u9 0) r33.2.2.2.2.2.1), (lg_W G u9 r33.2.2.2.2.2.2.1), (nt_W G u10 (u11 0) r33.2.2.2.2.2.2.2.1), (lg_W G u11 r33.2.2.2.2.2.2.2.2)]) (st := []) (st2 := fun r33 => []) (As := [.ref (u1 0)]) (pc' := 36) X (c_X2_save l G u3 u4 u5 u6 u7 u8 u9 u10 u11 u1 u2 S3 S4 S5 S6 S7 S8 S9 S10 S11 S1 S2) lk_RX4_51 [3, 4, 5, 6, 7, 8, 9, 10, 11, 1, 2] rfl (by decide) (fun _ => rfl) rfl rfl rfl ⟨(Nat.le_of_ble_eq_true rfl), (Nat.le_of_ble_eq_true rfl)⟩ ⟨rfl, rfl⟩ ⟨(Nat.le_of_ble_eq_true rfl), (Nat.le_of_ble_eq_true rfl)⟩ rfl (Nat.le_of_ble_eq_true rfl) rfl dX4_add_33 rfl (fun _ => rfl) (fun _ => rfl) (fun r33 => ?_)
    refine sk_aload_n (pc' := 37) X rfl dX4_add_36 rfl ?_
    refine sk_getf (pc' := 40) X 0 0 0 in_RX4 rfl rfl rfl (Nat.le_of_ble_eq_true rfl) fl_RX4_10 rfl dX4_add_37 rfl ?_
    refine sk_iload_n (pc' := 41) X rfl dX4_add_40 rfl ?_
    refine sk_callV (bs2 := fun r41 => [(pc_W u0 (u1 0) a0_thought a0_ahead (u3 0) a0_script), (nt_W G u1 (u2 0) r41.2), (lg_W G u2 S2), (sv_W G u3 (u4 0) (u6 0) (u8 0) (u10 0) r33.1), (nt_W G u4 (u5 0) r33.2.1), (lg_W G u5 r33.2.2.1), (nt_W G u6 (u7 0) r33.2.2.2.1), (lg_W G u7 r33.2.2.2.2.1), (nt_W G u8 (u9 0) r33.2.2.2.2.2.1), (lg_W G u9 r33.2.2.2.2.2.2.1), (nt_W G u10 (u11 0) r33.2.2.2.2.2.2.2.1), (lg_W G u11 r33.2.2.2.2.2.2.2.2)]) (st := []) (st2 := fun r41 => [.int r41.1]) (As := [.int p1]) (pc' := 44) X (c_X1_addClock l G u1 (u2 0) S1 p1) lk_RX4_55 [1] rfl (by decide) (fun _ => rfl) rfl rfl rfl ⟨(Nat.le_of_ble_eq_true rfl), (Nat.le_of_ble_eq_true rfl)⟩ ⟨rfl, rfl⟩ ⟨(Nat.le_of_ble_eq_true rfl), (Nat.le_of_ble_eq_true rfl)⟩ rfl (Nat.le_of_ble_eq_true rfl) rfl dX4_add_41 rfl (fun _ => rfl) (fun _ => rfl) (fun r41 => ?_)
    exact sk_xiret X (Nat.le_of_ble_eq_true rfl) (Nat.le_of_ble_eq_true rfl) rfl rfl dX4_add_44
  · exact sk_xthrow X E 2 tw_2 xs_46 (by decide) (Nat.le_of_ble_eq_true rfl) (Nat.le_of_ble_eq_true rfl) (Nat.le_of_ble_eq_true rfl) (Nat.le_of_ble_eq_true rfl) ⟨(Nat.le_of_ble_eq_true rfl), (Nat.le_of_ble_eq_true rfl)⟩ dX4_add_15 dX4_add_18 dX4_add_19 dX4_add_21 dX4_add_24
def rm_X4_requireClock : Room := { frames := 6, cells := 1, slots := 6, locals := 90 }
def o_X4_requireClock : (Unit) → Option Value := fun r => none
def w_X4_requireClock (G : sk_G) (u0 u1 : Nat → Nat) (a0_thought a0_ahead a0_savings a0_script a1_log : Nat) (S1 : sk_N) : (Unit) → sk_B := fun r => [(pc_W u0 (u1 0) a0_thought a0_ahead a0_savings a0_script), (nt_W G u1 a1_log S1)]
set_option maxHeartbeats 4000000 in
set_option maxRecDepth 100000 in
theorem c_X4_requireClock (l : Launch) (hl0 : l.stackTraces = false) (t : Nat) (G : sk_G) (u0 u1 : Nat → Nat) (a0_thought a0_ahead a0_savings a0_script a1_log : Nat) (S1 : sk_N) (p1 : Int32) : sk_xtr l G t yX4_requireClock cX4_requireClock 2 none rm_X4_requireClock 1 6 [.ref (u0 0), .int p1] [(pc_W u0 (u1 0) a0_thought a0_ahead a0_savings a0_script), (nt_W G u1 a1_log S1)] (m_X4_requireClock S1 p1) o_X4_requireClock (w_X4_requireClock G u0 u1 a0_thought a0_ahead a0_savings a0_script a1_log S1) := by
  refine sk_xentry hl0 (own := RX4) (by decide) rfl (lv0 := [some (.ref (u0 0)), some (.int p1)]) rfl (Nat.le_of_ble_eq_true rfl) ?_
  intro Γ X E
  unfold m_X4_requireClock
  refine sk_aload_n (pc' := 1) X rfl dX4_requireClock_0 rfl ?_
  refine sk_getf (pc' := 4) X 0 0 0 in_RX4 rfl rfl rfl (Nat.le_of_ble_eq_true rfl) fl_RX4_10 rfl dX4_requireClock_1 rfl ?_
  refine sk_iload_n (pc' := 5) X rfl dX4_requireClock_4 rfl ?_
  refine sk_callV (bs2 := fun r5 => [(pc_W u0 (u1 0) a0_thought a0_ahead a0_savings a0_script), (nt_W G u1 a1_log S1)]) (st := []) (st2 := fun r5 => [.int r5]) (As := [.int p1]) (pc' := 8) X (c_X1_hasClock l G u1 a1_log S1 p1) lk_RX4_275 [1] rfl (by decide) (fun _ => rfl) rfl rfl rfl ⟨(Nat.le_of_ble_eq_true rfl), (Nat.le_of_ble_eq_true rfl)⟩ ⟨rfl, rfl⟩ ⟨(Nat.le_of_ble_eq_true rfl), (Nat.le_of_ble_eq_true rfl)⟩ rfl (Nat.le_of_ble_eq_true rfl) rfl dX4_requireClock_5 rfl (fun _ => rfl) (fun _ => rfl) (fun r5 => ?_)
  refine sk_if_ne (tgt := 22) (pc' := 11) X dX4_requireClock_8 rfl rfl ?_ ?_
  · exact sk_xvret X (Nat.le_of_ble_eq_true rfl) (Nat.le_of_ble_eq_true rfl) rfl rfl dX4_requireClock_22
  · exact sk_xthrowW X E 3 tw_3 xs_278 (by decide) (Nat.le_of_ble_eq_true rfl) (Nat.le_of_ble_eq_true rfl) (Nat.le_of_ble_eq_true rfl) (Nat.le_of_ble_eq_true rfl) ⟨(Nat.le_of_ble_eq_true rfl), (Nat.le_of_ble_eq_true rfl)⟩ dX4_requireClock_11 dX4_requireClock_14 dX4_requireClock_15 dX4_requireClock_18 dX4_requireClock_21
def rm_X4_setPhase : Room := { frames := 7, cells := 2, slots := 12, locals := 111 }
def o_X4_setPhase : (Int32 × sk_N × sk_N × sk_N × sk_N × sk_N × sk_N × sk_N × sk_N × sk_N × sk_N) → Option Value := fun r => some (.int r.1)
def w_X4_setPhase (G : sk_G) (u0 u1 u2 u3 u4 u5 u6 u7 u8 u9 u10 u11 : Nat → Nat) (a0_thought a0_ahead a0_script : Nat) (S2 : sk_N) : (Int32 × sk_N × sk_N × sk_N × sk_N × sk_N × sk_N × sk_N × sk_N × sk_N × sk_N) → sk_B := fun r => [(pc_W u0 (u1 0) a0_thought a0_ahead (u3 0) a0_script), (nt_W G u1 (u2 0) r.2.1), (lg_W G u2 S2), (sv_W G u3 (u4 0) (u6 0) (u8 0) (u10 0) r.2.2.1), (nt_W G u4 (u5 0) r.2.2.2.1), (lg_W G u5 r.2.2.2.2.1), (nt_W G u6 (u7 0) r.2.2.2.2.2.1), (lg_W G u7 r.2.2.2.2.2.2.1), (nt_W G u8 (u9 0) r.2.2.2.2.2.2.2.1), (lg_W G u9 r.2.2.2.2.2.2.2.2.1), (nt_W G u10 (u11 0) r.2.2.2.2.2.2.2.2.2.1), (lg_W G u11 r.2.2.2.2.2.2.2.2.2.2)]
set_option maxHeartbeats 4000000 in
set_option maxRecDepth 100000 in
theorem c_X4_setPhase (l : Launch) (hl0 : l.stackTraces = false) (t : Nat) (G : sk_G) (u0 u1 u2 u3 u4 u5 u6 u7 u8 u9 u10 u11 : Nat → Nat) (a0_thought a0_ahead a0_script : Nat) (S1 : sk_N) (S2 : sk_N) (S3 : sk_N) (S4 : sk_N) (S5 : sk_N) (S6 : sk_N) (S7 : sk_N) (S8 : sk_N) (S9 : sk_N) (S10 : sk_N) (S11 : sk_N) (p1 : Int32) (p2 : Int32) : sk_xtr l G t yX4_setPhase cX4_setPhase 3 (some .int) rm_X4_setPhase 2 12 [.ref (u0 0), .int p1, .int p2] [(pc_W u0 (u1 0) a0_thought a0_ahead (u3 0) a0_script), (nt_W G u1 (u2 0) S1), (lg_W G u2 S2), (sv_W G u3 (u4 0) (u6 0) (u8 0) (u10 0) S3), (nt_W G u4 (u5 0) S4), (lg_W G u5 S5), (nt_W G u6 (u7 0) S6), (lg_W G u7 S7), (nt_W G u8 (u9 0) S8), (lg_W G u9 S9), (nt_W G u10 (u11 0) S10), (lg_W G u11 S11)] (m_X4_setPhase S1 S2 S3 S4 S5 S6 S7 S8 S9 S10 S11 p1 p2) o_X4_setPhase (w_X4_setPhase G u0 u1 u2 u3 u4 u5 u6 u7 u8 u9 u10 u11 a0_thought a0_ahead a0_script S2) := by
  refine sk_xentry hl0 (own := RX4) (by decide) rfl (lv0 := [some (.ref (u0 0)), some (.int p1), some (.int p2)]) rfl (Nat.le_of_ble_eq_true rfl) ?_
  intro Γ X E
  unfold m_X4_setPhase
  refine sk_aload_n (pc' := 1) X rfl dX4_setPhase_0 rfl ?_
  refine sk_iload_n (pc' := 2) X rfl dX4_setPhase_1 rfl ?_
  refine sk_callVX (bs2 := fun r2 => [(pc_W u0 (u1 0) a0_thought a0_ahead (u3 0) a0_script), (nt_W G u1 (u2 0) S1), (lg_W G u2 S2), (sv_W G u3 (u4 0) (u6 0) (u8 0) (u10 0) S3), (nt_W G u4 (u5 0) S4), (lg_W G u5 S5), (nt_W G u6 (u7 0) S6), (lg_W G u7 S7), (nt_W G u8 (u9 0) S8), (lg_W G u9 S9), (nt_W G u10 (u11 0) S10), (lg_W G u11 S11)]) (st := []) (st2 := fun r2 => []) (As := [.int p1]) (pc' := 5) X E (c_X4_requireClock l hl0 t G u0 u1 a0_thought a0_ahead (u3 0) a0_script (u2 0) S1 p1) lk_RX4_59 [0, 1] rfl (by decide) (fun _ => rfl) rfl rfl rfl ⟨(Nat.le_of_ble_eq_true rfl), (Nat.le_of_ble_eq_true rfl)⟩ ⟨rfl, rfl⟩ ⟨(Nat.le_of_ble_eq_true rfl), (Nat.le_of_ble_eq_true rfl)⟩ ⟨(Nat.le_of_ble_eq_true rfl), (Nat.le_of_ble_eq_true rfl)⟩ rfl (Nat.le_of_ble_eq_true rfl) rfl dX4_setPhase_2 rfl (fun _ => rfl) rfl (fun _ => rfl) (fun r2 => ?_)
  refine sk_aload_n (pc' := 6) X rfl dX4_setPhase_5 rfl ?_
  refine sk_iload_n (pc' := 7) X rfl dX4_setPhase_6 rfl ?_
  refine sk_callVX (bs2 := fun r7 => [(pc_W u0 (u1 0) a0_thought a0_ahead (u3 0) a0_script), (nt_W G u1 (u2 0) S1), (lg_W G u2 S2), (sv_W G u3 (u4 0) (u6 0) (u8 0) (u10 0) S3), (nt_W G u4 (u5 0) S4), (lg_W G u5 S5), (nt_W G u6 (u7 0) S6), (lg_W G u7 S7), (nt_W G u8 (u9 0) S8), (lg_W G u9 S9), (nt_W G u10 (u11 0) S10), (lg_W G u11 S11)]) (st := []) (st2 := fun r7 => []) (As := [.int p2]) (pc' := 10) X E (c_X4_requirePhase l hl0 t G u0 u1 a0_thought a0_ahead (u3 0) a0_script (u2 0) S1 p2) lk_RX4_36 [0, 1] rfl (by decide) (fun _ => rfl) rfl rfl rfl ⟨(Nat.le_of_ble_eq_true rfl), (Nat.le_of_ble_eq_true rfl)⟩ ⟨rfl, rfl⟩ ⟨(Nat.le_of_ble_eq_true rfl), (Nat.le_of_ble_eq_true rfl)⟩ ⟨(Nat.le_of_ble_eq_true rfl), (Nat.le_of_ble_eq_true rfl)⟩ rfl (Nat.le_of_ble_eq_true rfl) rfl dX4_setPhase_7 rfl (fun _ => rfl) rfl (fun _ => rfl) (fun r7 => ?_)
  refine sk_aload_n (pc' := 11) X rfl dX4_setPhase_10 rfl ?_
  refine sk_getf (pc' := 14) X 0 0 3 in_RX4 rfl rfl rfl (Nat.le_of_ble_eq_true rfl) fl_RX4_25 rfl dX4_setPhase_11 rfl ?_
  refine sk_aload_n (pc' := 15) X rfl dX4_setPhase_14 rfl ?_
  refine sk_getf (pc' := 18) X 0 0 0 in_RX4 rfl rfl rfl (Nat.le_of_ble_eq_true rfl) fl_RX4_10 rfl dX4_setPhase_15 rfl ?_
  refine sk_callV (bs2 := fun r18 => [(pc_W u0 (u1 0) a0_thought a0_ahead (u3 0) a0_script), (nt_W G u1 (u2 0) S1), (lg_W G u2 S2), (sv_W G u3 (u4 0) (u6 0) (u8 0) (u10 0) r18.1), (nt_W G u4 (u5 0) r18.2.1), (lg_W G u5 r18.2.2.1), (nt_W G u6 (u7 0) r18.2.2.2.1), (lg_W G u7 r18.2.2.2.2.1), (nt_W G u8 (u9 0) r18.2.2.2.2.2.1), (lg_W G u9 r18.2.2.2.2.2.2.1), (nt_W G u10 (u11 0) r18.2.2.2.2.2.2.2.1), (lg_W G u11 r18.2.2.2.2.2.2.2.2)]) (st := []) (st2 := fun r18 => []) (As := [.ref (u1 0)]) (pc' := 21) X (c_X2_save l G u3 u4 u5 u6 u7 u8 u9 u10 u11 u1 u2 S3 S4 S5 S6 S7 S8 S9 S10 S11 S1 S2) lk_RX4_51 [3, 4, 5, 6, 7, 8, 9, 10, 11, 1, 2] rfl (by decide) (fun _ => rfl) rfl rfl rfl ⟨(Nat.le_of_ble_eq_true rfl), (Nat.le_of_ble_eq_true rfl)⟩ ⟨rfl, rfl⟩ ⟨(Nat.le_of_ble_eq_true rfl), (Nat.le_of_ble_eq_true rfl)⟩ rfl (Nat.le_of_ble_eq_true rfl) rfl dX4_setPhase_18 rfl (fun _ => rfl) (fun _ => rfl) (fun r18 => ?_)
  refine sk_aload_n (pc' := 22) X rfl dX4_setPhase_21 rfl ?_
  refine sk_getf (pc' := 25) X 0 0 0 in_RX4 rfl rfl rfl (Nat.le_of_ble_eq_true rfl) fl_RX4_10 rfl dX4_setPhase_22 rfl ?_
  refine sk_iload_n (pc' := 26) X rfl dX4_setPhase_25 rfl ?_
  refine sk_iload_n (pc' := 27) X rfl dX4_setPhase_26 rfl ?_
  refine sk_callV (bs2 := fun r27 => [(pc_W u0 (u1 0) a0_thought a0_ahead (u3 0) a0_script), (nt_W G u1 (u2 0) r27.2), (lg_W G u2 S2), (sv_W G u3 (u4 0) (u6 0) (u8 0) (u10 0) r18.1), (nt_W G u4 (u5 0) r18.2.1), (lg_W G u5 r18.2.2.1), (nt_W G u6 (u7 0) r18.2.2.2.1), (lg_W G u7 r18.2.2.2.2.1), (nt_W G u8 (u9 0) r18.2.2.2.2.2.1), (lg_W G u9 r18.2.2.2.2.2.2.1), (nt_W G u10 (u11 0) r18.2.2.2.2.2.2.2.1), (lg_W G u11 r18.2.2.2.2.2.2.2.2)]) (st := []) (st2 := fun r27 => [.int r27.1]) (As := [.int p1, .int p2]) (pc' := 30) X (c_X1_changePhase l G u1 (u2 0) S1 p1 p2) lk_RX4_62 [1] rfl (by decide) (fun _ => rfl) rfl rfl rfl ⟨(Nat.le_of_ble_eq_true rfl), (Nat.le_of_ble_eq_true rfl)⟩ ⟨rfl, rfl⟩ ⟨(Nat.le_of_ble_eq_true rfl), (Nat.le_of_ble_eq_true rfl)⟩ rfl (Nat.le_of_ble_eq_true rfl) rfl dX4_setPhase_27 rfl (fun _ => rfl) (fun _ => rfl) (fun r27 => ?_)
  exact sk_xiret X (Nat.le_of_ble_eq_true rfl) (Nat.le_of_ble_eq_true rfl) rfl rfl dX4_setPhase_30
def rm_X4_setDrift : Room := { frames := 7, cells := 2, slots := 12, locals := 111 }
def o_X4_setDrift : (Int32 × sk_N × sk_N × sk_N × sk_N × sk_N × sk_N × sk_N × sk_N × sk_N × sk_N) → Option Value := fun r => some (.int r.1)
def w_X4_setDrift (G : sk_G) (u0 u1 u2 u3 u4 u5 u6 u7 u8 u9 u10 u11 : Nat → Nat) (a0_thought a0_ahead a0_script : Nat) (S2 : sk_N) : (Int32 × sk_N × sk_N × sk_N × sk_N × sk_N × sk_N × sk_N × sk_N × sk_N × sk_N) → sk_B := fun r => [(pc_W u0 (u1 0) a0_thought a0_ahead (u3 0) a0_script), (nt_W G u1 (u2 0) r.2.1), (lg_W G u2 S2), (sv_W G u3 (u4 0) (u6 0) (u8 0) (u10 0) r.2.2.1), (nt_W G u4 (u5 0) r.2.2.2.1), (lg_W G u5 r.2.2.2.2.1), (nt_W G u6 (u7 0) r.2.2.2.2.2.1), (lg_W G u7 r.2.2.2.2.2.2.1), (nt_W G u8 (u9 0) r.2.2.2.2.2.2.2.1), (lg_W G u9 r.2.2.2.2.2.2.2.2.1), (nt_W G u10 (u11 0) r.2.2.2.2.2.2.2.2.2.1), (lg_W G u11 r.2.2.2.2.2.2.2.2.2.2)]
set_option maxHeartbeats 4000000 in
set_option maxRecDepth 100000 in
theorem c_X4_setDrift (l : Launch) (hl0 : l.stackTraces = false) (t : Nat) (G : sk_G) (u0 u1 u2 u3 u4 u5 u6 u7 u8 u9 u10 u11 : Nat → Nat) (a0_thought a0_ahead a0_script : Nat) (S1 : sk_N) (S2 : sk_N) (S3 : sk_N) (S4 : sk_N) (S5 : sk_N) (S6 : sk_N) (S7 : sk_N) (S8 : sk_N) (S9 : sk_N) (S10 : sk_N) (S11 : sk_N) (p1 : Int32) (p2 : Int32) : sk_xtr l G t yX4_setDrift cX4_setDrift 3 (some .int) rm_X4_setDrift 2 12 [.ref (u0 0), .int p1, .int p2] [(pc_W u0 (u1 0) a0_thought a0_ahead (u3 0) a0_script), (nt_W G u1 (u2 0) S1), (lg_W G u2 S2), (sv_W G u3 (u4 0) (u6 0) (u8 0) (u10 0) S3), (nt_W G u4 (u5 0) S4), (lg_W G u5 S5), (nt_W G u6 (u7 0) S6), (lg_W G u7 S7), (nt_W G u8 (u9 0) S8), (lg_W G u9 S9), (nt_W G u10 (u11 0) S10), (lg_W G u11 S11)] (m_X4_setDrift S1 S2 S3 S4 S5 S6 S7 S8 S9 S10 S11 p1 p2) o_X4_setDrift (w_X4_setDrift G u0 u1 u2 u3 u4 u5 u6 u7 u8 u9 u10 u11 a0_thought a0_ahead a0_script S2) := by
  refine sk_xentry hl0 (own := RX4) (by decide) rfl (lv0 := [some (.ref (u0 0)), some (.int p1), some (.int p2)]) rfl (Nat.le_of_ble_eq_true rfl) ?_
  intro Γ X E
  unfold m_X4_setDrift
  refine sk_aload_n (pc' := 1) X rfl dX4_setDrift_0 rfl ?_
  refine sk_iload_n (pc' := 2) X rfl dX4_setDrift_1 rfl ?_
  refine sk_callVX (bs2 := fun r2 => [(pc_W u0 (u1 0) a0_thought a0_ahead (u3 0) a0_script), (nt_W G u1 (u2 0) S1), (lg_W G u2 S2), (sv_W G u3 (u4 0) (u6 0) (u8 0) (u10 0) S3), (nt_W G u4 (u5 0) S4), (lg_W G u5 S5), (nt_W G u6 (u7 0) S6), (lg_W G u7 S7), (nt_W G u8 (u9 0) S8), (lg_W G u9 S9), (nt_W G u10 (u11 0) S10), (lg_W G u11 S11)]) (st := []) (st2 := fun r2 => []) (As := [.int p1]) (pc' := 5) X E (c_X4_requireClock l hl0 t G u0 u1 a0_thought a0_ahead (u3 0) a0_script (u2 0) S1 p1) lk_RX4_59 [0, 1] rfl (by decide) (fun _ => rfl) rfl rfl rfl ⟨(Nat.le_of_ble_eq_true rfl), (Nat.le_of_ble_eq_true rfl)⟩ ⟨rfl, rfl⟩ ⟨(Nat.le_of_ble_eq_true rfl), (Nat.le_of_ble_eq_true rfl)⟩ ⟨(Nat.le_of_ble_eq_true rfl), (Nat.le_of_ble_eq_true rfl)⟩ rfl (Nat.le_of_ble_eq_true rfl) rfl dX4_setDrift_2 rfl (fun _ => rfl) rfl (fun _ => rfl) (fun r2 => ?_)
  refine sk_iload_n (pc' := 6) X rfl dX4_setDrift_5 rfl ?_
  refine sk_bipush (pc' := 8) X bp_m9 dX4_setDrift_6 rfl ?_
  refine sk_icmp_lt (tgt := 17) (pc' := 11) X dX4_setDrift_8 rfl rfl ?_ ?_
  · exact sk_xthrow X E 1 tw_1 xs_68 (by decide) (Nat.le_of_ble_eq_true rfl) (Nat.le_of_ble_eq_true rfl) (Nat.le_of_ble_eq_true rfl) (Nat.le_of_ble_eq_true rfl) ⟨(Nat.le_of_ble_eq_true rfl), (Nat.le_of_ble_eq_true rfl)⟩ dX4_setDrift_17 dX4_setDrift_20 dX4_setDrift_21 dX4_setDrift_23 dX4_setDrift_26
  · refine sk_iload_n (pc' := 12) X rfl dX4_setDrift_11 rfl ?_
    refine sk_bipush (pc' := 14) X bp_9 dX4_setDrift_12 rfl ?_
    refine sk_icmp_le (tgt := 27) (pc' := 17) X dX4_setDrift_14 rfl rfl ?_ ?_
    · refine sk_aload_n (pc' := 28) X rfl dX4_setDrift_27 rfl ?_
      refine sk_getf (pc' := 31) X 0 0 3 in_RX4 rfl rfl rfl (Nat.le_of_ble_eq_true rfl) fl_RX4_25 rfl dX4_setDrift_28 rfl ?_
      refine sk_aload_n (pc' := 32) X rfl dX4_setDrift_31 rfl ?_
      refine sk_getf (pc' := 35) X 0 0 0 in_RX4 rfl rfl rfl (Nat.le_of_ble_eq_true rfl) fl_RX4_10 rfl dX4_setDrift_32 rfl ?_
      refine sk_callV (bs2 := fun r35 => [(pc_W u0 (u1 0) a0_thought a0_ahead (u3 0) a0_script), (nt_W G u1 (u2 0) S1), (lg_W G u2 S2), (sv_W G u3 (u4 0) (u6 0) (u8 0) (u10 0) r35.1), (nt_W G u4 (u5 0) r35.2.1), (lg_W G u5 r35.2.2.1), (nt_W G u6 (u7 0) r35.2.2.2.1), (lg_W G u7 r35.2.2.2.2.1), (nt_W G u8 (u9 0) r35.2.2.2.2.2.1), (lg_W G u9 r35.2.2.2.2.2.2.1), (nt_W G u10 (u11 0) r35.2.2.2.2.2.2.2.1), (lg_W G u11 r35.2.2.2.2.2.2.2.2)]) (st := []) (st2 := fun r35 => []) (As := [.ref (u1 0)]) (pc' := 38) X (c_X2_save l G u3 u4 u5 u6 u7 u8 u9 u10 u11 u1 u2 S3 S4 S5 S6 S7 S8 S9 S10 S11 S1 S2) lk_RX4_51 [3, 4, 5, 6, 7, 8, 9, 10, 11, 1, 2] rfl (by decide) (fun _ => rfl) rfl rfl rfl ⟨(Nat.le_of_ble_eq_true rfl), (Nat.le_of_ble_eq_true rfl)⟩ ⟨rfl, rfl⟩ ⟨(Nat.le_of_ble_eq_true rfl), (Nat.le_of_ble_eq_true rfl)⟩ rfl (Nat.le_of_ble_eq_true rfl) rfl dX4_setDrift_35 rfl (fun _ => rfl) (fun _ => rfl) (fun r35 => ?_)
      refine sk_aload_n (pc' := 39) X rfl dX4_setDrift_38 rfl ?_
      refine sk_getf (pc' := 42) X 0 0 0 in_RX4 rfl rfl rfl (Nat.le_of_ble_eq_true rfl) fl_RX4_10 rfl dX4_setDrift_39 rfl ?_
      refine sk_iload_n (pc' := 43) X rfl dX4_setDrift_42 rfl ?_
      refine sk_iload_n (pc' := 44) X rfl dX4_setDrift_43 rfl ?_
      refine sk_callV (bs2 := fun r44 => [(pc_W u0 (u1 0) a0_thought a0_ahead (u3 0) a0_script), (nt_W G u1 (u2 0) r44.2), (lg_W G u2 S2), (sv_W G u3 (u4 0) (u6 0) (u8 0) (u10 0) r35.1), (nt_W G u4 (u5 0) r35.2.1), (lg_W G u5 r35.2.2.1), (nt_W G u6 (u7 0) r35.2.2.2.1), (lg_W G u7 r35.2.2.2.2.1), (nt_W G u8 (u9 0) r35.2.2.2.2.2.1), (lg_W G u9 r35.2.2.2.2.2.2.1), (nt_W G u10 (u11 0) r35.2.2.2.2.2.2.2.1), (lg_W G u11 r35.2.2.2.2.2.2.2.2)]) (st := []) (st2 := fun r44 => [.int r44.1]) (As := [.int p1, .int p2]) (pc' := 47) X (c_X1_changeDrift l G u1 (u2 0) S1 p1 p2) lk_RX4_71 [1] rfl (by decide) (fun _ => rfl) rfl rfl rfl ⟨(Nat.le_of_ble_eq_true rfl), (Nat.le_of_ble_eq_true rfl)⟩ ⟨rfl, rfl⟩ ⟨(Nat.le_of_ble_eq_true rfl), (Nat.le_of_ble_eq_true rfl)⟩ rfl (Nat.le_of_ble_eq_true rfl) rfl dX4_setDrift_44 rfl (fun _ => rfl) (fun _ => rfl) (fun r44 => ?_)
      exact sk_xiret X (Nat.le_of_ble_eq_true rfl) (Nat.le_of_ble_eq_true rfl) rfl rfl dX4_setDrift_47
    · exact sk_xthrow X E 1 tw_1 xs_68 (by decide) (Nat.le_of_ble_eq_true rfl) (Nat.le_of_ble_eq_true rfl) (Nat.le_of_ble_eq_true rfl) (Nat.le_of_ble_eq_true rfl) ⟨(Nat.le_of_ble_eq_true rfl), (Nat.le_of_ble_eq_true rfl)⟩ dX4_setDrift_17 dX4_setDrift_20 dX4_setDrift_21 dX4_setDrift_23 dX4_setDrift_26
def rm_X4_blink : Room := { frames := 7, cells := 2, slots := 12, locals := 111 }
def o_X4_blink : (Int32 × sk_N × sk_N × sk_N × sk_N × sk_N × sk_N × sk_N × sk_N × sk_N × sk_N) → Option Value := fun r => some (.int r.1)
def w_X4_blink (G : sk_G) (u0 u1 u2 u3 u4 u5 u6 u7 u8 u9 u10 u11 : Nat → Nat) (a0_thought a0_ahead a0_script : Nat) (S2 : sk_N) : (Int32 × sk_N × sk_N × sk_N × sk_N × sk_N × sk_N × sk_N × sk_N × sk_N × sk_N) → sk_B := fun r => [(pc_W u0 (u1 0) a0_thought a0_ahead (u3 0) a0_script), (nt_W G u1 (u2 0) r.2.1), (lg_W G u2 S2), (sv_W G u3 (u4 0) (u6 0) (u8 0) (u10 0) r.2.2.1), (nt_W G u4 (u5 0) r.2.2.2.1), (lg_W G u5 r.2.2.2.2.1), (nt_W G u6 (u7 0) r.2.2.2.2.2.1), (lg_W G u7 r.2.2.2.2.2.2.1), (nt_W G u8 (u9 0) r.2.2.2.2.2.2.2.1), (lg_W G u9 r.2.2.2.2.2.2.2.2.1), (nt_W G u10 (u11 0) r.2.2.2.2.2.2.2.2.2.1), (lg_W G u11 r.2.2.2.2.2.2.2.2.2.2)]
set_option maxHeartbeats 4000000 in
set_option maxRecDepth 100000 in
theorem c_X4_blink (l : Launch) (hl0 : l.stackTraces = false) (t : Nat) (G : sk_G) (u0 u1 u2 u3 u4 u5 u6 u7 u8 u9 u10 u11 : Nat → Nat) (a0_thought a0_ahead a0_script : Nat) (S1 : sk_N) (S2 : sk_N) (S3 : sk_N) (S4 : sk_N) (S5 : sk_N) (S6 : sk_N) (S7 : sk_N) (S8 : sk_N) (S9 : sk_N) (S10 : sk_N) (S11 : sk_N) (p1 : Int32) (p2 : Int32) (p3 : Int32) : sk_xtr l G t yX4_blink cX4_blink 4 (some .int) rm_X4_blink 2 12 [.ref (u0 0), .int p1, .int p2, .int p3] [(pc_W u0 (u1 0) a0_thought a0_ahead (u3 0) a0_script), (nt_W G u1 (u2 0) S1), (lg_W G u2 S2), (sv_W G u3 (u4 0) (u6 0) (u8 0) (u10 0) S3), (nt_W G u4 (u5 0) S4), (lg_W G u5 S5), (nt_W G u6 (u7 0) S6), (lg_W G u7 S7), (nt_W G u8 (u9 0) S8), (lg_W G u9 S9), (nt_W G u10 (u11 0) S10), (lg_W G u11 S11)] (m_X4_blink S1 S2 S3 S4 S5 S6 S7 S8 S9 S10 S11 p1 p2 p3) o_X4_blink (w_X4_blink G u0 u1 u2 u3 u4 u5 u6 u7 u8 u9 u10 u11 a0_thought a0_ahead a0_script S2) := by
  refine sk_xentry hl0 (own := RX4) (by decide) rfl (lv0 := [some (.ref (u0 0)), some (.int p1), some (.int p2), some (.int p3)]) rfl (Nat.le_of_ble_eq_true rfl) ?_
  intro Γ X E
  unfold m_X4_blink
  refine sk_aload_n (pc' := 1) X rfl dX4_blink_0 rfl ?_
  refine sk_iload_n (pc' := 2) X rfl dX4_blink_1 rfl ?_
  refine sk_callVX (bs2 := fun r2 => [(pc_W u0 (u1 0) a0_thought a0_ahead (u3 0) a0_script), (nt_W G u1 (u2 0) S1), (lg_W G u2 S2), (sv_W G u3 (u4 0) (u6 0) (u8 0) (u10 0) S3), (nt_W G u4 (u5 0) S4), (lg_W G u5 S5), (nt_W G u6 (u7 0) S6), (lg_W G u7 S7), (nt_W G u8 (u9 0) S8), (lg_W G u9 S9), (nt_W G u10 (u11 0) S10), (lg_W G u11 S11)]) (st := []) (st2 := fun r2 => []) (As := [.int p1]) (pc' := 5) X E (c_X4_requireClock l hl0 t G u0 u1 a0_thought a0_ahead (u3 0) a0_script (u2 0) S1 p1) lk_RX4_59 [0, 1] rfl (by decide) (fun _ => rfl) rfl rfl rfl ⟨(Nat.le_of_ble_eq_true rfl), (Nat.le_of_ble_eq_true rfl)⟩ ⟨rfl, rfl⟩ ⟨(Nat.le_of_ble_eq_true rfl), (Nat.le_of_ble_eq_true rfl)⟩ ⟨(Nat.le_of_ble_eq_true rfl), (Nat.le_of_ble_eq_true rfl)⟩ rfl (Nat.le_of_ble_eq_true rfl) rfl dX4_blink_2 rfl (fun _ => rfl) rfl (fun _ => rfl) (fun r2 => ?_)
  refine sk_iload_n (pc' := 6) X rfl dX4_blink_5 rfl ?_
  refine sk_iload_n (pc' := 7) X rfl dX4_blink_6 rfl ?_
  refine sk_callS (bs2 := fun r7 => [(pc_W u0 (u1 0) a0_thought a0_ahead (u3 0) a0_script), (nt_W G u1 (u2 0) S1), (lg_W G u2 S2), (sv_W G u3 (u4 0) (u6 0) (u8 0) (u10 0) S3), (nt_W G u4 (u5 0) S4), (lg_W G u5 S5), (nt_W G u6 (u7 0) S6), (lg_W G u7 S7), (nt_W G u8 (u9 0) S8), (lg_W G u9 S9), (nt_W G u10 (u11 0) S10), (lg_W G u11 S11)]) (st := []) (st2 := fun r7 => [.int r7]) (As := [.int p2, .int p3]) (pc' := 10) X (c_X4_isBlinking l G p2 p3) lk_RX4_74 [] rfl (by decide) (fun _ => rfl) ⟨(Nat.le_of_ble_eq_true rfl), (Nat.le_of_ble_eq_true rfl)⟩ ⟨rfl, rfl⟩ ⟨(Nat.le_of_ble_eq_true rfl), (Nat.le_of_ble_eq_true rfl)⟩ rfl (Nat.le_of_ble_eq_true rfl) rfl dX4_blink_7 rfl (fun _ => rfl) (fun _ => rfl) (fun r7 => ?_)
  refine sk_if_ne (tgt := 23) (pc' := 13) X dX4_blink_10 rfl rfl ?_ ?_
  · refine sk_aload_n (pc' := 24) X rfl dX4_blink_23 rfl ?_
    refine sk_getf (pc' := 27) X 0 0 3 in_RX4 rfl rfl rfl (Nat.le_of_ble_eq_true rfl) fl_RX4_25 rfl dX4_blink_24 rfl ?_
    refine sk_aload_n (pc' := 28) X rfl dX4_blink_27 rfl ?_
    refine sk_getf (pc' := 31) X 0 0 0 in_RX4 rfl rfl rfl (Nat.le_of_ble_eq_true rfl) fl_RX4_10 rfl dX4_blink_28 rfl ?_
    refine sk_callV (bs2 := fun r31 => [(pc_W u0 (u1 0) a0_thought a0_ahead (u3 0) a0_script), (nt_W G u1 (u2 0) S1), (lg_W G u2 S2), (sv_W G u3 (u4 0) (u6 0) (u8 0) (u10 0) r31.1), (nt_W G u4 (u5 0) r31.2.1), (lg_W G u5 r31.2.2.1), (nt_W G u6 (u7 0) r31.2.2.2.1), (lg_W G u7 r31.2.2.2.2.1), (nt_W G u8 (u9 0) r31.2.2.2.2.2.1), (lg_W G u9 r31.2.2.2.2.2.2.1), (nt_W G u10 (u11 0) r31.2.2.2.2.2.2.2.1), (lg_W G u11 r31.2.2.2.2.2.2.2.2)]) (st := []) (st2 := fun r31 => []) (As := [.ref (u1 0)]) (pc' := 34) X (c_X2_save l G u3 u4 u5 u6 u7 u8 u9 u10 u11 u1 u2 S3 S4 S5 S6 S7 S8 S9 S10 S11 S1 S2) lk_RX4_51 [3, 4, 5, 6, 7, 8, 9, 10, 11, 1, 2] rfl (by decide) (fun _ => rfl) rfl rfl rfl ⟨(Nat.le_of_ble_eq_true rfl), (Nat.le_of_ble_eq_true rfl)⟩ ⟨rfl, rfl⟩ ⟨(Nat.le_of_ble_eq_true rfl), (Nat.le_of_ble_eq_true rfl)⟩ rfl (Nat.le_of_ble_eq_true rfl) rfl dX4_blink_31 rfl (fun _ => rfl) (fun _ => rfl) (fun r31 => ?_)
    refine sk_aload_n (pc' := 35) X rfl dX4_blink_34 rfl ?_
    refine sk_getf (pc' := 38) X 0 0 0 in_RX4 rfl rfl rfl (Nat.le_of_ble_eq_true rfl) fl_RX4_10 rfl dX4_blink_35 rfl ?_
    refine sk_iload_n (pc' := 39) X rfl dX4_blink_38 rfl ?_
    refine sk_iload_n (pc' := 40) X rfl dX4_blink_39 rfl ?_
    refine sk_iload_n (pc' := 41) X rfl dX4_blink_40 rfl ?_
    refine sk_callV (bs2 := fun r41 => [(pc_W u0 (u1 0) a0_thought a0_ahead (u3 0) a0_script), (nt_W G u1 (u2 0) r41), (lg_W G u2 S2), (sv_W G u3 (u4 0) (u6 0) (u8 0) (u10 0) r31.1), (nt_W G u4 (u5 0) r31.2.1), (lg_W G u5 r31.2.2.1), (nt_W G u6 (u7 0) r31.2.2.2.1), (lg_W G u7 r31.2.2.2.2.1), (nt_W G u8 (u9 0) r31.2.2.2.2.2.1), (lg_W G u9 r31.2.2.2.2.2.2.1), (nt_W G u10 (u11 0) r31.2.2.2.2.2.2.2.1), (lg_W G u11 r31.2.2.2.2.2.2.2.2)]) (st := []) (st2 := fun r41 => []) (As := [.int p1, .int p2, .int p3]) (pc' := 44) X (c_X1_makeBlinker l G u1 (u2 0) S1 p1 p2 p3) lk_RX4_80 [1] rfl (by decide) (fun _ => rfl) rfl rfl rfl ⟨(Nat.le_of_ble_eq_true rfl), (Nat.le_of_ble_eq_true rfl)⟩ ⟨rfl, rfl⟩ ⟨(Nat.le_of_ble_eq_true rfl), (Nat.le_of_ble_eq_true rfl)⟩ rfl (Nat.le_of_ble_eq_true rfl) rfl dX4_blink_41 rfl (fun _ => rfl) (fun _ => rfl) (fun r41 => ?_)
    refine sk_aload_n (pc' := 45) X rfl dX4_blink_44 rfl ?_
    refine sk_getf (pc' := 48) X 0 0 0 in_RX4 rfl rfl rfl (Nat.le_of_ble_eq_true rfl) fl_RX4_10 rfl dX4_blink_45 rfl ?_
    refine sk_callV (bs2 := fun r48 => [(pc_W u0 (u1 0) a0_thought a0_ahead (u3 0) a0_script), (nt_W G u1 (u2 0) r41), (lg_W G u2 S2), (sv_W G u3 (u4 0) (u6 0) (u8 0) (u10 0) r31.1), (nt_W G u4 (u5 0) r31.2.1), (lg_W G u5 r31.2.2.1), (nt_W G u6 (u7 0) r31.2.2.2.1), (lg_W G u7 r31.2.2.2.2.1), (nt_W G u8 (u9 0) r31.2.2.2.2.2.1), (lg_W G u9 r31.2.2.2.2.2.2.1), (nt_W G u10 (u11 0) r31.2.2.2.2.2.2.2.1), (lg_W G u11 r31.2.2.2.2.2.2.2.2)]) (st := []) (st2 := fun r48 => [.int r48]) (As := []) (pc' := 51) X (c_X1_blinkerCount l G u1 (u2 0) r41) lk_RX4_84 [1] rfl (by decide) (fun _ => rfl) rfl rfl rfl ⟨(Nat.le_of_ble_eq_true rfl), (Nat.le_of_ble_eq_true rfl)⟩ ⟨rfl, rfl⟩ ⟨(Nat.le_of_ble_eq_true rfl), (Nat.le_of_ble_eq_true rfl)⟩ rfl (Nat.le_of_ble_eq_true rfl) rfl dX4_blink_48 rfl (fun _ => rfl) (fun _ => rfl) (fun r48 => ?_)
    exact sk_xiret X (Nat.le_of_ble_eq_true rfl) (Nat.le_of_ble_eq_true rfl) rfl rfl dX4_blink_51
  · exact sk_xthrow X E 1 tw_1 xs_78 (by decide) (Nat.le_of_ble_eq_true rfl) (Nat.le_of_ble_eq_true rfl) (Nat.le_of_ble_eq_true rfl) (Nat.le_of_ble_eq_true rfl) ⟨(Nat.le_of_ble_eq_true rfl), (Nat.le_of_ble_eq_true rfl)⟩ dX4_blink_13 dX4_blink_16 dX4_blink_17 dX4_blink_19 dX4_blink_22
def rm_X4_mend : Room := { frames := 7, cells := 2, slots := 12, locals := 111 }
def o_X4_mend : (Int32 × sk_N × sk_N × sk_N × sk_N × sk_N × sk_N × sk_N × sk_N × sk_N × sk_N) → Option Value := fun r => some (.int r.1)
def w_X4_mend (G : sk_G) (u0 u1 u2 u3 u4 u5 u6 u7 u8 u9 u10 u11 : Nat → Nat) (a0_thought a0_ahead a0_script : Nat) (S2 : sk_N) : (Int32 × sk_N × sk_N × sk_N × sk_N × sk_N × sk_N × sk_N × sk_N × sk_N × sk_N) → sk_B := fun r => [(pc_W u0 (u1 0) a0_thought a0_ahead (u3 0) a0_script), (nt_W G u1 (u2 0) r.2.1), (lg_W G u2 S2), (sv_W G u3 (u4 0) (u6 0) (u8 0) (u10 0) r.2.2.1), (nt_W G u4 (u5 0) r.2.2.2.1), (lg_W G u5 r.2.2.2.2.1), (nt_W G u6 (u7 0) r.2.2.2.2.2.1), (lg_W G u7 r.2.2.2.2.2.2.1), (nt_W G u8 (u9 0) r.2.2.2.2.2.2.2.1), (lg_W G u9 r.2.2.2.2.2.2.2.2.1), (nt_W G u10 (u11 0) r.2.2.2.2.2.2.2.2.2.1), (lg_W G u11 r.2.2.2.2.2.2.2.2.2.2)]
set_option maxHeartbeats 4000000 in
set_option maxRecDepth 100000 in
theorem c_X4_mend (l : Launch) (hl0 : l.stackTraces = false) (t : Nat) (G : sk_G) (u0 u1 u2 u3 u4 u5 u6 u7 u8 u9 u10 u11 : Nat → Nat) (a0_thought a0_ahead a0_script : Nat) (S1 : sk_N) (S2 : sk_N) (S3 : sk_N) (S4 : sk_N) (S5 : sk_N) (S6 : sk_N) (S7 : sk_N) (S8 : sk_N) (S9 : sk_N) (S10 : sk_N) (S11 : sk_N) (p1 : Int32) : sk_xtr l G t yX4_mend cX4_mend 2 (some .int) rm_X4_mend 2 12 [.ref (u0 0), .int p1] [(pc_W u0 (u1 0) a0_thought a0_ahead (u3 0) a0_script), (nt_W G u1 (u2 0) S1), (lg_W G u2 S2), (sv_W G u3 (u4 0) (u6 0) (u8 0) (u10 0) S3), (nt_W G u4 (u5 0) S4), (lg_W G u5 S5), (nt_W G u6 (u7 0) S6), (lg_W G u7 S7), (nt_W G u8 (u9 0) S8), (lg_W G u9 S9), (nt_W G u10 (u11 0) S10), (lg_W G u11 S11)] (m_X4_mend S1 S2 S3 S4 S5 S6 S7 S8 S9 S10 S11 p1) o_X4_mend (w_X4_mend G u0 u1 u2 u3 u4 u5 u6 u7 u8 u9 u10 u11 a0_thought a0_ahead a0_script S2) := by
  refine sk_xentry hl0 (own := RX4) (by decide) rfl (lv0 := [some (.ref (u0 0)), some (.int p1)]) rfl (Nat.le_of_ble_eq_true rfl) ?_
  intro Γ X E
  unfold m_X4_mend
  refine sk_aload_n (pc' := 1) X rfl dX4_mend_0 rfl ?_
  refine sk_iload_n (pc' := 2) X rfl dX4_mend_1 rfl ?_
  refine sk_callVX (bs2 := fun r2 => [(pc_W u0 (u1 0) a0_thought a0_ahead (u3 0) a0_script), (nt_W G u1 (u2 0) S1), (lg_W G u2 S2), (sv_W G u3 (u4 0) (u6 0) (u8 0) (u10 0) S3), (nt_W G u4 (u5 0) S4), (lg_W G u5 S5), (nt_W G u6 (u7 0) S6), (lg_W G u7 S7), (nt_W G u8 (u9 0) S8), (lg_W G u9 S9), (nt_W G u10 (u11 0) S10), (lg_W G u11 S11)]) (st := []) (st2 := fun r2 => []) (As := [.int p1]) (pc' := 5) X E (c_X4_requireClock l hl0 t G u0 u1 a0_thought a0_ahead (u3 0) a0_script (u2 0) S1 p1) lk_RX4_59 [0, 1] rfl (by decide) (fun _ => rfl) rfl rfl rfl ⟨(Nat.le_of_ble_eq_true rfl), (Nat.le_of_ble_eq_true rfl)⟩ ⟨rfl, rfl⟩ ⟨(Nat.le_of_ble_eq_true rfl), (Nat.le_of_ble_eq_true rfl)⟩ ⟨(Nat.le_of_ble_eq_true rfl), (Nat.le_of_ble_eq_true rfl)⟩ rfl (Nat.le_of_ble_eq_true rfl) rfl dX4_mend_2 rfl (fun _ => rfl) rfl (fun _ => rfl) (fun r2 => ?_)
  refine sk_aload_n (pc' := 6) X rfl dX4_mend_5 rfl ?_
  refine sk_getf (pc' := 9) X 0 0 0 in_RX4 rfl rfl rfl (Nat.le_of_ble_eq_true rfl) fl_RX4_10 rfl dX4_mend_6 rfl ?_
  refine sk_iload_n (pc' := 10) X rfl dX4_mend_9 rfl ?_
  refine sk_callV (bs2 := fun r10 => [(pc_W u0 (u1 0) a0_thought a0_ahead (u3 0) a0_script), (nt_W G u1 (u2 0) S1), (lg_W G u2 S2), (sv_W G u3 (u4 0) (u6 0) (u8 0) (u10 0) S3), (nt_W G u4 (u5 0) S4), (lg_W G u5 S5), (nt_W G u6 (u7 0) S6), (lg_W G u7 S7), (nt_W G u8 (u9 0) S8), (lg_W G u9 S9), (nt_W G u10 (u11 0) S10), (lg_W G u11 S11)]) (st := []) (st2 := fun r10 => [.int r10]) (As := [.int p1]) (pc' := 13) X (c_X1_isGood l G u1 (u2 0) S1 p1) lk_RX4_88 [1] rfl (by decide) (fun _ => rfl) rfl rfl rfl ⟨(Nat.le_of_ble_eq_true rfl), (Nat.le_of_ble_eq_true rfl)⟩ ⟨rfl, rfl⟩ ⟨(Nat.le_of_ble_eq_true rfl), (Nat.le_of_ble_eq_true rfl)⟩ rfl (Nat.le_of_ble_eq_true rfl) rfl dX4_mend_10 rfl (fun _ => rfl) (fun _ => rfl) (fun r10 => ?_)
  refine sk_if_eq (tgt := 26) (pc' := 16) X dX4_mend_13 rfl rfl ?_ ?_
  · refine sk_aload_n (pc' := 27) X rfl dX4_mend_26 rfl ?_
    refine sk_getf (pc' := 30) X 0 0 3 in_RX4 rfl rfl rfl (Nat.le_of_ble_eq_true rfl) fl_RX4_25 rfl dX4_mend_27 rfl ?_
    refine sk_aload_n (pc' := 31) X rfl dX4_mend_30 rfl ?_
    refine sk_getf (pc' := 34) X 0 0 0 in_RX4 rfl rfl rfl (Nat.le_of_ble_eq_true rfl) fl_RX4_10 rfl dX4_mend_31 rfl ?_
    refine sk_callV (bs2 := fun r34 => [(pc_W u0 (u1 0) a0_thought a0_ahead (u3 0) a0_script), (nt_W G u1 (u2 0) S1), (lg_W G u2 S2), (sv_W G u3 (u4 0) (u6 0) (u8 0) (u10 0) r34.1), (nt_W G u4 (u5 0) r34.2.1), (lg_W G u5 r34.2.2.1), (nt_W G u6 (u7 0) r34.2.2.2.1), (lg_W G u7 r34.2.2.2.2.1), (nt_W G u8 (u9 0) r34.2.2.2.2.2.1), (lg_W G u9 r34.2.2.2.2.2.2.1), (nt_W G u10 (u11 0) r34.2.2.2.2.2.2.2.1), (lg_W G u11 r34.2.2.2.2.2.2.2.2)]) (st := []) (st2 := fun r34 => []) (As := [.ref (u1 0)]) (pc' := 37) X (c_X2_save l G u3 u4 u5 u6 u7 u8 u9 u10 u11 u1 u2 S3 S4 S5 S6 S7 S8 S9 S10 S11 S1 S2) lk_RX4_51 [3, 4, 5, 6, 7, 8, 9, 10, 11, 1, 2] rfl (by decide) (fun _ => rfl) rfl rfl rfl ⟨(Nat.le_of_ble_eq_true rfl), (Nat.le_of_ble_eq_true rfl)⟩ ⟨rfl, rfl⟩ ⟨(Nat.le_of_ble_eq_true rfl), (Nat.le_of_ble_eq_true rfl)⟩ rfl (Nat.le_of_ble_eq_true rfl) rfl dX4_mend_34 rfl (fun _ => rfl) (fun _ => rfl) (fun r34 => ?_)
    refine sk_aload_n (pc' := 38) X rfl dX4_mend_37 rfl ?_
    refine sk_getf (pc' := 41) X 0 0 0 in_RX4 rfl rfl rfl (Nat.le_of_ble_eq_true rfl) fl_RX4_10 rfl dX4_mend_38 rfl ?_
    refine sk_iload_n (pc' := 42) X rfl dX4_mend_41 rfl ?_
    refine sk_callV (bs2 := fun r42 => [(pc_W u0 (u1 0) a0_thought a0_ahead (u3 0) a0_script), (nt_W G u1 (u2 0) r42), (lg_W G u2 S2), (sv_W G u3 (u4 0) (u6 0) (u8 0) (u10 0) r34.1), (nt_W G u4 (u5 0) r34.2.1), (lg_W G u5 r34.2.2.1), (nt_W G u6 (u7 0) r34.2.2.2.1), (lg_W G u7 r34.2.2.2.2.1), (nt_W G u8 (u9 0) r34.2.2.2.2.2.1), (lg_W G u9 r34.2.2.2.2.2.2.1), (nt_W G u10 (u11 0) r34.2.2.2.2.2.2.2.1), (lg_W G u11 r34.2.2.2.2.2.2.2.2)]) (st := []) (st2 := fun r42 => []) (As := [.int p1]) (pc' := 45) X (c_X1_makeGood l G u1 (u2 0) S1 p1) lk_RX4_94 [1] rfl (by decide) (fun _ => rfl) rfl rfl rfl ⟨(Nat.le_of_ble_eq_true rfl), (Nat.le_of_ble_eq_true rfl)⟩ ⟨rfl, rfl⟩ ⟨(Nat.le_of_ble_eq_true rfl), (Nat.le_of_ble_eq_true rfl)⟩ rfl (Nat.le_of_ble_eq_true rfl) rfl dX4_mend_42 rfl (fun _ => rfl) (fun _ => rfl) (fun r42 => ?_)
    refine sk_aload_n (pc' := 46) X rfl dX4_mend_45 rfl ?_
    refine sk_getf (pc' := 49) X 0 0 0 in_RX4 rfl rfl rfl (Nat.le_of_ble_eq_true rfl) fl_RX4_10 rfl dX4_mend_46 rfl ?_
    refine sk_callV (bs2 := fun r49 => [(pc_W u0 (u1 0) a0_thought a0_ahead (u3 0) a0_script), (nt_W G u1 (u2 0) r42), (lg_W G u2 S2), (sv_W G u3 (u4 0) (u6 0) (u8 0) (u10 0) r34.1), (nt_W G u4 (u5 0) r34.2.1), (lg_W G u5 r34.2.2.1), (nt_W G u6 (u7 0) r34.2.2.2.1), (lg_W G u7 r34.2.2.2.2.1), (nt_W G u8 (u9 0) r34.2.2.2.2.2.1), (lg_W G u9 r34.2.2.2.2.2.2.1), (nt_W G u10 (u11 0) r34.2.2.2.2.2.2.2.1), (lg_W G u11 r34.2.2.2.2.2.2.2.2)]) (st := []) (st2 := fun r49 => [.int r49]) (As := []) (pc' := 52) X (c_X1_blinkerCount l G u1 (u2 0) r42) lk_RX4_84 [1] rfl (by decide) (fun _ => rfl) rfl rfl rfl ⟨(Nat.le_of_ble_eq_true rfl), (Nat.le_of_ble_eq_true rfl)⟩ ⟨rfl, rfl⟩ ⟨(Nat.le_of_ble_eq_true rfl), (Nat.le_of_ble_eq_true rfl)⟩ rfl (Nat.le_of_ble_eq_true rfl) rfl dX4_mend_49 rfl (fun _ => rfl) (fun _ => rfl) (fun r49 => ?_)
    exact sk_xiret X (Nat.le_of_ble_eq_true rfl) (Nat.le_of_ble_eq_true rfl) rfl rfl dX4_mend_52
  · exact sk_xthrow X E 2 tw_2 xs_92 (by decide) (Nat.le_of_ble_eq_true rfl) (Nat.le_of_ble_eq_true rfl) (Nat.le_of_ble_eq_true rfl) (Nat.le_of_ble_eq_true rfl) ⟨(Nat.le_of_ble_eq_true rfl), (Nat.le_of_ble_eq_true rfl)⟩ dX4_mend_16 dX4_mend_19 dX4_mend_20 dX4_mend_22 dX4_mend_25
def rm_X4_link : Room := { frames := 7, cells := 3, slots := 18, locals := 111 }
def o_X4_link : (Int32 × sk_N × sk_N × sk_N × sk_N × sk_N × sk_N × sk_N × sk_N × sk_N × sk_N) → Option Value := fun r => some (.int r.1)
def w_X4_link (G : sk_G) (u0 u1 u2 u3 u4 u5 u6 u7 u8 u9 u10 u11 : Nat → Nat) (a0_thought a0_ahead a0_script : Nat) (S2 : sk_N) : (Int32 × sk_N × sk_N × sk_N × sk_N × sk_N × sk_N × sk_N × sk_N × sk_N × sk_N) → sk_B := fun r => [(pc_W u0 (u1 0) a0_thought a0_ahead (u3 0) a0_script), (nt_W G u1 (u2 0) r.2.1), (lg_W G u2 S2), (sv_W G u3 (u4 0) (u6 0) (u8 0) (u10 0) r.2.2.1), (nt_W G u4 (u5 0) r.2.2.2.1), (lg_W G u5 r.2.2.2.2.1), (nt_W G u6 (u7 0) r.2.2.2.2.2.1), (lg_W G u7 r.2.2.2.2.2.2.1), (nt_W G u8 (u9 0) r.2.2.2.2.2.2.2.1), (lg_W G u9 r.2.2.2.2.2.2.2.2.1), (nt_W G u10 (u11 0) r.2.2.2.2.2.2.2.2.2.1), (lg_W G u11 r.2.2.2.2.2.2.2.2.2.2)]
set_option maxHeartbeats 4000000 in
set_option maxRecDepth 100000 in
theorem c_X4_link (l : Launch) (hl0 : l.stackTraces = false) (t : Nat) (G : sk_G) (u0 u1 u2 u3 u4 u5 u6 u7 u8 u9 u10 u11 : Nat → Nat) (a0_thought a0_ahead a0_script : Nat) (S1 : sk_N) (S2 : sk_N) (S3 : sk_N) (S4 : sk_N) (S5 : sk_N) (S6 : sk_N) (S7 : sk_N) (S8 : sk_N) (S9 : sk_N) (S10 : sk_N) (S11 : sk_N) (p1 : Int32) (p2 : Int32) (p3 : Int32) : sk_xtr l G t yX4_link cX4_link 4 (some .int) rm_X4_link 3 18 [.ref (u0 0), .int p1, .int p2, .int p3] [(pc_W u0 (u1 0) a0_thought a0_ahead (u3 0) a0_script), (nt_W G u1 (u2 0) S1), (lg_W G u2 S2), (sv_W G u3 (u4 0) (u6 0) (u8 0) (u10 0) S3), (nt_W G u4 (u5 0) S4), (lg_W G u5 S5), (nt_W G u6 (u7 0) S6), (lg_W G u7 S7), (nt_W G u8 (u9 0) S8), (lg_W G u9 S9), (nt_W G u10 (u11 0) S10), (lg_W G u11 S11)] (m_X4_link S1 S2 S3 S4 S5 S6 S7 S8 S9 S10 S11 p1 p2 p3) o_X4_link (w_X4_link G u0 u1 u2 u3 u4 u5 u6 u7 u8 u9 u10 u11 a0_thought a0_ahead a0_script S2) := by
  refine sk_xentry hl0 (own := RX4) (by decide) rfl (lv0 := [some (.ref (u0 0)), some (.int p1), some (.int p2), some (.int p3)]) rfl (Nat.le_of_ble_eq_true rfl) ?_
  intro Γ X E
  unfold m_X4_link
  refine sk_aload_n (pc' := 1) X rfl dX4_link_0 rfl ?_
  refine sk_iload_n (pc' := 2) X rfl dX4_link_1 rfl ?_
  refine sk_callVX (bs2 := fun r2 => [(pc_W u0 (u1 0) a0_thought a0_ahead (u3 0) a0_script), (nt_W G u1 (u2 0) S1), (lg_W G u2 S2), (sv_W G u3 (u4 0) (u6 0) (u8 0) (u10 0) S3), (nt_W G u4 (u5 0) S4), (lg_W G u5 S5), (nt_W G u6 (u7 0) S6), (lg_W G u7 S7), (nt_W G u8 (u9 0) S8), (lg_W G u9 S9), (nt_W G u10 (u11 0) S10), (lg_W G u11 S11)]) (st := []) (st2 := fun r2 => []) (As := [.int p1]) (pc' := 5) X E (c_X4_requireClock l hl0 t G u0 u1 a0_thought a0_ahead (u3 0) a0_script (u2 0) S1 p1) lk_RX4_59 [0, 1] rfl (by decide) (fun _ => rfl) rfl rfl rfl ⟨(Nat.le_of_ble_eq_true rfl), (Nat.le_of_ble_eq_true rfl)⟩ ⟨rfl, rfl⟩ ⟨(Nat.le_of_ble_eq_true rfl), (Nat.le_of_ble_eq_true rfl)⟩ ⟨(Nat.le_of_ble_eq_true rfl), (Nat.le_of_ble_eq_true rfl)⟩ rfl (Nat.le_of_ble_eq_true rfl) rfl dX4_link_2 rfl (fun _ => rfl) rfl (fun _ => rfl) (fun r2 => ?_)
  refine sk_aload_n (pc' := 6) X rfl dX4_link_5 rfl ?_
  refine sk_iload_n (pc' := 7) X rfl dX4_link_6 rfl ?_
  refine sk_callVX (bs2 := fun r7 => [(pc_W u0 (u1 0) a0_thought a0_ahead (u3 0) a0_script), (nt_W G u1 (u2 0) S1), (lg_W G u2 S2), (sv_W G u3 (u4 0) (u6 0) (u8 0) (u10 0) S3), (nt_W G u4 (u5 0) S4), (lg_W G u5 S5), (nt_W G u6 (u7 0) S6), (lg_W G u7 S7), (nt_W G u8 (u9 0) S8), (lg_W G u9 S9), (nt_W G u10 (u11 0) S10), (lg_W G u11 S11)]) (st := []) (st2 := fun r7 => []) (As := [.int p2]) (pc' := 10) X E (c_X4_requireClock l hl0 t G u0 u1 a0_thought a0_ahead (u3 0) a0_script (u2 0) S1 p2) lk_RX4_59 [0, 1] rfl (by decide) (fun _ => rfl) rfl rfl rfl ⟨(Nat.le_of_ble_eq_true rfl), (Nat.le_of_ble_eq_true rfl)⟩ ⟨rfl, rfl⟩ ⟨(Nat.le_of_ble_eq_true rfl), (Nat.le_of_ble_eq_true rfl)⟩ ⟨(Nat.le_of_ble_eq_true rfl), (Nat.le_of_ble_eq_true rfl)⟩ rfl (Nat.le_of_ble_eq_true rfl) rfl dX4_link_7 rfl (fun _ => rfl) rfl (fun _ => rfl) (fun r7 => ?_)
  refine sk_iload_n (pc' := 11) X rfl dX4_link_10 rfl ?_
  refine sk_iload_n (pc' := 12) X rfl dX4_link_11 rfl ?_
  refine sk_icmp_eq (tgt := 22) (pc' := 15) X dX4_link_12 rfl rfl ?_ ?_
  · exact sk_xthrow X E 1 tw_1 xs_100 (by decide) (Nat.le_of_ble_eq_true rfl) (Nat.le_of_ble_eq_true rfl) (Nat.le_of_ble_eq_true rfl) (Nat.le_of_ble_eq_true rfl) ⟨(Nat.le_of_ble_eq_true rfl), (Nat.le_of_ble_eq_true rfl)⟩ dX4_link_22 dX4_link_25 dX4_link_26 dX4_link_28 dX4_link_31
  · refine sk_iload_n (pc' := 16) X rfl dX4_link_15 rfl ?_
    refine sk_callS (bs2 := fun r16 => [(pc_W u0 (u1 0) a0_thought a0_ahead (u3 0) a0_script), (nt_W G u1 (u2 0) S1), (lg_W G u2 S2), (sv_W G u3 (u4 0) (u6 0) (u8 0) (u10 0) S3), (nt_W G u4 (u5 0) S4), (lg_W G u5 S5), (nt_W G u6 (u7 0) S6), (lg_W G u7 S7), (nt_W G u8 (u9 0) S8), (lg_W G u9 S9), (nt_W G u10 (u11 0) S10), (lg_W G u11 S11)]) (st := []) (st2 := fun r16 => [.int r16]) (As := [.int p3]) (pc' := 19) X (c_X4_isDelay l G p3) lk_RX4_97 [] rfl (by decide) (fun _ => rfl) ⟨(Nat.le_of_ble_eq_true rfl), (Nat.le_of_ble_eq_true rfl)⟩ ⟨rfl, rfl⟩ ⟨(Nat.le_of_ble_eq_true rfl), (Nat.le_of_ble_eq_true rfl)⟩ rfl (Nat.le_of_ble_eq_true rfl) rfl dX4_link_16 rfl (fun _ => rfl) (fun _ => rfl) (fun r16 => ?_)
    refine sk_if_ne (tgt := 32) (pc' := 22) X dX4_link_19 rfl rfl ?_ ?_
    · refine sk_aload_n (pc' := 33) X rfl dX4_link_32 rfl ?_
      refine sk_getf (pc' := 36) X 0 0 3 in_RX4 rfl rfl rfl (Nat.le_of_ble_eq_true rfl) fl_RX4_25 rfl dX4_link_33 rfl ?_
      refine sk_aload_n (pc' := 37) X rfl dX4_link_36 rfl ?_
      refine sk_getf (pc' := 40) X 0 0 0 in_RX4 rfl rfl rfl (Nat.le_of_ble_eq_true rfl) fl_RX4_10 rfl dX4_link_37 rfl ?_
      refine sk_callV (bs2 := fun r40 => [(pc_W u0 (u1 0) a0_thought a0_ahead (u3 0) a0_script), (nt_W G u1 (u2 0) S1), (lg_W G u2 S2), (sv_W G u3 (u4 0) (u6 0) (u8 0) (u10 0) r40.1), (nt_W G u4 (u5 0) r40.2.1), (lg_W G u5 r40.2.2.1), (nt_W G u6 (u7 0) r40.2.2.2.1), (lg_W G u7 r40.2.2.2.2.1), (nt_W G u8 (u9 0) r40.2.2.2.2.2.1), (lg_W G u9 r40.2.2.2.2.2.2.1), (nt_W G u10 (u11 0) r40.2.2.2.2.2.2.2.1), (lg_W G u11 r40.2.2.2.2.2.2.2.2)]) (st := []) (st2 := fun r40 => []) (As := [.ref (u1 0)]) (pc' := 43) X (c_X2_save l G u3 u4 u5 u6 u7 u8 u9 u10 u11 u1 u2 S3 S4 S5 S6 S7 S8 S9 S10 S11 S1 S2) lk_RX4_51 [3, 4, 5, 6, 7, 8, 9, 10, 11, 1, 2] rfl (by decide) (fun _ => rfl) rfl rfl rfl ⟨(Nat.le_of_ble_eq_true rfl), (Nat.le_of_ble_eq_true rfl)⟩ ⟨rfl, rfl⟩ ⟨(Nat.le_of_ble_eq_true rfl), (Nat.le_of_ble_eq_true rfl)⟩ rfl (Nat.le_of_ble_eq_true rfl) rfl dX4_link_40 rfl (fun _ => rfl) (fun _ => rfl) (fun r40 => ?_)
      refine sk_aload_n (pc' := 44) X rfl dX4_link_43 rfl ?_
      refine sk_getf (pc' := 47) X 0 0 0 in_RX4 rfl rfl rfl (Nat.le_of_ble_eq_true rfl) fl_RX4_10 rfl dX4_link_44 rfl ?_
      refine sk_iload_n (pc' := 48) X rfl dX4_link_47 rfl ?_
      refine sk_iload_n (pc' := 49) X rfl dX4_link_48 rfl ?_
      refine sk_iload_n (pc' := 50) X rfl dX4_link_49 rfl ?_
      refine sk_callV (bs2 := fun r50 => [(pc_W u0 (u1 0) a0_thought a0_ahead (u3 0) a0_script), (nt_W G u1 (u2 0) r50.2), (lg_W G u2 S2), (sv_W G u3 (u4 0) (u6 0) (u8 0) (u10 0) r40.1), (nt_W G u4 (u5 0) r40.2.1), (lg_W G u5 r40.2.2.1), (nt_W G u6 (u7 0) r40.2.2.2.1), (lg_W G u7 r40.2.2.2.2.1), (nt_W G u8 (u9 0) r40.2.2.2.2.2.1), (lg_W G u9 r40.2.2.2.2.2.2.1), (nt_W G u10 (u11 0) r40.2.2.2.2.2.2.2.1), (lg_W G u11 r40.2.2.2.2.2.2.2.2)]) (st := []) (st2 := fun r50 => [.int r50.1]) (As := [.int p1, .int p2, .int p3]) (pc' := 53) X (c_X1_changeLink l G u1 (u2 0) S1 p1 p2 p3) lk_RX4_102 [1] rfl (by decide) (fun _ => rfl) rfl rfl rfl ⟨(Nat.le_of_ble_eq_true rfl), (Nat.le_of_ble_eq_true rfl)⟩ ⟨rfl, rfl⟩ ⟨(Nat.le_of_ble_eq_true rfl), (Nat.le_of_ble_eq_true rfl)⟩ rfl (Nat.le_of_ble_eq_true rfl) rfl dX4_link_50 rfl (fun _ => rfl) (fun _ => rfl) (fun r50 => ?_)
      exact sk_xiret X (Nat.le_of_ble_eq_true rfl) (Nat.le_of_ble_eq_true rfl) rfl rfl dX4_link_53
    · exact sk_xthrow X E 1 tw_1 xs_100 (by decide) (Nat.le_of_ble_eq_true rfl) (Nat.le_of_ble_eq_true rfl) (Nat.le_of_ble_eq_true rfl) (Nat.le_of_ble_eq_true rfl) ⟨(Nat.le_of_ble_eq_true rfl), (Nat.le_of_ble_eq_true rfl)⟩ dX4_link_22 dX4_link_25 dX4_link_26 dX4_link_28 dX4_link_31
def rm_X4_unlink : Room := { frames := 7, cells := 3, slots := 18, locals := 111 }
def o_X4_unlink : (Int32 × sk_N × sk_N × sk_N × sk_N × sk_N × sk_N × sk_N × sk_N × sk_N × sk_N) → Option Value := fun r => some (.int r.1)
def w_X4_unlink (G : sk_G) (u0 u1 u2 u3 u4 u5 u6 u7 u8 u9 u10 u11 : Nat → Nat) (a0_thought a0_ahead a0_script : Nat) (S2 : sk_N) : (Int32 × sk_N × sk_N × sk_N × sk_N × sk_N × sk_N × sk_N × sk_N × sk_N × sk_N) → sk_B := fun r => [(pc_W u0 (u1 0) a0_thought a0_ahead (u3 0) a0_script), (nt_W G u1 (u2 0) r.2.1), (lg_W G u2 S2), (sv_W G u3 (u4 0) (u6 0) (u8 0) (u10 0) r.2.2.1), (nt_W G u4 (u5 0) r.2.2.2.1), (lg_W G u5 r.2.2.2.2.1), (nt_W G u6 (u7 0) r.2.2.2.2.2.1), (lg_W G u7 r.2.2.2.2.2.2.1), (nt_W G u8 (u9 0) r.2.2.2.2.2.2.2.1), (lg_W G u9 r.2.2.2.2.2.2.2.2.1), (nt_W G u10 (u11 0) r.2.2.2.2.2.2.2.2.2.1), (lg_W G u11 r.2.2.2.2.2.2.2.2.2.2)]
set_option maxHeartbeats 4000000 in
set_option maxRecDepth 100000 in
theorem c_X4_unlink (l : Launch) (hl0 : l.stackTraces = false) (t : Nat) (G : sk_G) (u0 u1 u2 u3 u4 u5 u6 u7 u8 u9 u10 u11 : Nat → Nat) (a0_thought a0_ahead a0_script : Nat) (S1 : sk_N) (S2 : sk_N) (S3 : sk_N) (S4 : sk_N) (S5 : sk_N) (S6 : sk_N) (S7 : sk_N) (S8 : sk_N) (S9 : sk_N) (S10 : sk_N) (S11 : sk_N) (p1 : Int32) (p2 : Int32) : sk_xtr l G t yX4_unlink cX4_unlink 3 (some .int) rm_X4_unlink 3 18 [.ref (u0 0), .int p1, .int p2] [(pc_W u0 (u1 0) a0_thought a0_ahead (u3 0) a0_script), (nt_W G u1 (u2 0) S1), (lg_W G u2 S2), (sv_W G u3 (u4 0) (u6 0) (u8 0) (u10 0) S3), (nt_W G u4 (u5 0) S4), (lg_W G u5 S5), (nt_W G u6 (u7 0) S6), (lg_W G u7 S7), (nt_W G u8 (u9 0) S8), (lg_W G u9 S9), (nt_W G u10 (u11 0) S10), (lg_W G u11 S11)] (m_X4_unlink S1 S2 S3 S4 S5 S6 S7 S8 S9 S10 S11 p1 p2) o_X4_unlink (w_X4_unlink G u0 u1 u2 u3 u4 u5 u6 u7 u8 u9 u10 u11 a0_thought a0_ahead a0_script S2) := by
  refine sk_xentry hl0 (own := RX4) (by decide) rfl (lv0 := [some (.ref (u0 0)), some (.int p1), some (.int p2)]) rfl (Nat.le_of_ble_eq_true rfl) ?_
  intro Γ X E
  unfold m_X4_unlink
  refine sk_aload_n (pc' := 1) X rfl dX4_unlink_0 rfl ?_
  refine sk_iload_n (pc' := 2) X rfl dX4_unlink_1 rfl ?_
  refine sk_callVX (bs2 := fun r2 => [(pc_W u0 (u1 0) a0_thought a0_ahead (u3 0) a0_script), (nt_W G u1 (u2 0) S1), (lg_W G u2 S2), (sv_W G u3 (u4 0) (u6 0) (u8 0) (u10 0) S3), (nt_W G u4 (u5 0) S4), (lg_W G u5 S5), (nt_W G u6 (u7 0) S6), (lg_W G u7 S7), (nt_W G u8 (u9 0) S8), (lg_W G u9 S9), (nt_W G u10 (u11 0) S10), (lg_W G u11 S11)]) (st := []) (st2 := fun r2 => []) (As := [.int p1]) (pc' := 5) X E (c_X4_requireClock l hl0 t G u0 u1 a0_thought a0_ahead (u3 0) a0_script (u2 0) S1 p1) lk_RX4_59 [0, 1] rfl (by decide) (fun _ => rfl) rfl rfl rfl ⟨(Nat.le_of_ble_eq_true rfl), (Nat.le_of_ble_eq_true rfl)⟩ ⟨rfl, rfl⟩ ⟨(Nat.le_of_ble_eq_true rfl), (Nat.le_of_ble_eq_true rfl)⟩ ⟨(Nat.le_of_ble_eq_true rfl), (Nat.le_of_ble_eq_true rfl)⟩ rfl (Nat.le_of_ble_eq_true rfl) rfl dX4_unlink_2 rfl (fun _ => rfl) rfl (fun _ => rfl) (fun r2 => ?_)
  refine sk_aload_n (pc' := 6) X rfl dX4_unlink_5 rfl ?_
  refine sk_iload_n (pc' := 7) X rfl dX4_unlink_6 rfl ?_
  refine sk_callVX (bs2 := fun r7 => [(pc_W u0 (u1 0) a0_thought a0_ahead (u3 0) a0_script), (nt_W G u1 (u2 0) S1), (lg_W G u2 S2), (sv_W G u3 (u4 0) (u6 0) (u8 0) (u10 0) S3), (nt_W G u4 (u5 0) S4), (lg_W G u5 S5), (nt_W G u6 (u7 0) S6), (lg_W G u7 S7), (nt_W G u8 (u9 0) S8), (lg_W G u9 S9), (nt_W G u10 (u11 0) S10), (lg_W G u11 S11)]) (st := []) (st2 := fun r7 => []) (As := [.int p2]) (pc' := 10) X E (c_X4_requireClock l hl0 t G u0 u1 a0_thought a0_ahead (u3 0) a0_script (u2 0) S1 p2) lk_RX4_59 [0, 1] rfl (by decide) (fun _ => rfl) rfl rfl rfl ⟨(Nat.le_of_ble_eq_true rfl), (Nat.le_of_ble_eq_true rfl)⟩ ⟨rfl, rfl⟩ ⟨(Nat.le_of_ble_eq_true rfl), (Nat.le_of_ble_eq_true rfl)⟩ ⟨(Nat.le_of_ble_eq_true rfl), (Nat.le_of_ble_eq_true rfl)⟩ rfl (Nat.le_of_ble_eq_true rfl) rfl dX4_unlink_7 rfl (fun _ => rfl) rfl (fun _ => rfl) (fun r7 => ?_)
  refine sk_aload_n (pc' := 11) X rfl dX4_unlink_10 rfl ?_
  refine sk_getf (pc' := 14) X 0 0 0 in_RX4 rfl rfl rfl (Nat.le_of_ble_eq_true rfl) fl_RX4_10 rfl dX4_unlink_11 rfl ?_
  refine sk_iload_n (pc' := 15) X rfl dX4_unlink_14 rfl ?_
  refine sk_iload_n (pc' := 16) X rfl dX4_unlink_15 rfl ?_
  refine sk_callV (bs2 := fun r16 => [(pc_W u0 (u1 0) a0_thought a0_ahead (u3 0) a0_script), (nt_W G u1 (u2 0) S1), (lg_W G u2 S2), (sv_W G u3 (u4 0) (u6 0) (u8 0) (u10 0) S3), (nt_W G u4 (u5 0) S4), (lg_W G u5 S5), (nt_W G u6 (u7 0) S6), (lg_W G u7 S7), (nt_W G u8 (u9 0) S8), (lg_W G u9 S9), (nt_W G u10 (u11 0) S10), (lg_W G u11 S11)]) (st := []) (st2 := fun r16 => [.int r16]) (As := [.int p1, .int p2]) (pc' := 19) X (c_X1_delayBetween l G u1 (u2 0) S1 p1 p2) lk_RX4_106 [1] rfl (by decide) (fun _ => rfl) rfl rfl rfl ⟨(Nat.le_of_ble_eq_true rfl), (Nat.le_of_ble_eq_true rfl)⟩ ⟨rfl, rfl⟩ ⟨(Nat.le_of_ble_eq_true rfl), (Nat.le_of_ble_eq_true rfl)⟩ rfl (Nat.le_of_ble_eq_true rfl) rfl dX4_unlink_16 rfl (fun _ => rfl) (fun _ => rfl) (fun r16 => ?_)
  refine sk_iconst (pc' := 20) X ic_m1 dX4_unlink_19 rfl ?_
  refine sk_icmp_ne (tgt := 33) (pc' := 23) X dX4_unlink_20 rfl rfl ?_ ?_
  · refine sk_aload_n (pc' := 34) X rfl dX4_unlink_33 rfl ?_
    refine sk_getf (pc' := 37) X 0 0 3 in_RX4 rfl rfl rfl (Nat.le_of_ble_eq_true rfl) fl_RX4_25 rfl dX4_unlink_34 rfl ?_
    refine sk_aload_n (pc' := 38) X rfl dX4_unlink_37 rfl ?_
    refine sk_getf (pc' := 41) X 0 0 0 in_RX4 rfl rfl rfl (Nat.le_of_ble_eq_true rfl) fl_RX4_10 rfl dX4_unlink_38 rfl ?_
    refine sk_callV (bs2 := fun r41 => [(pc_W u0 (u1 0) a0_thought a0_ahead (u3 0) a0_script), (nt_W G u1 (u2 0) S1), (lg_W G u2 S2), (sv_W G u3 (u4 0) (u6 0) (u8 0) (u10 0) r41.1), (nt_W G u4 (u5 0) r41.2.1), (lg_W G u5 r41.2.2.1), (nt_W G u6 (u7 0) r41.2.2.2.1), (lg_W G u7 r41.2.2.2.2.1), (nt_W G u8 (u9 0) r41.2.2.2.2.2.1), (lg_W G u9 r41.2.2.2.2.2.2.1), (nt_W G u10 (u11 0) r41.2.2.2.2.2.2.2.1), (lg_W G u11 r41.2.2.2.2.2.2.2.2)]) (st := []) (st2 := fun r41 => []) (As := [.ref (u1 0)]) (pc' := 44) X (c_X2_save l G u3 u4 u5 u6 u7 u8 u9 u10 u11 u1 u2 S3 S4 S5 S6 S7 S8 S9 S10 S11 S1 S2) lk_RX4_51 [3, 4, 5, 6, 7, 8, 9, 10, 11, 1, 2] rfl (by decide) (fun _ => rfl) rfl rfl rfl ⟨(Nat.le_of_ble_eq_true rfl), (Nat.le_of_ble_eq_true rfl)⟩ ⟨rfl, rfl⟩ ⟨(Nat.le_of_ble_eq_true rfl), (Nat.le_of_ble_eq_true rfl)⟩ rfl (Nat.le_of_ble_eq_true rfl) rfl dX4_unlink_41 rfl (fun _ => rfl) (fun _ => rfl) (fun r41 => ?_)
    refine sk_aload_n (pc' := 45) X rfl dX4_unlink_44 rfl ?_
    refine sk_getf (pc' := 48) X 0 0 0 in_RX4 rfl rfl rfl (Nat.le_of_ble_eq_true rfl) fl_RX4_10 rfl dX4_unlink_45 rfl ?_
    refine sk_iload_n (pc' := 49) X rfl dX4_unlink_48 rfl ?_
    refine sk_iload_n (pc' := 50) X rfl dX4_unlink_49 rfl ?_
    refine sk_iconst (pc' := 51) X ic_m1 dX4_unlink_50 rfl ?_
    refine sk_callV (bs2 := fun r51 => [(pc_W u0 (u1 0) a0_thought a0_ahead (u3 0) a0_script), (nt_W G u1 (u2 0) r51.2), (lg_W G u2 S2), (sv_W G u3 (u4 0) (u6 0) (u8 0) (u10 0) r41.1), (nt_W G u4 (u5 0) r41.2.1), (lg_W G u5 r41.2.2.1), (nt_W G u6 (u7 0) r41.2.2.2.1), (lg_W G u7 r41.2.2.2.2.1), (nt_W G u8 (u9 0) r41.2.2.2.2.2.1), (lg_W G u9 r41.2.2.2.2.2.2.1), (nt_W G u10 (u11 0) r41.2.2.2.2.2.2.2.1), (lg_W G u11 r41.2.2.2.2.2.2.2.2)]) (st := []) (st2 := fun r51 => [.int r51.1]) (As := [.int p1, .int p2, .int (-1 : Int32)]) (pc' := 54) X (c_X1_changeLink l G u1 (u2 0) S1 p1 p2 (-1 : Int32)) lk_RX4_102 [1] rfl (by decide) (fun _ => rfl) rfl rfl rfl ⟨(Nat.le_of_ble_eq_true rfl), (Nat.le_of_ble_eq_true rfl)⟩ ⟨rfl, rfl⟩ ⟨(Nat.le_of_ble_eq_true rfl), (Nat.le_of_ble_eq_true rfl)⟩ rfl (Nat.le_of_ble_eq_true rfl) rfl dX4_unlink_51 rfl (fun _ => rfl) (fun _ => rfl) (fun r51 => ?_)
    refine sk_pop (pc' := 55) X rfl dX4_unlink_54 rfl ?_
    refine sk_aload_n (pc' := 56) X rfl dX4_unlink_55 rfl ?_
    refine sk_getf (pc' := 59) X 0 0 0 in_RX4 rfl rfl rfl (Nat.le_of_ble_eq_true rfl) fl_RX4_10 rfl dX4_unlink_56 rfl ?_
    refine sk_callV (bs2 := fun r59 => [(pc_W u0 (u1 0) a0_thought a0_ahead (u3 0) a0_script), (nt_W G u1 (u2 0) r51.2), (lg_W G u2 S2), (sv_W G u3 (u4 0) (u6 0) (u8 0) (u10 0) r41.1), (nt_W G u4 (u5 0) r41.2.1), (lg_W G u5 r41.2.2.1), (nt_W G u6 (u7 0) r41.2.2.2.1), (lg_W G u7 r41.2.2.2.2.1), (nt_W G u8 (u9 0) r41.2.2.2.2.2.1), (lg_W G u9 r41.2.2.2.2.2.2.1), (nt_W G u10 (u11 0) r41.2.2.2.2.2.2.2.1), (lg_W G u11 r41.2.2.2.2.2.2.2.2)]) (st := []) (st2 := fun r59 => [.int r59]) (As := []) (pc' := 62) X (c_X1_linkCount l G u1 (u2 0) r51.2) lk_RX4_111 [1] rfl (by decide) (fun _ => rfl) rfl rfl rfl ⟨(Nat.le_of_ble_eq_true rfl), (Nat.le_of_ble_eq_true rfl)⟩ ⟨rfl, rfl⟩ ⟨(Nat.le_of_ble_eq_true rfl), (Nat.le_of_ble_eq_true rfl)⟩ rfl (Nat.le_of_ble_eq_true rfl) rfl dX4_unlink_59 rfl (fun _ => rfl) (fun _ => rfl) (fun r59 => ?_)
    exact sk_xiret X (Nat.le_of_ble_eq_true rfl) (Nat.le_of_ble_eq_true rfl) rfl rfl dX4_unlink_62
  · exact sk_xthrow X E 2 tw_2 xs_109 (by decide) (Nat.le_of_ble_eq_true rfl) (Nat.le_of_ble_eq_true rfl) (Nat.le_of_ble_eq_true rfl) (Nat.le_of_ble_eq_true rfl) ⟨(Nat.le_of_ble_eq_true rfl), (Nat.le_of_ble_eq_true rfl)⟩ dX4_unlink_23 dX4_unlink_26 dX4_unlink_27 dX4_unlink_29 dX4_unlink_32
def rm_X4_setPeriod : Room := { frames := 6, cells := 1, slots := 6, locals := 103 }
def o_X4_setPeriod : (Int32 × sk_N × sk_N × sk_N × sk_N × sk_N × sk_N × sk_N × sk_N × sk_N × sk_N) → Option Value := fun r => some (.int r.1)
def w_X4_setPeriod (G : sk_G) (u0 u1 u2 u3 u4 u5 u6 u7 u8 u9 u10 u11 : Nat → Nat) (a0_thought a0_ahead a0_script : Nat) (S2 : sk_N) : (Int32 × sk_N × sk_N × sk_N × sk_N × sk_N × sk_N × sk_N × sk_N × sk_N × sk_N) → sk_B := fun r => [(pc_W u0 (u1 0) a0_thought a0_ahead (u3 0) a0_script), (nt_W G u1 (u2 0) r.2.1), (lg_W G u2 S2), (sv_W G u3 (u4 0) (u6 0) (u8 0) (u10 0) r.2.2.1), (nt_W G u4 (u5 0) r.2.2.2.1), (lg_W G u5 r.2.2.2.2.1), (nt_W G u6 (u7 0) r.2.2.2.2.2.1), (lg_W G u7 r.2.2.2.2.2.2.1), (nt_W G u8 (u9 0) r.2.2.2.2.2.2.2.1), (lg_W G u9 r.2.2.2.2.2.2.2.2.1), (nt_W G u10 (u11 0) r.2.2.2.2.2.2.2.2.2.1), (lg_W G u11 r.2.2.2.2.2.2.2.2.2.2)]
set_option maxHeartbeats 4000000 in
set_option maxRecDepth 100000 in
theorem c_X4_setPeriod (l : Launch) (hl0 : l.stackTraces = false) (t : Nat) (G : sk_G) (u0 u1 u2 u3 u4 u5 u6 u7 u8 u9 u10 u11 : Nat → Nat) (a0_thought a0_ahead a0_script : Nat) (S1 : sk_N) (S2 : sk_N) (S3 : sk_N) (S4 : sk_N) (S5 : sk_N) (S6 : sk_N) (S7 : sk_N) (S8 : sk_N) (S9 : sk_N) (S10 : sk_N) (S11 : sk_N) (p1 : Int32) : sk_xtr l G t yX4_setPeriod cX4_setPeriod 2 (some .int) rm_X4_setPeriod 1 6 [.ref (u0 0), .int p1] [(pc_W u0 (u1 0) a0_thought a0_ahead (u3 0) a0_script), (nt_W G u1 (u2 0) S1), (lg_W G u2 S2), (sv_W G u3 (u4 0) (u6 0) (u8 0) (u10 0) S3), (nt_W G u4 (u5 0) S4), (lg_W G u5 S5), (nt_W G u6 (u7 0) S6), (lg_W G u7 S7), (nt_W G u8 (u9 0) S8), (lg_W G u9 S9), (nt_W G u10 (u11 0) S10), (lg_W G u11 S11)] (m_X4_setPeriod S1 S2 S3 S4 S5 S6 S7 S8 S9 S10 S11 p1) o_X4_setPeriod (w_X4_setPeriod G u0 u1 u2 u3 u4 u5 u6 u7 u8 u9 u10 u11 a0_thought a0_ahead a0_script S2) := by
  refine sk_xentry hl0 (own := RX4) (by decide) rfl (lv0 := [some (.ref (u0 0)), some (.int p1)]) rfl (Nat.le_of_ble_eq_true rfl) ?_
  intro Γ X E
  unfold m_X4_setPeriod
  refine sk_iload_n (pc' := 1) X rfl dX4_setPeriod_0 rfl ?_
  refine sk_bipush (pc' := 3) X bp_10 dX4_setPeriod_1 rfl ?_
  refine sk_icmp_lt (tgt := 12) (pc' := 6) X dX4_setPeriod_3 rfl rfl ?_ ?_
  · exact sk_xthrow X E 1 tw_1 xs_114 (by decide) (Nat.le_of_ble_eq_true rfl) (Nat.le_of_ble_eq_true rfl) (Nat.le_of_ble_eq_true rfl) (Nat.le_of_ble_eq_true rfl) ⟨(Nat.le_of_ble_eq_true rfl), (Nat.le_of_ble_eq_true rfl)⟩ dX4_setPeriod_12 dX4_setPeriod_15 dX4_setPeriod_16 dX4_setPeriod_18 dX4_setPeriod_21
  · refine sk_iload_n (pc' := 7) X rfl dX4_setPeriod_6 rfl ?_
    refine sk_bipush (pc' := 9) X bp_100 dX4_setPeriod_7 rfl ?_
    refine sk_icmp_le (tgt := 22) (pc' := 12) X dX4_setPeriod_9 rfl rfl ?_ ?_
    · refine sk_aload_n (pc' := 23) X rfl dX4_setPeriod_22 rfl ?_
      refine sk_getf (pc' := 26) X 0 0 3 in_RX4 rfl rfl rfl (Nat.le_of_ble_eq_true rfl) fl_RX4_25 rfl dX4_setPeriod_23 rfl ?_
      refine sk_aload_n (pc' := 27) X rfl dX4_setPeriod_26 rfl ?_
      refine sk_getf (pc' := 30) X 0 0 0 in_RX4 rfl rfl rfl (Nat.le_of_ble_eq_true rfl) fl_RX4_10 rfl dX4_setPeriod_27 rfl ?_
      refine sk_callV (bs2 := fun r30 => [(pc_W u0 (u1 0) a0_thought a0_ahead (u3 0) a0_script), (nt_W G u1 (u2 0) S1), (lg_W G u2 S2), (sv_W G u3 (u4 0) (u6 0) (u8 0) (u10 0) r30.1), (nt_W G u4 (u5 0) r30.2.1), (lg_W G u5 r30.2.2.1), (nt_W G u6 (u7 0) r30.2.2.2.1), (lg_W G u7 r30.2.2.2.2.1), (nt_W G u8 (u9 0) r30.2.2.2.2.2.1), (lg_W G u9 r30.2.2.2.2.2.2.1), (nt_W G u10 (u11 0) r30.2.2.2.2.2.2.2.1), (lg_W G u11 r30.2.2.2.2.2.2.2.2)]) (st := []) (st2 := fun r30 => []) (As := [.ref (u1 0)]) (pc' := 33) X (c_X2_save l G u3 u4 u5 u6 u7 u8 u9 u10 u11 u1 u2 S3 S4 S5 S6 S7 S8 S9 S10 S11 S1 S2) lk_RX4_51 [3, 4, 5, 6, 7, 8, 9, 10, 11, 1, 2] rfl (by decide) (fun _ => rfl) rfl rfl rfl ⟨(Nat.le_of_ble_eq_true rfl), (Nat.le_of_ble_eq_true rfl)⟩ ⟨rfl, rfl⟩ ⟨(Nat.le_of_ble_eq_true rfl), (Nat.le_of_ble_eq_true rfl)⟩ rfl (Nat.le_of_ble_eq_true rfl) rfl dX4_setPeriod_30 rfl (fun _ => rfl) (fun _ => rfl) (fun r30 => ?_)
      refine sk_aload_n (pc' := 34) X rfl dX4_setPeriod_33 rfl ?_
      refine sk_getf (pc' := 37) X 0 0 0 in_RX4 rfl rfl rfl (Nat.le_of_ble_eq_true rfl) fl_RX4_10 rfl dX4_setPeriod_34 rfl ?_
      refine sk_iload_n (pc' := 38) X rfl dX4_setPeriod_37 rfl ?_
      refine sk_callV (bs2 := fun r38 => [(pc_W u0 (u1 0) a0_thought a0_ahead (u3 0) a0_script), (nt_W G u1 (u2 0) r38.2), (lg_W G u2 S2), (sv_W G u3 (u4 0) (u6 0) (u8 0) (u10 0) r30.1), (nt_W G u4 (u5 0) r30.2.1), (lg_W G u5 r30.2.2.1), (nt_W G u6 (u7 0) r30.2.2.2.1), (lg_W G u7 r30.2.2.2.2.1), (nt_W G u8 (u9 0) r30.2.2.2.2.2.1), (lg_W G u9 r30.2.2.2.2.2.2.1), (nt_W G u10 (u11 0) r30.2.2.2.2.2.2.2.1), (lg_W G u11 r30.2.2.2.2.2.2.2.2)]) (st := []) (st2 := fun r38 => [.int r38.1]) (As := [.int p1]) (pc' := 41) X (c_X1_changePeriod l G u1 (u2 0) S1 p1) lk_RX4_116 [1] rfl (by decide) (fun _ => rfl) rfl rfl rfl ⟨(Nat.le_of_ble_eq_true rfl), (Nat.le_of_ble_eq_true rfl)⟩ ⟨rfl, rfl⟩ ⟨(Nat.le_of_ble_eq_true rfl), (Nat.le_of_ble_eq_true rfl)⟩ rfl (Nat.le_of_ble_eq_true rfl) rfl dX4_setPeriod_38 rfl (fun _ => rfl) (fun _ => rfl) (fun r38 => ?_)
      exact sk_xiret X (Nat.le_of_ble_eq_true rfl) (Nat.le_of_ble_eq_true rfl) rfl rfl dX4_setPeriod_41
    · exact sk_xthrow X E 1 tw_1 xs_114 (by decide) (Nat.le_of_ble_eq_true rfl) (Nat.le_of_ble_eq_true rfl) (Nat.le_of_ble_eq_true rfl) (Nat.le_of_ble_eq_true rfl) ⟨(Nat.le_of_ble_eq_true rfl), (Nat.le_of_ble_eq_true rfl)⟩ dX4_setPeriod_12 dX4_setPeriod_15 dX4_setPeriod_16 dX4_setPeriod_18 dX4_setPeriod_21
def rm_X4_setResponse : Room := { frames := 6, cells := 1, slots := 6, locals := 103 }
def o_X4_setResponse : (Int32 × sk_N × sk_N × sk_N × sk_N × sk_N × sk_N × sk_N × sk_N × sk_N × sk_N) → Option Value := fun r => some (.int r.1)
def w_X4_setResponse (G : sk_G) (u0 u1 u2 u3 u4 u5 u6 u7 u8 u9 u10 u11 : Nat → Nat) (a0_thought a0_ahead a0_script : Nat) (S2 : sk_N) : (Int32 × sk_N × sk_N × sk_N × sk_N × sk_N × sk_N × sk_N × sk_N × sk_N × sk_N) → sk_B := fun r => [(pc_W u0 (u1 0) a0_thought a0_ahead (u3 0) a0_script), (nt_W G u1 (u2 0) r.2.1), (lg_W G u2 S2), (sv_W G u3 (u4 0) (u6 0) (u8 0) (u10 0) r.2.2.1), (nt_W G u4 (u5 0) r.2.2.2.1), (lg_W G u5 r.2.2.2.2.1), (nt_W G u6 (u7 0) r.2.2.2.2.2.1), (lg_W G u7 r.2.2.2.2.2.2.1), (nt_W G u8 (u9 0) r.2.2.2.2.2.2.2.1), (lg_W G u9 r.2.2.2.2.2.2.2.2.1), (nt_W G u10 (u11 0) r.2.2.2.2.2.2.2.2.2.1), (lg_W G u11 r.2.2.2.2.2.2.2.2.2.2)]
set_option maxHeartbeats 4000000 in
set_option maxRecDepth 100000 in
theorem c_X4_setResponse (l : Launch) (hl0 : l.stackTraces = false) (t : Nat) (G : sk_G) (u0 u1 u2 u3 u4 u5 u6 u7 u8 u9 u10 u11 : Nat → Nat) (a0_thought a0_ahead a0_script : Nat) (S1 : sk_N) (S2 : sk_N) (S3 : sk_N) (S4 : sk_N) (S5 : sk_N) (S6 : sk_N) (S7 : sk_N) (S8 : sk_N) (S9 : sk_N) (S10 : sk_N) (S11 : sk_N) (p1 : Int32) (p2 : Int32) : sk_xtr l G t yX4_setResponse cX4_setResponse 3 (some .int) rm_X4_setResponse 1 6 [.ref (u0 0), .int p1, .int p2] [(pc_W u0 (u1 0) a0_thought a0_ahead (u3 0) a0_script), (nt_W G u1 (u2 0) S1), (lg_W G u2 S2), (sv_W G u3 (u4 0) (u6 0) (u8 0) (u10 0) S3), (nt_W G u4 (u5 0) S4), (lg_W G u5 S5), (nt_W G u6 (u7 0) S6), (lg_W G u7 S7), (nt_W G u8 (u9 0) S8), (lg_W G u9 S9), (nt_W G u10 (u11 0) S10), (lg_W G u11 S11)] (m_X4_setResponse S1 S2 S3 S4 S5 S6 S7 S8 S9 S10 S11 p1 p2) o_X4_setResponse (w_X4_setResponse G u0 u1 u2 u3 u4 u5 u6 u7 u8 u9 u10 u11 a0_thought a0_ahead a0_script S2) := by
  refine sk_xentry hl0 (own := RX4) (by decide) rfl (lv0 := [some (.ref (u0 0)), some (.int p1), some (.int p2)]) rfl (Nat.le_of_ble_eq_true rfl) ?_
  intro Γ X E
  unfold m_X4_setResponse
  refine sk_iload_n (pc' := 1) X rfl dX4_setResponse_0 rfl ?_
  refine sk_if_lt (tgt := 25) (pc' := 4) X dX4_setResponse_1 rfl rfl ?_ ?_
  · exact sk_xthrow X E 1 tw_1 xs_123 (by decide) (Nat.le_of_ble_eq_true rfl) (Nat.le_of_ble_eq_true rfl) (Nat.le_of_ble_eq_true rfl) (Nat.le_of_ble_eq_true rfl) ⟨(Nat.le_of_ble_eq_true rfl), (Nat.le_of_ble_eq_true rfl)⟩ dX4_setResponse_25 dX4_setResponse_28 dX4_setResponse_29 dX4_setResponse_31 dX4_setResponse_34
  · refine sk_iload_n (pc' := 5) X rfl dX4_setResponse_4 rfl ?_
    refine sk_gets (pc' := 8) X E q_749 dX4_setResponse_5 rfl ?_
    refine sk_slen (pc' := 9) X E dX4_setResponse_8 rfl ?_
    refine sk_icmp_ge (tgt := 25) (pc' := 12) X dX4_setResponse_9 rfl rfl ?_ ?_
    · exact sk_xthrow X E 1 tw_1 xs_123 (by decide) (Nat.le_of_ble_eq_true rfl) (Nat.le_of_ble_eq_true rfl) (Nat.le_of_ble_eq_true rfl) (Nat.le_of_ble_eq_true rfl) ⟨(Nat.le_of_ble_eq_true rfl), (Nat.le_of_ble_eq_true rfl)⟩ dX4_setResponse_25 dX4_setResponse_28 dX4_setResponse_29 dX4_setResponse_31 dX4_setResponse_34
    · refine sk_iload_n (pc' := 13) X rfl dX4_setResponse_12 rfl ?_
      refine sk_if_lt (tgt := 25) (pc' := 16) X dX4_setResponse_13 rfl rfl ?_ ?_
      · exact sk_xthrow X E 1 tw_1 xs_123 (by decide) (Nat.le_of_ble_eq_true rfl) (Nat.le_of_ble_eq_true rfl) (Nat.le_of_ble_eq_true rfl) (Nat.le_of_ble_eq_true rfl) ⟨(Nat.le_of_ble_eq_true rfl), (Nat.le_of_ble_eq_true rfl)⟩ dX4_setResponse_25 dX4_setResponse_28 dX4_setResponse_29 dX4_setResponse_31 dX4_setResponse_34
      · refine sk_iload_n (pc' := 17) X rfl dX4_setResponse_16 rfl ?_
        refine sk_gets (pc' := 20) X E q_749 dX4_setResponse_17 rfl ?_
        refine sk_iload_n (pc' := 21) X rfl dX4_setResponse_20 rfl ?_
        refine sk_sld (pc' := 22) X E dX4_setResponse_21 rfl ?_
        refine sk_icmp_le (tgt := 35) (pc' := 25) X dX4_setResponse_22 rfl rfl ?_ ?_
        · refine sk_aload_n (pc' := 36) X rfl dX4_setResponse_35 rfl ?_
          refine sk_getf (pc' := 39) X 0 0 3 in_RX4 rfl rfl rfl (Nat.le_of_ble_eq_true rfl) fl_RX4_25 rfl dX4_setResponse_36 rfl ?_
          refine sk_aload_n (pc' := 40) X rfl dX4_setResponse_39 rfl ?_
          refine sk_getf (pc' := 43) X 0 0 0 in_RX4 rfl rfl rfl (Nat.le_of_ble_eq_true rfl) fl_RX4_10 rfl dX4_setResponse_40 rfl ?_
          refine sk_callV (bs2 := fun r43 => [(pc_W u0 (u1 0) a0_thought a0_ahead (u3 0) a0_script), (nt_W G u1 (u2 0) S1), (lg_W G u2 S2), (sv_W G u3 (u4 0) (u6 0) (u8 0) (u10 0) r43.1), (nt_W G u4 (u5 0) r43.2.1), (lg_W G u5 r43.2.2.1), (nt_W G u6 (u7 0) r43.2.2.2.1), (lg_W G u7 r43.2.2.2.2.1), (nt_W G u8 (u9 0) r43.2.2.2.2.2.1), (lg_W G u9 r43.2.2.2.2.2.2.1), (nt_W G u10 (u11 0) r43.2.2.2.2.2.2.2.1), (lg_W G u11 r43.2.2.2.2.2.2.2.2)]) (st := []) (st2 := fun r43 => []) (As := [.ref (u1 0)]) (pc' := 46) X (c_X2_save l G u3 u4 u5 u6 u7 u8 u9 u10 u11 u1 u2 S3 S4 S5 S6 S7 S8 S9 S10 S11 S1 S2) lk_RX4_51 [3, 4, 5, 6, 7, 8, 9, 10, 11, 1, 2] rfl (by decide) (fun _ => rfl) rfl rfl rfl ⟨(Nat.le_of_ble_eq_true rfl), (Nat.le_of_ble_eq_true rfl)⟩ ⟨rfl, rfl⟩ ⟨(Nat.le_of_ble_eq_true rfl), (Nat.le_of_ble_eq_true rfl)⟩ rfl (Nat.le_of_ble_eq_true rfl) rfl dX4_setResponse_43 rfl (fun _ => rfl) (fun _ => rfl) (fun r43 => ?_)
          refine sk_aload_n (pc' := 47) X rfl dX4_setResponse_46 rfl ?_
          refine sk_getf (pc' := 50) X 0 0 0 in_RX4 rfl rfl rfl (Nat.le_of_ble_eq_true rfl) fl_RX4_10 rfl dX4_setResponse_47 rfl ?_
          refine sk_iload_n (pc' := 51) X rfl dX4_setResponse_50 rfl ?_
          refine sk_iload_n (pc' := 52) X rfl dX4_setResponse_51 rfl ?_
          refine sk_callV (bs2 := fun r52 => [(pc_W u0 (u1 0) a0_thought a0_ahead (u3 0) a0_script), (nt_W G u1 (u2 0) r52.2), (lg_W G u2 S2), (sv_W G u3 (u4 0) (u6 0) (u8 0) (u10 0) r43.1), (nt_W G u4 (u5 0) r43.2.1), (lg_W G u5 r43.2.2.1), (nt_W G u6 (u7 0) r43.2.2.2.1), (lg_W G u7 r43.2.2.2.2.1), (nt_W G u8 (u9 0) r43.2.2.2.2.2.1), (lg_W G u9 r43.2.2.2.2.2.2.1), (nt_W G u10 (u11 0) r43.2.2.2.2.2.2.2.1), (lg_W G u11 r43.2.2.2.2.2.2.2.2)]) (st := []) (st2 := fun r52 => [.int r52.1]) (As := [.int p1, .int p2]) (pc' := 55) X (c_X1_changeResponse l G u1 (u2 0) S1 p1 p2) lk_RX4_125 [1] rfl (by decide) (fun _ => rfl) rfl rfl rfl ⟨(Nat.le_of_ble_eq_true rfl), (Nat.le_of_ble_eq_true rfl)⟩ ⟨rfl, rfl⟩ ⟨(Nat.le_of_ble_eq_true rfl), (Nat.le_of_ble_eq_true rfl)⟩ rfl (Nat.le_of_ble_eq_true rfl) rfl dX4_setResponse_52 rfl (fun _ => rfl) (fun _ => rfl) (fun r52 => ?_)
          exact sk_xiret X (Nat.le_of_ble_eq_true rfl) (Nat.le_of_ble_eq_true rfl) rfl rfl dX4_setResponse_55
        · exact sk_xthrow X E 1 tw_1 xs_123 (by decide) (Nat.le_of_ble_eq_true rfl) (Nat.le_of_ble_eq_true rfl) (Nat.le_of_ble_eq_true rfl) (Nat.le_of_ble_eq_true rfl) ⟨(Nat.le_of_ble_eq_true rfl), (Nat.le_of_ble_eq_true rfl)⟩ dX4_setResponse_25 dX4_setResponse_28 dX4_setResponse_29 dX4_setResponse_31 dX4_setResponse_34
def rm_X4_clock : Room := { frames := 7, cells := 2, slots := 12, locals := 111 }
def o_X4_clock : (Int32) → Option Value := fun r => some (.int r)
def w_X4_clock (G : sk_G) (u0 u1 : Nat → Nat) (a0_thought a0_ahead a0_savings a0_script a1_log : Nat) (S1 : sk_N) : (Int32) → sk_B := fun r => [(pc_W u0 (u1 0) a0_thought a0_ahead a0_savings a0_script), (nt_W G u1 a1_log S1)]
set_option maxHeartbeats 4000000 in
set_option maxRecDepth 100000 in
theorem c_X4_clock (l : Launch) (hl0 : l.stackTraces = false) (t : Nat) (G : sk_G) (u0 u1 : Nat → Nat) (a0_thought a0_ahead a0_savings a0_script a1_log : Nat) (S1 : sk_N) (p1 : Int32) (p2 : Int32) : sk_xtr l G t yX4_clock cX4_clock 3 (some .int) rm_X4_clock 2 12 [.ref (u0 0), .int p1, .int p2] [(pc_W u0 (u1 0) a0_thought a0_ahead a0_savings a0_script), (nt_W G u1 a1_log S1)] (m_X4_clock S1 p1 p2) o_X4_clock (w_X4_clock G u0 u1 a0_thought a0_ahead a0_savings a0_script a1_log S1) := by
  refine sk_xentry hl0 (own := RX4) (by decide) rfl (lv0 := [some (.ref (u0 0)), some (.int p1), some (.int p2)]) rfl (Nat.le_of_ble_eq_true rfl) ?_
  intro Γ X E
  unfold m_X4_clock
  refine sk_aload_n (pc' := 1) X rfl dX4_clock_0 rfl ?_
  refine sk_iload_n (pc' := 2) X rfl dX4_clock_1 rfl ?_
  refine sk_callVX (bs2 := fun r2 => [(pc_W u0 (u1 0) a0_thought a0_ahead a0_savings a0_script), (nt_W G u1 a1_log S1)]) (st := []) (st2 := fun r2 => []) (As := [.int p1]) (pc' := 5) X E (c_X4_requireClock l hl0 t G u0 u1 a0_thought a0_ahead a0_savings a0_script a1_log S1 p1) lk_RX4_59 [0, 1] rfl (by decide) (fun _ => rfl) rfl rfl rfl ⟨(Nat.le_of_ble_eq_true rfl), (Nat.le_of_ble_eq_true rfl)⟩ ⟨rfl, rfl⟩ ⟨(Nat.le_of_ble_eq_true rfl), (Nat.le_of_ble_eq_true rfl)⟩ ⟨(Nat.le_of_ble_eq_true rfl), (Nat.le_of_ble_eq_true rfl)⟩ rfl (Nat.le_of_ble_eq_true rfl) rfl dX4_clock_2 rfl (fun _ => rfl) rfl (fun _ => rfl) (fun r2 => ?_)
  refine sk_iload_n (pc' := 6) X rfl dX4_clock_5 rfl ?_
  refine sk_if_lt (tgt := 15) (pc' := 9) X dX4_clock_6 rfl rfl ?_ ?_
  · exact sk_xthrow X E 1 tw_1 xs_132 (by decide) (Nat.le_of_ble_eq_true rfl) (Nat.le_of_ble_eq_true rfl) (Nat.le_of_ble_eq_true rfl) (Nat.le_of_ble_eq_true rfl) ⟨(Nat.le_of_ble_eq_true rfl), (Nat.le_of_ble_eq_true rfl)⟩ dX4_clock_15 dX4_clock_18 dX4_clock_19 dX4_clock_21 dX4_clock_24
  · refine sk_iload_n (pc' := 10) X rfl dX4_clock_9 rfl ?_
    refine sk_bipush (pc' := 12) X bp_6 dX4_clock_10 rfl ?_
    refine sk_icmp_le (tgt := 25) (pc' := 15) X dX4_clock_12 rfl rfl ?_ ?_
    · refine sk_aload_n (pc' := 26) X rfl dX4_clock_25 rfl ?_
      refine sk_getf (pc' := 29) X 0 0 0 in_RX4 rfl rfl rfl (Nat.le_of_ble_eq_true rfl) fl_RX4_10 rfl dX4_clock_26 rfl ?_
      refine sk_iload_n (pc' := 30) X rfl dX4_clock_29 rfl ?_
      refine sk_iload_n (pc' := 31) X rfl dX4_clock_30 rfl ?_
      refine sk_callV (bs2 := fun r31 => [(pc_W u0 (u1 0) a0_thought a0_ahead a0_savings a0_script), (nt_W G u1 a1_log S1)]) (st := []) (st2 := fun r31 => [.int r31]) (As := [.int p1, .int p2]) (pc' := 34) X (c_X1_about l G u1 a1_log S1 p1 p2) lk_RX4_134 [1] rfl (by decide) (fun _ => rfl) rfl rfl rfl ⟨(Nat.le_of_ble_eq_true rfl), (Nat.le_of_ble_eq_true rfl)⟩ ⟨rfl, rfl⟩ ⟨(Nat.le_of_ble_eq_true rfl), (Nat.le_of_ble_eq_true rfl)⟩ rfl (Nat.le_of_ble_eq_true rfl) rfl dX4_clock_31 rfl (fun _ => rfl) (fun _ => rfl) (fun r31 => ?_)
      exact sk_xiret X (Nat.le_of_ble_eq_true rfl) (Nat.le_of_ble_eq_true rfl) rfl rfl dX4_clock_34
    · exact sk_xthrow X E 1 tw_1 xs_132 (by decide) (Nat.le_of_ble_eq_true rfl) (Nat.le_of_ble_eq_true rfl) (Nat.le_of_ble_eq_true rfl) (Nat.le_of_ble_eq_true rfl) ⟨(Nat.le_of_ble_eq_true rfl), (Nat.le_of_ble_eq_true rfl)⟩ dX4_clock_15 dX4_clock_18 dX4_clock_19 dX4_clock_21 dX4_clock_24
def rm_X4_linkOf : Room := { frames := 7, cells := 2, slots := 12, locals := 111 }
def o_X4_linkOf : (Int32) → Option Value := fun r => some (.int r)
def w_X4_linkOf (G : sk_G) (u0 u1 : Nat → Nat) (a0_thought a0_ahead a0_savings a0_script a1_log : Nat) (S1 : sk_N) : (Int32) → sk_B := fun r => [(pc_W u0 (u1 0) a0_thought a0_ahead a0_savings a0_script), (nt_W G u1 a1_log S1)]
set_option maxHeartbeats 4000000 in
set_option maxRecDepth 100000 in
theorem c_X4_linkOf (l : Launch) (hl0 : l.stackTraces = false) (t : Nat) (G : sk_G) (u0 u1 : Nat → Nat) (a0_thought a0_ahead a0_savings a0_script a1_log : Nat) (S1 : sk_N) (p1 : Int32) (p2 : Int32) : sk_xtr l G t yX4_linkOf cX4_linkOf 3 (some .int) rm_X4_linkOf 2 12 [.ref (u0 0), .int p1, .int p2] [(pc_W u0 (u1 0) a0_thought a0_ahead a0_savings a0_script), (nt_W G u1 a1_log S1)] (m_X4_linkOf S1 p1 p2) o_X4_linkOf (w_X4_linkOf G u0 u1 a0_thought a0_ahead a0_savings a0_script a1_log S1) := by
  refine sk_xentry hl0 (own := RX4) (by decide) rfl (lv0 := [some (.ref (u0 0)), some (.int p1), some (.int p2)]) rfl (Nat.le_of_ble_eq_true rfl) ?_
  intro Γ X E
  unfold m_X4_linkOf
  refine sk_aload_n (pc' := 1) X rfl dX4_linkOf_0 rfl ?_
  refine sk_iload_n (pc' := 2) X rfl dX4_linkOf_1 rfl ?_
  refine sk_callVX (bs2 := fun r2 => [(pc_W u0 (u1 0) a0_thought a0_ahead a0_savings a0_script), (nt_W G u1 a1_log S1)]) (st := []) (st2 := fun r2 => []) (As := [.int p1]) (pc' := 5) X E (c_X4_requireClock l hl0 t G u0 u1 a0_thought a0_ahead a0_savings a0_script a1_log S1 p1) lk_RX4_59 [0, 1] rfl (by decide) (fun _ => rfl) rfl rfl rfl ⟨(Nat.le_of_ble_eq_true rfl), (Nat.le_of_ble_eq_true rfl)⟩ ⟨rfl, rfl⟩ ⟨(Nat.le_of_ble_eq_true rfl), (Nat.le_of_ble_eq_true rfl)⟩ ⟨(Nat.le_of_ble_eq_true rfl), (Nat.le_of_ble_eq_true rfl)⟩ rfl (Nat.le_of_ble_eq_true rfl) rfl dX4_linkOf_2 rfl (fun _ => rfl) rfl (fun _ => rfl) (fun r2 => ?_)
  refine sk_aload_n (pc' := 6) X rfl dX4_linkOf_5 rfl ?_
  refine sk_iload_n (pc' := 7) X rfl dX4_linkOf_6 rfl ?_
  refine sk_callVX (bs2 := fun r7 => [(pc_W u0 (u1 0) a0_thought a0_ahead a0_savings a0_script), (nt_W G u1 a1_log S1)]) (st := []) (st2 := fun r7 => []) (As := [.int p2]) (pc' := 10) X E (c_X4_requireClock l hl0 t G u0 u1 a0_thought a0_ahead a0_savings a0_script a1_log S1 p2) lk_RX4_59 [0, 1] rfl (by decide) (fun _ => rfl) rfl rfl rfl ⟨(Nat.le_of_ble_eq_true rfl), (Nat.le_of_ble_eq_true rfl)⟩ ⟨rfl, rfl⟩ ⟨(Nat.le_of_ble_eq_true rfl), (Nat.le_of_ble_eq_true rfl)⟩ ⟨(Nat.le_of_ble_eq_true rfl), (Nat.le_of_ble_eq_true rfl)⟩ rfl (Nat.le_of_ble_eq_true rfl) rfl dX4_linkOf_7 rfl (fun _ => rfl) rfl (fun _ => rfl) (fun r7 => ?_)
  refine sk_aload_n (pc' := 11) X rfl dX4_linkOf_10 rfl ?_
  refine sk_getf (pc' := 14) X 0 0 0 in_RX4 rfl rfl rfl (Nat.le_of_ble_eq_true rfl) fl_RX4_10 rfl dX4_linkOf_11 rfl ?_
  refine sk_iload_n (pc' := 15) X rfl dX4_linkOf_14 rfl ?_
  refine sk_iload_n (pc' := 16) X rfl dX4_linkOf_15 rfl ?_
  refine sk_callV (bs2 := fun r16 => [(pc_W u0 (u1 0) a0_thought a0_ahead a0_savings a0_script), (nt_W G u1 a1_log S1)]) (st := []) (st2 := fun r16 => [.int r16]) (As := [.int p1, .int p2]) (pc' := 19) X (c_X1_delayBetween l G u1 a1_log S1 p1 p2) lk_RX4_106 [1] rfl (by decide) (fun _ => rfl) rfl rfl rfl ⟨(Nat.le_of_ble_eq_true rfl), (Nat.le_of_ble_eq_true rfl)⟩ ⟨rfl, rfl⟩ ⟨(Nat.le_of_ble_eq_true rfl), (Nat.le_of_ble_eq_true rfl)⟩ rfl (Nat.le_of_ble_eq_true rfl) rfl dX4_linkOf_16 rfl (fun _ => rfl) (fun _ => rfl) (fun r16 => ?_)
  exact sk_xiret X (Nat.le_of_ble_eq_true rfl) (Nat.le_of_ble_eq_true rfl) rfl rfl dX4_linkOf_19
def rm_X4_distance : Room := { frames := 7, cells := 2, slots := 12, locals := 111 }
def o_X4_distance : (Int32) → Option Value := fun r => some (.int r)
def w_X4_distance (G : sk_G) (u0 u1 : Nat → Nat) (a0_thought a0_ahead a0_savings a0_script a1_log : Nat) (S1 : sk_N) : (Int32) → sk_B := fun r => [(pc_W u0 (u1 0) a0_thought a0_ahead a0_savings a0_script), (nt_W G u1 a1_log S1)]
set_option maxHeartbeats 4000000 in
set_option maxRecDepth 100000 in
theorem c_X4_distance (l : Launch) (hl0 : l.stackTraces = false) (t : Nat) (G : sk_G) (u0 u1 : Nat → Nat) (a0_thought a0_ahead a0_savings a0_script a1_log : Nat) (S1 : sk_N) (p1 : Int32) (p2 : Int32) : sk_xtr l G t yX4_distance cX4_distance 3 (some .int) rm_X4_distance 2 12 [.ref (u0 0), .int p1, .int p2] [(pc_W u0 (u1 0) a0_thought a0_ahead a0_savings a0_script), (nt_W G u1 a1_log S1)] (m_X4_distance S1 p1 p2) o_X4_distance (w_X4_distance G u0 u1 a0_thought a0_ahead a0_savings a0_script a1_log S1) := by
  refine sk_xentry hl0 (own := RX4) (by decide) rfl (lv0 := [some (.ref (u0 0)), some (.int p1), some (.int p2)]) rfl (Nat.le_of_ble_eq_true rfl) ?_
  intro Γ X E
  unfold m_X4_distance
  refine sk_aload_n (pc' := 1) X rfl dX4_distance_0 rfl ?_
  refine sk_iload_n (pc' := 2) X rfl dX4_distance_1 rfl ?_
  refine sk_callVX (bs2 := fun r2 => [(pc_W u0 (u1 0) a0_thought a0_ahead a0_savings a0_script), (nt_W G u1 a1_log S1)]) (st := []) (st2 := fun r2 => []) (As := [.int p1]) (pc' := 5) X E (c_X4_requireClock l hl0 t G u0 u1 a0_thought a0_ahead a0_savings a0_script a1_log S1 p1) lk_RX4_59 [0, 1] rfl (by decide) (fun _ => rfl) rfl rfl rfl ⟨(Nat.le_of_ble_eq_true rfl), (Nat.le_of_ble_eq_true rfl)⟩ ⟨rfl, rfl⟩ ⟨(Nat.le_of_ble_eq_true rfl), (Nat.le_of_ble_eq_true rfl)⟩ ⟨(Nat.le_of_ble_eq_true rfl), (Nat.le_of_ble_eq_true rfl)⟩ rfl (Nat.le_of_ble_eq_true rfl) rfl dX4_distance_2 rfl (fun _ => rfl) rfl (fun _ => rfl) (fun r2 => ?_)
  refine sk_aload_n (pc' := 6) X rfl dX4_distance_5 rfl ?_
  refine sk_iload_n (pc' := 7) X rfl dX4_distance_6 rfl ?_
  refine sk_callVX (bs2 := fun r7 => [(pc_W u0 (u1 0) a0_thought a0_ahead a0_savings a0_script), (nt_W G u1 a1_log S1)]) (st := []) (st2 := fun r7 => []) (As := [.int p2]) (pc' := 10) X E (c_X4_requireClock l hl0 t G u0 u1 a0_thought a0_ahead a0_savings a0_script a1_log S1 p2) lk_RX4_59 [0, 1] rfl (by decide) (fun _ => rfl) rfl rfl rfl ⟨(Nat.le_of_ble_eq_true rfl), (Nat.le_of_ble_eq_true rfl)⟩ ⟨rfl, rfl⟩ ⟨(Nat.le_of_ble_eq_true rfl), (Nat.le_of_ble_eq_true rfl)⟩ ⟨(Nat.le_of_ble_eq_true rfl), (Nat.le_of_ble_eq_true rfl)⟩ rfl (Nat.le_of_ble_eq_true rfl) rfl dX4_distance_7 rfl (fun _ => rfl) rfl (fun _ => rfl) (fun r7 => ?_)
  refine sk_aload_n (pc' := 11) X rfl dX4_distance_10 rfl ?_
  refine sk_getf (pc' := 14) X 0 0 0 in_RX4 rfl rfl rfl (Nat.le_of_ble_eq_true rfl) fl_RX4_10 rfl dX4_distance_11 rfl ?_
  refine sk_iload_n (pc' := 15) X rfl dX4_distance_14 rfl ?_
  refine sk_iload_n (pc' := 16) X rfl dX4_distance_15 rfl ?_
  refine sk_callV (bs2 := fun r16 => [(pc_W u0 (u1 0) a0_thought a0_ahead a0_savings a0_script), (nt_W G u1 a1_log S1)]) (st := []) (st2 := fun r16 => [.int r16]) (As := [.int p1, .int p2]) (pc' := 19) X (c_X1_linksFromTo l G u1 a1_log S1 p1 p2) lk_RX4_137 [1] rfl (by decide) (fun _ => rfl) rfl rfl rfl ⟨(Nat.le_of_ble_eq_true rfl), (Nat.le_of_ble_eq_true rfl)⟩ ⟨rfl, rfl⟩ ⟨(Nat.le_of_ble_eq_true rfl), (Nat.le_of_ble_eq_true rfl)⟩ rfl (Nat.le_of_ble_eq_true rfl) rfl dX4_distance_16 rfl (fun _ => rfl) (fun _ => rfl) (fun r16 => ?_)
  exact sk_xiret X (Nat.le_of_ble_eq_true rfl) (Nat.le_of_ble_eq_true rfl) rfl rfl dX4_distance_19
def rm_X4_isNeeded : Room := { frames := 7, cells := 1, slots := 6, locals := 116 }
def o_X4_isNeeded : (Int32) → Option Value := fun r => some (.int r)
def w_X4_isNeeded (G : sk_G) (u0 u1 : Nat → Nat) (a0_thought a0_ahead a0_savings a0_script a1_log : Nat) (S1 : sk_N) : (Int32) → sk_B := fun r => [(pc_W u0 (u1 0) a0_thought a0_ahead a0_savings a0_script), (nt_W G u1 a1_log S1)]
set_option maxHeartbeats 4000000 in
set_option maxRecDepth 100000 in
theorem c_X4_isNeeded (l : Launch) (hl0 : l.stackTraces = false) (t : Nat) (G : sk_G) (u0 u1 : Nat → Nat) (a0_thought a0_ahead a0_savings a0_script a1_log : Nat) (S1 : sk_N) (p1 : Int32) : sk_xtr l G t yX4_isNeeded cX4_isNeeded 3 (some .boolean) rm_X4_isNeeded 1 6 [.ref (u0 0), .int p1] [(pc_W u0 (u1 0) a0_thought a0_ahead a0_savings a0_script), (nt_W G u1 a1_log S1)] (m_X4_isNeeded S1 p1) o_X4_isNeeded (w_X4_isNeeded G u0 u1 a0_thought a0_ahead a0_savings a0_script a1_log S1) := by
  refine sk_xentry hl0 (own := RX4) (by decide) rfl (lv0 := [some (.ref (u0 0)), some (.int p1), none]) rfl (Nat.le_of_ble_eq_true rfl) ?_
  intro Γ X E
  unfold m_X4_isNeeded
  refine sk_aload_n (pc' := 1) X rfl dX4_isNeeded_0 rfl ?_
  refine sk_iload_n (pc' := 2) X rfl dX4_isNeeded_1 rfl ?_
  refine sk_callVX (bs2 := fun r2 => [(pc_W u0 (u1 0) a0_thought a0_ahead a0_savings a0_script), (nt_W G u1 a1_log S1)]) (st := []) (st2 := fun r2 => []) (As := [.int p1]) (pc' := 5) X E (c_X4_requireClock l hl0 t G u0 u1 a0_thought a0_ahead a0_savings a0_script a1_log S1 p1) lk_RX4_59 [0, 1] rfl (by decide) (fun _ => rfl) rfl rfl rfl ⟨(Nat.le_of_ble_eq_true rfl), (Nat.le_of_ble_eq_true rfl)⟩ ⟨rfl, rfl⟩ ⟨(Nat.le_of_ble_eq_true rfl), (Nat.le_of_ble_eq_true rfl)⟩ ⟨(Nat.le_of_ble_eq_true rfl), (Nat.le_of_ble_eq_true rfl)⟩ rfl (Nat.le_of_ble_eq_true rfl) rfl dX4_isNeeded_2 rfl (fun _ => rfl) rfl (fun _ => rfl) (fun r2 => ?_)
  refine sk_aload_n (pc' := 6) X rfl dX4_isNeeded_5 rfl ?_
  refine sk_getf (pc' := 9) X 0 0 0 in_RX4 rfl rfl rfl (Nat.le_of_ble_eq_true rfl) fl_RX4_10 rfl dX4_isNeeded_6 rfl ?_
  refine sk_callV (bs2 := fun r9 => [(pc_W u0 (u1 0) a0_thought a0_ahead a0_savings a0_script), (nt_W G u1 a1_log S1)]) (st := []) (st2 := fun r9 => [.int r9]) (As := []) (pc' := 12) X (c_X1_allClocks l G u1 a1_log S1) lk_RX4_140 [1] rfl (by decide) (fun _ => rfl) rfl rfl rfl ⟨(Nat.le_of_ble_eq_true rfl), (Nat.le_of_ble_eq_true rfl)⟩ ⟨rfl, rfl⟩ ⟨(Nat.le_of_ble_eq_true rfl), (Nat.le_of_ble_eq_true rfl)⟩ rfl (Nat.le_of_ble_eq_true rfl) rfl dX4_isNeeded_9 rfl (fun _ => rfl) (fun _ => rfl) (fun r9 => ?_)
  refine sk_istore_n (lv' := [some (.ref (u0 0)), some (.int p1), some (.int r9)]) (pc' := 13) X (Nat.le_of_ble_eq_true rfl) rfl rfl dX4_isNeeded_12 rfl ?_
  refine sk_aload_n (pc' := 14) X rfl dX4_isNeeded_13 rfl ?_
  refine sk_getf (pc' := 17) X 0 0 0 in_RX4 rfl rfl rfl (Nat.le_of_ble_eq_true rfl) fl_RX4_10 rfl dX4_isNeeded_14 rfl ?_
  refine sk_iload_n (pc' := 18) X rfl dX4_isNeeded_17 rfl ?_
  refine sk_iconst (pc' := 19) X ic_1 dX4_isNeeded_18 rfl ?_
  refine sk_iload_n (pc' := 20) X rfl dX4_isNeeded_19 rfl ?_
  refine sk_ishl (pc' := 21) X dX4_isNeeded_20 rfl ?_
  refine sk_iconst (pc' := 22) X ic_m1 dX4_isNeeded_21 rfl ?_
  refine sk_ixor (pc' := 23) X dX4_isNeeded_22 rfl ?_
  refine sk_iand (pc' := 24) X dX4_isNeeded_23 rfl ?_
  refine sk_callV (bs2 := fun r24 => [(pc_W u0 (u1 0) a0_thought a0_ahead a0_savings a0_script), (nt_W G u1 a1_log S1)]) (st := []) (st2 := fun r24 => [.int r24]) (As := [.int (r9 &&& ((sk_shl (1 : Int32) p1) ^^^ (-1 : Int32)))]) (pc' := 27) X (c_X1_partsWithin l G u1 a1_log S1 (r9 &&& ((sk_shl (1 : Int32) p1) ^^^ (-1 : Int32)))) lk_RX4_143 [1] rfl (by decide) (fun _ => rfl) rfl rfl rfl ⟨(Nat.le_of_ble_eq_true rfl), (Nat.le_of_ble_eq_true rfl)⟩ ⟨rfl, rfl⟩ ⟨(Nat.le_of_ble_eq_true rfl), (Nat.le_of_ble_eq_true rfl)⟩ rfl (Nat.le_of_ble_eq_true rfl) rfl dX4_isNeeded_24 rfl (fun _ => rfl) (fun _ => rfl) (fun r24 => ?_)
  refine sk_aload_n (pc' := 28) X rfl dX4_isNeeded_27 rfl ?_
  refine sk_getf (pc' := 31) X 0 0 0 in_RX4 rfl rfl rfl (Nat.le_of_ble_eq_true rfl) fl_RX4_10 rfl dX4_isNeeded_28 rfl ?_
  refine sk_iload_n (pc' := 32) X rfl dX4_isNeeded_31 rfl ?_
  refine sk_callV (bs2 := fun r32 => [(pc_W u0 (u1 0) a0_thought a0_ahead a0_savings a0_script), (nt_W G u1 a1_log S1)]) (st := [.int r24]) (st2 := fun r32 => [.int r32, .int r24]) (As := [.int r9]) (pc' := 35) X (c_X1_partsWithin l G u1 a1_log S1 r9) lk_RX4_143 [1] rfl (by decide) (fun _ => rfl) rfl rfl rfl ⟨(Nat.le_of_ble_eq_true rfl), (Nat.le_of_ble_eq_true rfl)⟩ ⟨rfl, rfl⟩ ⟨(Nat.le_of_ble_eq_true rfl), (Nat.le_of_ble_eq_true rfl)⟩ rfl (Nat.le_of_ble_eq_true rfl) rfl dX4_isNeeded_32 rfl (fun _ => rfl) (fun _ => rfl) (fun r32 => ?_)
  refine sk_icmp_le (tgt := 42) (pc' := 38) X dX4_isNeeded_35 rfl rfl ?_ ?_
  · refine sk_iconst (pc' := 43) X ic_0 dX4_isNeeded_42 rfl ?_
    exact sk_xzret X (by decide) (Nat.le_of_ble_eq_true rfl) (Nat.le_of_ble_eq_true rfl) rfl rfl dX4_isNeeded_43
  · refine sk_iconst (pc' := 39) X ic_1 dX4_isNeeded_38 rfl ?_
    refine sk_goto (tgt := 43) X dX4_isNeeded_39 rfl ?_
    exact sk_xzret X (by decide) (Nat.le_of_ble_eq_true rfl) (Nat.le_of_ble_eq_true rfl) rfl rfl dX4_isNeeded_43
def rm_X4_tick : Room := { frames := 6, cells := 1, slots := 6, locals := 113 }
def o_X4_tick : (Int32 × sk_N × sk_N × sk_N × sk_N × sk_N × sk_N × sk_N × sk_N × sk_N × sk_N × sk_N) → Option Value := fun r => some (.int r.1)
def w_X4_tick (G : sk_G) (u0 u1 u2 u3 u4 u5 u6 u7 u8 u9 u10 u11 : Nat → Nat) (a0_thought a0_ahead a0_script : Nat) : (Int32 × sk_N × sk_N × sk_N × sk_N × sk_N × sk_N × sk_N × sk_N × sk_N × sk_N × sk_N) → sk_B := fun r => [(pc_W u0 (u1 0) a0_thought a0_ahead (u3 0) a0_script), (nt_W G u1 (u2 0) r.2.1), (lg_W G u2 r.2.2.1), (sv_W G u3 (u4 0) (u6 0) (u8 0) (u10 0) r.2.2.2.1), (nt_W G u4 (u5 0) r.2.2.2.2.1), (lg_W G u5 r.2.2.2.2.2.1), (nt_W G u6 (u7 0) r.2.2.2.2.2.2.1), (lg_W G u7 r.2.2.2.2.2.2.2.1), (nt_W G u8 (u9 0) r.2.2.2.2.2.2.2.2.1), (lg_W G u9 r.2.2.2.2.2.2.2.2.2.1), (nt_W G u10 (u11 0) r.2.2.2.2.2.2.2.2.2.2.1), (lg_W G u11 r.2.2.2.2.2.2.2.2.2.2.2)]
set_option maxHeartbeats 4000000 in
set_option maxRecDepth 100000 in
theorem c_X4_tick (l : Launch) (hl0 : l.stackTraces = false) (t : Nat) (G : sk_G) (u0 u1 u2 u3 u4 u5 u6 u7 u8 u9 u10 u11 : Nat → Nat) (a0_thought a0_ahead a0_script : Nat) (S1 : sk_N) (S2 : sk_N) (S3 : sk_N) (S4 : sk_N) (S5 : sk_N) (S6 : sk_N) (S7 : sk_N) (S8 : sk_N) (S9 : sk_N) (S10 : sk_N) (S11 : sk_N) (p1 : Int32) : sk_xtr l G t yX4_tick cX4_tick 2 (some .int) rm_X4_tick 1 6 [.ref (u0 0), .int p1] [(pc_W u0 (u1 0) a0_thought a0_ahead (u3 0) a0_script), (nt_W G u1 (u2 0) S1), (lg_W G u2 S2), (sv_W G u3 (u4 0) (u6 0) (u8 0) (u10 0) S3), (nt_W G u4 (u5 0) S4), (lg_W G u5 S5), (nt_W G u6 (u7 0) S6), (lg_W G u7 S7), (nt_W G u8 (u9 0) S8), (lg_W G u9 S9), (nt_W G u10 (u11 0) S10), (lg_W G u11 S11)] (m_X4_tick S1 S2 S3 S4 S5 S6 S7 S8 S9 S10 S11 p1) o_X4_tick (w_X4_tick G u0 u1 u2 u3 u4 u5 u6 u7 u8 u9 u10 u11 a0_thought a0_ahead a0_script) := by
  refine sk_xentry hl0 (own := RX4) (by decide) rfl (lv0 := [some (.ref (u0 0)), some (.int p1)]) rfl (Nat.le_of_ble_eq_true rfl) ?_
  intro Γ X E
  unfold m_X4_tick
  refine sk_iload_n (pc' := 1) X rfl dX4_tick_0 rfl ?_
  refine sk_callS (bs2 := fun r1 => [(pc_W u0 (u1 0) a0_thought a0_ahead (u3 0) a0_script), (nt_W G u1 (u2 0) S1), (lg_W G u2 S2), (sv_W G u3 (u4 0) (u6 0) (u8 0) (u10 0) S3), (nt_W G u4 (u5 0) S4), (lg_W G u5 S5), (nt_W G u6 (u7 0) S6), (lg_W G u7 S7), (nt_W G u8 (u9 0) S8), (lg_W G u9 S9), (nt_W G u10 (u11 0) S10), (lg_W G u11 S11)]) (st := []) (st2 := fun r1 => [.int r1]) (As := [.int p1]) (pc' := 4) X (c_X4_isTickNumber l G p1) lk_RX4_146 [] rfl (by decide) (fun _ => rfl) ⟨(Nat.le_of_ble_eq_true rfl), (Nat.le_of_ble_eq_true rfl)⟩ ⟨rfl, rfl⟩ ⟨(Nat.le_of_ble_eq_true rfl), (Nat.le_of_ble_eq_true rfl)⟩ rfl (Nat.le_of_ble_eq_true rfl) rfl dX4_tick_1 rfl (fun _ => rfl) (fun _ => rfl) (fun r1 => ?_)
  refine sk_if_ne (tgt := 17) (pc' := 7) X dX4_tick_4 rfl rfl ?_ ?_
  · refine sk_aload_n (pc' := 18) X rfl dX4_tick_17 rfl ?_
    refine sk_getf (pc' := 21) X 0 0 3 in_RX4 rfl rfl rfl (Nat.le_of_ble_eq_true rfl) fl_RX4_25 rfl dX4_tick_18 rfl ?_
    refine sk_aload_n (pc' := 22) X rfl dX4_tick_21 rfl ?_
    refine sk_getf (pc' := 25) X 0 0 0 in_RX4 rfl rfl rfl (Nat.le_of_ble_eq_true rfl) fl_RX4_10 rfl dX4_tick_22 rfl ?_
    refine sk_callV (bs2 := fun r25 => [(pc_W u0 (u1 0) a0_thought a0_ahead (u3 0) a0_script), (nt_W G u1 (u2 0) S1), (lg_W G u2 S2), (sv_W G u3 (u4 0) (u6 0) (u8 0) (u10 0) r25.1), (nt_W G u4 (u5 0) r25.2.1), (lg_W G u5 r25.2.2.1), (nt_W G u6 (u7 0) r25.2.2.2.1), (lg_W G u7 r25.2.2.2.2.1), (nt_W G u8 (u9 0) r25.2.2.2.2.2.1), (lg_W G u9 r25.2.2.2.2.2.2.1), (nt_W G u10 (u11 0) r25.2.2.2.2.2.2.2.1), (lg_W G u11 r25.2.2.2.2.2.2.2.2)]) (st := []) (st2 := fun r25 => []) (As := [.ref (u1 0)]) (pc' := 28) X (c_X2_save l G u3 u4 u5 u6 u7 u8 u9 u10 u11 u1 u2 S3 S4 S5 S6 S7 S8 S9 S10 S11 S1 S2) lk_RX4_51 [3, 4, 5, 6, 7, 8, 9, 10, 11, 1, 2] rfl (by decide) (fun _ => rfl) rfl rfl rfl ⟨(Nat.le_of_ble_eq_true rfl), (Nat.le_of_ble_eq_true rfl)⟩ ⟨rfl, rfl⟩ ⟨(Nat.le_of_ble_eq_true rfl), (Nat.le_of_ble_eq_true rfl)⟩ rfl (Nat.le_of_ble_eq_true rfl) rfl dX4_tick_25 rfl (fun _ => rfl) (fun _ => rfl) (fun r25 => ?_)
    refine sk_aload_n (pc' := 29) X rfl dX4_tick_28 rfl ?_
    refine sk_getf (pc' := 32) X 0 0 0 in_RX4 rfl rfl rfl (Nat.le_of_ble_eq_true rfl) fl_RX4_10 rfl dX4_tick_29 rfl ?_
    refine sk_iload_n (pc' := 33) X rfl dX4_tick_32 rfl ?_
    refine sk_callV (bs2 := fun r33 => [(pc_W u0 (u1 0) a0_thought a0_ahead (u3 0) a0_script), (nt_W G u1 (u2 0) r33.2.1), (lg_W G u2 r33.2.2), (sv_W G u3 (u4 0) (u6 0) (u8 0) (u10 0) r25.1), (nt_W G u4 (u5 0) r25.2.1), (lg_W G u5 r25.2.2.1), (nt_W G u6 (u7 0) r25.2.2.2.1), (lg_W G u7 r25.2.2.2.2.1), (nt_W G u8 (u9 0) r25.2.2.2.2.2.1), (lg_W G u9 r25.2.2.2.2.2.2.1), (nt_W G u10 (u11 0) r25.2.2.2.2.2.2.2.1), (lg_W G u11 r25.2.2.2.2.2.2.2.2)]) (st := []) (st2 := fun r33 => [.int r33.1]) (As := [.int p1]) (pc' := 36) X (c_X1_passTicks l G u1 u2 S1 S2 p1) lk_RX4_151 [1, 2] rfl (by decide) (fun _ => rfl) rfl rfl rfl ⟨(Nat.le_of_ble_eq_true rfl), (Nat.le_of_ble_eq_true rfl)⟩ ⟨rfl, rfl⟩ ⟨(Nat.le_of_ble_eq_true rfl), (Nat.le_of_ble_eq_true rfl)⟩ rfl (Nat.le_of_ble_eq_true rfl) rfl dX4_tick_33 rfl (fun _ => rfl) (fun _ => rfl) (fun r33 => ?_)
    exact sk_xiret X (Nat.le_of_ble_eq_true rfl) (Nat.le_of_ble_eq_true rfl) rfl rfl dX4_tick_36
  · exact sk_xthrow X E 1 tw_1 xs_149 (by decide) (Nat.le_of_ble_eq_true rfl) (Nat.le_of_ble_eq_true rfl) (Nat.le_of_ble_eq_true rfl) (Nat.le_of_ble_eq_true rfl) ⟨(Nat.le_of_ble_eq_true rfl), (Nat.le_of_ble_eq_true rfl)⟩ dX4_tick_7 dX4_tick_10 dX4_tick_11 dX4_tick_13 dX4_tick_16
def rm_X4_group : Room := { frames := 6, cells := 1, slots := 6, locals := 90 }
def o_X4_group : (Int32) → Option Value := fun r => some (.int r)
def w_X4_group (G : sk_G) (u0 u1 : Nat → Nat) (a0_thought a0_ahead a0_savings a0_script a1_log : Nat) (S1 : sk_N) : (Int32) → sk_B := fun r => [(pc_W u0 (u1 0) a0_thought a0_ahead a0_savings a0_script), (nt_W G u1 a1_log S1)]
set_option maxHeartbeats 4000000 in
set_option maxRecDepth 100000 in
theorem c_X4_group (l : Launch) (hl0 : l.stackTraces = false) (t : Nat) (G : sk_G) (u0 u1 : Nat → Nat) (a0_thought a0_ahead a0_savings a0_script a1_log : Nat) (S1 : sk_N) (p1 : Int32) (p2 : Int32) : sk_xtr l G t yX4_group cX4_group 4 (some .int) rm_X4_group 1 6 [.ref (u0 0), .int p1, .int p2] [(pc_W u0 (u1 0) a0_thought a0_ahead a0_savings a0_script), (nt_W G u1 a1_log S1)] (m_X4_group S1 p1 p2) o_X4_group (w_X4_group G u0 u1 a0_thought a0_ahead a0_savings a0_script a1_log S1) := by
  refine sk_xentry hl0 (own := RX4) (by decide) rfl (lv0 := [some (.ref (u0 0)), some (.int p1), some (.int p2), none]) rfl (Nat.le_of_ble_eq_true rfl) ?_
  intro Γ X E
  unfold m_X4_group
  refine sk_aload_n (pc' := 1) X rfl dX4_group_0 rfl ?_
  refine sk_getf (pc' := 4) X 0 0 0 in_RX4 rfl rfl rfl (Nat.le_of_ble_eq_true rfl) fl_RX4_10 rfl dX4_group_1 rfl ?_
  refine sk_iload_n (pc' := 5) X rfl dX4_group_4 rfl ?_
  refine sk_callV (bs2 := fun r5 => [(pc_W u0 (u1 0) a0_thought a0_ahead a0_savings a0_script), (nt_W G u1 a1_log S1)]) (st := []) (st2 := fun r5 => [.int r5]) (As := [.int p1]) (pc' := 8) X (c_X1_phaseOfGroup l G u1 a1_log S1 p1) lk_RX4_181 [1] rfl (by decide) (fun _ => rfl) rfl rfl rfl ⟨(Nat.le_of_ble_eq_true rfl), (Nat.le_of_ble_eq_true rfl)⟩ ⟨rfl, rfl⟩ ⟨(Nat.le_of_ble_eq_true rfl), (Nat.le_of_ble_eq_true rfl)⟩ rfl (Nat.le_of_ble_eq_true rfl) rfl dX4_group_5 rfl (fun _ => rfl) (fun _ => rfl) (fun r5 => ?_)
  refine sk_istore_n (lv' := [some (.ref (u0 0)), some (.int p1), some (.int p2), some (.int r5)]) (pc' := 9) X (Nat.le_of_ble_eq_true rfl) rfl rfl dX4_group_8 rfl ?_
  refine sk_iload_n (pc' := 10) X rfl dX4_group_9 rfl ?_
  refine sk_iconst (pc' := 11) X ic_m1 dX4_group_10 rfl ?_
  refine sk_icmp_ne (tgt := 24) (pc' := 14) X dX4_group_11 rfl rfl ?_ ?_
  · refine sk_iload_n (pc' := 25) X rfl dX4_group_24 rfl ?_
    refine sk_if_eq (tgt := 32) (pc' := 28) X dX4_group_25 rfl rfl ?_ ?_
    · refine sk_aload_n (pc' := 33) X rfl dX4_group_32 rfl ?_
      refine sk_getf (pc' := 36) X 0 0 0 in_RX4 rfl rfl rfl (Nat.le_of_ble_eq_true rfl) fl_RX4_10 rfl dX4_group_33 rfl ?_
      refine sk_iload_n (pc' := 37) X rfl dX4_group_36 rfl ?_
      refine sk_callV (bs2 := fun r37 => [(pc_W u0 (u1 0) a0_thought a0_ahead a0_savings a0_script), (nt_W G u1 a1_log S1)]) (st := []) (st2 := fun r37 => [.int r37]) (As := [.int r5]) (pc' := 40) X (c_X1_goodClocksAt l G u1 a1_log S1 r5) lk_RX4_189 [1] rfl (by decide) (fun _ => rfl) rfl rfl rfl ⟨(Nat.le_of_ble_eq_true rfl), (Nat.le_of_ble_eq_true rfl)⟩ ⟨rfl, rfl⟩ ⟨(Nat.le_of_ble_eq_true rfl), (Nat.le_of_ble_eq_true rfl)⟩ rfl (Nat.le_of_ble_eq_true rfl) rfl dX4_group_37 rfl (fun _ => rfl) (fun _ => rfl) (fun r37 => ?_)
      exact sk_xiret X (Nat.le_of_ble_eq_true rfl) (Nat.le_of_ble_eq_true rfl) rfl rfl dX4_group_40
    · refine sk_iload_n (pc' := 29) X rfl dX4_group_28 rfl ?_
      refine sk_goto (tgt := 40) X dX4_group_29 rfl ?_
      exact sk_xiret X (Nat.le_of_ble_eq_true rfl) (Nat.le_of_ble_eq_true rfl) rfl rfl dX4_group_40
  · exact sk_xthrow X E 3 tw_3 xs_186 (by decide) (Nat.le_of_ble_eq_true rfl) (Nat.le_of_ble_eq_true rfl) (Nat.le_of_ble_eq_true rfl) (Nat.le_of_ble_eq_true rfl) ⟨(Nat.le_of_ble_eq_true rfl), (Nat.le_of_ble_eq_true rfl)⟩ dX4_group_14 dX4_group_17 dX4_group_18 dX4_group_20 dX4_group_23
def rm_X4_groupOf : Room := { frames := 7, cells := 1, slots := 6, locals := 111 }
def o_X4_groupOf : (Int32) → Option Value := fun r => some (.int r)
def w_X4_groupOf (G : sk_G) (u0 u1 : Nat → Nat) (a0_thought a0_ahead a0_savings a0_script a1_log : Nat) (S1 : sk_N) : (Int32) → sk_B := fun r => [(pc_W u0 (u1 0) a0_thought a0_ahead a0_savings a0_script), (nt_W G u1 a1_log S1)]
set_option maxHeartbeats 4000000 in
set_option maxRecDepth 100000 in
theorem c_X4_groupOf (l : Launch) (hl0 : l.stackTraces = false) (t : Nat) (G : sk_G) (u0 u1 : Nat → Nat) (a0_thought a0_ahead a0_savings a0_script a1_log : Nat) (S1 : sk_N) (p1 : Int32) : sk_xtr l G t yX4_groupOf cX4_groupOf 2 (some .int) rm_X4_groupOf 1 6 [.ref (u0 0), .int p1] [(pc_W u0 (u1 0) a0_thought a0_ahead a0_savings a0_script), (nt_W G u1 a1_log S1)] (m_X4_groupOf S1 p1) o_X4_groupOf (w_X4_groupOf G u0 u1 a0_thought a0_ahead a0_savings a0_script a1_log S1) := by
  refine sk_xentry hl0 (own := RX4) (by decide) rfl (lv0 := [some (.ref (u0 0)), some (.int p1)]) rfl (Nat.le_of_ble_eq_true rfl) ?_
  intro Γ X E
  unfold m_X4_groupOf
  refine sk_aload_n (pc' := 1) X rfl dX4_groupOf_0 rfl ?_
  refine sk_iload_n (pc' := 2) X rfl dX4_groupOf_1 rfl ?_
  refine sk_callVX (bs2 := fun r2 => [(pc_W u0 (u1 0) a0_thought a0_ahead a0_savings a0_script), (nt_W G u1 a1_log S1)]) (st := []) (st2 := fun r2 => []) (As := [.int p1]) (pc' := 5) X E (c_X4_requireClock l hl0 t G u0 u1 a0_thought a0_ahead a0_savings a0_script a1_log S1 p1) lk_RX4_59 [0, 1] rfl (by decide) (fun _ => rfl) rfl rfl rfl ⟨(Nat.le_of_ble_eq_true rfl), (Nat.le_of_ble_eq_true rfl)⟩ ⟨rfl, rfl⟩ ⟨(Nat.le_of_ble_eq_true rfl), (Nat.le_of_ble_eq_true rfl)⟩ ⟨(Nat.le_of_ble_eq_true rfl), (Nat.le_of_ble_eq_true rfl)⟩ rfl (Nat.le_of_ble_eq_true rfl) rfl dX4_groupOf_2 rfl (fun _ => rfl) rfl (fun _ => rfl) (fun r2 => ?_)
  refine sk_aload_n (pc' := 6) X rfl dX4_groupOf_5 rfl ?_
  refine sk_getf (pc' := 9) X 0 0 0 in_RX4 rfl rfl rfl (Nat.le_of_ble_eq_true rfl) fl_RX4_10 rfl dX4_groupOf_6 rfl ?_
  refine sk_iload_n (pc' := 10) X rfl dX4_groupOf_9 rfl ?_
  refine sk_callV (bs2 := fun r10 => [(pc_W u0 (u1 0) a0_thought a0_ahead a0_savings a0_script), (nt_W G u1 a1_log S1)]) (st := []) (st2 := fun r10 => [.int r10]) (As := [.int p1]) (pc' := 13) X (c_X1_numberOfGroup l G u1 a1_log S1 p1) lk_RX4_192 [1] rfl (by decide) (fun _ => rfl) rfl rfl rfl ⟨(Nat.le_of_ble_eq_true rfl), (Nat.le_of_ble_eq_true rfl)⟩ ⟨rfl, rfl⟩ ⟨(Nat.le_of_ble_eq_true rfl), (Nat.le_of_ble_eq_true rfl)⟩ rfl (Nat.le_of_ble_eq_true rfl) rfl dX4_groupOf_10 rfl (fun _ => rfl) (fun _ => rfl) (fun r10 => ?_)
  exact sk_xiret X (Nat.le_of_ble_eq_true rfl) (Nat.le_of_ble_eq_true rfl) rfl rfl dX4_groupOf_13
def rm_X4_requireLimit : Room := { frames := 6, cells := 1, slots := 6, locals := 90 }
def o_X4_requireLimit : (Unit) → Option Value := fun r => none
def w_X4_requireLimit (G : sk_G) : (Unit) → sk_B := fun r => []
set_option maxHeartbeats 4000000 in
set_option maxRecDepth 100000 in
theorem c_X4_requireLimit (l : Launch) (hl0 : l.stackTraces = false) (t : Nat) (G : sk_G) (p1 : Int32) : sk_xtr l G t yX4_requireLimit cX4_requireLimit 1 none rm_X4_requireLimit 1 6 [.int p1] [] (m_X4_requireLimit p1) o_X4_requireLimit (w_X4_requireLimit G) := by
  refine sk_xentry hl0 (own := RX4) (by decide) rfl (lv0 := [some (.int p1)]) rfl (Nat.le_of_ble_eq_true rfl) ?_
  intro Γ X E
  unfold m_X4_requireLimit
  refine sk_iload_n (pc' := 1) X rfl dX4_requireLimit_0 rfl ?_
  refine sk_iconst (pc' := 2) X ic_1 dX4_requireLimit_1 rfl ?_
  refine sk_icmp_lt (tgt := 12) (pc' := 5) X dX4_requireLimit_2 rfl rfl ?_ ?_
  · exact sk_xthrowW X E 1 tw_1 xs_285 (by decide) (Nat.le_of_ble_eq_true rfl) (Nat.le_of_ble_eq_true rfl) (Nat.le_of_ble_eq_true rfl) (Nat.le_of_ble_eq_true rfl) ⟨(Nat.le_of_ble_eq_true rfl), (Nat.le_of_ble_eq_true rfl)⟩ dX4_requireLimit_12 dX4_requireLimit_15 dX4_requireLimit_16 dX4_requireLimit_19 dX4_requireLimit_22
  · refine sk_iload_n (pc' := 6) X rfl dX4_requireLimit_5 rfl ?_
    refine sk_sipush (pc' := 9) X sp_400 dX4_requireLimit_6 rfl ?_
    refine sk_icmp_le (tgt := 23) (pc' := 12) X dX4_requireLimit_9 rfl rfl ?_ ?_
    · exact sk_xvret X (Nat.le_of_ble_eq_true rfl) (Nat.le_of_ble_eq_true rfl) rfl rfl dX4_requireLimit_23
    · exact sk_xthrowW X E 1 tw_1 xs_285 (by decide) (Nat.le_of_ble_eq_true rfl) (Nat.le_of_ble_eq_true rfl) (Nat.le_of_ble_eq_true rfl) (Nat.le_of_ble_eq_true rfl) ⟨(Nat.le_of_ble_eq_true rfl), (Nat.le_of_ble_eq_true rfl)⟩ dX4_requireLimit_12 dX4_requireLimit_15 dX4_requireLimit_16 dX4_requireLimit_19 dX4_requireLimit_22
def rm_X4_ticksUntil : Room := { frames := 7, cells := 1, slots := 6, locals := 136 }
def o_X4_ticksUntil : (Int32 × sk_N × sk_N) → Option Value := fun r => some (.int r.1)
def w_X4_ticksUntil (G : sk_G) (u0 u1 u2 u3 u4 : Nat → Nat) (a0_ahead a0_savings a0_script : Nat) (S1 : sk_N) (S2 : sk_N) : (Int32 × sk_N × sk_N) → sk_B := fun r => [(pc_W u0 (u1 0) (u3 0) a0_ahead a0_savings a0_script), (nt_W G u1 (u2 0) S1), (lg_W G u2 S2), (nt_W G u3 (u4 0) r.2.1), (lg_W G u4 r.2.2)]
set_option maxHeartbeats 4000000 in
set_option maxRecDepth 100000 in
theorem c_X4_ticksUntil (l : Launch) (hl0 : l.stackTraces = false) (t : Nat) (G : sk_G) (u0 u1 u2 u3 u4 : Nat → Nat) (a0_ahead a0_savings a0_script : Nat) (S1 : sk_N) (S2 : sk_N) (S3 : sk_N) (S4 : sk_N) (p1 : Int32) (p2 : Int32) : sk_xtr l G t yX4_ticksUntil cX4_ticksUntil 3 (some .int) rm_X4_ticksUntil 1 6 [.ref (u0 0), .int p1, .int p2] [(pc_W u0 (u1 0) (u3 0) a0_ahead a0_savings a0_script), (nt_W G u1 (u2 0) S1), (lg_W G u2 S2), (nt_W G u3 (u4 0) S3), (lg_W G u4 S4)] (m_X4_ticksUntil S1 S2 S3 S4 p1 p2) o_X4_ticksUntil (w_X4_ticksUntil G u0 u1 u2 u3 u4 a0_ahead a0_savings a0_script S1 S2) := by
  refine sk_xentry hl0 (own := RX4) (by decide) rfl (lv0 := [some (.ref (u0 0)), some (.int p1), some (.int p2)]) rfl (Nat.le_of_ble_eq_true rfl) ?_
  intro Γ X E
  unfold m_X4_ticksUntil
  refine sk_iload_n (pc' := 1) X rfl dX4_ticksUntil_0 rfl ?_
  refine sk_if_lt (tgt := 10) (pc' := 4) X dX4_ticksUntil_1 rfl rfl ?_ ?_
  · exact sk_xthrow X E 1 tw_1 xs_198 (by decide) (Nat.le_of_ble_eq_true rfl) (Nat.le_of_ble_eq_true rfl) (Nat.le_of_ble_eq_true rfl) (Nat.le_of_ble_eq_true rfl) ⟨(Nat.le_of_ble_eq_true rfl), (Nat.le_of_ble_eq_true rfl)⟩ dX4_ticksUntil_10 dX4_ticksUntil_13 dX4_ticksUntil_14 dX4_ticksUntil_16 dX4_ticksUntil_19
  · refine sk_iload_n (pc' := 5) X rfl dX4_ticksUntil_4 rfl ?_
    refine sk_bipush (pc' := 7) X bp_10 dX4_ticksUntil_5 rfl ?_
    refine sk_icmp_le (tgt := 20) (pc' := 10) X dX4_ticksUntil_7 rfl rfl ?_ ?_
    · refine sk_iload_n (pc' := 21) X rfl dX4_ticksUntil_20 rfl ?_
      refine sk_callSX (bs2 := fun r21 => [(pc_W u0 (u1 0) (u3 0) a0_ahead a0_savings a0_script), (nt_W G u1 (u2 0) S1), (lg_W G u2 S2), (nt_W G u3 (u4 0) S3), (lg_W G u4 S4)]) (st := []) (st2 := fun r21 => []) (As := [.int p2]) (pc' := 24) X E (c_X4_requireLimit l hl0 t G p2) lk_RX4_200 [] rfl (by decide) (fun _ => rfl)  ⟨(Nat.le_of_ble_eq_true rfl), (Nat.le_of_ble_eq_true rfl)⟩ ⟨rfl, rfl⟩ ⟨(Nat.le_of_ble_eq_true rfl), (Nat.le_of_ble_eq_true rfl)⟩ ⟨(Nat.le_of_ble_eq_true rfl), (Nat.le_of_ble_eq_true rfl)⟩ rfl (Nat.le_of_ble_eq_true rfl) rfl dX4_ticksUntil_21 rfl (fun _ => rfl) rfl (fun _ => rfl) (fun r21 => ?_)
      refine sk_aload_n (pc' := 25) X rfl dX4_ticksUntil_24 rfl ?_
      refine sk_getf (pc' := 28) X 0 0 1 in_RX4 rfl rfl rfl (Nat.le_of_ble_eq_true rfl) fl_RX4_16 rfl dX4_ticksUntil_25 rfl ?_
      refine sk_aload_n (pc' := 29) X rfl dX4_ticksUntil_28 rfl ?_
      refine sk_getf (pc' := 32) X 0 0 0 in_RX4 rfl rfl rfl (Nat.le_of_ble_eq_true rfl) fl_RX4_10 rfl dX4_ticksUntil_29 rfl ?_
      refine sk_callV (bs2 := fun r32 => [(pc_W u0 (u1 0) (u3 0) a0_ahead a0_savings a0_script), (nt_W G u1 (u2 0) S1), (lg_W G u2 S2), (nt_W G u3 (u4 0) r32.1), (lg_W G u4 r32.2)]) (st := []) (st2 := fun r32 => []) (As := [.ref (u1 0)]) (pc' := 35) X (c_X1_copyFrom l G u3 u4 u1 u2 S3 S4 S1 S2) lk_RX4_203 [3, 4, 1, 2] rfl (by decide) (fun _ => rfl) rfl rfl rfl ⟨(Nat.le_of_ble_eq_true rfl), (Nat.le_of_ble_eq_true rfl)⟩ ⟨rfl, rfl⟩ ⟨(Nat.le_of_ble_eq_true rfl), (Nat.le_of_ble_eq_true rfl)⟩ rfl (Nat.le_of_ble_eq_true rfl) rfl dX4_ticksUntil_32 rfl (fun _ => rfl) (fun _ => rfl) (fun r32 => ?_)
      refine sk_aload_n (pc' := 36) X rfl dX4_ticksUntil_35 rfl ?_
      refine sk_getf (pc' := 39) X 0 0 1 in_RX4 rfl rfl rfl (Nat.le_of_ble_eq_true rfl) fl_RX4_16 rfl dX4_ticksUntil_36 rfl ?_
      refine sk_iload_n (pc' := 40) X rfl dX4_ticksUntil_39 rfl ?_
      refine sk_iload_n (pc' := 41) X rfl dX4_ticksUntil_40 rfl ?_
      refine sk_callV (bs2 := fun r41 => [(pc_W u0 (u1 0) (u3 0) a0_ahead a0_savings a0_script), (nt_W G u1 (u2 0) S1), (lg_W G u2 S2), (nt_W G u3 (u4 0) r41.2.1), (lg_W G u4 r41.2.2)]) (st := []) (st2 := fun r41 => [.int r41.1]) (As := [.int p1, .int p2]) (pc' := 44) X (c_X1_passUntilGroups l G u3 u4 r32.1 r32.2 p1 p2) lk_RX4_206 [3, 4] rfl (by decide) (fun _ => rfl) rfl rfl rfl ⟨(Nat.le_of_ble_eq_true rfl), (Nat.le_of_ble_eq_true rfl)⟩ ⟨rfl, rfl⟩ ⟨(Nat.le_of_ble_eq_true rfl), (Nat.le_of_ble_eq_true rfl)⟩ rfl (Nat.le_of_ble_eq_true rfl) rfl dX4_ticksUntil_41 rfl (fun _ => rfl) (fun _ => rfl) (fun r41 => ?_)
      exact sk_xiret X (Nat.le_of_ble_eq_true rfl) (Nat.le_of_ble_eq_true rfl) rfl rfl dX4_ticksUntil_44
    · exact sk_xthrow X E 1 tw_1 xs_198 (by decide) (Nat.le_of_ble_eq_true rfl) (Nat.le_of_ble_eq_true rfl) (Nat.le_of_ble_eq_true rfl) (Nat.le_of_ble_eq_true rfl) ⟨(Nat.le_of_ble_eq_true rfl), (Nat.le_of_ble_eq_true rfl)⟩ dX4_ticksUntil_10 dX4_ticksUntil_13 dX4_ticksUntil_14 dX4_ticksUntil_16 dX4_ticksUntil_19
def rm_X4_groupsAfter : Room := { frames := 7, cells := 1, slots := 6, locals := 113 }
def o_X4_groupsAfter : (Int32 × sk_N × sk_N) → Option Value := fun r => some (.int r.1)
def w_X4_groupsAfter (G : sk_G) (u0 u1 u2 u3 u4 : Nat → Nat) (a0_ahead a0_savings a0_script : Nat) (S1 : sk_N) (S2 : sk_N) : (Int32 × sk_N × sk_N) → sk_B := fun r => [(pc_W u0 (u1 0) (u3 0) a0_ahead a0_savings a0_script), (nt_W G u1 (u2 0) S1), (lg_W G u2 S2), (nt_W G u3 (u4 0) r.2.1), (lg_W G u4 r.2.2)]
set_option maxHeartbeats 4000000 in
set_option maxRecDepth 100000 in
theorem c_X4_groupsAfter (l : Launch) (hl0 : l.stackTraces = false) (t : Nat) (G : sk_G) (u0 u1 u2 u3 u4 : Nat → Nat) (a0_ahead a0_savings a0_script : Nat) (S1 : sk_N) (S2 : sk_N) (S3 : sk_N) (S4 : sk_N) (p1 : Int32) : sk_xtr l G t yX4_groupsAfter cX4_groupsAfter 2 (some .int) rm_X4_groupsAfter 1 6 [.ref (u0 0), .int p1] [(pc_W u0 (u1 0) (u3 0) a0_ahead a0_savings a0_script), (nt_W G u1 (u2 0) S1), (lg_W G u2 S2), (nt_W G u3 (u4 0) S3), (lg_W G u4 S4)] (m_X4_groupsAfter S1 S2 S3 S4 p1) o_X4_groupsAfter (w_X4_groupsAfter G u0 u1 u2 u3 u4 a0_ahead a0_savings a0_script S1 S2) := by
  refine sk_xentry hl0 (own := RX4) (by decide) rfl (lv0 := [some (.ref (u0 0)), some (.int p1)]) rfl (Nat.le_of_ble_eq_true rfl) ?_
  intro Γ X E
  unfold m_X4_groupsAfter
  refine sk_iload_n (pc' := 1) X rfl dX4_groupsAfter_0 rfl ?_
  refine sk_callSX (bs2 := fun r1 => [(pc_W u0 (u1 0) (u3 0) a0_ahead a0_savings a0_script), (nt_W G u1 (u2 0) S1), (lg_W G u2 S2), (nt_W G u3 (u4 0) S3), (lg_W G u4 S4)]) (st := []) (st2 := fun r1 => []) (As := [.int p1]) (pc' := 4) X E (c_X4_requireLimit l hl0 t G p1) lk_RX4_200 [] rfl (by decide) (fun _ => rfl)  ⟨(Nat.le_of_ble_eq_true rfl), (Nat.le_of_ble_eq_true rfl)⟩ ⟨rfl, rfl⟩ ⟨(Nat.le_of_ble_eq_true rfl), (Nat.le_of_ble_eq_true rfl)⟩ ⟨(Nat.le_of_ble_eq_true rfl), (Nat.le_of_ble_eq_true rfl)⟩ rfl (Nat.le_of_ble_eq_true rfl) rfl dX4_groupsAfter_1 rfl (fun _ => rfl) rfl (fun _ => rfl) (fun r1 => ?_)
  refine sk_aload_n (pc' := 5) X rfl dX4_groupsAfter_4 rfl ?_
  refine sk_getf (pc' := 8) X 0 0 1 in_RX4 rfl rfl rfl (Nat.le_of_ble_eq_true rfl) fl_RX4_16 rfl dX4_groupsAfter_5 rfl ?_
  refine sk_aload_n (pc' := 9) X rfl dX4_groupsAfter_8 rfl ?_
  refine sk_getf (pc' := 12) X 0 0 0 in_RX4 rfl rfl rfl (Nat.le_of_ble_eq_true rfl) fl_RX4_10 rfl dX4_groupsAfter_9 rfl ?_
  refine sk_callV (bs2 := fun r12 => [(pc_W u0 (u1 0) (u3 0) a0_ahead a0_savings a0_script), (nt_W G u1 (u2 0) S1), (lg_W G u2 S2), (nt_W G u3 (u4 0) r12.1), (lg_W G u4 r12.2)]) (st := []) (st2 := fun r12 => []) (As := [.ref (u1 0)]) (pc' := 15) X (c_X1_copyFrom l G u3 u4 u1 u2 S3 S4 S1 S2) lk_RX4_203 [3, 4, 1, 2] rfl (by decide) (fun _ => rfl) rfl rfl rfl ⟨(Nat.le_of_ble_eq_true rfl), (Nat.le_of_ble_eq_true rfl)⟩ ⟨rfl, rfl⟩ ⟨(Nat.le_of_ble_eq_true rfl), (Nat.le_of_ble_eq_true rfl)⟩ rfl (Nat.le_of_ble_eq_true rfl) rfl dX4_groupsAfter_12 rfl (fun _ => rfl) (fun _ => rfl) (fun r12 => ?_)
  refine sk_aload_n (pc' := 16) X rfl dX4_groupsAfter_15 rfl ?_
  refine sk_getf (pc' := 19) X 0 0 1 in_RX4 rfl rfl rfl (Nat.le_of_ble_eq_true rfl) fl_RX4_16 rfl dX4_groupsAfter_16 rfl ?_
  refine sk_iload_n (pc' := 20) X rfl dX4_groupsAfter_19 rfl ?_
  refine sk_callV (bs2 := fun r20 => [(pc_W u0 (u1 0) (u3 0) a0_ahead a0_savings a0_script), (nt_W G u1 (u2 0) S1), (lg_W G u2 S2), (nt_W G u3 (u4 0) r20.2.1), (lg_W G u4 r20.2.2)]) (st := []) (st2 := fun r20 => [.int r20.1]) (As := [.int p1]) (pc' := 23) X (c_X1_passTicks l G u3 u4 r12.1 r12.2 p1) lk_RX4_151 [3, 4] rfl (by decide) (fun _ => rfl) rfl rfl rfl ⟨(Nat.le_of_ble_eq_true rfl), (Nat.le_of_ble_eq_true rfl)⟩ ⟨rfl, rfl⟩ ⟨(Nat.le_of_ble_eq_true rfl), (Nat.le_of_ble_eq_true rfl)⟩ rfl (Nat.le_of_ble_eq_true rfl) rfl dX4_groupsAfter_20 rfl (fun _ => rfl) (fun _ => rfl) (fun r20 => ?_)
  refine sk_pop (pc' := 24) X rfl dX4_groupsAfter_23 rfl ?_
  refine sk_aload_n (pc' := 25) X rfl dX4_groupsAfter_24 rfl ?_
  refine sk_getf (pc' := 28) X 0 0 1 in_RX4 rfl rfl rfl (Nat.le_of_ble_eq_true rfl) fl_RX4_16 rfl dX4_groupsAfter_25 rfl ?_
  refine sk_bipush (pc' := 30) X bp_10 dX4_groupsAfter_28 rfl ?_
  refine sk_callV (bs2 := fun r30 => [(pc_W u0 (u1 0) (u3 0) a0_ahead a0_savings a0_script), (nt_W G u1 (u2 0) S1), (lg_W G u2 S2), (nt_W G u3 (u4 0) r20.2.1), (lg_W G u4 r20.2.2)]) (st := []) (st2 := fun r30 => [.int r30]) (As := [.int (10 : Int32)]) (pc' := 33) X (c_X1_groupCount l G u3 (u4 0) r20.2.1 (10 : Int32)) lk_RX4_178 [3] rfl (by decide) (fun _ => rfl) rfl rfl rfl ⟨(Nat.le_of_ble_eq_true rfl), (Nat.le_of_ble_eq_true rfl)⟩ ⟨rfl, rfl⟩ ⟨(Nat.le_of_ble_eq_true rfl), (Nat.le_of_ble_eq_true rfl)⟩ rfl (Nat.le_of_ble_eq_true rfl) rfl dX4_groupsAfter_30 rfl (fun _ => rfl) (fun _ => rfl) (fun r30 => ?_)
  exact sk_xiret X (Nat.le_of_ble_eq_true rfl) (Nat.le_of_ble_eq_true rfl) rfl rfl dX4_groupsAfter_33
def rm_X4_lengthOfCycle : Room := { frames := 5, cells := 0, slots := 0, locals := 113 }
def o_X4_lengthOfCycle : (Int32 × sk_N × sk_N × sk_N × sk_N) → Option Value := fun r => some (.int r.1)
def w_X4_lengthOfCycle (G : sk_G) (u0 u1 u2 u3 u4 u5 u6 : Nat → Nat) (a0_savings a0_script : Nat) (S3 : sk_N) (S4 : sk_N) : (Int32 × sk_N × sk_N × sk_N × sk_N) → sk_B := fun r => [(pc_W u0 (u3 0) (u5 0) (u1 0) a0_savings a0_script), (nt_W G u1 (u2 0) r.2.1), (lg_W G u2 r.2.2.1), (nt_W G u3 (u4 0) S3), (lg_W G u4 S4), (nt_W G u5 (u6 0) r.2.2.2.1), (lg_W G u6 r.2.2.2.2)]
set_option maxHeartbeats 4000000 in
set_option maxRecDepth 100000 in
theorem c_X4_lengthOfCycle (l : Launch) (G : sk_G) (u0 u1 u2 u3 u4 u5 u6 : Nat → Nat) (a0_savings a0_script : Nat) (S1 : sk_N) (S2 : sk_N) (S3 : sk_N) (S4 : sk_N) (S5 : sk_N) (S6 : sk_N) (p1 : Int32) : sk_ctr l G yX4_lengthOfCycle cX4_lengthOfCycle 3 (some .int) rm_X4_lengthOfCycle [.ref (u0 0), .int p1] [(pc_W u0 (u3 0) (u5 0) (u1 0) a0_savings a0_script), (nt_W G u1 (u2 0) S1), (lg_W G u2 S2), (nt_W G u3 (u4 0) S3), (lg_W G u4 S4), (nt_W G u5 (u6 0) S5), (lg_W G u6 S6)] (m_X4_lengthOfCycle S1 S2 S3 S4 S5 S6 p1) o_X4_lengthOfCycle (w_X4_lengthOfCycle G u0 u1 u2 u3 u4 u5 u6 a0_savings a0_script S3 S4) := by
  refine sk_entry (own := RX4) (by decide) rfl (lv0 := [some (.ref (u0 0)), some (.int p1), none]) rfl (Nat.le_of_ble_eq_true rfl) ?_
  intro Γ X
  have h33 : ∀ s33 : sk_N × sk_N × sk_N × sk_N × Int32, sk_S Γ (sk_Φ Γ o_X4_lengthOfCycle (w_X4_lengthOfCycle G u0 u1 u2 u3 u4 u5 u6 a0_savings a0_script S3 S4)) 0 0 (m_X4_lengthOfCycle_33 S3 S4 p1 s33) [(pc_W u0 (u3 0) (u5 0) (u1 0) a0_savings a0_script), (nt_W G u1 (u2 0) s33.1), (lg_W G u2 s33.2.1), (nt_W G u3 (u4 0) S3), (lg_W G u4 S4), (nt_W G u5 (u6 0) s33.2.2.1), (lg_W G u6 s33.2.2.2.1)] [some (.ref (u0 0)), some (.int p1), some (.int s33.2.2.2.2)] 33 [] := by
    intro s33
    unfold m_X4_lengthOfCycle_33
    refine sk_loop (bsf := fun s33 => [(pc_W u0 (u3 0) (u5 0) (u1 0) a0_savings a0_script), (nt_W G u1 (u2 0) s33.1), (lg_W G u2 s33.2.1), (nt_W G u3 (u4 0) S3), (lg_W G u4 S4), (nt_W G u5 (u6 0) s33.2.2.1), (lg_W G u6 s33.2.2.2.1)]) (lvf := fun s33 => [some (.ref (u0 0)), some (.int p1), some (.int s33.2.2.2.2)]) ?_ sk_fuel s33
    intro k33 s33 ih33
    unfold m_X4_lengthOfCycle_33_step
    refine sk_iload_n (pc' := 34) X rfl dX4_lengthOfCycle_33 rfl ?_
    refine sk_iload_n (pc' := 35) X rfl dX4_lengthOfCycle_34 rfl ?_
    refine sk_icmp_gt (tgt := 69) (pc' := 38) X dX4_lengthOfCycle_35 rfl rfl ?_ ?_
    · refine sk_iconst (pc' := 70) X ic_m1 dX4_lengthOfCycle_69 rfl ?_
      exact sk_iret X rfl rfl dX4_lengthOfCycle_70
    · refine sk_aload_n (pc' := 39) X rfl dX4_lengthOfCycle_38 rfl ?_
      refine sk_getf (pc' := 42) X 0 0 1 in_RX4 rfl rfl rfl (Nat.le_of_ble_eq_true rfl) fl_RX4_16 rfl dX4_lengthOfCycle_39 rfl ?_
      refine sk_iconst (pc' := 43) X ic_1 dX4_lengthOfCycle_42 rfl ?_
      refine sk_callV (bs2 := fun r43 => [(pc_W u0 (u3 0) (u5 0) (u1 0) a0_savings a0_script), (nt_W G u1 (u2 0) s33.1), (lg_W G u2 s33.2.1), (nt_W G u3 (u4 0) S3), (lg_W G u4 S4), (nt_W G u5 (u6 0) r43.2.1), (lg_W G u6 r43.2.2)]) (st := []) (st2 := fun r43 => [.int r43.1]) (As := [.int (1 : Int32)]) (pc' := 46) X (c_X1_passTicks l G u5 u6 s33.2.2.1 s33.2.2.2.1 (1 : Int32)) lk_RX4_151 [5, 6] rfl (by decide) (fun _ => rfl) rfl rfl rfl ⟨(Nat.le_of_ble_eq_true rfl), (Nat.le_of_ble_eq_true rfl)⟩ ⟨rfl, rfl⟩ ⟨(Nat.le_of_ble_eq_true rfl), (Nat.le_of_ble_eq_true rfl)⟩ rfl (Nat.le_of_ble_eq_true rfl) rfl dX4_lengthOfCycle_43 rfl (fun _ => rfl) (fun _ => rfl) (fun r43 => ?_)
      refine sk_pop (pc' := 47) X rfl dX4_lengthOfCycle_46 rfl ?_
      refine sk_aload_n (pc' := 48) X rfl dX4_lengthOfCycle_47 rfl ?_
      refine sk_getf (pc' := 51) X 0 0 1 in_RX4 rfl rfl rfl (Nat.le_of_ble_eq_true rfl) fl_RX4_16 rfl dX4_lengthOfCycle_48 rfl ?_
      refine sk_aload_n (pc' := 52) X rfl dX4_lengthOfCycle_51 rfl ?_
      refine sk_getf (pc' := 55) X 0 0 2 in_RX4 rfl rfl rfl (Nat.le_of_ble_eq_true rfl) fl_RX4_19 rfl dX4_lengthOfCycle_52 rfl ?_
      refine sk_callV (bs2 := fun r55 => [(pc_W u0 (u3 0) (u5 0) (u1 0) a0_savings a0_script), (nt_W G u1 (u2 0) s33.1), (lg_W G u2 s33.2.1), (nt_W G u3 (u4 0) S3), (lg_W G u4 S4), (nt_W G u5 (u6 0) r43.2.1), (lg_W G u6 r43.2.2)]) (st := []) (st2 := fun r55 => [.int r55]) (As := [.ref (u1 0)]) (pc' := 58) X (c_X1_isAlike l G u5 u1 (u6 0) (u2 0) r43.2.1 s33.1) lk_RX4_287 [5, 1] rfl (by decide) (fun _ => rfl) rfl rfl rfl ⟨(Nat.le_of_ble_eq_true rfl), (Nat.le_of_ble_eq_true rfl)⟩ ⟨rfl, rfl⟩ ⟨(Nat.le_of_ble_eq_true rfl), (Nat.le_of_ble_eq_true rfl)⟩ rfl (Nat.le_of_ble_eq_true rfl) rfl dX4_lengthOfCycle_55 rfl (fun _ => rfl) (fun _ => rfl) (fun r55 => ?_)
      refine sk_if_eq (tgt := 63) (pc' := 61) X dX4_lengthOfCycle_58 rfl rfl ?_ ?_
      · refine sk_iinc (lv' := [some (.ref (u0 0)), some (.int p1), some (.int (s33.2.2.2.2 + (1 : Int32)))]) (pc' := 66) X rfl ic_1 (Nat.le_of_ble_eq_true rfl) rfl rfl dX4_lengthOfCycle_63 rfl ?_
        refine sk_goto (tgt := 33) X dX4_lengthOfCycle_66 rfl ?_
        exact (ih33 (s33.1, s33.2.1, r43.2.1, r43.2.2, (s33.2.2.2.2 + (1 : Int32))))
      · refine sk_iload_n (pc' := 62) X rfl dX4_lengthOfCycle_61 rfl ?_
        exact sk_iret X rfl rfl dX4_lengthOfCycle_62
  unfold m_X4_lengthOfCycle
  refine sk_aload_n (pc' := 1) X rfl dX4_lengthOfCycle_0 rfl ?_
  refine sk_getf (pc' := 4) X 0 0 2 in_RX4 rfl rfl rfl (Nat.le_of_ble_eq_true rfl) fl_RX4_19 rfl dX4_lengthOfCycle_1 rfl ?_
  refine sk_aload_n (pc' := 5) X rfl dX4_lengthOfCycle_4 rfl ?_
  refine sk_getf (pc' := 8) X 0 0 0 in_RX4 rfl rfl rfl (Nat.le_of_ble_eq_true rfl) fl_RX4_10 rfl dX4_lengthOfCycle_5 rfl ?_
  refine sk_callV (bs2 := fun r8 => [(pc_W u0 (u3 0) (u5 0) (u1 0) a0_savings a0_script), (nt_W G u1 (u2 0) r8.1), (lg_W G u2 r8.2), (nt_W G u3 (u4 0) S3), (lg_W G u4 S4), (nt_W G u5 (u6 0) S5), (lg_W G u6 S6)]) (st := []) (st2 := fun r8 => []) (As := [.ref (u3 0)]) (pc' := 11) X (c_X1_copyFrom l G u1 u2 u3 u4 S1 S2 S3 S4) lk_RX4_203 [1, 2, 3, 4] rfl (by decide) (fun _ => rfl) rfl rfl rfl ⟨(Nat.le_of_ble_eq_true rfl), (Nat.le_of_ble_eq_true rfl)⟩ ⟨rfl, rfl⟩ ⟨(Nat.le_of_ble_eq_true rfl), (Nat.le_of_ble_eq_true rfl)⟩ rfl (Nat.le_of_ble_eq_true rfl) rfl dX4_lengthOfCycle_8 rfl (fun _ => rfl) (fun _ => rfl) (fun r8 => ?_)
  refine sk_aload_n (pc' := 12) X rfl dX4_lengthOfCycle_11 rfl ?_
  refine sk_getf (pc' := 15) X 0 0 2 in_RX4 rfl rfl rfl (Nat.le_of_ble_eq_true rfl) fl_RX4_19 rfl dX4_lengthOfCycle_12 rfl ?_
  refine sk_iload_n (pc' := 16) X rfl dX4_lengthOfCycle_15 rfl ?_
  refine sk_callV (bs2 := fun r16 => [(pc_W u0 (u3 0) (u5 0) (u1 0) a0_savings a0_script), (nt_W G u1 (u2 0) r16.2.1), (lg_W G u2 r16.2.2), (nt_W G u3 (u4 0) S3), (lg_W G u4 S4), (nt_W G u5 (u6 0) S5), (lg_W G u6 S6)]) (st := []) (st2 := fun r16 => [.int r16.1]) (As := [.int p1]) (pc' := 19) X (c_X1_passTicks l G u1 u2 r8.1 r8.2 p1) lk_RX4_151 [1, 2] rfl (by decide) (fun _ => rfl) rfl rfl rfl ⟨(Nat.le_of_ble_eq_true rfl), (Nat.le_of_ble_eq_true rfl)⟩ ⟨rfl, rfl⟩ ⟨(Nat.le_of_ble_eq_true rfl), (Nat.le_of_ble_eq_true rfl)⟩ rfl (Nat.le_of_ble_eq_true rfl) rfl dX4_lengthOfCycle_16 rfl (fun _ => rfl) (fun _ => rfl) (fun r16 => ?_)
  refine sk_pop (pc' := 20) X rfl dX4_lengthOfCycle_19 rfl ?_
  refine sk_aload_n (pc' := 21) X rfl dX4_lengthOfCycle_20 rfl ?_
  refine sk_getf (pc' := 24) X 0 0 1 in_RX4 rfl rfl rfl (Nat.le_of_ble_eq_true rfl) fl_RX4_16 rfl dX4_lengthOfCycle_21 rfl ?_
  refine sk_aload_n (pc' := 25) X rfl dX4_lengthOfCycle_24 rfl ?_
  refine sk_getf (pc' := 28) X 0 0 2 in_RX4 rfl rfl rfl (Nat.le_of_ble_eq_true rfl) fl_RX4_19 rfl dX4_lengthOfCycle_25 rfl ?_
  refine sk_callV (bs2 := fun r28 => [(pc_W u0 (u3 0) (u5 0) (u1 0) a0_savings a0_script), (nt_W G u1 (u2 0) r16.2.1), (lg_W G u2 r16.2.2), (nt_W G u3 (u4 0) S3), (lg_W G u4 S4), (nt_W G u5 (u6 0) r28.1), (lg_W G u6 r28.2)]) (st := []) (st2 := fun r28 => []) (As := [.ref (u1 0)]) (pc' := 31) X (c_X1_copyFrom l G u5 u6 u1 u2 S5 S6 r16.2.1 r16.2.2) lk_RX4_203 [5, 6, 1, 2] rfl (by decide) (fun _ => rfl) rfl rfl rfl ⟨(Nat.le_of_ble_eq_true rfl), (Nat.le_of_ble_eq_true rfl)⟩ ⟨rfl, rfl⟩ ⟨(Nat.le_of_ble_eq_true rfl), (Nat.le_of_ble_eq_true rfl)⟩ rfl (Nat.le_of_ble_eq_true rfl) rfl dX4_lengthOfCycle_28 rfl (fun _ => rfl) (fun _ => rfl) (fun r28 => ?_)
  refine sk_iconst (pc' := 32) X ic_1 dX4_lengthOfCycle_31 rfl ?_
  refine sk_istore_n (lv' := [some (.ref (u0 0)), some (.int p1), some (.int (1 : Int32))]) (pc' := 33) X (Nat.le_of_ble_eq_true rfl) rfl rfl dX4_lengthOfCycle_32 rfl ?_
  exact (h33 (r16.2.1, r16.2.2, r28.1, r28.2, (1 : Int32)))
def rm_X4_startOfCycle : Room := { frames := 5, cells := 0, slots := 0, locals := 113 }
def o_X4_startOfCycle : (Int32 × sk_N × sk_N × sk_N × sk_N) → Option Value := fun r => some (.int r.1)
def w_X4_startOfCycle (G : sk_G) (u0 u1 u2 u3 u4 u5 u6 : Nat → Nat) (a0_savings a0_script : Nat) (S3 : sk_N) (S4 : sk_N) : (Int32 × sk_N × sk_N × sk_N × sk_N) → sk_B := fun r => [(pc_W u0 (u3 0) (u5 0) (u1 0) a0_savings a0_script), (nt_W G u1 (u2 0) r.2.1), (lg_W G u2 r.2.2.1), (nt_W G u3 (u4 0) S3), (lg_W G u4 S4), (nt_W G u5 (u6 0) r.2.2.2.1), (lg_W G u6 r.2.2.2.2)]
set_option maxHeartbeats 4000000 in
set_option maxRecDepth 100000 in
theorem c_X4_startOfCycle (l : Launch) (G : sk_G) (u0 u1 u2 u3 u4 u5 u6 : Nat → Nat) (a0_savings a0_script : Nat) (S1 : sk_N) (S2 : sk_N) (S3 : sk_N) (S4 : sk_N) (S5 : sk_N) (S6 : sk_N) (p1 : Int32) (p2 : Int32) : sk_ctr l G yX4_startOfCycle cX4_startOfCycle 4 (some .int) rm_X4_startOfCycle [.ref (u0 0), .int p1, .int p2] [(pc_W u0 (u3 0) (u5 0) (u1 0) a0_savings a0_script), (nt_W G u1 (u2 0) S1), (lg_W G u2 S2), (nt_W G u3 (u4 0) S3), (lg_W G u4 S4), (nt_W G u5 (u6 0) S5), (lg_W G u6 S6)] (m_X4_startOfCycle S1 S2 S3 S4 S5 S6 p1 p2) o_X4_startOfCycle (w_X4_startOfCycle G u0 u1 u2 u3 u4 u5 u6 a0_savings a0_script S3 S4) := by
  refine sk_entry (own := RX4) (by decide) rfl (lv0 := [some (.ref (u0 0)), some (.int p1), some (.int p2), none]) rfl (Nat.le_of_ble_eq_true rfl) ?_
  intro Γ X
  have h33 : ∀ s33 : sk_N × sk_N × sk_N × sk_N × Int32, sk_S Γ (sk_Φ Γ o_X4_startOfCycle (w_X4_startOfCycle G u0 u1 u2 u3 u4 u5 u6 a0_savings a0_script S3 S4)) 0 0 (m_X4_startOfCycle_33 S3 S4 p1 p2 s33) [(pc_W u0 (u3 0) (u5 0) (u1 0) a0_savings a0_script), (nt_W G u1 (u2 0) s33.1), (lg_W G u2 s33.2.1), (nt_W G u3 (u4 0) S3), (lg_W G u4 S4), (nt_W G u5 (u6 0) s33.2.2.1), (lg_W G u6 s33.2.2.2.1)] [some (.ref (u0 0)), some (.int p1), some (.int p2), some (.int s33.2.2.2.2)] 33 [] := by
    intro s33
    unfold m_X4_startOfCycle_33
    refine sk_loop (bsf := fun s33 => [(pc_W u0 (u3 0) (u5 0) (u1 0) a0_savings a0_script), (nt_W G u1 (u2 0) s33.1), (lg_W G u2 s33.2.1), (nt_W G u3 (u4 0) S3), (lg_W G u4 S4), (nt_W G u5 (u6 0) s33.2.2.1), (lg_W G u6 s33.2.2.2.1)]) (lvf := fun s33 => [some (.ref (u0 0)), some (.int p1), some (.int p2), some (.int s33.2.2.2.2)]) ?_ sk_fuel s33
    intro k33 s33 ih33
    unfold m_X4_startOfCycle_33_step
    refine sk_iload_n (pc' := 34) X rfl dX4_startOfCycle_33 rfl ?_
    refine sk_iload_n (pc' := 35) X rfl dX4_startOfCycle_34 rfl ?_
    refine sk_iload_n (pc' := 36) X rfl dX4_startOfCycle_35 rfl ?_
    refine sk_isub (pc' := 37) X dX4_startOfCycle_36 rfl ?_
    refine sk_icmp_gt (tgt := 80) (pc' := 40) X dX4_startOfCycle_37 rfl rfl ?_ ?_
    · refine sk_iconst (pc' := 81) X ic_m1 dX4_startOfCycle_80 rfl ?_
      exact sk_iret X rfl rfl dX4_startOfCycle_81
    · refine sk_aload_n (pc' := 41) X rfl dX4_startOfCycle_40 rfl ?_
      refine sk_getf (pc' := 44) X 0 0 1 in_RX4 rfl rfl rfl (Nat.le_of_ble_eq_true rfl) fl_RX4_16 rfl dX4_startOfCycle_41 rfl ?_
      refine sk_aload_n (pc' := 45) X rfl dX4_startOfCycle_44 rfl ?_
      refine sk_getf (pc' := 48) X 0 0 2 in_RX4 rfl rfl rfl (Nat.le_of_ble_eq_true rfl) fl_RX4_19 rfl dX4_startOfCycle_45 rfl ?_
      refine sk_callV (bs2 := fun r48 => [(pc_W u0 (u3 0) (u5 0) (u1 0) a0_savings a0_script), (nt_W G u1 (u2 0) s33.1), (lg_W G u2 s33.2.1), (nt_W G u3 (u4 0) S3), (lg_W G u4 S4), (nt_W G u5 (u6 0) s33.2.2.1), (lg_W G u6 s33.2.2.2.1)]) (st := []) (st2 := fun r48 => [.int r48]) (As := [.ref (u1 0)]) (pc' := 51) X (c_X1_isAlike l G u5 u1 (u6 0) (u2 0) s33.2.2.1 s33.1) lk_RX4_287 [5, 1] rfl (by decide) (fun _ => rfl) rfl rfl rfl ⟨(Nat.le_of_ble_eq_true rfl), (Nat.le_of_ble_eq_true rfl)⟩ ⟨rfl, rfl⟩ ⟨(Nat.le_of_ble_eq_true rfl), (Nat.le_of_ble_eq_true rfl)⟩ rfl (Nat.le_of_ble_eq_true rfl) rfl dX4_startOfCycle_48 rfl (fun _ => rfl) (fun _ => rfl) (fun r48 => ?_)
      refine sk_if_eq (tgt := 56) (pc' := 54) X dX4_startOfCycle_51 rfl rfl ?_ ?_
      · refine sk_aload_n (pc' := 57) X rfl dX4_startOfCycle_56 rfl ?_
        refine sk_getf (pc' := 60) X 0 0 1 in_RX4 rfl rfl rfl (Nat.le_of_ble_eq_true rfl) fl_RX4_16 rfl dX4_startOfCycle_57 rfl ?_
        refine sk_iconst (pc' := 61) X ic_1 dX4_startOfCycle_60 rfl ?_
        refine sk_callV (bs2 := fun r61 => [(pc_W u0 (u3 0) (u5 0) (u1 0) a0_savings a0_script), (nt_W G u1 (u2 0) s33.1), (lg_W G u2 s33.2.1), (nt_W G u3 (u4 0) S3), (lg_W G u4 S4), (nt_W G u5 (u6 0) r61.2.1), (lg_W G u6 r61.2.2)]) (st := []) (st2 := fun r61 => [.int r61.1]) (As := [.int (1 : Int32)]) (pc' := 64) X (c_X1_passTicks l G u5 u6 s33.2.2.1 s33.2.2.2.1 (1 : Int32)) lk_RX4_151 [5, 6] rfl (by decide) (fun _ => rfl) rfl rfl rfl ⟨(Nat.le_of_ble_eq_true rfl), (Nat.le_of_ble_eq_true rfl)⟩ ⟨rfl, rfl⟩ ⟨(Nat.le_of_ble_eq_true rfl), (Nat.le_of_ble_eq_true rfl)⟩ rfl (Nat.le_of_ble_eq_true rfl) rfl dX4_startOfCycle_61 rfl (fun _ => rfl) (fun _ => rfl) (fun r61 => ?_)
        refine sk_pop (pc' := 65) X rfl dX4_startOfCycle_64 rfl ?_
        refine sk_aload_n (pc' := 66) X rfl dX4_startOfCycle_65 rfl ?_
        refine sk_getf (pc' := 69) X 0 0 2 in_RX4 rfl rfl rfl (Nat.le_of_ble_eq_true rfl) fl_RX4_19 rfl dX4_startOfCycle_66 rfl ?_
        refine sk_iconst (pc' := 70) X ic_1 dX4_startOfCycle_69 rfl ?_
        refine sk_callV (bs2 := fun r70 => [(pc_W u0 (u3 0) (u5 0) (u1 0) a0_savings a0_script), (nt_W G u1 (u2 0) r70.2.1), (lg_W G u2 r70.2.2), (nt_W G u3 (u4 0) S3), (lg_W G u4 S4), (nt_W G u5 (u6 0) r61.2.1), (lg_W G u6 r61.2.2)]) (st := []) (st2 := fun r70 => [.int r70.1]) (As := [.int (1 : Int32)]) (pc' := 73) X (c_X1_passTicks l G u1 u2 s33.1 s33.2.1 (1 : Int32)) lk_RX4_151 [1, 2] rfl (by decide) (fun _ => rfl) rfl rfl rfl ⟨(Nat.le_of_ble_eq_true rfl), (Nat.le_of_ble_eq_true rfl)⟩ ⟨rfl, rfl⟩ ⟨(Nat.le_of_ble_eq_true rfl), (Nat.le_of_ble_eq_true rfl)⟩ rfl (Nat.le_of_ble_eq_true rfl) rfl dX4_startOfCycle_70 rfl (fun _ => rfl) (fun _ => rfl) (fun r70 => ?_)
        refine sk_pop (pc' := 74) X rfl dX4_startOfCycle_73 rfl ?_
        refine sk_iinc (lv' := [some (.ref (u0 0)), some (.int p1), some (.int p2), some (.int (s33.2.2.2.2 + (1 : Int32)))]) (pc' := 77) X rfl ic_1 (Nat.le_of_ble_eq_true rfl) rfl rfl dX4_startOfCycle_74 rfl ?_
        refine sk_goto (tgt := 33) X dX4_startOfCycle_77 rfl ?_
        exact (ih33 (r70.2.1, r70.2.2, r61.2.1, r61.2.2, (s33.2.2.2.2 + (1 : Int32))))
      · refine sk_iload_n (pc' := 55) X rfl dX4_startOfCycle_54 rfl ?_
        exact sk_iret X rfl rfl dX4_startOfCycle_55
  unfold m_X4_startOfCycle
  refine sk_aload_n (pc' := 1) X rfl dX4_startOfCycle_0 rfl ?_
  refine sk_getf (pc' := 4) X 0 0 1 in_RX4 rfl rfl rfl (Nat.le_of_ble_eq_true rfl) fl_RX4_16 rfl dX4_startOfCycle_1 rfl ?_
  refine sk_aload_n (pc' := 5) X rfl dX4_startOfCycle_4 rfl ?_
  refine sk_getf (pc' := 8) X 0 0 0 in_RX4 rfl rfl rfl (Nat.le_of_ble_eq_true rfl) fl_RX4_10 rfl dX4_startOfCycle_5 rfl ?_
  refine sk_callV (bs2 := fun r8 => [(pc_W u0 (u3 0) (u5 0) (u1 0) a0_savings a0_script), (nt_W G u1 (u2 0) S1), (lg_W G u2 S2), (nt_W G u3 (u4 0) S3), (lg_W G u4 S4), (nt_W G u5 (u6 0) r8.1), (lg_W G u6 r8.2)]) (st := []) (st2 := fun r8 => []) (As := [.ref (u3 0)]) (pc' := 11) X (c_X1_copyFrom l G u5 u6 u3 u4 S5 S6 S3 S4) lk_RX4_203 [5, 6, 3, 4] rfl (by decide) (fun _ => rfl) rfl rfl rfl ⟨(Nat.le_of_ble_eq_true rfl), (Nat.le_of_ble_eq_true rfl)⟩ ⟨rfl, rfl⟩ ⟨(Nat.le_of_ble_eq_true rfl), (Nat.le_of_ble_eq_true rfl)⟩ rfl (Nat.le_of_ble_eq_true rfl) rfl dX4_startOfCycle_8 rfl (fun _ => rfl) (fun _ => rfl) (fun r8 => ?_)
  refine sk_aload_n (pc' := 12) X rfl dX4_startOfCycle_11 rfl ?_
  refine sk_getf (pc' := 15) X 0 0 2 in_RX4 rfl rfl rfl (Nat.le_of_ble_eq_true rfl) fl_RX4_19 rfl dX4_startOfCycle_12 rfl ?_
  refine sk_aload_n (pc' := 16) X rfl dX4_startOfCycle_15 rfl ?_
  refine sk_getf (pc' := 19) X 0 0 0 in_RX4 rfl rfl rfl (Nat.le_of_ble_eq_true rfl) fl_RX4_10 rfl dX4_startOfCycle_16 rfl ?_
  refine sk_callV (bs2 := fun r19 => [(pc_W u0 (u3 0) (u5 0) (u1 0) a0_savings a0_script), (nt_W G u1 (u2 0) r19.1), (lg_W G u2 r19.2), (nt_W G u3 (u4 0) S3), (lg_W G u4 S4), (nt_W G u5 (u6 0) r8.1), (lg_W G u6 r8.2)]) (st := []) (st2 := fun r19 => []) (As := [.ref (u3 0)]) (pc' := 22) X (c_X1_copyFrom l G u1 u2 u3 u4 S1 S2 S3 S4) lk_RX4_203 [1, 2, 3, 4] rfl (by decide) (fun _ => rfl) rfl rfl rfl ⟨(Nat.le_of_ble_eq_true rfl), (Nat.le_of_ble_eq_true rfl)⟩ ⟨rfl, rfl⟩ ⟨(Nat.le_of_ble_eq_true rfl), (Nat.le_of_ble_eq_true rfl)⟩ rfl (Nat.le_of_ble_eq_true rfl) rfl dX4_startOfCycle_19 rfl (fun _ => rfl) (fun _ => rfl) (fun r19 => ?_)
  refine sk_aload_n (pc' := 23) X rfl dX4_startOfCycle_22 rfl ?_
  refine sk_getf (pc' := 26) X 0 0 2 in_RX4 rfl rfl rfl (Nat.le_of_ble_eq_true rfl) fl_RX4_19 rfl dX4_startOfCycle_23 rfl ?_
  refine sk_iload_n (pc' := 27) X rfl dX4_startOfCycle_26 rfl ?_
  refine sk_callV (bs2 := fun r27 => [(pc_W u0 (u3 0) (u5 0) (u1 0) a0_savings a0_script), (nt_W G u1 (u2 0) r27.2.1), (lg_W G u2 r27.2.2), (nt_W G u3 (u4 0) S3), (lg_W G u4 S4), (nt_W G u5 (u6 0) r8.1), (lg_W G u6 r8.2)]) (st := []) (st2 := fun r27 => [.int r27.1]) (As := [.int p1]) (pc' := 30) X (c_X1_passTicks l G u1 u2 r19.1 r19.2 p1) lk_RX4_151 [1, 2] rfl (by decide) (fun _ => rfl) rfl rfl rfl ⟨(Nat.le_of_ble_eq_true rfl), (Nat.le_of_ble_eq_true rfl)⟩ ⟨rfl, rfl⟩ ⟨(Nat.le_of_ble_eq_true rfl), (Nat.le_of_ble_eq_true rfl)⟩ rfl (Nat.le_of_ble_eq_true rfl) rfl dX4_startOfCycle_27 rfl (fun _ => rfl) (fun _ => rfl) (fun r27 => ?_)
  refine sk_pop (pc' := 31) X rfl dX4_startOfCycle_30 rfl ?_
  refine sk_iconst (pc' := 32) X ic_0 dX4_startOfCycle_31 rfl ?_
  refine sk_istore_n (lv' := [some (.ref (u0 0)), some (.int p1), some (.int p2), some (.int (0 : Int32))]) (pc' := 33) X (Nat.le_of_ble_eq_true rfl) rfl rfl dX4_startOfCycle_32 rfl ?_
  exact (h33 (r27.2.1, r27.2.2, r8.1, r8.2, (0 : Int32)))
