def rm_L_add : Room := { frames := 8, cells := 2, slots := 12, locals := 132 }
def o_L_add : (Int32 × sk_N × sk_N × sk_N × sk_N × sk_N × sk_N × sk_N × sk_N × sk_N × sk_N × sk_O) → Option Value := fun r => some (.int r.1)
def w_L_add (G : sk_G) (u0 u1 u2 u3 u4 u5 u6 u7 u8 u9 u10 u11 u12 : Nat → Nat) (a0_thought a0_ahead a0_script : Nat) (S2 : sk_N) : (Int32 × sk_N × sk_N × sk_N × sk_N × sk_N × sk_N × sk_N × sk_N × sk_N × sk_N × sk_O) → sk_B := fun r => [(pc_W u0 (u1 0) a0_thought a0_ahead (u3 0) a0_script), (nt_W G u1 (u2 0) r.2.1), (lg_W G u2 S2), (sv_W G u3 (u4 0) (u6 0) (u8 0) (u10 0) r.2.2.1), (nt_W G u4 (u5 0) r.2.2.2.1), (lg_W G u5 r.2.2.2.2.1), (nt_W G u6 (u7 0) r.2.2.2.2.2.1), (lg_W G u7 r.2.2.2.2.2.2.1), (nt_W G u8 (u9 0) r.2.2.2.2.2.2.2.1), (lg_W G u9 r.2.2.2.2.2.2.2.2.1), (nt_W G u10 (u11 0) r.2.2.2.2.2.2.2.2.2.1), (lg_W G u11 r.2.2.2.2.2.2.2.2.2.2.1), (ot_W G u12 r.2.2.2.2.2.2.2.2.2.2.2)]
set_option maxHeartbeats 4000000 in
set_option maxRecDepth 100000 in
theorem c_L_add (l : Launch) (hl0 : l.stackTraces = false) (t : Nat) (G : sk_G) (u0 u1 u2 u3 u4 u5 u6 u7 u8 u9 u10 u11 u12 : Nat → Nat) (a0_thought a0_ahead a0_script : Nat) (S1 : sk_N) (S2 : sk_N) (S3 : sk_N) (S4 : sk_N) (S5 : sk_N) (S6 : sk_N) (S7 : sk_N) (S8 : sk_N) (S9 : sk_N) (S10 : sk_N) (S11 : sk_N) (S12 : sk_O) (p2 : Int32) : sk_wtr l G t yL_add cL_add 4 (some .int) [(0, 9, 12, 13), (0, 9, 15, 15)] rm_L_add 2 12 [.ref (u0 0), .int p2, .ref (u12 0)] [(pc_W u0 (u1 0) a0_thought a0_ahead (u3 0) a0_script), (nt_W G u1 (u2 0) S1), (lg_W G u2 S2), (sv_W G u3 (u4 0) (u6 0) (u8 0) (u10 0) S3), (nt_W G u4 (u5 0) S4), (lg_W G u5 S5), (nt_W G u6 (u7 0) S6), (lg_W G u7 S7), (nt_W G u8 (u9 0) S8), (lg_W G u9 S9), (nt_W G u10 (u11 0) S10), (lg_W G u11 S11), (ot_W G u12 S12)] (m_L_add S1 S2 S3 S4 S5 S6 S7 S8 S9 S10 S11 S12 p2) o_L_add (w_L_add G u0 u1 u2 u3 u4 u5 u6 u7 u8 u9 u10 u11 u12 a0_thought a0_ahead a0_script S2) := by
  refine sk_wentry (own := RL) (by decide) rfl (lv0 := [some (.ref (u0 0)), some (.int p2), some (.ref (u12 0)), none]) rfl (Nat.le_of_ble_eq_true rfl) ?_
  intro Γ X E
  unfold m_L_add
  refine sk_aload_n (pc' := 1) X rfl dL_add_0 rfl ?_
  refine sk_iconst (pc' := 2) X ic_0 dL_add_1 rfl ?_
  refine sk_aload_n (pc' := 3) X rfl dL_add_2 rfl ?_
  refine sk_iload_n (pc' := 4) X rfl dL_add_3 rfl ?_
  refine sk_callVH2 (bs2 := fun r4 => [(pc_W u0 (u1 0) a0_thought a0_ahead (u3 0) a0_script), (nt_W G u1 (u2 0) r4.2.1), (lg_W G u2 S2), (sv_W G u3 (u4 0) (u6 0) (u8 0) (u10 0) r4.2.2.1), (nt_W G u4 (u5 0) r4.2.2.2.1), (lg_W G u5 r4.2.2.2.2.1), (nt_W G u6 (u7 0) r4.2.2.2.2.2.1), (lg_W G u7 r4.2.2.2.2.2.2.1), (nt_W G u8 (u9 0) r4.2.2.2.2.2.2.2.1), (lg_W G u9 r4.2.2.2.2.2.2.2.2.1), (nt_W G u10 (u11 0) r4.2.2.2.2.2.2.2.2.2.1), (lg_W G u11 r4.2.2.2.2.2.2.2.2.2.2), (ot_W G u12 S12)]) (st := [.int (0 : Int32), .ref (u12 0)]) (st2 := fun r4 => [.int r4.1, .int (0 : Int32), .ref (u12 0)]) (As := [.int p2]) (pc' := 7) X E (c_X4_add l hl0 t G u0 u1 u2 u3 u4 u5 u6 u7 u8 u9 u10 u11 a0_thought a0_ahead a0_script S1 S2 S3 S4 S5 S6 S7 S8 S9 S10 S11 p2) lk_RL_7 [0, 1, 2, 3, 4, 5, 6, 7, 8, 9, 10, 11] rfl (by decide) (fun _ => rfl) rfl rfl rfl ⟨(Nat.le_of_ble_eq_true rfl), (Nat.le_of_ble_eq_true rfl)⟩ ⟨rfl, rfl⟩ ⟨(Nat.le_of_ble_eq_true rfl), (Nat.le_of_ble_eq_true rfl)⟩ rfl (Nat.le_of_ble_eq_true rfl) rfl dL_add_4 rfl (fun _ => rfl) rfl (fun _ => rfl) 1 (by decide) (by decide) q_552 rfl 2 (by decide) (by decide) q_553 rfl (by decide) (fun r4 => ?_) ?_ ?_
  · refine sk_i2l (pc' := 8) X dL_add_7 rfl ?_
    refine sk_last (bs' := [(pc_W u0 (u1 0) a0_thought a0_ahead (u3 0) a0_script), (nt_W G u1 (u2 0) r4.2.1), (lg_W G u2 S2), (sv_W G u3 (u4 0) (u6 0) (u8 0) (u10 0) r4.2.2.1), (nt_W G u4 (u5 0) r4.2.2.2.1), (lg_W G u5 r4.2.2.2.2.1), (nt_W G u6 (u7 0) r4.2.2.2.2.2.1), (lg_W G u7 r4.2.2.2.2.2.2.1), (nt_W G u8 (u9 0) r4.2.2.2.2.2.2.2.1), (lg_W G u9 r4.2.2.2.2.2.2.2.2.1), (nt_W G u10 (u11 0) r4.2.2.2.2.2.2.2.2.2.1), (lg_W G u11 r4.2.2.2.2.2.2.2.2.2.2), (ot_W G u12 (vp_updL S12 ((0 : Int32)).toNatClampNeg (r4.1).toInt64))]) (pc' := 9) X 12 0 rfl rfl (sk_st 12 (ot_st_0 ..) rfl) dL_add_8 rfl ?_
    refine sk_lt (bsf := fun z => [(pc_W u0 (u1 0) a0_thought a0_ahead (u3 0) a0_script), (nt_W G u1 (u2 0) r4.2.1), (lg_W G u2 S2), (sv_W G u3 (u4 0) (u6 0) (u8 0) (u10 0) r4.2.2.1), (nt_W G u4 (u5 0) r4.2.2.2.1), (lg_W G u5 r4.2.2.2.2.1), (nt_W G u6 (u7 0) r4.2.2.2.2.2.1), (lg_W G u7 r4.2.2.2.2.2.2.1), (nt_W G u8 (u9 0) r4.2.2.2.2.2.2.2.1), (lg_W G u9 r4.2.2.2.2.2.2.2.2.1), (nt_W G u10 (u11 0) r4.2.2.2.2.2.2.2.2.2.1), (lg_W G u11 r4.2.2.2.2.2.2.2.2.2.2), (ot_W G u12 z)]) (lvf := fun _ => [some (.ref (u0 0)), some (.int p2), some (.ref (u12 0)), none]) (stf := fun _ => []) (fun N8 => ?_)
    refine sk_goto (tgt := 18) X dL_add_9 rfl ?_
    refine sk_iconst (pc' := 19) X ic_0 dL_add_18 rfl ?_
    exact sk_wiret X (Nat.le_of_ble_eq_true rfl) (Nat.le_of_ble_eq_true rfl) rfl rfl dL_add_19
  · intro q0
    refine sk_astore_n (lv' := [some (.ref (u0 0)), some (.int p2), some (.ref (u12 0)), some (.ref q0)]) (pc' := 13) X (Nat.le_of_ble_eq_true rfl) rfl rfl dL_add_12 rfl ?_
    refine sk_iconst (pc' := 14) X ic_1 dL_add_13 rfl ?_
    exact sk_wiret X (Nat.le_of_ble_eq_true rfl) (Nat.le_of_ble_eq_true rfl) rfl rfl dL_add_14
  · intro q1
    refine sk_astore_n (lv' := [some (.ref (u0 0)), some (.int p2), some (.ref (u12 0)), some (.ref q1)]) (pc' := 16) X (Nat.le_of_ble_eq_true rfl) rfl rfl dL_add_15 rfl ?_
    refine sk_iconst (pc' := 17) X ic_2 dL_add_16 rfl ?_
    exact sk_wiret X (Nat.le_of_ble_eq_true rfl) (Nat.le_of_ble_eq_true rfl) rfl rfl dL_add_17
def rm_L_setPhase : Room := { frames := 8, cells := 2, slots := 12, locals := 133 }
def o_L_setPhase : (Int32 × sk_N × sk_N × sk_N × sk_N × sk_N × sk_N × sk_N × sk_N × sk_N × sk_N × sk_O) → Option Value := fun r => some (.int r.1)
def w_L_setPhase (G : sk_G) (u0 u1 u2 u3 u4 u5 u6 u7 u8 u9 u10 u11 u12 : Nat → Nat) (a0_thought a0_ahead a0_script : Nat) (S2 : sk_N) : (Int32 × sk_N × sk_N × sk_N × sk_N × sk_N × sk_N × sk_N × sk_N × sk_N × sk_N × sk_O) → sk_B := fun r => [(pc_W u0 (u1 0) a0_thought a0_ahead (u3 0) a0_script), (nt_W G u1 (u2 0) r.2.1), (lg_W G u2 S2), (sv_W G u3 (u4 0) (u6 0) (u8 0) (u10 0) r.2.2.1), (nt_W G u4 (u5 0) r.2.2.2.1), (lg_W G u5 r.2.2.2.2.1), (nt_W G u6 (u7 0) r.2.2.2.2.2.1), (lg_W G u7 r.2.2.2.2.2.2.1), (nt_W G u8 (u9 0) r.2.2.2.2.2.2.2.1), (lg_W G u9 r.2.2.2.2.2.2.2.2.1), (nt_W G u10 (u11 0) r.2.2.2.2.2.2.2.2.2.1), (lg_W G u11 r.2.2.2.2.2.2.2.2.2.2.1), (ot_W G u12 r.2.2.2.2.2.2.2.2.2.2.2)]
set_option maxHeartbeats 4000000 in
set_option maxRecDepth 100000 in
theorem c_L_setPhase (l : Launch) (hl0 : l.stackTraces = false) (t : Nat) (G : sk_G) (u0 u1 u2 u3 u4 u5 u6 u7 u8 u9 u10 u11 u12 : Nat → Nat) (a0_thought a0_ahead a0_script : Nat) (S1 : sk_N) (S2 : sk_N) (S3 : sk_N) (S4 : sk_N) (S5 : sk_N) (S6 : sk_N) (S7 : sk_N) (S8 : sk_N) (S9 : sk_N) (S10 : sk_N) (S11 : sk_N) (S12 : sk_O) (p2 : Int32) (p3 : Int32) : sk_wtr l G t yL_setPhase cL_setPhase 5 (some .int) [(0, 10, 13, 21), (0, 10, 17, 13)] rm_L_setPhase 2 12 [.ref (u0 0), .int p2, .int p3, .ref (u12 0)] [(pc_W u0 (u1 0) a0_thought a0_ahead (u3 0) a0_script), (nt_W G u1 (u2 0) S1), (lg_W G u2 S2), (sv_W G u3 (u4 0) (u6 0) (u8 0) (u10 0) S3), (nt_W G u4 (u5 0) S4), (lg_W G u5 S5), (nt_W G u6 (u7 0) S6), (lg_W G u7 S7), (nt_W G u8 (u9 0) S8), (lg_W G u9 S9), (nt_W G u10 (u11 0) S10), (lg_W G u11 S11), (ot_W G u12 S12)] (m_L_setPhase S1 S2 S3 S4 S5 S6 S7 S8 S9 S10 S11 S12 p2 p3) o_L_setPhase (w_L_setPhase G u0 u1 u2 u3 u4 u5 u6 u7 u8 u9 u10 u11 u12 a0_thought a0_ahead a0_script S2) := by
  refine sk_wentry (own := RL) (by decide) rfl (lv0 := [some (.ref (u0 0)), some (.int p2), some (.int p3), some (.ref (u12 0)), none]) rfl (Nat.le_of_ble_eq_true rfl) ?_
  intro Γ X E
  unfold m_L_setPhase
  refine sk_aload_n (pc' := 1) X rfl dL_setPhase_0 rfl ?_
  refine sk_iconst (pc' := 2) X ic_0 dL_setPhase_1 rfl ?_
  refine sk_aload_n (pc' := 3) X rfl dL_setPhase_2 rfl ?_
  refine sk_iload_n (pc' := 4) X rfl dL_setPhase_3 rfl ?_
  refine sk_iload_n (pc' := 5) X rfl dL_setPhase_4 rfl ?_
  refine sk_callVH2 (bs2 := fun r5 => [(pc_W u0 (u1 0) a0_thought a0_ahead (u3 0) a0_script), (nt_W G u1 (u2 0) r5.2.1), (lg_W G u2 S2), (sv_W G u3 (u4 0) (u6 0) (u8 0) (u10 0) r5.2.2.1), (nt_W G u4 (u5 0) r5.2.2.2.1), (lg_W G u5 r5.2.2.2.2.1), (nt_W G u6 (u7 0) r5.2.2.2.2.2.1), (lg_W G u7 r5.2.2.2.2.2.2.1), (nt_W G u8 (u9 0) r5.2.2.2.2.2.2.2.1), (lg_W G u9 r5.2.2.2.2.2.2.2.2.1), (nt_W G u10 (u11 0) r5.2.2.2.2.2.2.2.2.2.1), (lg_W G u11 r5.2.2.2.2.2.2.2.2.2.2), (ot_W G u12 S12)]) (st := [.int (0 : Int32), .ref (u12 0)]) (st2 := fun r5 => [.int r5.1, .int (0 : Int32), .ref (u12 0)]) (As := [.int p2, .int p3]) (pc' := 8) X E (c_X4_setPhase l hl0 t G u0 u1 u2 u3 u4 u5 u6 u7 u8 u9 u10 u11 a0_thought a0_ahead a0_script S1 S2 S3 S4 S5 S6 S7 S8 S9 S10 S11 p2 p3) lk_RL_17 [0, 1, 2, 3, 4, 5, 6, 7, 8, 9, 10, 11] rfl (by decide) (fun _ => rfl) rfl rfl rfl ⟨(Nat.le_of_ble_eq_true rfl), (Nat.le_of_ble_eq_true rfl)⟩ ⟨rfl, rfl⟩ ⟨(Nat.le_of_ble_eq_true rfl), (Nat.le_of_ble_eq_true rfl)⟩ rfl (Nat.le_of_ble_eq_true rfl) rfl dL_setPhase_5 rfl (fun _ => rfl) rfl (fun _ => rfl) 3 (by decide) (by decide) q_648 rfl 1 (by decide) (by decide) q_552 rfl (by decide) (fun r5 => ?_) ?_ ?_
  · refine sk_i2l (pc' := 9) X dL_setPhase_8 rfl ?_
    refine sk_last (bs' := [(pc_W u0 (u1 0) a0_thought a0_ahead (u3 0) a0_script), (nt_W G u1 (u2 0) r5.2.1), (lg_W G u2 S2), (sv_W G u3 (u4 0) (u6 0) (u8 0) (u10 0) r5.2.2.1), (nt_W G u4 (u5 0) r5.2.2.2.1), (lg_W G u5 r5.2.2.2.2.1), (nt_W G u6 (u7 0) r5.2.2.2.2.2.1), (lg_W G u7 r5.2.2.2.2.2.2.1), (nt_W G u8 (u9 0) r5.2.2.2.2.2.2.2.1), (lg_W G u9 r5.2.2.2.2.2.2.2.2.1), (nt_W G u10 (u11 0) r5.2.2.2.2.2.2.2.2.2.1), (lg_W G u11 r5.2.2.2.2.2.2.2.2.2.2), (ot_W G u12 (vp_updL S12 ((0 : Int32)).toNatClampNeg (r5.1).toInt64))]) (pc' := 10) X 12 0 rfl rfl (sk_st 12 (ot_st_0 ..) rfl) dL_setPhase_9 rfl ?_
    refine sk_lt (bsf := fun z => [(pc_W u0 (u1 0) a0_thought a0_ahead (u3 0) a0_script), (nt_W G u1 (u2 0) r5.2.1), (lg_W G u2 S2), (sv_W G u3 (u4 0) (u6 0) (u8 0) (u10 0) r5.2.2.1), (nt_W G u4 (u5 0) r5.2.2.2.1), (lg_W G u5 r5.2.2.2.2.1), (nt_W G u6 (u7 0) r5.2.2.2.2.2.1), (lg_W G u7 r5.2.2.2.2.2.2.1), (nt_W G u8 (u9 0) r5.2.2.2.2.2.2.2.1), (lg_W G u9 r5.2.2.2.2.2.2.2.2.1), (nt_W G u10 (u11 0) r5.2.2.2.2.2.2.2.2.2.1), (lg_W G u11 r5.2.2.2.2.2.2.2.2.2.2), (ot_W G u12 z)]) (lvf := fun _ => [some (.ref (u0 0)), some (.int p2), some (.int p3), some (.ref (u12 0)), none]) (stf := fun _ => []) (fun N9 => ?_)
    refine sk_goto (tgt := 21) X dL_setPhase_10 rfl ?_
    refine sk_iconst (pc' := 22) X ic_0 dL_setPhase_21 rfl ?_
    exact sk_wiret X (Nat.le_of_ble_eq_true rfl) (Nat.le_of_ble_eq_true rfl) rfl rfl dL_setPhase_22
  · intro q0
    refine sk_astore (lv' := [some (.ref (u0 0)), some (.int p2), some (.int p3), some (.ref (u12 0)), some (.ref q0)]) (pc' := 15) X (Nat.le_of_ble_eq_true rfl) rfl rfl dL_setPhase_13 rfl ?_
    refine sk_iconst (pc' := 16) X ic_1 dL_setPhase_15 rfl ?_
    exact sk_wiret X (Nat.le_of_ble_eq_true rfl) (Nat.le_of_ble_eq_true rfl) rfl rfl dL_setPhase_16
  · intro q1
    refine sk_astore (lv' := [some (.ref (u0 0)), some (.int p2), some (.int p3), some (.ref (u12 0)), some (.ref q1)]) (pc' := 19) X (Nat.le_of_ble_eq_true rfl) rfl rfl dL_setPhase_17 rfl ?_
    refine sk_iconst (pc' := 20) X ic_2 dL_setPhase_19 rfl ?_
    exact sk_wiret X (Nat.le_of_ble_eq_true rfl) (Nat.le_of_ble_eq_true rfl) rfl rfl dL_setPhase_20
def rm_L_setDrift : Room := { frames := 8, cells := 2, slots := 12, locals := 133 }
def o_L_setDrift : (Int32 × sk_N × sk_N × sk_N × sk_N × sk_N × sk_N × sk_N × sk_N × sk_N × sk_N × sk_O) → Option Value := fun r => some (.int r.1)
def w_L_setDrift (G : sk_G) (u0 u1 u2 u3 u4 u5 u6 u7 u8 u9 u10 u11 u12 : Nat → Nat) (a0_thought a0_ahead a0_script : Nat) (S2 : sk_N) : (Int32 × sk_N × sk_N × sk_N × sk_N × sk_N × sk_N × sk_N × sk_N × sk_N × sk_N × sk_O) → sk_B := fun r => [(pc_W u0 (u1 0) a0_thought a0_ahead (u3 0) a0_script), (nt_W G u1 (u2 0) r.2.1), (lg_W G u2 S2), (sv_W G u3 (u4 0) (u6 0) (u8 0) (u10 0) r.2.2.1), (nt_W G u4 (u5 0) r.2.2.2.1), (lg_W G u5 r.2.2.2.2.1), (nt_W G u6 (u7 0) r.2.2.2.2.2.1), (lg_W G u7 r.2.2.2.2.2.2.1), (nt_W G u8 (u9 0) r.2.2.2.2.2.2.2.1), (lg_W G u9 r.2.2.2.2.2.2.2.2.1), (nt_W G u10 (u11 0) r.2.2.2.2.2.2.2.2.2.1), (lg_W G u11 r.2.2.2.2.2.2.2.2.2.2.1), (ot_W G u12 r.2.2.2.2.2.2.2.2.2.2.2)]
set_option maxHeartbeats 4000000 in
set_option maxRecDepth 100000 in
theorem c_L_setDrift (l : Launch) (hl0 : l.stackTraces = false) (t : Nat) (G : sk_G) (u0 u1 u2 u3 u4 u5 u6 u7 u8 u9 u10 u11 u12 : Nat → Nat) (a0_thought a0_ahead a0_script : Nat) (S1 : sk_N) (S2 : sk_N) (S3 : sk_N) (S4 : sk_N) (S5 : sk_N) (S6 : sk_N) (S7 : sk_N) (S8 : sk_N) (S9 : sk_N) (S10 : sk_N) (S11 : sk_N) (S12 : sk_O) (p2 : Int32) (p3 : Int32) : sk_wtr l G t yL_setDrift cL_setDrift 5 (some .int) [(0, 10, 13, 21), (0, 10, 17, 13)] rm_L_setDrift 2 12 [.ref (u0 0), .int p2, .int p3, .ref (u12 0)] [(pc_W u0 (u1 0) a0_thought a0_ahead (u3 0) a0_script), (nt_W G u1 (u2 0) S1), (lg_W G u2 S2), (sv_W G u3 (u4 0) (u6 0) (u8 0) (u10 0) S3), (nt_W G u4 (u5 0) S4), (lg_W G u5 S5), (nt_W G u6 (u7 0) S6), (lg_W G u7 S7), (nt_W G u8 (u9 0) S8), (lg_W G u9 S9), (nt_W G u10 (u11 0) S10), (lg_W G u11 S11), (ot_W G u12 S12)] (m_L_setDrift S1 S2 S3 S4 S5 S6 S7 S8 S9 S10 S11 S12 p2 p3) o_L_setDrift (w_L_setDrift G u0 u1 u2 u3 u4 u5 u6 u7 u8 u9 u10 u11 u12 a0_thought a0_ahead a0_script S2) := by
  refine sk_wentry (own := RL) (by decide) rfl (lv0 := [some (.ref (u0 0)), some (.int p2), some (.int p3), some (.ref (u12 0)), none]) rfl (Nat.le_of_ble_eq_true rfl) ?_
  intro Γ X E
  unfold m_L_setDrift
  refine sk_aload_n (pc' := 1) X rfl dL_setDrift_0 rfl ?_
  refine sk_iconst (pc' := 2) X ic_0 dL_setDrift_1 rfl ?_
  refine sk_aload_n (pc' := 3) X rfl dL_setDrift_2 rfl ?_
  refine sk_iload_n (pc' := 4) X rfl dL_setDrift_3 rfl ?_
  refine sk_iload_n (pc' := 5) X rfl dL_setDrift_4 rfl ?_
  refine sk_callVH2 (bs2 := fun r5 => [(pc_W u0 (u1 0) a0_thought a0_ahead (u3 0) a0_script), (nt_W G u1 (u2 0) r5.2.1), (lg_W G u2 S2), (sv_W G u3 (u4 0) (u6 0) (u8 0) (u10 0) r5.2.2.1), (nt_W G u4 (u5 0) r5.2.2.2.1), (lg_W G u5 r5.2.2.2.2.1), (nt_W G u6 (u7 0) r5.2.2.2.2.2.1), (lg_W G u7 r5.2.2.2.2.2.2.1), (nt_W G u8 (u9 0) r5.2.2.2.2.2.2.2.1), (lg_W G u9 r5.2.2.2.2.2.2.2.2.1), (nt_W G u10 (u11 0) r5.2.2.2.2.2.2.2.2.2.1), (lg_W G u11 r5.2.2.2.2.2.2.2.2.2.2), (ot_W G u12 S12)]) (st := [.int (0 : Int32), .ref (u12 0)]) (st2 := fun r5 => [.int r5.1, .int (0 : Int32), .ref (u12 0)]) (As := [.int p2, .int p3]) (pc' := 8) X E (c_X4_setDrift l hl0 t G u0 u1 u2 u3 u4 u5 u6 u7 u8 u9 u10 u11 a0_thought a0_ahead a0_script S1 S2 S3 S4 S5 S6 S7 S8 S9 S10 S11 p2 p3) lk_RL_23 [0, 1, 2, 3, 4, 5, 6, 7, 8, 9, 10, 11] rfl (by decide) (fun _ => rfl) rfl rfl rfl ⟨(Nat.le_of_ble_eq_true rfl), (Nat.le_of_ble_eq_true rfl)⟩ ⟨rfl, rfl⟩ ⟨(Nat.le_of_ble_eq_true rfl), (Nat.le_of_ble_eq_true rfl)⟩ rfl (Nat.le_of_ble_eq_true rfl) rfl dL_setDrift_5 rfl (fun _ => rfl) rfl (fun _ => rfl) 3 (by decide) (by decide) q_648 rfl 1 (by decide) (by decide) q_552 rfl (by decide) (fun r5 => ?_) ?_ ?_
  · refine sk_i2l (pc' := 9) X dL_setDrift_8 rfl ?_
    refine sk_last (bs' := [(pc_W u0 (u1 0) a0_thought a0_ahead (u3 0) a0_script), (nt_W G u1 (u2 0) r5.2.1), (lg_W G u2 S2), (sv_W G u3 (u4 0) (u6 0) (u8 0) (u10 0) r5.2.2.1), (nt_W G u4 (u5 0) r5.2.2.2.1), (lg_W G u5 r5.2.2.2.2.1), (nt_W G u6 (u7 0) r5.2.2.2.2.2.1), (lg_W G u7 r5.2.2.2.2.2.2.1), (nt_W G u8 (u9 0) r5.2.2.2.2.2.2.2.1), (lg_W G u9 r5.2.2.2.2.2.2.2.2.1), (nt_W G u10 (u11 0) r5.2.2.2.2.2.2.2.2.2.1), (lg_W G u11 r5.2.2.2.2.2.2.2.2.2.2), (ot_W G u12 (vp_updL S12 ((0 : Int32)).toNatClampNeg (r5.1).toInt64))]) (pc' := 10) X 12 0 rfl rfl (sk_st 12 (ot_st_0 ..) rfl) dL_setDrift_9 rfl ?_
    refine sk_lt (bsf := fun z => [(pc_W u0 (u1 0) a0_thought a0_ahead (u3 0) a0_script), (nt_W G u1 (u2 0) r5.2.1), (lg_W G u2 S2), (sv_W G u3 (u4 0) (u6 0) (u8 0) (u10 0) r5.2.2.1), (nt_W G u4 (u5 0) r5.2.2.2.1), (lg_W G u5 r5.2.2.2.2.1), (nt_W G u6 (u7 0) r5.2.2.2.2.2.1), (lg_W G u7 r5.2.2.2.2.2.2.1), (nt_W G u8 (u9 0) r5.2.2.2.2.2.2.2.1), (lg_W G u9 r5.2.2.2.2.2.2.2.2.1), (nt_W G u10 (u11 0) r5.2.2.2.2.2.2.2.2.2.1), (lg_W G u11 r5.2.2.2.2.2.2.2.2.2.2), (ot_W G u12 z)]) (lvf := fun _ => [some (.ref (u0 0)), some (.int p2), some (.int p3), some (.ref (u12 0)), none]) (stf := fun _ => []) (fun N9 => ?_)
    refine sk_goto (tgt := 21) X dL_setDrift_10 rfl ?_
    refine sk_iconst (pc' := 22) X ic_0 dL_setDrift_21 rfl ?_
    exact sk_wiret X (Nat.le_of_ble_eq_true rfl) (Nat.le_of_ble_eq_true rfl) rfl rfl dL_setDrift_22
  · intro q0
    refine sk_astore (lv' := [some (.ref (u0 0)), some (.int p2), some (.int p3), some (.ref (u12 0)), some (.ref q0)]) (pc' := 15) X (Nat.le_of_ble_eq_true rfl) rfl rfl dL_setDrift_13 rfl ?_
    refine sk_iconst (pc' := 16) X ic_1 dL_setDrift_15 rfl ?_
    exact sk_wiret X (Nat.le_of_ble_eq_true rfl) (Nat.le_of_ble_eq_true rfl) rfl rfl dL_setDrift_16
  · intro q1
    refine sk_astore (lv' := [some (.ref (u0 0)), some (.int p2), some (.int p3), some (.ref (u12 0)), some (.ref q1)]) (pc' := 19) X (Nat.le_of_ble_eq_true rfl) rfl rfl dL_setDrift_17 rfl ?_
    refine sk_iconst (pc' := 20) X ic_2 dL_setDrift_19 rfl ?_
    exact sk_wiret X (Nat.le_of_ble_eq_true rfl) (Nat.le_of_ble_eq_true rfl) rfl rfl dL_setDrift_20
def rm_L_blink : Room := { frames := 8, cells := 2, slots := 12, locals := 134 }
def o_L_blink : (Int32 × sk_N × sk_N × sk_N × sk_N × sk_N × sk_N × sk_N × sk_N × sk_N × sk_N × sk_O) → Option Value := fun r => some (.int r.1)
def w_L_blink (G : sk_G) (u0 u1 u2 u3 u4 u5 u6 u7 u8 u9 u10 u11 u12 : Nat → Nat) (a0_thought a0_ahead a0_script : Nat) (S2 : sk_N) : (Int32 × sk_N × sk_N × sk_N × sk_N × sk_N × sk_N × sk_N × sk_N × sk_N × sk_N × sk_O) → sk_B := fun r => [(pc_W u0 (u1 0) a0_thought a0_ahead (u3 0) a0_script), (nt_W G u1 (u2 0) r.2.1), (lg_W G u2 S2), (sv_W G u3 (u4 0) (u6 0) (u8 0) (u10 0) r.2.2.1), (nt_W G u4 (u5 0) r.2.2.2.1), (lg_W G u5 r.2.2.2.2.1), (nt_W G u6 (u7 0) r.2.2.2.2.2.1), (lg_W G u7 r.2.2.2.2.2.2.1), (nt_W G u8 (u9 0) r.2.2.2.2.2.2.2.1), (lg_W G u9 r.2.2.2.2.2.2.2.2.1), (nt_W G u10 (u11 0) r.2.2.2.2.2.2.2.2.2.1), (lg_W G u11 r.2.2.2.2.2.2.2.2.2.2.1), (ot_W G u12 r.2.2.2.2.2.2.2.2.2.2.2)]
set_option maxHeartbeats 4000000 in
set_option maxRecDepth 100000 in
theorem c_L_blink (l : Launch) (hl0 : l.stackTraces = false) (t : Nat) (G : sk_G) (u0 u1 u2 u3 u4 u5 u6 u7 u8 u9 u10 u11 u12 : Nat → Nat) (a0_thought a0_ahead a0_script : Nat) (S1 : sk_N) (S2 : sk_N) (S3 : sk_N) (S4 : sk_N) (S5 : sk_N) (S6 : sk_N) (S7 : sk_N) (S8 : sk_N) (S9 : sk_N) (S10 : sk_N) (S11 : sk_N) (S12 : sk_O) (p2 : Int32) (p3 : Int32) (p4 : Int32) : sk_wtr l G t yL_blink cL_blink 6 (some .int) [(0, 12, 15, 21), (0, 12, 19, 13)] rm_L_blink 2 12 [.ref (u0 0), .int p2, .int p3, .int p4, .ref (u12 0)] [(pc_W u0 (u1 0) a0_thought a0_ahead (u3 0) a0_script), (nt_W G u1 (u2 0) S1), (lg_W G u2 S2), (sv_W G u3 (u4 0) (u6 0) (u8 0) (u10 0) S3), (nt_W G u4 (u5 0) S4), (lg_W G u5 S5), (nt_W G u6 (u7 0) S6), (lg_W G u7 S7), (nt_W G u8 (u9 0) S8), (lg_W G u9 S9), (nt_W G u10 (u11 0) S10), (lg_W G u11 S11), (ot_W G u12 S12)] (m_L_blink S1 S2 S3 S4 S5 S6 S7 S8 S9 S10 S11 S12 p2 p3 p4) o_L_blink (w_L_blink G u0 u1 u2 u3 u4 u5 u6 u7 u8 u9 u10 u11 u12 a0_thought a0_ahead a0_script S2) := by
  refine sk_wentry (own := RL) (by decide) rfl (lv0 := [some (.ref (u0 0)), some (.int p2), some (.int p3), some (.int p4), some (.ref (u12 0)), none]) rfl (Nat.le_of_ble_eq_true rfl) ?_
  intro Γ X E
  unfold m_L_blink
  refine sk_aload (pc' := 2) X rfl dL_blink_0 rfl ?_
  refine sk_iconst (pc' := 3) X ic_0 dL_blink_2 rfl ?_
  refine sk_aload_n (pc' := 4) X rfl dL_blink_3 rfl ?_
  refine sk_iload_n (pc' := 5) X rfl dL_blink_4 rfl ?_
  refine sk_iload_n (pc' := 6) X rfl dL_blink_5 rfl ?_
  refine sk_iload_n (pc' := 7) X rfl dL_blink_6 rfl ?_
  refine sk_callVH2 (bs2 := fun r7 => [(pc_W u0 (u1 0) a0_thought a0_ahead (u3 0) a0_script), (nt_W G u1 (u2 0) r7.2.1), (lg_W G u2 S2), (sv_W G u3 (u4 0) (u6 0) (u8 0) (u10 0) r7.2.2.1), (nt_W G u4 (u5 0) r7.2.2.2.1), (lg_W G u5 r7.2.2.2.2.1), (nt_W G u6 (u7 0) r7.2.2.2.2.2.1), (lg_W G u7 r7.2.2.2.2.2.2.1), (nt_W G u8 (u9 0) r7.2.2.2.2.2.2.2.1), (lg_W G u9 r7.2.2.2.2.2.2.2.2.1), (nt_W G u10 (u11 0) r7.2.2.2.2.2.2.2.2.2.1), (lg_W G u11 r7.2.2.2.2.2.2.2.2.2.2), (ot_W G u12 S12)]) (st := [.int (0 : Int32), .ref (u12 0)]) (st2 := fun r7 => [.int r7.1, .int (0 : Int32), .ref (u12 0)]) (As := [.int p2, .int p3, .int p4]) (pc' := 10) X E (c_X4_blink l hl0 t G u0 u1 u2 u3 u4 u5 u6 u7 u8 u9 u10 u11 a0_thought a0_ahead a0_script S1 S2 S3 S4 S5 S6 S7 S8 S9 S10 S11 p2 p3 p4) lk_RL_26 [0, 1, 2, 3, 4, 5, 6, 7, 8, 9, 10, 11] rfl (by decide) (fun _ => rfl) rfl rfl rfl ⟨(Nat.le_of_ble_eq_true rfl), (Nat.le_of_ble_eq_true rfl)⟩ ⟨rfl, rfl⟩ ⟨(Nat.le_of_ble_eq_true rfl), (Nat.le_of_ble_eq_true rfl)⟩ rfl (Nat.le_of_ble_eq_true rfl) rfl dL_blink_7 rfl (fun _ => rfl) rfl (fun _ => rfl) 3 (by decide) (by decide) q_648 rfl 1 (by decide) (by decide) q_552 rfl (by decide) (fun r7 => ?_) ?_ ?_
  · refine sk_i2l (pc' := 11) X dL_blink_10 rfl ?_
    refine sk_last (bs' := [(pc_W u0 (u1 0) a0_thought a0_ahead (u3 0) a0_script), (nt_W G u1 (u2 0) r7.2.1), (lg_W G u2 S2), (sv_W G u3 (u4 0) (u6 0) (u8 0) (u10 0) r7.2.2.1), (nt_W G u4 (u5 0) r7.2.2.2.1), (lg_W G u5 r7.2.2.2.2.1), (nt_W G u6 (u7 0) r7.2.2.2.2.2.1), (lg_W G u7 r7.2.2.2.2.2.2.1), (nt_W G u8 (u9 0) r7.2.2.2.2.2.2.2.1), (lg_W G u9 r7.2.2.2.2.2.2.2.2.1), (nt_W G u10 (u11 0) r7.2.2.2.2.2.2.2.2.2.1), (lg_W G u11 r7.2.2.2.2.2.2.2.2.2.2), (ot_W G u12 (vp_updL S12 ((0 : Int32)).toNatClampNeg (r7.1).toInt64))]) (pc' := 12) X 12 0 rfl rfl (sk_st 12 (ot_st_0 ..) rfl) dL_blink_11 rfl ?_
    refine sk_lt (bsf := fun z => [(pc_W u0 (u1 0) a0_thought a0_ahead (u3 0) a0_script), (nt_W G u1 (u2 0) r7.2.1), (lg_W G u2 S2), (sv_W G u3 (u4 0) (u6 0) (u8 0) (u10 0) r7.2.2.1), (nt_W G u4 (u5 0) r7.2.2.2.1), (lg_W G u5 r7.2.2.2.2.1), (nt_W G u6 (u7 0) r7.2.2.2.2.2.1), (lg_W G u7 r7.2.2.2.2.2.2.1), (nt_W G u8 (u9 0) r7.2.2.2.2.2.2.2.1), (lg_W G u9 r7.2.2.2.2.2.2.2.2.1), (nt_W G u10 (u11 0) r7.2.2.2.2.2.2.2.2.2.1), (lg_W G u11 r7.2.2.2.2.2.2.2.2.2.2), (ot_W G u12 z)]) (lvf := fun _ => [some (.ref (u0 0)), some (.int p2), some (.int p3), some (.int p4), some (.ref (u12 0)), none]) (stf := fun _ => []) (fun N11 => ?_)
    refine sk_goto (tgt := 23) X dL_blink_12 rfl ?_
    refine sk_iconst (pc' := 24) X ic_0 dL_blink_23 rfl ?_
    exact sk_wiret X (Nat.le_of_ble_eq_true rfl) (Nat.le_of_ble_eq_true rfl) rfl rfl dL_blink_24
  · intro q0
    refine sk_astore (lv' := [some (.ref (u0 0)), some (.int p2), some (.int p3), some (.int p4), some (.ref (u12 0)), some (.ref q0)]) (pc' := 17) X (Nat.le_of_ble_eq_true rfl) rfl rfl dL_blink_15 rfl ?_
    refine sk_iconst (pc' := 18) X ic_1 dL_blink_17 rfl ?_
    exact sk_wiret X (Nat.le_of_ble_eq_true rfl) (Nat.le_of_ble_eq_true rfl) rfl rfl dL_blink_18
  · intro q1
    refine sk_astore (lv' := [some (.ref (u0 0)), some (.int p2), some (.int p3), some (.int p4), some (.ref (u12 0)), some (.ref q1)]) (pc' := 21) X (Nat.le_of_ble_eq_true rfl) rfl rfl dL_blink_19 rfl ?_
    refine sk_iconst (pc' := 22) X ic_2 dL_blink_21 rfl ?_
    exact sk_wiret X (Nat.le_of_ble_eq_true rfl) (Nat.le_of_ble_eq_true rfl) rfl rfl dL_blink_22
def rm_L_mend : Room := { frames := 8, cells := 2, slots := 12, locals := 132 }
def o_L_mend : (Int32 × sk_N × sk_N × sk_N × sk_N × sk_N × sk_N × sk_N × sk_N × sk_N × sk_N × sk_O) → Option Value := fun r => some (.int r.1)
def w_L_mend (G : sk_G) (u0 u1 u2 u3 u4 u5 u6 u7 u8 u9 u10 u11 u12 : Nat → Nat) (a0_thought a0_ahead a0_script : Nat) (S2 : sk_N) : (Int32 × sk_N × sk_N × sk_N × sk_N × sk_N × sk_N × sk_N × sk_N × sk_N × sk_N × sk_O) → sk_B := fun r => [(pc_W u0 (u1 0) a0_thought a0_ahead (u3 0) a0_script), (nt_W G u1 (u2 0) r.2.1), (lg_W G u2 S2), (sv_W G u3 (u4 0) (u6 0) (u8 0) (u10 0) r.2.2.1), (nt_W G u4 (u5 0) r.2.2.2.1), (lg_W G u5 r.2.2.2.2.1), (nt_W G u6 (u7 0) r.2.2.2.2.2.1), (lg_W G u7 r.2.2.2.2.2.2.1), (nt_W G u8 (u9 0) r.2.2.2.2.2.2.2.1), (lg_W G u9 r.2.2.2.2.2.2.2.2.1), (nt_W G u10 (u11 0) r.2.2.2.2.2.2.2.2.2.1), (lg_W G u11 r.2.2.2.2.2.2.2.2.2.2.1), (ot_W G u12 r.2.2.2.2.2.2.2.2.2.2.2)]
set_option maxHeartbeats 4000000 in
set_option maxRecDepth 100000 in
theorem c_L_mend (l : Launch) (hl0 : l.stackTraces = false) (t : Nat) (G : sk_G) (u0 u1 u2 u3 u4 u5 u6 u7 u8 u9 u10 u11 u12 : Nat → Nat) (a0_thought a0_ahead a0_script : Nat) (S1 : sk_N) (S2 : sk_N) (S3 : sk_N) (S4 : sk_N) (S5 : sk_N) (S6 : sk_N) (S7 : sk_N) (S8 : sk_N) (S9 : sk_N) (S10 : sk_N) (S11 : sk_N) (S12 : sk_O) (p2 : Int32) : sk_wtr l G t yL_mend cL_mend 4 (some .int) [(0, 9, 12, 21), (0, 9, 15, 15)] rm_L_mend 2 12 [.ref (u0 0), .int p2, .ref (u12 0)] [(pc_W u0 (u1 0) a0_thought a0_ahead (u3 0) a0_script), (nt_W G u1 (u2 0) S1), (lg_W G u2 S2), (sv_W G u3 (u4 0) (u6 0) (u8 0) (u10 0) S3), (nt_W G u4 (u5 0) S4), (lg_W G u5 S5), (nt_W G u6 (u7 0) S6), (lg_W G u7 S7), (nt_W G u8 (u9 0) S8), (lg_W G u9 S9), (nt_W G u10 (u11 0) S10), (lg_W G u11 S11), (ot_W G u12 S12)] (m_L_mend S1 S2 S3 S4 S5 S6 S7 S8 S9 S10 S11 S12 p2) o_L_mend (w_L_mend G u0 u1 u2 u3 u4 u5 u6 u7 u8 u9 u10 u11 u12 a0_thought a0_ahead a0_script S2) := by
  refine sk_wentry (own := RL) (by decide) rfl (lv0 := [some (.ref (u0 0)), some (.int p2), some (.ref (u12 0)), none]) rfl (Nat.le_of_ble_eq_true rfl) ?_
  intro Γ X E
  unfold m_L_mend
  refine sk_aload_n (pc' := 1) X rfl dL_mend_0 rfl ?_
  refine sk_iconst (pc' := 2) X ic_0 dL_mend_1 rfl ?_
  refine sk_aload_n (pc' := 3) X rfl dL_mend_2 rfl ?_
  refine sk_iload_n (pc' := 4) X rfl dL_mend_3 rfl ?_
  refine sk_callVH2 (bs2 := fun r4 => [(pc_W u0 (u1 0) a0_thought a0_ahead (u3 0) a0_script), (nt_W G u1 (u2 0) r4.2.1), (lg_W G u2 S2), (sv_W G u3 (u4 0) (u6 0) (u8 0) (u10 0) r4.2.2.1), (nt_W G u4 (u5 0) r4.2.2.2.1), (lg_W G u5 r4.2.2.2.2.1), (nt_W G u6 (u7 0) r4.2.2.2.2.2.1), (lg_W G u7 r4.2.2.2.2.2.2.1), (nt_W G u8 (u9 0) r4.2.2.2.2.2.2.2.1), (lg_W G u9 r4.2.2.2.2.2.2.2.2.1), (nt_W G u10 (u11 0) r4.2.2.2.2.2.2.2.2.2.1), (lg_W G u11 r4.2.2.2.2.2.2.2.2.2.2), (ot_W G u12 S12)]) (st := [.int (0 : Int32), .ref (u12 0)]) (st2 := fun r4 => [.int r4.1, .int (0 : Int32), .ref (u12 0)]) (As := [.int p2]) (pc' := 7) X E (c_X4_mend l hl0 t G u0 u1 u2 u3 u4 u5 u6 u7 u8 u9 u10 u11 a0_thought a0_ahead a0_script S1 S2 S3 S4 S5 S6 S7 S8 S9 S10 S11 p2) lk_RL_30 [0, 1, 2, 3, 4, 5, 6, 7, 8, 9, 10, 11] rfl (by decide) (fun _ => rfl) rfl rfl rfl ⟨(Nat.le_of_ble_eq_true rfl), (Nat.le_of_ble_eq_true rfl)⟩ ⟨rfl, rfl⟩ ⟨(Nat.le_of_ble_eq_true rfl), (Nat.le_of_ble_eq_true rfl)⟩ rfl (Nat.le_of_ble_eq_true rfl) rfl dL_mend_4 rfl (fun _ => rfl) rfl (fun _ => rfl) 3 (by decide) (by decide) q_648 rfl 2 (by decide) (by decide) q_553 rfl (by decide) (fun r4 => ?_) ?_ ?_
  · refine sk_i2l (pc' := 8) X dL_mend_7 rfl ?_
    refine sk_last (bs' := [(pc_W u0 (u1 0) a0_thought a0_ahead (u3 0) a0_script), (nt_W G u1 (u2 0) r4.2.1), (lg_W G u2 S2), (sv_W G u3 (u4 0) (u6 0) (u8 0) (u10 0) r4.2.2.1), (nt_W G u4 (u5 0) r4.2.2.2.1), (lg_W G u5 r4.2.2.2.2.1), (nt_W G u6 (u7 0) r4.2.2.2.2.2.1), (lg_W G u7 r4.2.2.2.2.2.2.1), (nt_W G u8 (u9 0) r4.2.2.2.2.2.2.2.1), (lg_W G u9 r4.2.2.2.2.2.2.2.2.1), (nt_W G u10 (u11 0) r4.2.2.2.2.2.2.2.2.2.1), (lg_W G u11 r4.2.2.2.2.2.2.2.2.2.2), (ot_W G u12 (vp_updL S12 ((0 : Int32)).toNatClampNeg (r4.1).toInt64))]) (pc' := 9) X 12 0 rfl rfl (sk_st 12 (ot_st_0 ..) rfl) dL_mend_8 rfl ?_
    refine sk_lt (bsf := fun z => [(pc_W u0 (u1 0) a0_thought a0_ahead (u3 0) a0_script), (nt_W G u1 (u2 0) r4.2.1), (lg_W G u2 S2), (sv_W G u3 (u4 0) (u6 0) (u8 0) (u10 0) r4.2.2.1), (nt_W G u4 (u5 0) r4.2.2.2.1), (lg_W G u5 r4.2.2.2.2.1), (nt_W G u6 (u7 0) r4.2.2.2.2.2.1), (lg_W G u7 r4.2.2.2.2.2.2.1), (nt_W G u8 (u9 0) r4.2.2.2.2.2.2.2.1), (lg_W G u9 r4.2.2.2.2.2.2.2.2.1), (nt_W G u10 (u11 0) r4.2.2.2.2.2.2.2.2.2.1), (lg_W G u11 r4.2.2.2.2.2.2.2.2.2.2), (ot_W G u12 z)]) (lvf := fun _ => [some (.ref (u0 0)), some (.int p2), some (.ref (u12 0)), none]) (stf := fun _ => []) (fun N8 => ?_)
    refine sk_goto (tgt := 18) X dL_mend_9 rfl ?_
    refine sk_iconst (pc' := 19) X ic_0 dL_mend_18 rfl ?_
    exact sk_wiret X (Nat.le_of_ble_eq_true rfl) (Nat.le_of_ble_eq_true rfl) rfl rfl dL_mend_19
  · intro q0
    refine sk_astore_n (lv' := [some (.ref (u0 0)), some (.int p2), some (.ref (u12 0)), some (.ref q0)]) (pc' := 13) X (Nat.le_of_ble_eq_true rfl) rfl rfl dL_mend_12 rfl ?_
    refine sk_iconst (pc' := 14) X ic_1 dL_mend_13 rfl ?_
    exact sk_wiret X (Nat.le_of_ble_eq_true rfl) (Nat.le_of_ble_eq_true rfl) rfl rfl dL_mend_14
  · intro q1
    refine sk_astore_n (lv' := [some (.ref (u0 0)), some (.int p2), some (.ref (u12 0)), some (.ref q1)]) (pc' := 16) X (Nat.le_of_ble_eq_true rfl) rfl rfl dL_mend_15 rfl ?_
    refine sk_iconst (pc' := 17) X ic_2 dL_mend_16 rfl ?_
    exact sk_wiret X (Nat.le_of_ble_eq_true rfl) (Nat.le_of_ble_eq_true rfl) rfl rfl dL_mend_17
def rm_L_link : Room := { frames := 8, cells := 3, slots := 18, locals := 134 }
def o_L_link : (Int32 × sk_N × sk_N × sk_N × sk_N × sk_N × sk_N × sk_N × sk_N × sk_N × sk_N × sk_O) → Option Value := fun r => some (.int r.1)
def w_L_link (G : sk_G) (u0 u1 u2 u3 u4 u5 u6 u7 u8 u9 u10 u11 u12 : Nat → Nat) (a0_thought a0_ahead a0_script : Nat) (S2 : sk_N) : (Int32 × sk_N × sk_N × sk_N × sk_N × sk_N × sk_N × sk_N × sk_N × sk_N × sk_N × sk_O) → sk_B := fun r => [(pc_W u0 (u1 0) a0_thought a0_ahead (u3 0) a0_script), (nt_W G u1 (u2 0) r.2.1), (lg_W G u2 S2), (sv_W G u3 (u4 0) (u6 0) (u8 0) (u10 0) r.2.2.1), (nt_W G u4 (u5 0) r.2.2.2.1), (lg_W G u5 r.2.2.2.2.1), (nt_W G u6 (u7 0) r.2.2.2.2.2.1), (lg_W G u7 r.2.2.2.2.2.2.1), (nt_W G u8 (u9 0) r.2.2.2.2.2.2.2.1), (lg_W G u9 r.2.2.2.2.2.2.2.2.1), (nt_W G u10 (u11 0) r.2.2.2.2.2.2.2.2.2.1), (lg_W G u11 r.2.2.2.2.2.2.2.2.2.2.1), (ot_W G u12 r.2.2.2.2.2.2.2.2.2.2.2)]
set_option maxHeartbeats 4000000 in
set_option maxRecDepth 100000 in
theorem c_L_link (l : Launch) (hl0 : l.stackTraces = false) (t : Nat) (G : sk_G) (u0 u1 u2 u3 u4 u5 u6 u7 u8 u9 u10 u11 u12 : Nat → Nat) (a0_thought a0_ahead a0_script : Nat) (S1 : sk_N) (S2 : sk_N) (S3 : sk_N) (S4 : sk_N) (S5 : sk_N) (S6 : sk_N) (S7 : sk_N) (S8 : sk_N) (S9 : sk_N) (S10 : sk_N) (S11 : sk_N) (S12 : sk_O) (p2 : Int32) (p3 : Int32) (p4 : Int32) : sk_wtr l G t yL_link cL_link 6 (some .int) [(0, 12, 15, 21), (0, 12, 19, 13)] rm_L_link 3 18 [.ref (u0 0), .int p2, .int p3, .int p4, .ref (u12 0)] [(pc_W u0 (u1 0) a0_thought a0_ahead (u3 0) a0_script), (nt_W G u1 (u2 0) S1), (lg_W G u2 S2), (sv_W G u3 (u4 0) (u6 0) (u8 0) (u10 0) S3), (nt_W G u4 (u5 0) S4), (lg_W G u5 S5), (nt_W G u6 (u7 0) S6), (lg_W G u7 S7), (nt_W G u8 (u9 0) S8), (lg_W G u9 S9), (nt_W G u10 (u11 0) S10), (lg_W G u11 S11), (ot_W G u12 S12)] (m_L_link S1 S2 S3 S4 S5 S6 S7 S8 S9 S10 S11 S12 p2 p3 p4) o_L_link (w_L_link G u0 u1 u2 u3 u4 u5 u6 u7 u8 u9 u10 u11 u12 a0_thought a0_ahead a0_script S2) := by
  refine sk_wentry (own := RL) (by decide) rfl (lv0 := [some (.ref (u0 0)), some (.int p2), some (.int p3), some (.int p4), some (.ref (u12 0)), none]) rfl (Nat.le_of_ble_eq_true rfl) ?_
  intro Γ X E
  unfold m_L_link
  refine sk_aload (pc' := 2) X rfl dL_link_0 rfl ?_
  refine sk_iconst (pc' := 3) X ic_0 dL_link_2 rfl ?_
  refine sk_aload_n (pc' := 4) X rfl dL_link_3 rfl ?_
  refine sk_iload_n (pc' := 5) X rfl dL_link_4 rfl ?_
  refine sk_iload_n (pc' := 6) X rfl dL_link_5 rfl ?_
  refine sk_iload_n (pc' := 7) X rfl dL_link_6 rfl ?_
  refine sk_callVH2 (bs2 := fun r7 => [(pc_W u0 (u1 0) a0_thought a0_ahead (u3 0) a0_script), (nt_W G u1 (u2 0) r7.2.1), (lg_W G u2 S2), (sv_W G u3 (u4 0) (u6 0) (u8 0) (u10 0) r7.2.2.1), (nt_W G u4 (u5 0) r7.2.2.2.1), (lg_W G u5 r7.2.2.2.2.1), (nt_W G u6 (u7 0) r7.2.2.2.2.2.1), (lg_W G u7 r7.2.2.2.2.2.2.1), (nt_W G u8 (u9 0) r7.2.2.2.2.2.2.2.1), (lg_W G u9 r7.2.2.2.2.2.2.2.2.1), (nt_W G u10 (u11 0) r7.2.2.2.2.2.2.2.2.2.1), (lg_W G u11 r7.2.2.2.2.2.2.2.2.2.2), (ot_W G u12 S12)]) (st := [.int (0 : Int32), .ref (u12 0)]) (st2 := fun r7 => [.int r7.1, .int (0 : Int32), .ref (u12 0)]) (As := [.int p2, .int p3, .int p4]) (pc' := 10) X E (c_X4_link l hl0 t G u0 u1 u2 u3 u4 u5 u6 u7 u8 u9 u10 u11 a0_thought a0_ahead a0_script S1 S2 S3 S4 S5 S6 S7 S8 S9 S10 S11 p2 p3 p4) lk_RL_33 [0, 1, 2, 3, 4, 5, 6, 7, 8, 9, 10, 11] rfl (by decide) (fun _ => rfl) rfl rfl rfl ⟨(Nat.le_of_ble_eq_true rfl), (Nat.le_of_ble_eq_true rfl)⟩ ⟨rfl, rfl⟩ ⟨(Nat.le_of_ble_eq_true rfl), (Nat.le_of_ble_eq_true rfl)⟩ rfl (Nat.le_of_ble_eq_true rfl) rfl dL_link_7 rfl (fun _ => rfl) rfl (fun _ => rfl) 3 (by decide) (by decide) q_648 rfl 1 (by decide) (by decide) q_552 rfl (by decide) (fun r7 => ?_) ?_ ?_
  · refine sk_i2l (pc' := 11) X dL_link_10 rfl ?_
    refine sk_last (bs' := [(pc_W u0 (u1 0) a0_thought a0_ahead (u3 0) a0_script), (nt_W G u1 (u2 0) r7.2.1), (lg_W G u2 S2), (sv_W G u3 (u4 0) (u6 0) (u8 0) (u10 0) r7.2.2.1), (nt_W G u4 (u5 0) r7.2.2.2.1), (lg_W G u5 r7.2.2.2.2.1), (nt_W G u6 (u7 0) r7.2.2.2.2.2.1), (lg_W G u7 r7.2.2.2.2.2.2.1), (nt_W G u8 (u9 0) r7.2.2.2.2.2.2.2.1), (lg_W G u9 r7.2.2.2.2.2.2.2.2.1), (nt_W G u10 (u11 0) r7.2.2.2.2.2.2.2.2.2.1), (lg_W G u11 r7.2.2.2.2.2.2.2.2.2.2), (ot_W G u12 (vp_updL S12 ((0 : Int32)).toNatClampNeg (r7.1).toInt64))]) (pc' := 12) X 12 0 rfl rfl (sk_st 12 (ot_st_0 ..) rfl) dL_link_11 rfl ?_
    refine sk_lt (bsf := fun z => [(pc_W u0 (u1 0) a0_thought a0_ahead (u3 0) a0_script), (nt_W G u1 (u2 0) r7.2.1), (lg_W G u2 S2), (sv_W G u3 (u4 0) (u6 0) (u8 0) (u10 0) r7.2.2.1), (nt_W G u4 (u5 0) r7.2.2.2.1), (lg_W G u5 r7.2.2.2.2.1), (nt_W G u6 (u7 0) r7.2.2.2.2.2.1), (lg_W G u7 r7.2.2.2.2.2.2.1), (nt_W G u8 (u9 0) r7.2.2.2.2.2.2.2.1), (lg_W G u9 r7.2.2.2.2.2.2.2.2.1), (nt_W G u10 (u11 0) r7.2.2.2.2.2.2.2.2.2.1), (lg_W G u11 r7.2.2.2.2.2.2.2.2.2.2), (ot_W G u12 z)]) (lvf := fun _ => [some (.ref (u0 0)), some (.int p2), some (.int p3), some (.int p4), some (.ref (u12 0)), none]) (stf := fun _ => []) (fun N11 => ?_)
    refine sk_goto (tgt := 23) X dL_link_12 rfl ?_
    refine sk_iconst (pc' := 24) X ic_0 dL_link_23 rfl ?_
    exact sk_wiret X (Nat.le_of_ble_eq_true rfl) (Nat.le_of_ble_eq_true rfl) rfl rfl dL_link_24
  · intro q0
    refine sk_astore (lv' := [some (.ref (u0 0)), some (.int p2), some (.int p3), some (.int p4), some (.ref (u12 0)), some (.ref q0)]) (pc' := 17) X (Nat.le_of_ble_eq_true rfl) rfl rfl dL_link_15 rfl ?_
    refine sk_iconst (pc' := 18) X ic_1 dL_link_17 rfl ?_
    exact sk_wiret X (Nat.le_of_ble_eq_true rfl) (Nat.le_of_ble_eq_true rfl) rfl rfl dL_link_18
  · intro q1
    refine sk_astore (lv' := [some (.ref (u0 0)), some (.int p2), some (.int p3), some (.int p4), some (.ref (u12 0)), some (.ref q1)]) (pc' := 21) X (Nat.le_of_ble_eq_true rfl) rfl rfl dL_link_19 rfl ?_
    refine sk_iconst (pc' := 22) X ic_2 dL_link_21 rfl ?_
    exact sk_wiret X (Nat.le_of_ble_eq_true rfl) (Nat.le_of_ble_eq_true rfl) rfl rfl dL_link_22
def rm_L_unlink : Room := { frames := 8, cells := 3, slots := 18, locals := 133 }
def o_L_unlink : (Int32 × sk_N × sk_N × sk_N × sk_N × sk_N × sk_N × sk_N × sk_N × sk_N × sk_N × sk_O) → Option Value := fun r => some (.int r.1)
def w_L_unlink (G : sk_G) (u0 u1 u2 u3 u4 u5 u6 u7 u8 u9 u10 u11 u12 : Nat → Nat) (a0_thought a0_ahead a0_script : Nat) (S2 : sk_N) : (Int32 × sk_N × sk_N × sk_N × sk_N × sk_N × sk_N × sk_N × sk_N × sk_N × sk_N × sk_O) → sk_B := fun r => [(pc_W u0 (u1 0) a0_thought a0_ahead (u3 0) a0_script), (nt_W G u1 (u2 0) r.2.1), (lg_W G u2 S2), (sv_W G u3 (u4 0) (u6 0) (u8 0) (u10 0) r.2.2.1), (nt_W G u4 (u5 0) r.2.2.2.1), (lg_W G u5 r.2.2.2.2.1), (nt_W G u6 (u7 0) r.2.2.2.2.2.1), (lg_W G u7 r.2.2.2.2.2.2.1), (nt_W G u8 (u9 0) r.2.2.2.2.2.2.2.1), (lg_W G u9 r.2.2.2.2.2.2.2.2.1), (nt_W G u10 (u11 0) r.2.2.2.2.2.2.2.2.2.1), (lg_W G u11 r.2.2.2.2.2.2.2.2.2.2.1), (ot_W G u12 r.2.2.2.2.2.2.2.2.2.2.2)]
set_option maxHeartbeats 4000000 in
set_option maxRecDepth 100000 in
theorem c_L_unlink (l : Launch) (hl0 : l.stackTraces = false) (t : Nat) (G : sk_G) (u0 u1 u2 u3 u4 u5 u6 u7 u8 u9 u10 u11 u12 : Nat → Nat) (a0_thought a0_ahead a0_script : Nat) (S1 : sk_N) (S2 : sk_N) (S3 : sk_N) (S4 : sk_N) (S5 : sk_N) (S6 : sk_N) (S7 : sk_N) (S8 : sk_N) (S9 : sk_N) (S10 : sk_N) (S11 : sk_N) (S12 : sk_O) (p2 : Int32) (p3 : Int32) : sk_wtr l G t yL_unlink cL_unlink 5 (some .int) [(0, 10, 13, 21), (0, 10, 17, 15)] rm_L_unlink 3 18 [.ref (u0 0), .int p2, .int p3, .ref (u12 0)] [(pc_W u0 (u1 0) a0_thought a0_ahead (u3 0) a0_script), (nt_W G u1 (u2 0) S1), (lg_W G u2 S2), (sv_W G u3 (u4 0) (u6 0) (u8 0) (u10 0) S3), (nt_W G u4 (u5 0) S4), (lg_W G u5 S5), (nt_W G u6 (u7 0) S6), (lg_W G u7 S7), (nt_W G u8 (u9 0) S8), (lg_W G u9 S9), (nt_W G u10 (u11 0) S10), (lg_W G u11 S11), (ot_W G u12 S12)] (m_L_unlink S1 S2 S3 S4 S5 S6 S7 S8 S9 S10 S11 S12 p2 p3) o_L_unlink (w_L_unlink G u0 u1 u2 u3 u4 u5 u6 u7 u8 u9 u10 u11 u12 a0_thought a0_ahead a0_script S2) := by
  refine sk_wentry (own := RL) (by decide) rfl (lv0 := [some (.ref (u0 0)), some (.int p2), some (.int p3), some (.ref (u12 0)), none]) rfl (Nat.le_of_ble_eq_true rfl) ?_
  intro Γ X E
  unfold m_L_unlink
  refine sk_aload_n (pc' := 1) X rfl dL_unlink_0 rfl ?_
  refine sk_iconst (pc' := 2) X ic_0 dL_unlink_1 rfl ?_
  refine sk_aload_n (pc' := 3) X rfl dL_unlink_2 rfl ?_
  refine sk_iload_n (pc' := 4) X rfl dL_unlink_3 rfl ?_
  refine sk_iload_n (pc' := 5) X rfl dL_unlink_4 rfl ?_
  refine sk_callVH2 (bs2 := fun r5 => [(pc_W u0 (u1 0) a0_thought a0_ahead (u3 0) a0_script), (nt_W G u1 (u2 0) r5.2.1), (lg_W G u2 S2), (sv_W G u3 (u4 0) (u6 0) (u8 0) (u10 0) r5.2.2.1), (nt_W G u4 (u5 0) r5.2.2.2.1), (lg_W G u5 r5.2.2.2.2.1), (nt_W G u6 (u7 0) r5.2.2.2.2.2.1), (lg_W G u7 r5.2.2.2.2.2.2.1), (nt_W G u8 (u9 0) r5.2.2.2.2.2.2.2.1), (lg_W G u9 r5.2.2.2.2.2.2.2.2.1), (nt_W G u10 (u11 0) r5.2.2.2.2.2.2.2.2.2.1), (lg_W G u11 r5.2.2.2.2.2.2.2.2.2.2), (ot_W G u12 S12)]) (st := [.int (0 : Int32), .ref (u12 0)]) (st2 := fun r5 => [.int r5.1, .int (0 : Int32), .ref (u12 0)]) (As := [.int p2, .int p3]) (pc' := 8) X E (c_X4_unlink l hl0 t G u0 u1 u2 u3 u4 u5 u6 u7 u8 u9 u10 u11 a0_thought a0_ahead a0_script S1 S2 S3 S4 S5 S6 S7 S8 S9 S10 S11 p2 p3) lk_RL_36 [0, 1, 2, 3, 4, 5, 6, 7, 8, 9, 10, 11] rfl (by decide) (fun _ => rfl) rfl rfl rfl ⟨(Nat.le_of_ble_eq_true rfl), (Nat.le_of_ble_eq_true rfl)⟩ ⟨rfl, rfl⟩ ⟨(Nat.le_of_ble_eq_true rfl), (Nat.le_of_ble_eq_true rfl)⟩ rfl (Nat.le_of_ble_eq_true rfl) rfl dL_unlink_5 rfl (fun _ => rfl) rfl (fun _ => rfl) 3 (by decide) (by decide) q_648 rfl 2 (by decide) (by decide) q_553 rfl (by decide) (fun r5 => ?_) ?_ ?_
  · refine sk_i2l (pc' := 9) X dL_unlink_8 rfl ?_
    refine sk_last (bs' := [(pc_W u0 (u1 0) a0_thought a0_ahead (u3 0) a0_script), (nt_W G u1 (u2 0) r5.2.1), (lg_W G u2 S2), (sv_W G u3 (u4 0) (u6 0) (u8 0) (u10 0) r5.2.2.1), (nt_W G u4 (u5 0) r5.2.2.2.1), (lg_W G u5 r5.2.2.2.2.1), (nt_W G u6 (u7 0) r5.2.2.2.2.2.1), (lg_W G u7 r5.2.2.2.2.2.2.1), (nt_W G u8 (u9 0) r5.2.2.2.2.2.2.2.1), (lg_W G u9 r5.2.2.2.2.2.2.2.2.1), (nt_W G u10 (u11 0) r5.2.2.2.2.2.2.2.2.2.1), (lg_W G u11 r5.2.2.2.2.2.2.2.2.2.2), (ot_W G u12 (vp_updL S12 ((0 : Int32)).toNatClampNeg (r5.1).toInt64))]) (pc' := 10) X 12 0 rfl rfl (sk_st 12 (ot_st_0 ..) rfl) dL_unlink_9 rfl ?_
    refine sk_lt (bsf := fun z => [(pc_W u0 (u1 0) a0_thought a0_ahead (u3 0) a0_script), (nt_W G u1 (u2 0) r5.2.1), (lg_W G u2 S2), (sv_W G u3 (u4 0) (u6 0) (u8 0) (u10 0) r5.2.2.1), (nt_W G u4 (u5 0) r5.2.2.2.1), (lg_W G u5 r5.2.2.2.2.1), (nt_W G u6 (u7 0) r5.2.2.2.2.2.1), (lg_W G u7 r5.2.2.2.2.2.2.1), (nt_W G u8 (u9 0) r5.2.2.2.2.2.2.2.1), (lg_W G u9 r5.2.2.2.2.2.2.2.2.1), (nt_W G u10 (u11 0) r5.2.2.2.2.2.2.2.2.2.1), (lg_W G u11 r5.2.2.2.2.2.2.2.2.2.2), (ot_W G u12 z)]) (lvf := fun _ => [some (.ref (u0 0)), some (.int p2), some (.int p3), some (.ref (u12 0)), none]) (stf := fun _ => []) (fun N9 => ?_)
    refine sk_goto (tgt := 21) X dL_unlink_10 rfl ?_
    refine sk_iconst (pc' := 22) X ic_0 dL_unlink_21 rfl ?_
    exact sk_wiret X (Nat.le_of_ble_eq_true rfl) (Nat.le_of_ble_eq_true rfl) rfl rfl dL_unlink_22
  · intro q0
    refine sk_astore (lv' := [some (.ref (u0 0)), some (.int p2), some (.int p3), some (.ref (u12 0)), some (.ref q0)]) (pc' := 15) X (Nat.le_of_ble_eq_true rfl) rfl rfl dL_unlink_13 rfl ?_
    refine sk_iconst (pc' := 16) X ic_1 dL_unlink_15 rfl ?_
    exact sk_wiret X (Nat.le_of_ble_eq_true rfl) (Nat.le_of_ble_eq_true rfl) rfl rfl dL_unlink_16
  · intro q1
    refine sk_astore (lv' := [some (.ref (u0 0)), some (.int p2), some (.int p3), some (.ref (u12 0)), some (.ref q1)]) (pc' := 19) X (Nat.le_of_ble_eq_true rfl) rfl rfl dL_unlink_17 rfl ?_
    refine sk_iconst (pc' := 20) X ic_2 dL_unlink_19 rfl ?_
    exact sk_wiret X (Nat.le_of_ble_eq_true rfl) (Nat.le_of_ble_eq_true rfl) rfl rfl dL_unlink_20
def rm_L_setPeriod : Room := { frames := 7, cells := 1, slots := 6, locals := 124 }
def o_L_setPeriod : (Int32 × sk_N × sk_N × sk_N × sk_N × sk_N × sk_N × sk_N × sk_N × sk_N × sk_N × sk_O) → Option Value := fun r => some (.int r.1)
def w_L_setPeriod (G : sk_G) (u0 u1 u2 u3 u4 u5 u6 u7 u8 u9 u10 u11 u12 : Nat → Nat) (a0_thought a0_ahead a0_script : Nat) (S2 : sk_N) : (Int32 × sk_N × sk_N × sk_N × sk_N × sk_N × sk_N × sk_N × sk_N × sk_N × sk_N × sk_O) → sk_B := fun r => [(pc_W u0 (u1 0) a0_thought a0_ahead (u3 0) a0_script), (nt_W G u1 (u2 0) r.2.1), (lg_W G u2 S2), (sv_W G u3 (u4 0) (u6 0) (u8 0) (u10 0) r.2.2.1), (nt_W G u4 (u5 0) r.2.2.2.1), (lg_W G u5 r.2.2.2.2.1), (nt_W G u6 (u7 0) r.2.2.2.2.2.1), (lg_W G u7 r.2.2.2.2.2.2.1), (nt_W G u8 (u9 0) r.2.2.2.2.2.2.2.1), (lg_W G u9 r.2.2.2.2.2.2.2.2.1), (nt_W G u10 (u11 0) r.2.2.2.2.2.2.2.2.2.1), (lg_W G u11 r.2.2.2.2.2.2.2.2.2.2.1), (ot_W G u12 r.2.2.2.2.2.2.2.2.2.2.2)]
set_option maxHeartbeats 4000000 in
set_option maxRecDepth 100000 in
theorem c_L_setPeriod (l : Launch) (hl0 : l.stackTraces = false) (t : Nat) (G : sk_G) (u0 u1 u2 u3 u4 u5 u6 u7 u8 u9 u10 u11 u12 : Nat → Nat) (a0_thought a0_ahead a0_script : Nat) (S1 : sk_N) (S2 : sk_N) (S3 : sk_N) (S4 : sk_N) (S5 : sk_N) (S6 : sk_N) (S7 : sk_N) (S8 : sk_N) (S9 : sk_N) (S10 : sk_N) (S11 : sk_N) (S12 : sk_O) (p2 : Int32) : sk_wtr l G t yL_setPeriod cL_setPeriod 4 (some .int) [(0, 9, 12, 13)] rm_L_setPeriod 1 6 [.ref (u0 0), .int p2, .ref (u12 0)] [(pc_W u0 (u1 0) a0_thought a0_ahead (u3 0) a0_script), (nt_W G u1 (u2 0) S1), (lg_W G u2 S2), (sv_W G u3 (u4 0) (u6 0) (u8 0) (u10 0) S3), (nt_W G u4 (u5 0) S4), (lg_W G u5 S5), (nt_W G u6 (u7 0) S6), (lg_W G u7 S7), (nt_W G u8 (u9 0) S8), (lg_W G u9 S9), (nt_W G u10 (u11 0) S10), (lg_W G u11 S11), (ot_W G u12 S12)] (m_L_setPeriod S1 S2 S3 S4 S5 S6 S7 S8 S9 S10 S11 S12 p2) o_L_setPeriod (w_L_setPeriod G u0 u1 u2 u3 u4 u5 u6 u7 u8 u9 u10 u11 u12 a0_thought a0_ahead a0_script S2) := by
  refine sk_wentry (own := RL) (by decide) rfl (lv0 := [some (.ref (u0 0)), some (.int p2), some (.ref (u12 0)), none]) rfl (Nat.le_of_ble_eq_true rfl) ?_
  intro Γ X E
  unfold m_L_setPeriod
  refine sk_aload_n (pc' := 1) X rfl dL_setPeriod_0 rfl ?_
  refine sk_iconst (pc' := 2) X ic_0 dL_setPeriod_1 rfl ?_
  refine sk_aload_n (pc' := 3) X rfl dL_setPeriod_2 rfl ?_
  refine sk_iload_n (pc' := 4) X rfl dL_setPeriod_3 rfl ?_
  refine sk_callVH1 (bs2 := fun r4 => [(pc_W u0 (u1 0) a0_thought a0_ahead (u3 0) a0_script), (nt_W G u1 (u2 0) r4.2.1), (lg_W G u2 S2), (sv_W G u3 (u4 0) (u6 0) (u8 0) (u10 0) r4.2.2.1), (nt_W G u4 (u5 0) r4.2.2.2.1), (lg_W G u5 r4.2.2.2.2.1), (nt_W G u6 (u7 0) r4.2.2.2.2.2.1), (lg_W G u7 r4.2.2.2.2.2.2.1), (nt_W G u8 (u9 0) r4.2.2.2.2.2.2.2.1), (lg_W G u9 r4.2.2.2.2.2.2.2.2.1), (nt_W G u10 (u11 0) r4.2.2.2.2.2.2.2.2.2.1), (lg_W G u11 r4.2.2.2.2.2.2.2.2.2.2), (ot_W G u12 S12)]) (st := [.int (0 : Int32), .ref (u12 0)]) (st2 := fun r4 => [.int r4.1, .int (0 : Int32), .ref (u12 0)]) (As := [.int p2]) (pc' := 7) X E (c_X4_setPeriod l hl0 t G u0 u1 u2 u3 u4 u5 u6 u7 u8 u9 u10 u11 a0_thought a0_ahead a0_script S1 S2 S3 S4 S5 S6 S7 S8 S9 S10 S11 p2) lk_RL_39 [0, 1, 2, 3, 4, 5, 6, 7, 8, 9, 10, 11] rfl (by decide) (fun _ => rfl) rfl rfl rfl ⟨(Nat.le_of_ble_eq_true rfl), (Nat.le_of_ble_eq_true rfl)⟩ ⟨rfl, rfl⟩ ⟨(Nat.le_of_ble_eq_true rfl), (Nat.le_of_ble_eq_true rfl)⟩ rfl (Nat.le_of_ble_eq_true rfl) rfl dL_setPeriod_4 rfl (fun _ => rfl) rfl (fun _ => rfl) 1 (by decide) (by decide) q_552 rfl (fun r4 => ?_) ?_
  · refine sk_i2l (pc' := 8) X dL_setPeriod_7 rfl ?_
    refine sk_last (bs' := [(pc_W u0 (u1 0) a0_thought a0_ahead (u3 0) a0_script), (nt_W G u1 (u2 0) r4.2.1), (lg_W G u2 S2), (sv_W G u3 (u4 0) (u6 0) (u8 0) (u10 0) r4.2.2.1), (nt_W G u4 (u5 0) r4.2.2.2.1), (lg_W G u5 r4.2.2.2.2.1), (nt_W G u6 (u7 0) r4.2.2.2.2.2.1), (lg_W G u7 r4.2.2.2.2.2.2.1), (nt_W G u8 (u9 0) r4.2.2.2.2.2.2.2.1), (lg_W G u9 r4.2.2.2.2.2.2.2.2.1), (nt_W G u10 (u11 0) r4.2.2.2.2.2.2.2.2.2.1), (lg_W G u11 r4.2.2.2.2.2.2.2.2.2.2), (ot_W G u12 (vp_updL S12 ((0 : Int32)).toNatClampNeg (r4.1).toInt64))]) (pc' := 9) X 12 0 rfl rfl (sk_st 12 (ot_st_0 ..) rfl) dL_setPeriod_8 rfl ?_
    refine sk_lt (bsf := fun z => [(pc_W u0 (u1 0) a0_thought a0_ahead (u3 0) a0_script), (nt_W G u1 (u2 0) r4.2.1), (lg_W G u2 S2), (sv_W G u3 (u4 0) (u6 0) (u8 0) (u10 0) r4.2.2.1), (nt_W G u4 (u5 0) r4.2.2.2.1), (lg_W G u5 r4.2.2.2.2.1), (nt_W G u6 (u7 0) r4.2.2.2.2.2.1), (lg_W G u7 r4.2.2.2.2.2.2.1), (nt_W G u8 (u9 0) r4.2.2.2.2.2.2.2.1), (lg_W G u9 r4.2.2.2.2.2.2.2.2.1), (nt_W G u10 (u11 0) r4.2.2.2.2.2.2.2.2.2.1), (lg_W G u11 r4.2.2.2.2.2.2.2.2.2.2), (ot_W G u12 z)]) (lvf := fun _ => [some (.ref (u0 0)), some (.int p2), some (.ref (u12 0)), none]) (stf := fun _ => []) (fun N8 => ?_)
    refine sk_goto (tgt := 15) X dL_setPeriod_9 rfl ?_
    refine sk_iconst (pc' := 16) X ic_0 dL_setPeriod_15 rfl ?_
    exact sk_wiret X (Nat.le_of_ble_eq_true rfl) (Nat.le_of_ble_eq_true rfl) rfl rfl dL_setPeriod_16
  · intro q0
    refine sk_astore_n (lv' := [some (.ref (u0 0)), some (.int p2), some (.ref (u12 0)), some (.ref q0)]) (pc' := 13) X (Nat.le_of_ble_eq_true rfl) rfl rfl dL_setPeriod_12 rfl ?_
    refine sk_iconst (pc' := 14) X ic_1 dL_setPeriod_13 rfl ?_
    exact sk_wiret X (Nat.le_of_ble_eq_true rfl) (Nat.le_of_ble_eq_true rfl) rfl rfl dL_setPeriod_14
def rm_L_setResponse : Room := { frames := 7, cells := 1, slots := 6, locals := 125 }
def o_L_setResponse : (Int32 × sk_N × sk_N × sk_N × sk_N × sk_N × sk_N × sk_N × sk_N × sk_N × sk_N × sk_O) → Option Value := fun r => some (.int r.1)
def w_L_setResponse (G : sk_G) (u0 u1 u2 u3 u4 u5 u6 u7 u8 u9 u10 u11 u12 : Nat → Nat) (a0_thought a0_ahead a0_script : Nat) (S2 : sk_N) : (Int32 × sk_N × sk_N × sk_N × sk_N × sk_N × sk_N × sk_N × sk_N × sk_N × sk_N × sk_O) → sk_B := fun r => [(pc_W u0 (u1 0) a0_thought a0_ahead (u3 0) a0_script), (nt_W G u1 (u2 0) r.2.1), (lg_W G u2 S2), (sv_W G u3 (u4 0) (u6 0) (u8 0) (u10 0) r.2.2.1), (nt_W G u4 (u5 0) r.2.2.2.1), (lg_W G u5 r.2.2.2.2.1), (nt_W G u6 (u7 0) r.2.2.2.2.2.1), (lg_W G u7 r.2.2.2.2.2.2.1), (nt_W G u8 (u9 0) r.2.2.2.2.2.2.2.1), (lg_W G u9 r.2.2.2.2.2.2.2.2.1), (nt_W G u10 (u11 0) r.2.2.2.2.2.2.2.2.2.1), (lg_W G u11 r.2.2.2.2.2.2.2.2.2.2.1), (ot_W G u12 r.2.2.2.2.2.2.2.2.2.2.2)]
set_option maxHeartbeats 4000000 in
set_option maxRecDepth 100000 in
theorem c_L_setResponse (l : Launch) (hl0 : l.stackTraces = false) (t : Nat) (G : sk_G) (u0 u1 u2 u3 u4 u5 u6 u7 u8 u9 u10 u11 u12 : Nat → Nat) (a0_thought a0_ahead a0_script : Nat) (S1 : sk_N) (S2 : sk_N) (S3 : sk_N) (S4 : sk_N) (S5 : sk_N) (S6 : sk_N) (S7 : sk_N) (S8 : sk_N) (S9 : sk_N) (S10 : sk_N) (S11 : sk_N) (S12 : sk_O) (p2 : Int32) (p3 : Int32) : sk_wtr l G t yL_setResponse cL_setResponse 5 (some .int) [(0, 10, 13, 13)] rm_L_setResponse 1 6 [.ref (u0 0), .int p2, .int p3, .ref (u12 0)] [(pc_W u0 (u1 0) a0_thought a0_ahead (u3 0) a0_script), (nt_W G u1 (u2 0) S1), (lg_W G u2 S2), (sv_W G u3 (u4 0) (u6 0) (u8 0) (u10 0) S3), (nt_W G u4 (u5 0) S4), (lg_W G u5 S5), (nt_W G u6 (u7 0) S6), (lg_W G u7 S7), (nt_W G u8 (u9 0) S8), (lg_W G u9 S9), (nt_W G u10 (u11 0) S10), (lg_W G u11 S11), (ot_W G u12 S12)] (m_L_setResponse S1 S2 S3 S4 S5 S6 S7 S8 S9 S10 S11 S12 p2 p3) o_L_setResponse (w_L_setResponse G u0 u1 u2 u3 u4 u5 u6 u7 u8 u9 u10 u11 u12 a0_thought a0_ahead a0_script S2) := by
  refine sk_wentry (own := RL) (by decide) rfl (lv0 := [some (.ref (u0 0)), some (.int p2), some (.int p3), some (.ref (u12 0)), none]) rfl (Nat.le_of_ble_eq_true rfl) ?_
  intro Γ X E
  unfold m_L_setResponse
  refine sk_aload_n (pc' := 1) X rfl dL_setResponse_0 rfl ?_
  refine sk_iconst (pc' := 2) X ic_0 dL_setResponse_1 rfl ?_
  refine sk_aload_n (pc' := 3) X rfl dL_setResponse_2 rfl ?_
  refine sk_iload_n (pc' := 4) X rfl dL_setResponse_3 rfl ?_
  refine sk_iload_n (pc' := 5) X rfl dL_setResponse_4 rfl ?_
  refine sk_callVH1 (bs2 := fun r5 => [(pc_W u0 (u1 0) a0_thought a0_ahead (u3 0) a0_script), (nt_W G u1 (u2 0) r5.2.1), (lg_W G u2 S2), (sv_W G u3 (u4 0) (u6 0) (u8 0) (u10 0) r5.2.2.1), (nt_W G u4 (u5 0) r5.2.2.2.1), (lg_W G u5 r5.2.2.2.2.1), (nt_W G u6 (u7 0) r5.2.2.2.2.2.1), (lg_W G u7 r5.2.2.2.2.2.2.1), (nt_W G u8 (u9 0) r5.2.2.2.2.2.2.2.1), (lg_W G u9 r5.2.2.2.2.2.2.2.2.1), (nt_W G u10 (u11 0) r5.2.2.2.2.2.2.2.2.2.1), (lg_W G u11 r5.2.2.2.2.2.2.2.2.2.2), (ot_W G u12 S12)]) (st := [.int (0 : Int32), .ref (u12 0)]) (st2 := fun r5 => [.int r5.1, .int (0 : Int32), .ref (u12 0)]) (As := [.int p2, .int p3]) (pc' := 8) X E (c_X4_setResponse l hl0 t G u0 u1 u2 u3 u4 u5 u6 u7 u8 u9 u10 u11 a0_thought a0_ahead a0_script S1 S2 S3 S4 S5 S6 S7 S8 S9 S10 S11 p2 p3) lk_RL_42 [0, 1, 2, 3, 4, 5, 6, 7, 8, 9, 10, 11] rfl (by decide) (fun _ => rfl) rfl rfl rfl ⟨(Nat.le_of_ble_eq_true rfl), (Nat.le_of_ble_eq_true rfl)⟩ ⟨rfl, rfl⟩ ⟨(Nat.le_of_ble_eq_true rfl), (Nat.le_of_ble_eq_true rfl)⟩ rfl (Nat.le_of_ble_eq_true rfl) rfl dL_setResponse_5 rfl (fun _ => rfl) rfl (fun _ => rfl) 1 (by decide) (by decide) q_552 rfl (fun r5 => ?_) ?_
  · refine sk_i2l (pc' := 9) X dL_setResponse_8 rfl ?_
    refine sk_last (bs' := [(pc_W u0 (u1 0) a0_thought a0_ahead (u3 0) a0_script), (nt_W G u1 (u2 0) r5.2.1), (lg_W G u2 S2), (sv_W G u3 (u4 0) (u6 0) (u8 0) (u10 0) r5.2.2.1), (nt_W G u4 (u5 0) r5.2.2.2.1), (lg_W G u5 r5.2.2.2.2.1), (nt_W G u6 (u7 0) r5.2.2.2.2.2.1), (lg_W G u7 r5.2.2.2.2.2.2.1), (nt_W G u8 (u9 0) r5.2.2.2.2.2.2.2.1), (lg_W G u9 r5.2.2.2.2.2.2.2.2.1), (nt_W G u10 (u11 0) r5.2.2.2.2.2.2.2.2.2.1), (lg_W G u11 r5.2.2.2.2.2.2.2.2.2.2), (ot_W G u12 (vp_updL S12 ((0 : Int32)).toNatClampNeg (r5.1).toInt64))]) (pc' := 10) X 12 0 rfl rfl (sk_st 12 (ot_st_0 ..) rfl) dL_setResponse_9 rfl ?_
    refine sk_lt (bsf := fun z => [(pc_W u0 (u1 0) a0_thought a0_ahead (u3 0) a0_script), (nt_W G u1 (u2 0) r5.2.1), (lg_W G u2 S2), (sv_W G u3 (u4 0) (u6 0) (u8 0) (u10 0) r5.2.2.1), (nt_W G u4 (u5 0) r5.2.2.2.1), (lg_W G u5 r5.2.2.2.2.1), (nt_W G u6 (u7 0) r5.2.2.2.2.2.1), (lg_W G u7 r5.2.2.2.2.2.2.1), (nt_W G u8 (u9 0) r5.2.2.2.2.2.2.2.1), (lg_W G u9 r5.2.2.2.2.2.2.2.2.1), (nt_W G u10 (u11 0) r5.2.2.2.2.2.2.2.2.2.1), (lg_W G u11 r5.2.2.2.2.2.2.2.2.2.2), (ot_W G u12 z)]) (lvf := fun _ => [some (.ref (u0 0)), some (.int p2), some (.int p3), some (.ref (u12 0)), none]) (stf := fun _ => []) (fun N9 => ?_)
    refine sk_goto (tgt := 17) X dL_setResponse_10 rfl ?_
    refine sk_iconst (pc' := 18) X ic_0 dL_setResponse_17 rfl ?_
    exact sk_wiret X (Nat.le_of_ble_eq_true rfl) (Nat.le_of_ble_eq_true rfl) rfl rfl dL_setResponse_18
  · intro q0
    refine sk_astore (lv' := [some (.ref (u0 0)), some (.int p2), some (.int p3), some (.ref (u12 0)), some (.ref q0)]) (pc' := 15) X (Nat.le_of_ble_eq_true rfl) rfl rfl dL_setResponse_13 rfl ?_
    refine sk_iconst (pc' := 16) X ic_1 dL_setResponse_15 rfl ?_
    exact sk_wiret X (Nat.le_of_ble_eq_true rfl) (Nat.le_of_ble_eq_true rfl) rfl rfl dL_setResponse_16
def rm_L_clock : Room := { frames := 8, cells := 2, slots := 12, locals := 133 }
def o_L_clock : (Int32 × sk_O) → Option Value := fun r => some (.int r.1)
def w_L_clock (G : sk_G) (u0 u1 u2 : Nat → Nat) (a0_thought a0_ahead a0_savings a0_script a1_log : Nat) (S1 : sk_N) : (Int32 × sk_O) → sk_B := fun r => [(pc_W u0 (u1 0) a0_thought a0_ahead a0_savings a0_script), (nt_W G u1 a1_log S1), (ot_W G u2 r.2)]
set_option maxHeartbeats 4000000 in
set_option maxRecDepth 100000 in
theorem c_L_clock (l : Launch) (hl0 : l.stackTraces = false) (t : Nat) (G : sk_G) (u0 u1 u2 : Nat → Nat) (a0_thought a0_ahead a0_savings a0_script a1_log : Nat) (S1 : sk_N) (S2 : sk_O) (p2 : Int32) (p3 : Int32) : sk_wtr l G t yL_clock cL_clock 5 (some .int) [(0, 10, 13, 21), (0, 10, 17, 13)] rm_L_clock 2 12 [.ref (u0 0), .int p2, .int p3, .ref (u2 0)] [(pc_W u0 (u1 0) a0_thought a0_ahead a0_savings a0_script), (nt_W G u1 a1_log S1), (ot_W G u2 S2)] (m_L_clock S1 S2 p2 p3) o_L_clock (w_L_clock G u0 u1 u2 a0_thought a0_ahead a0_savings a0_script a1_log S1) := by
  refine sk_wentry (own := RL) (by decide) rfl (lv0 := [some (.ref (u0 0)), some (.int p2), some (.int p3), some (.ref (u2 0)), none]) rfl (Nat.le_of_ble_eq_true rfl) ?_
  intro Γ X E
  unfold m_L_clock
  refine sk_aload_n (pc' := 1) X rfl dL_clock_0 rfl ?_
  refine sk_iconst (pc' := 2) X ic_0 dL_clock_1 rfl ?_
  refine sk_aload_n (pc' := 3) X rfl dL_clock_2 rfl ?_
  refine sk_iload_n (pc' := 4) X rfl dL_clock_3 rfl ?_
  refine sk_iload_n (pc' := 5) X rfl dL_clock_4 rfl ?_
  refine sk_callVH2 (bs2 := fun r5 => [(pc_W u0 (u1 0) a0_thought a0_ahead a0_savings a0_script), (nt_W G u1 a1_log S1), (ot_W G u2 S2)]) (st := [.int (0 : Int32), .ref (u2 0)]) (st2 := fun r5 => [.int r5, .int (0 : Int32), .ref (u2 0)]) (As := [.int p2, .int p3]) (pc' := 8) X E (c_X4_clock l hl0 t G u0 u1 a0_thought a0_ahead a0_savings a0_script a1_log S1 p2 p3) lk_RL_45 [0, 1] rfl (by decide) (fun _ => rfl) rfl rfl rfl ⟨(Nat.le_of_ble_eq_true rfl), (Nat.le_of_ble_eq_true rfl)⟩ ⟨rfl, rfl⟩ ⟨(Nat.le_of_ble_eq_true rfl), (Nat.le_of_ble_eq_true rfl)⟩ rfl (Nat.le_of_ble_eq_true rfl) rfl dL_clock_5 rfl (fun _ => rfl) rfl (fun _ => rfl) 3 (by decide) (by decide) q_648 rfl 1 (by decide) (by decide) q_552 rfl (by decide) (fun r5 => ?_) ?_ ?_
  · refine sk_i2l (pc' := 9) X dL_clock_8 rfl ?_
    refine sk_last (bs' := [(pc_W u0 (u1 0) a0_thought a0_ahead a0_savings a0_script), (nt_W G u1 a1_log S1), (ot_W G u2 (vp_updL S2 ((0 : Int32)).toNatClampNeg (r5).toInt64))]) (pc' := 10) X 2 0 rfl rfl (sk_st 2 (ot_st_0 ..) rfl) dL_clock_9 rfl ?_
    refine sk_lt (bsf := fun z => [(pc_W u0 (u1 0) a0_thought a0_ahead a0_savings a0_script), (nt_W G u1 a1_log S1), (ot_W G u2 z)]) (lvf := fun _ => [some (.ref (u0 0)), some (.int p2), some (.int p3), some (.ref (u2 0)), none]) (stf := fun _ => []) (fun N9 => ?_)
    refine sk_goto (tgt := 21) X dL_clock_10 rfl ?_
    refine sk_iconst (pc' := 22) X ic_0 dL_clock_21 rfl ?_
    exact sk_wiret X (Nat.le_of_ble_eq_true rfl) (Nat.le_of_ble_eq_true rfl) rfl rfl dL_clock_22
  · intro q0
    refine sk_astore (lv' := [some (.ref (u0 0)), some (.int p2), some (.int p3), some (.ref (u2 0)), some (.ref q0)]) (pc' := 15) X (Nat.le_of_ble_eq_true rfl) rfl rfl dL_clock_13 rfl ?_
    refine sk_iconst (pc' := 16) X ic_1 dL_clock_15 rfl ?_
    exact sk_wiret X (Nat.le_of_ble_eq_true rfl) (Nat.le_of_ble_eq_true rfl) rfl rfl dL_clock_16
  · intro q1
    refine sk_astore (lv' := [some (.ref (u0 0)), some (.int p2), some (.int p3), some (.ref (u2 0)), some (.ref q1)]) (pc' := 19) X (Nat.le_of_ble_eq_true rfl) rfl rfl dL_clock_17 rfl ?_
    refine sk_iconst (pc' := 20) X ic_2 dL_clock_19 rfl ?_
    exact sk_wiret X (Nat.le_of_ble_eq_true rfl) (Nat.le_of_ble_eq_true rfl) rfl rfl dL_clock_20
def rm_L_linkOf : Room := { frames := 8, cells := 2, slots := 12, locals := 133 }
def o_L_linkOf : (Int32 × sk_O) → Option Value := fun r => some (.int r.1)
def w_L_linkOf (G : sk_G) (u0 u1 u2 : Nat → Nat) (a0_thought a0_ahead a0_savings a0_script a1_log : Nat) (S1 : sk_N) : (Int32 × sk_O) → sk_B := fun r => [(pc_W u0 (u1 0) a0_thought a0_ahead a0_savings a0_script), (nt_W G u1 a1_log S1), (ot_W G u2 r.2)]
set_option maxHeartbeats 4000000 in
set_option maxRecDepth 100000 in
theorem c_L_linkOf (l : Launch) (hl0 : l.stackTraces = false) (t : Nat) (G : sk_G) (u0 u1 u2 : Nat → Nat) (a0_thought a0_ahead a0_savings a0_script a1_log : Nat) (S1 : sk_N) (S2 : sk_O) (p2 : Int32) (p3 : Int32) : sk_wtr l G t yL_linkOf cL_linkOf 5 (some .int) [(0, 10, 13, 21)] rm_L_linkOf 2 12 [.ref (u0 0), .int p2, .int p3, .ref (u2 0)] [(pc_W u0 (u1 0) a0_thought a0_ahead a0_savings a0_script), (nt_W G u1 a1_log S1), (ot_W G u2 S2)] (m_L_linkOf S1 S2 p2 p3) o_L_linkOf (w_L_linkOf G u0 u1 u2 a0_thought a0_ahead a0_savings a0_script a1_log S1) := by
  refine sk_wentry (own := RL) (by decide) rfl (lv0 := [some (.ref (u0 0)), some (.int p2), some (.int p3), some (.ref (u2 0)), none]) rfl (Nat.le_of_ble_eq_true rfl) ?_
  intro Γ X E
  unfold m_L_linkOf
  refine sk_aload_n (pc' := 1) X rfl dL_linkOf_0 rfl ?_
  refine sk_iconst (pc' := 2) X ic_0 dL_linkOf_1 rfl ?_
  refine sk_aload_n (pc' := 3) X rfl dL_linkOf_2 rfl ?_
  refine sk_iload_n (pc' := 4) X rfl dL_linkOf_3 rfl ?_
  refine sk_iload_n (pc' := 5) X rfl dL_linkOf_4 rfl ?_
  refine sk_callVH1 (bs2 := fun r5 => [(pc_W u0 (u1 0) a0_thought a0_ahead a0_savings a0_script), (nt_W G u1 a1_log S1), (ot_W G u2 S2)]) (st := [.int (0 : Int32), .ref (u2 0)]) (st2 := fun r5 => [.int r5, .int (0 : Int32), .ref (u2 0)]) (As := [.int p2, .int p3]) (pc' := 8) X E (c_X4_linkOf l hl0 t G u0 u1 a0_thought a0_ahead a0_savings a0_script a1_log S1 p2 p3) lk_RL_48 [0, 1] rfl (by decide) (fun _ => rfl) rfl rfl rfl ⟨(Nat.le_of_ble_eq_true rfl), (Nat.le_of_ble_eq_true rfl)⟩ ⟨rfl, rfl⟩ ⟨(Nat.le_of_ble_eq_true rfl), (Nat.le_of_ble_eq_true rfl)⟩ rfl (Nat.le_of_ble_eq_true rfl) rfl dL_linkOf_5 rfl (fun _ => rfl) rfl (fun _ => rfl) 3 (by decide) (by decide) q_648 rfl (fun r5 => ?_) ?_
  · refine sk_i2l (pc' := 9) X dL_linkOf_8 rfl ?_
    refine sk_last (bs' := [(pc_W u0 (u1 0) a0_thought a0_ahead a0_savings a0_script), (nt_W G u1 a1_log S1), (ot_W G u2 (vp_updL S2 ((0 : Int32)).toNatClampNeg (r5).toInt64))]) (pc' := 10) X 2 0 rfl rfl (sk_st 2 (ot_st_0 ..) rfl) dL_linkOf_9 rfl ?_
    refine sk_lt (bsf := fun z => [(pc_W u0 (u1 0) a0_thought a0_ahead a0_savings a0_script), (nt_W G u1 a1_log S1), (ot_W G u2 z)]) (lvf := fun _ => [some (.ref (u0 0)), some (.int p2), some (.int p3), some (.ref (u2 0)), none]) (stf := fun _ => []) (fun N9 => ?_)
    refine sk_goto (tgt := 17) X dL_linkOf_10 rfl ?_
    refine sk_iconst (pc' := 18) X ic_0 dL_linkOf_17 rfl ?_
    exact sk_wiret X (Nat.le_of_ble_eq_true rfl) (Nat.le_of_ble_eq_true rfl) rfl rfl dL_linkOf_18
  · intro q0
    refine sk_astore (lv' := [some (.ref (u0 0)), some (.int p2), some (.int p3), some (.ref (u2 0)), some (.ref q0)]) (pc' := 15) X (Nat.le_of_ble_eq_true rfl) rfl rfl dL_linkOf_13 rfl ?_
    refine sk_iconst (pc' := 16) X ic_1 dL_linkOf_15 rfl ?_
    exact sk_wiret X (Nat.le_of_ble_eq_true rfl) (Nat.le_of_ble_eq_true rfl) rfl rfl dL_linkOf_16
def rm_L_distance : Room := { frames := 8, cells := 2, slots := 12, locals := 133 }
def o_L_distance : (Int32 × sk_O) → Option Value := fun r => some (.int r.1)
def w_L_distance (G : sk_G) (u0 u1 u2 : Nat → Nat) (a0_thought a0_ahead a0_savings a0_script a1_log : Nat) (S1 : sk_N) : (Int32 × sk_O) → sk_B := fun r => [(pc_W u0 (u1 0) a0_thought a0_ahead a0_savings a0_script), (nt_W G u1 a1_log S1), (ot_W G u2 r.2)]
set_option maxHeartbeats 4000000 in
set_option maxRecDepth 100000 in
theorem c_L_distance (l : Launch) (hl0 : l.stackTraces = false) (t : Nat) (G : sk_G) (u0 u1 u2 : Nat → Nat) (a0_thought a0_ahead a0_savings a0_script a1_log : Nat) (S1 : sk_N) (S2 : sk_O) (p2 : Int32) (p3 : Int32) : sk_wtr l G t yL_distance cL_distance 5 (some .int) [(0, 10, 13, 21)] rm_L_distance 2 12 [.ref (u0 0), .int p2, .int p3, .ref (u2 0)] [(pc_W u0 (u1 0) a0_thought a0_ahead a0_savings a0_script), (nt_W G u1 a1_log S1), (ot_W G u2 S2)] (m_L_distance S1 S2 p2 p3) o_L_distance (w_L_distance G u0 u1 u2 a0_thought a0_ahead a0_savings a0_script a1_log S1) := by
  refine sk_wentry (own := RL) (by decide) rfl (lv0 := [some (.ref (u0 0)), some (.int p2), some (.int p3), some (.ref (u2 0)), none]) rfl (Nat.le_of_ble_eq_true rfl) ?_
  intro Γ X E
  unfold m_L_distance
  refine sk_aload_n (pc' := 1) X rfl dL_distance_0 rfl ?_
  refine sk_iconst (pc' := 2) X ic_0 dL_distance_1 rfl ?_
  refine sk_aload_n (pc' := 3) X rfl dL_distance_2 rfl ?_
  refine sk_iload_n (pc' := 4) X rfl dL_distance_3 rfl ?_
  refine sk_iload_n (pc' := 5) X rfl dL_distance_4 rfl ?_
  refine sk_callVH1 (bs2 := fun r5 => [(pc_W u0 (u1 0) a0_thought a0_ahead a0_savings a0_script), (nt_W G u1 a1_log S1), (ot_W G u2 S2)]) (st := [.int (0 : Int32), .ref (u2 0)]) (st2 := fun r5 => [.int r5, .int (0 : Int32), .ref (u2 0)]) (As := [.int p2, .int p3]) (pc' := 8) X E (c_X4_distance l hl0 t G u0 u1 a0_thought a0_ahead a0_savings a0_script a1_log S1 p2 p3) lk_RL_51 [0, 1] rfl (by decide) (fun _ => rfl) rfl rfl rfl ⟨(Nat.le_of_ble_eq_true rfl), (Nat.le_of_ble_eq_true rfl)⟩ ⟨rfl, rfl⟩ ⟨(Nat.le_of_ble_eq_true rfl), (Nat.le_of_ble_eq_true rfl)⟩ rfl (Nat.le_of_ble_eq_true rfl) rfl dL_distance_5 rfl (fun _ => rfl) rfl (fun _ => rfl) 3 (by decide) (by decide) q_648 rfl (fun r5 => ?_) ?_
  · refine sk_i2l (pc' := 9) X dL_distance_8 rfl ?_
    refine sk_last (bs' := [(pc_W u0 (u1 0) a0_thought a0_ahead a0_savings a0_script), (nt_W G u1 a1_log S1), (ot_W G u2 (vp_updL S2 ((0 : Int32)).toNatClampNeg (r5).toInt64))]) (pc' := 10) X 2 0 rfl rfl (sk_st 2 (ot_st_0 ..) rfl) dL_distance_9 rfl ?_
    refine sk_lt (bsf := fun z => [(pc_W u0 (u1 0) a0_thought a0_ahead a0_savings a0_script), (nt_W G u1 a1_log S1), (ot_W G u2 z)]) (lvf := fun _ => [some (.ref (u0 0)), some (.int p2), some (.int p3), some (.ref (u2 0)), none]) (stf := fun _ => []) (fun N9 => ?_)
    refine sk_goto (tgt := 17) X dL_distance_10 rfl ?_
    refine sk_iconst (pc' := 18) X ic_0 dL_distance_17 rfl ?_
    exact sk_wiret X (Nat.le_of_ble_eq_true rfl) (Nat.le_of_ble_eq_true rfl) rfl rfl dL_distance_18
  · intro q0
    refine sk_astore (lv' := [some (.ref (u0 0)), some (.int p2), some (.int p3), some (.ref (u2 0)), some (.ref q0)]) (pc' := 15) X (Nat.le_of_ble_eq_true rfl) rfl rfl dL_distance_13 rfl ?_
    refine sk_iconst (pc' := 16) X ic_1 dL_distance_15 rfl ?_
    exact sk_wiret X (Nat.le_of_ble_eq_true rfl) (Nat.le_of_ble_eq_true rfl) rfl rfl dL_distance_16
def rm_L_isNeeded : Room := { frames := 8, cells := 1, slots := 6, locals := 138 }
def o_L_isNeeded : (Int32 × sk_O) → Option Value := fun r => some (.int r.1)
def w_L_isNeeded (G : sk_G) (u0 u1 u2 : Nat → Nat) (a0_thought a0_ahead a0_savings a0_script a1_log : Nat) (S1 : sk_N) : (Int32 × sk_O) → sk_B := fun r => [(pc_W u0 (u1 0) a0_thought a0_ahead a0_savings a0_script), (nt_W G u1 a1_log S1), (ot_W G u2 r.2)]
set_option maxHeartbeats 4000000 in
set_option maxRecDepth 100000 in
theorem c_L_isNeeded (l : Launch) (hl0 : l.stackTraces = false) (t : Nat) (G : sk_G) (u0 u1 u2 : Nat → Nat) (a0_thought a0_ahead a0_savings a0_script a1_log : Nat) (S1 : sk_N) (S2 : sk_O) (p2 : Int32) : sk_wtr l G t yL_isNeeded cL_isNeeded 4 (some .int) [(0, 16, 19, 21)] rm_L_isNeeded 1 6 [.ref (u0 0), .int p2, .ref (u2 0)] [(pc_W u0 (u1 0) a0_thought a0_ahead a0_savings a0_script), (nt_W G u1 a1_log S1), (ot_W G u2 S2)] (m_L_isNeeded S1 S2 p2) o_L_isNeeded (w_L_isNeeded G u0 u1 u2 a0_thought a0_ahead a0_savings a0_script a1_log S1) := by
  refine sk_wentry (own := RL) (by decide) rfl (lv0 := [some (.ref (u0 0)), some (.int p2), some (.ref (u2 0)), none]) rfl (Nat.le_of_ble_eq_true rfl) ?_
  intro Γ X E
  have h15 : ∀ s15 : sk_O × Int32 × Int64, sk_S Γ (sk_Φw Γ o_L_isNeeded (w_L_isNeeded G u0 u1 u2 a0_thought a0_ahead a0_savings a0_script a1_log S1) 1 6) 1 6 (m_L_isNeeded_15 S1 p2 s15) [(pc_W u0 (u1 0) a0_thought a0_ahead a0_savings a0_script), (nt_W G u1 a1_log S1), (ot_W G u2 s15.1)] [none, none, none, none] 15 [.long s15.2.2, .int s15.2.1, .ref (u2 0)] := by
    intro s15
    unfold m_L_isNeeded_15
    refine sk_last (bs' := [(pc_W u0 (u1 0) a0_thought a0_ahead a0_savings a0_script), (nt_W G u1 a1_log S1), (ot_W G u2 (vp_updL s15.1 (s15.2.1).toNatClampNeg s15.2.2))]) (pc' := 16) X 2 0 rfl rfl (sk_st 2 (ot_st_0 ..) rfl) dL_isNeeded_15 rfl ?_
    refine sk_lt (bsf := fun z => [(pc_W u0 (u1 0) a0_thought a0_ahead a0_savings a0_script), (nt_W G u1 a1_log S1), (ot_W G u2 z)]) (lvf := fun _ => [none, none, none, none]) (stf := fun _ => []) (fun N15 => ?_)
    refine sk_goto (tgt := 22) X dL_isNeeded_16 rfl ?_
    refine sk_iconst (pc' := 23) X ic_0 dL_isNeeded_22 rfl ?_
    exact sk_wiret X (Nat.le_of_ble_eq_true rfl) (Nat.le_of_ble_eq_true rfl) rfl rfl dL_isNeeded_23
  unfold m_L_isNeeded
  refine sk_aload_n (pc' := 1) X rfl dL_isNeeded_0 rfl ?_
  refine sk_iconst (pc' := 2) X ic_0 dL_isNeeded_1 rfl ?_
  refine sk_aload_n (pc' := 3) X rfl dL_isNeeded_2 rfl ?_
  refine sk_iload_n (pc' := 4) X rfl dL_isNeeded_3 rfl ?_
  refine sk_callVH1 (bs2 := fun r4 => [(pc_W u0 (u1 0) a0_thought a0_ahead a0_savings a0_script), (nt_W G u1 a1_log S1), (ot_W G u2 S2)]) (st := [.int (0 : Int32), .ref (u2 0)]) (st2 := fun r4 => [.int r4, .int (0 : Int32), .ref (u2 0)]) (As := [.int p2]) (pc' := 7) X E (c_X4_isNeeded l hl0 t G u0 u1 a0_thought a0_ahead a0_savings a0_script a1_log S1 p2) lk_RL_54 [0, 1] rfl (by decide) (fun _ => rfl) rfl rfl rfl ⟨(Nat.le_of_ble_eq_true rfl), (Nat.le_of_ble_eq_true rfl)⟩ ⟨rfl, rfl⟩ ⟨(Nat.le_of_ble_eq_true rfl), (Nat.le_of_ble_eq_true rfl)⟩ rfl (Nat.le_of_ble_eq_true rfl) rfl dL_isNeeded_4 rfl (fun _ => rfl) rfl (fun _ => rfl) 3 (by decide) (by decide) q_648 rfl (fun r4 => ?_) ?_
  · refine sk_if_eq (tgt := 14) (pc' := 10) X dL_isNeeded_7 rfl rfl ?_ ?_
    · refine sk_lconst (pc' := 15) X (v := 0) (by decide) dL_isNeeded_14 rfl ?_
      exact (sk_kill 2 (sk_kill 1 (sk_kill 0 (h15 (S2, (0 : Int32), (0 : Int64))))))
    · refine sk_lconst (pc' := 11) X (v := 1) (by decide) dL_isNeeded_10 rfl ?_
      refine sk_goto (tgt := 15) X dL_isNeeded_11 rfl ?_
      exact (sk_kill 2 (sk_kill 1 (sk_kill 0 (h15 (S2, (0 : Int32), (1 : Int64))))))
  · intro q0
    refine sk_astore_n (lv' := [some (.ref (u0 0)), some (.int p2), some (.ref (u2 0)), some (.ref q0)]) (pc' := 20) X (Nat.le_of_ble_eq_true rfl) rfl rfl dL_isNeeded_19 rfl ?_
    refine sk_iconst (pc' := 21) X ic_1 dL_isNeeded_20 rfl ?_
    exact sk_wiret X (Nat.le_of_ble_eq_true rfl) (Nat.le_of_ble_eq_true rfl) rfl rfl dL_isNeeded_21
