def rm_L_tick : Room := { frames := 7, cells := 1, slots := 6, locals := 134 }
def o_L_tick : (Int32 × sk_N × sk_N × sk_N × sk_N × sk_N × sk_N × sk_N × sk_N × sk_N × sk_N × sk_N × sk_O) → Option Value := fun r => some (.int r.1)
def w_L_tick (G : sk_G) (u0 u1 u2 u3 u4 u5 u6 u7 u8 u9 u10 u11 u12 : Nat → Nat) (a0_thought a0_ahead a0_script : Nat) : (Int32 × sk_N × sk_N × sk_N × sk_N × sk_N × sk_N × sk_N × sk_N × sk_N × sk_N × sk_N × sk_O) → sk_B := fun r => [(pc_W u0 (u1 0) a0_thought a0_ahead (u3 0) a0_script), (nt_W G u1 (u2 0) r.2.1), (lg_W G u2 r.2.2.1), (sv_W G u3 (u4 0) (u6 0) (u8 0) (u10 0) r.2.2.2.1), (nt_W G u4 (u5 0) r.2.2.2.2.1), (lg_W G u5 r.2.2.2.2.2.1), (nt_W G u6 (u7 0) r.2.2.2.2.2.2.1), (lg_W G u7 r.2.2.2.2.2.2.2.1), (nt_W G u8 (u9 0) r.2.2.2.2.2.2.2.2.1), (lg_W G u9 r.2.2.2.2.2.2.2.2.2.1), (nt_W G u10 (u11 0) r.2.2.2.2.2.2.2.2.2.2.1), (lg_W G u11 r.2.2.2.2.2.2.2.2.2.2.2.1), (ot_W G u12 r.2.2.2.2.2.2.2.2.2.2.2.2)]
set_option maxHeartbeats 4000000 in
set_option maxRecDepth 100000 in
theorem c_L_tick (l : Launch) (hl0 : l.stackTraces = false) (t : Nat) (G : sk_G) (u0 u1 u2 u3 u4 u5 u6 u7 u8 u9 u10 u11 u12 : Nat → Nat) (a0_thought a0_ahead a0_script : Nat) (S1 : sk_N) (S2 : sk_N) (S3 : sk_N) (S4 : sk_N) (S5 : sk_N) (S6 : sk_N) (S7 : sk_N) (S8 : sk_N) (S9 : sk_N) (S10 : sk_N) (S11 : sk_N) (S12 : sk_O) (p2 : Int32) : sk_wtr l G t yL_tick cL_tick 4 (some .int) [(0, 9, 12, 13)] rm_L_tick 1 6 [.ref (u0 0), .int p2, .ref (u12 0)] [(pc_W u0 (u1 0) a0_thought a0_ahead (u3 0) a0_script), (nt_W G u1 (u2 0) S1), (lg_W G u2 S2), (sv_W G u3 (u4 0) (u6 0) (u8 0) (u10 0) S3), (nt_W G u4 (u5 0) S4), (lg_W G u5 S5), (nt_W G u6 (u7 0) S6), (lg_W G u7 S7), (nt_W G u8 (u9 0) S8), (lg_W G u9 S9), (nt_W G u10 (u11 0) S10), (lg_W G u11 S11), (ot_W G u12 S12)] (m_L_tick S1 S2 S3 S4 S5 S6 S7 S8 S9 S10 S11 S12 p2) o_L_tick (w_L_tick G u0 u1 u2 u3 u4 u5 u6 u7 u8 u9 u10 u11 u12 a0_thought a0_ahead a0_script) := by
  refine sk_wentry (own := RL) (by decide) rfl (lv0 := [some (.ref (u0 0)), some (.int p2), some (.ref (u12 0)), none]) rfl (Nat.le_of_ble_eq_true rfl) ?_
  intro Γ X E
  unfold m_L_tick
  refine sk_aload_n (pc' := 1) X rfl dL_tick_0 rfl ?_
  refine sk_iconst (pc' := 2) X ic_0 dL_tick_1 rfl ?_
  refine sk_aload_n (pc' := 3) X rfl dL_tick_2 rfl ?_
  refine sk_iload_n (pc' := 4) X rfl dL_tick_3 rfl ?_
  refine sk_callVH1 (bs2 := fun r4 => [(pc_W u0 (u1 0) a0_thought a0_ahead (u3 0) a0_script), (nt_W G u1 (u2 0) r4.2.1), (lg_W G u2 r4.2.2.1), (sv_W G u3 (u4 0) (u6 0) (u8 0) (u10 0) r4.2.2.2.1), (nt_W G u4 (u5 0) r4.2.2.2.2.1), (lg_W G u5 r4.2.2.2.2.2.1), (nt_W G u6 (u7 0) r4.2.2.2.2.2.2.1), (lg_W G u7 r4.2.2.2.2.2.2.2.1), (nt_W G u8 (u9 0) r4.2.2.2.2.2.2.2.2.1), (lg_W G u9 r4.2.2.2.2.2.2.2.2.2.1), (nt_W G u10 (u11 0) r4.2.2.2.2.2.2.2.2.2.2.1), (lg_W G u11 r4.2.2.2.2.2.2.2.2.2.2.2), (ot_W G u12 S12)]) (st := [.int (0 : Int32), .ref (u12 0)]) (st2 := fun r4 => [.int r4.1, .int (0 : Int32), .ref (u12 0)]) (As := [.int p2]) (pc' := 7) X E (c_X4_tick l hl0 t G u0 u1 u2 u3 u4 u5 u6 u7 u8 u9 u10 u11 a0_thought a0_ahead a0_script S1 S2 S3 S4 S5 S6 S7 S8 S9 S10 S11 p2) lk_RL_58 [0, 1, 2, 3, 4, 5, 6, 7, 8, 9, 10, 11] rfl (by decide) (fun _ => rfl) rfl rfl rfl ⟨(Nat.le_of_ble_eq_true rfl), (Nat.le_of_ble_eq_true rfl)⟩ ⟨rfl, rfl⟩ ⟨(Nat.le_of_ble_eq_true rfl), (Nat.le_of_ble_eq_true rfl)⟩ rfl (Nat.le_of_ble_eq_true rfl) rfl dL_tick_4 rfl (fun _ => rfl) rfl (fun _ => rfl) 1 (by decide) (by decide) q_552 rfl (fun r4 => ?_) ?_
  · refine sk_i2l (pc' := 8) X dL_tick_7 rfl ?_
    refine sk_last (bs' := [(pc_W u0 (u1 0) a0_thought a0_ahead (u3 0) a0_script), (nt_W G u1 (u2 0) r4.2.1), (lg_W G u2 r4.2.2.1), (sv_W G u3 (u4 0) (u6 0) (u8 0) (u10 0) r4.2.2.2.1), (nt_W G u4 (u5 0) r4.2.2.2.2.1), (lg_W G u5 r4.2.2.2.2.2.1), (nt_W G u6 (u7 0) r4.2.2.2.2.2.2.1), (lg_W G u7 r4.2.2.2.2.2.2.2.1), (nt_W G u8 (u9 0) r4.2.2.2.2.2.2.2.2.1), (lg_W G u9 r4.2.2.2.2.2.2.2.2.2.1), (nt_W G u10 (u11 0) r4.2.2.2.2.2.2.2.2.2.2.1), (lg_W G u11 r4.2.2.2.2.2.2.2.2.2.2.2), (ot_W G u12 (vp_updL S12 ((0 : Int32)).toNatClampNeg (r4.1).toInt64))]) (pc' := 9) X 12 0 rfl rfl (sk_st 12 (ot_st_0 ..) rfl) dL_tick_8 rfl ?_
    refine sk_lt (bsf := fun z => [(pc_W u0 (u1 0) a0_thought a0_ahead (u3 0) a0_script), (nt_W G u1 (u2 0) r4.2.1), (lg_W G u2 r4.2.2.1), (sv_W G u3 (u4 0) (u6 0) (u8 0) (u10 0) r4.2.2.2.1), (nt_W G u4 (u5 0) r4.2.2.2.2.1), (lg_W G u5 r4.2.2.2.2.2.1), (nt_W G u6 (u7 0) r4.2.2.2.2.2.2.1), (lg_W G u7 r4.2.2.2.2.2.2.2.1), (nt_W G u8 (u9 0) r4.2.2.2.2.2.2.2.2.1), (lg_W G u9 r4.2.2.2.2.2.2.2.2.2.1), (nt_W G u10 (u11 0) r4.2.2.2.2.2.2.2.2.2.2.1), (lg_W G u11 r4.2.2.2.2.2.2.2.2.2.2.2), (ot_W G u12 z)]) (lvf := fun _ => [some (.ref (u0 0)), some (.int p2), some (.ref (u12 0)), none]) (stf := fun _ => []) (fun N8 => ?_)
    refine sk_goto (tgt := 15) X dL_tick_9 rfl ?_
    refine sk_iconst (pc' := 16) X ic_0 dL_tick_15 rfl ?_
    exact sk_wiret X (Nat.le_of_ble_eq_true rfl) (Nat.le_of_ble_eq_true rfl) rfl rfl dL_tick_16
  · intro q0
    refine sk_astore_n (lv' := [some (.ref (u0 0)), some (.int p2), some (.ref (u12 0)), some (.ref q0)]) (pc' := 13) X (Nat.le_of_ble_eq_true rfl) rfl rfl dL_tick_12 rfl ?_
    refine sk_iconst (pc' := 14) X ic_1 dL_tick_13 rfl ?_
    exact sk_wiret X (Nat.le_of_ble_eq_true rfl) (Nat.le_of_ble_eq_true rfl) rfl rfl dL_tick_14
def rm_L_group : Room := { frames := 7, cells := 1, slots := 6, locals := 113 }
def o_L_group : (Int32 × sk_O) → Option Value := fun r => some (.int r.1)
def w_L_group (G : sk_G) (u0 u1 u2 : Nat → Nat) (a0_thought a0_ahead a0_savings a0_script a1_log : Nat) (S1 : sk_N) : (Int32 × sk_O) → sk_B := fun r => [(pc_W u0 (u1 0) a0_thought a0_ahead a0_savings a0_script), (nt_W G u1 a1_log S1), (ot_W G u2 r.2)]
set_option maxHeartbeats 4000000 in
set_option maxRecDepth 100000 in
theorem c_L_group (l : Launch) (hl0 : l.stackTraces = false) (t : Nat) (G : sk_G) (u0 u1 u2 : Nat → Nat) (a0_thought a0_ahead a0_savings a0_script a1_log : Nat) (S1 : sk_N) (S2 : sk_O) (p2 : Int32) (p3 : Int32) : sk_wtr l G t yL_group cL_group 5 (some .int) [(0, 10, 13, 21)] rm_L_group 1 6 [.ref (u0 0), .int p2, .int p3, .ref (u2 0)] [(pc_W u0 (u1 0) a0_thought a0_ahead a0_savings a0_script), (nt_W G u1 a1_log S1), (ot_W G u2 S2)] (m_L_group S1 S2 p2 p3) o_L_group (w_L_group G u0 u1 u2 a0_thought a0_ahead a0_savings a0_script a1_log S1) := by
  refine sk_wentry (own := RL) (by decide) rfl (lv0 := [some (.ref (u0 0)), some (.int p2), some (.int p3), some (.ref (u2 0)), none]) rfl (Nat.le_of_ble_eq_true rfl) ?_
  intro Γ X E
  unfold m_L_group
  refine sk_aload_n (pc' := 1) X rfl dL_group_0 rfl ?_
  refine sk_iconst (pc' := 2) X ic_0 dL_group_1 rfl ?_
  refine sk_aload_n (pc' := 3) X rfl dL_group_2 rfl ?_
  refine sk_iload_n (pc' := 4) X rfl dL_group_3 rfl ?_
  refine sk_iload_n (pc' := 5) X rfl dL_group_4 rfl ?_
  refine sk_callVH1 (bs2 := fun r5 => [(pc_W u0 (u1 0) a0_thought a0_ahead a0_savings a0_script), (nt_W G u1 a1_log S1), (ot_W G u2 S2)]) (st := [.int (0 : Int32), .ref (u2 0)]) (st2 := fun r5 => [.int r5, .int (0 : Int32), .ref (u2 0)]) (As := [.int p2, .int p3]) (pc' := 8) X E (c_X4_group l hl0 t G u0 u1 a0_thought a0_ahead a0_savings a0_script a1_log S1 p2 p3) lk_RL_61 [0, 1] rfl (by decide) (fun _ => rfl) rfl rfl rfl ⟨(Nat.le_of_ble_eq_true rfl), (Nat.le_of_ble_eq_true rfl)⟩ ⟨rfl, rfl⟩ ⟨(Nat.le_of_ble_eq_true rfl), (Nat.le_of_ble_eq_true rfl)⟩ rfl (Nat.le_of_ble_eq_true rfl) rfl dL_group_5 rfl (fun _ => rfl) rfl (fun _ => rfl) 3 (by decide) (by decide) q_648 rfl (fun r5 => ?_) ?_
  · refine sk_i2l (pc' := 9) X dL_group_8 rfl ?_
    refine sk_last (bs' := [(pc_W u0 (u1 0) a0_thought a0_ahead a0_savings a0_script), (nt_W G u1 a1_log S1), (ot_W G u2 (vp_updL S2 ((0 : Int32)).toNatClampNeg (r5).toInt64))]) (pc' := 10) X 2 0 rfl rfl (sk_st 2 (ot_st_0 ..) rfl) dL_group_9 rfl ?_
    refine sk_lt (bsf := fun z => [(pc_W u0 (u1 0) a0_thought a0_ahead a0_savings a0_script), (nt_W G u1 a1_log S1), (ot_W G u2 z)]) (lvf := fun _ => [some (.ref (u0 0)), some (.int p2), some (.int p3), some (.ref (u2 0)), none]) (stf := fun _ => []) (fun N9 => ?_)
    refine sk_goto (tgt := 17) X dL_group_10 rfl ?_
    refine sk_iconst (pc' := 18) X ic_0 dL_group_17 rfl ?_
    exact sk_wiret X (Nat.le_of_ble_eq_true rfl) (Nat.le_of_ble_eq_true rfl) rfl rfl dL_group_18
  · intro q0
    refine sk_astore (lv' := [some (.ref (u0 0)), some (.int p2), some (.int p3), some (.ref (u2 0)), some (.ref q0)]) (pc' := 15) X (Nat.le_of_ble_eq_true rfl) rfl rfl dL_group_13 rfl ?_
    refine sk_iconst (pc' := 16) X ic_1 dL_group_15 rfl ?_
    exact sk_wiret X (Nat.le_of_ble_eq_true rfl) (Nat.le_of_ble_eq_true rfl) rfl rfl dL_group_16
def rm_L_groupOf : Room := { frames := 8, cells := 1, slots := 6, locals := 132 }
def o_L_groupOf : (Int32 × sk_O) → Option Value := fun r => some (.int r.1)
def w_L_groupOf (G : sk_G) (u0 u1 u2 : Nat → Nat) (a0_thought a0_ahead a0_savings a0_script a1_log : Nat) (S1 : sk_N) : (Int32 × sk_O) → sk_B := fun r => [(pc_W u0 (u1 0) a0_thought a0_ahead a0_savings a0_script), (nt_W G u1 a1_log S1), (ot_W G u2 r.2)]
set_option maxHeartbeats 4000000 in
set_option maxRecDepth 100000 in
theorem c_L_groupOf (l : Launch) (hl0 : l.stackTraces = false) (t : Nat) (G : sk_G) (u0 u1 u2 : Nat → Nat) (a0_thought a0_ahead a0_savings a0_script a1_log : Nat) (S1 : sk_N) (S2 : sk_O) (p2 : Int32) : sk_wtr l G t yL_groupOf cL_groupOf 4 (some .int) [(0, 9, 12, 21)] rm_L_groupOf 1 6 [.ref (u0 0), .int p2, .ref (u2 0)] [(pc_W u0 (u1 0) a0_thought a0_ahead a0_savings a0_script), (nt_W G u1 a1_log S1), (ot_W G u2 S2)] (m_L_groupOf S1 S2 p2) o_L_groupOf (w_L_groupOf G u0 u1 u2 a0_thought a0_ahead a0_savings a0_script a1_log S1) := by
  refine sk_wentry (own := RL) (by decide) rfl (lv0 := [some (.ref (u0 0)), some (.int p2), some (.ref (u2 0)), none]) rfl (Nat.le_of_ble_eq_true rfl) ?_
  intro Γ X E
  unfold m_L_groupOf
  refine sk_aload_n (pc' := 1) X rfl dL_groupOf_0 rfl ?_
  refine sk_iconst (pc' := 2) X ic_0 dL_groupOf_1 rfl ?_
  refine sk_aload_n (pc' := 3) X rfl dL_groupOf_2 rfl ?_
  refine sk_iload_n (pc' := 4) X rfl dL_groupOf_3 rfl ?_
  refine sk_callVH1 (bs2 := fun r4 => [(pc_W u0 (u1 0) a0_thought a0_ahead a0_savings a0_script), (nt_W G u1 a1_log S1), (ot_W G u2 S2)]) (st := [.int (0 : Int32), .ref (u2 0)]) (st2 := fun r4 => [.int r4, .int (0 : Int32), .ref (u2 0)]) (As := [.int p2]) (pc' := 7) X E (c_X4_groupOf l hl0 t G u0 u1 a0_thought a0_ahead a0_savings a0_script a1_log S1 p2) lk_RL_65 [0, 1] rfl (by decide) (fun _ => rfl) rfl rfl rfl ⟨(Nat.le_of_ble_eq_true rfl), (Nat.le_of_ble_eq_true rfl)⟩ ⟨rfl, rfl⟩ ⟨(Nat.le_of_ble_eq_true rfl), (Nat.le_of_ble_eq_true rfl)⟩ rfl (Nat.le_of_ble_eq_true rfl) rfl dL_groupOf_4 rfl (fun _ => rfl) rfl (fun _ => rfl) 3 (by decide) (by decide) q_648 rfl (fun r4 => ?_) ?_
  · refine sk_i2l (pc' := 8) X dL_groupOf_7 rfl ?_
    refine sk_last (bs' := [(pc_W u0 (u1 0) a0_thought a0_ahead a0_savings a0_script), (nt_W G u1 a1_log S1), (ot_W G u2 (vp_updL S2 ((0 : Int32)).toNatClampNeg (r4).toInt64))]) (pc' := 9) X 2 0 rfl rfl (sk_st 2 (ot_st_0 ..) rfl) dL_groupOf_8 rfl ?_
    refine sk_lt (bsf := fun z => [(pc_W u0 (u1 0) a0_thought a0_ahead a0_savings a0_script), (nt_W G u1 a1_log S1), (ot_W G u2 z)]) (lvf := fun _ => [some (.ref (u0 0)), some (.int p2), some (.ref (u2 0)), none]) (stf := fun _ => []) (fun N8 => ?_)
    refine sk_goto (tgt := 15) X dL_groupOf_9 rfl ?_
    refine sk_iconst (pc' := 16) X ic_0 dL_groupOf_15 rfl ?_
    exact sk_wiret X (Nat.le_of_ble_eq_true rfl) (Nat.le_of_ble_eq_true rfl) rfl rfl dL_groupOf_16
  · intro q0
    refine sk_astore_n (lv' := [some (.ref (u0 0)), some (.int p2), some (.ref (u2 0)), some (.ref q0)]) (pc' := 13) X (Nat.le_of_ble_eq_true rfl) rfl rfl dL_groupOf_12 rfl ?_
    refine sk_iconst (pc' := 14) X ic_1 dL_groupOf_13 rfl ?_
    exact sk_wiret X (Nat.le_of_ble_eq_true rfl) (Nat.le_of_ble_eq_true rfl) rfl rfl dL_groupOf_14
def rm_L_ticksUntil : Room := { frames := 8, cells := 1, slots := 6, locals := 158 }
def o_L_ticksUntil : (Int32 × sk_N × sk_N × sk_O) → Option Value := fun r => some (.int r.1)
def w_L_ticksUntil (G : sk_G) (u0 u1 u2 u3 u4 u5 : Nat → Nat) (a0_ahead a0_savings a0_script : Nat) (S1 : sk_N) (S2 : sk_N) : (Int32 × sk_N × sk_N × sk_O) → sk_B := fun r => [(pc_W u0 (u1 0) (u3 0) a0_ahead a0_savings a0_script), (nt_W G u1 (u2 0) S1), (lg_W G u2 S2), (nt_W G u3 (u4 0) r.2.1), (lg_W G u4 r.2.2.1), (ot_W G u5 r.2.2.2)]
set_option maxHeartbeats 4000000 in
set_option maxRecDepth 100000 in
theorem c_L_ticksUntil (l : Launch) (hl0 : l.stackTraces = false) (t : Nat) (G : sk_G) (u0 u1 u2 u3 u4 u5 : Nat → Nat) (a0_ahead a0_savings a0_script : Nat) (S1 : sk_N) (S2 : sk_N) (S3 : sk_N) (S4 : sk_N) (S5 : sk_O) (p2 : Int32) (p3 : Int32) : sk_wtr l G t yL_ticksUntil cL_ticksUntil 5 (some .int) [(0, 10, 13, 13)] rm_L_ticksUntil 1 6 [.ref (u0 0), .int p2, .int p3, .ref (u5 0)] [(pc_W u0 (u1 0) (u3 0) a0_ahead a0_savings a0_script), (nt_W G u1 (u2 0) S1), (lg_W G u2 S2), (nt_W G u3 (u4 0) S3), (lg_W G u4 S4), (ot_W G u5 S5)] (m_L_ticksUntil S1 S2 S3 S4 S5 p2 p3) o_L_ticksUntil (w_L_ticksUntil G u0 u1 u2 u3 u4 u5 a0_ahead a0_savings a0_script S1 S2) := by
  refine sk_wentry (own := RL) (by decide) rfl (lv0 := [some (.ref (u0 0)), some (.int p2), some (.int p3), some (.ref (u5 0)), none]) rfl (Nat.le_of_ble_eq_true rfl) ?_
  intro Γ X E
  unfold m_L_ticksUntil
  refine sk_aload_n (pc' := 1) X rfl dL_ticksUntil_0 rfl ?_
  refine sk_iconst (pc' := 2) X ic_0 dL_ticksUntil_1 rfl ?_
  refine sk_aload_n (pc' := 3) X rfl dL_ticksUntil_2 rfl ?_
  refine sk_iload_n (pc' := 4) X rfl dL_ticksUntil_3 rfl ?_
  refine sk_iload_n (pc' := 5) X rfl dL_ticksUntil_4 rfl ?_
  refine sk_callVH1 (bs2 := fun r5 => [(pc_W u0 (u1 0) (u3 0) a0_ahead a0_savings a0_script), (nt_W G u1 (u2 0) S1), (lg_W G u2 S2), (nt_W G u3 (u4 0) r5.2.1), (lg_W G u4 r5.2.2), (ot_W G u5 S5)]) (st := [.int (0 : Int32), .ref (u5 0)]) (st2 := fun r5 => [.int r5.1, .int (0 : Int32), .ref (u5 0)]) (As := [.int p2, .int p3]) (pc' := 8) X E (c_X4_ticksUntil l hl0 t G u0 u1 u2 u3 u4 a0_ahead a0_savings a0_script S1 S2 S3 S4 p2 p3) lk_RL_68 [0, 1, 2, 3, 4] rfl (by decide) (fun _ => rfl) rfl rfl rfl ⟨(Nat.le_of_ble_eq_true rfl), (Nat.le_of_ble_eq_true rfl)⟩ ⟨rfl, rfl⟩ ⟨(Nat.le_of_ble_eq_true rfl), (Nat.le_of_ble_eq_true rfl)⟩ rfl (Nat.le_of_ble_eq_true rfl) rfl dL_ticksUntil_5 rfl (fun _ => rfl) rfl (fun _ => rfl) 1 (by decide) (by decide) q_552 rfl (fun r5 => ?_) ?_
  · refine sk_i2l (pc' := 9) X dL_ticksUntil_8 rfl ?_
    refine sk_last (bs' := [(pc_W u0 (u1 0) (u3 0) a0_ahead a0_savings a0_script), (nt_W G u1 (u2 0) S1), (lg_W G u2 S2), (nt_W G u3 (u4 0) r5.2.1), (lg_W G u4 r5.2.2), (ot_W G u5 (vp_updL S5 ((0 : Int32)).toNatClampNeg (r5.1).toInt64))]) (pc' := 10) X 5 0 rfl rfl (sk_st 5 (ot_st_0 ..) rfl) dL_ticksUntil_9 rfl ?_
    refine sk_lt (bsf := fun z => [(pc_W u0 (u1 0) (u3 0) a0_ahead a0_savings a0_script), (nt_W G u1 (u2 0) S1), (lg_W G u2 S2), (nt_W G u3 (u4 0) r5.2.1), (lg_W G u4 r5.2.2), (ot_W G u5 z)]) (lvf := fun _ => [some (.ref (u0 0)), some (.int p2), some (.int p3), some (.ref (u5 0)), none]) (stf := fun _ => []) (fun N9 => ?_)
    refine sk_goto (tgt := 17) X dL_ticksUntil_10 rfl ?_
    refine sk_iconst (pc' := 18) X ic_0 dL_ticksUntil_17 rfl ?_
    exact sk_wiret X (Nat.le_of_ble_eq_true rfl) (Nat.le_of_ble_eq_true rfl) rfl rfl dL_ticksUntil_18
  · intro q0
    refine sk_astore (lv' := [some (.ref (u0 0)), some (.int p2), some (.int p3), some (.ref (u5 0)), some (.ref q0)]) (pc' := 15) X (Nat.le_of_ble_eq_true rfl) rfl rfl dL_ticksUntil_13 rfl ?_
    refine sk_iconst (pc' := 16) X ic_1 dL_ticksUntil_15 rfl ?_
    exact sk_wiret X (Nat.le_of_ble_eq_true rfl) (Nat.le_of_ble_eq_true rfl) rfl rfl dL_ticksUntil_16
def rm_L_groupsAfter : Room := { frames := 8, cells := 1, slots := 6, locals := 134 }
def o_L_groupsAfter : (Int32 × sk_N × sk_N × sk_O) → Option Value := fun r => some (.int r.1)
def w_L_groupsAfter (G : sk_G) (u0 u1 u2 u3 u4 u5 : Nat → Nat) (a0_ahead a0_savings a0_script : Nat) (S1 : sk_N) (S2 : sk_N) : (Int32 × sk_N × sk_N × sk_O) → sk_B := fun r => [(pc_W u0 (u1 0) (u3 0) a0_ahead a0_savings a0_script), (nt_W G u1 (u2 0) S1), (lg_W G u2 S2), (nt_W G u3 (u4 0) r.2.1), (lg_W G u4 r.2.2.1), (ot_W G u5 r.2.2.2)]
set_option maxHeartbeats 4000000 in
set_option maxRecDepth 100000 in
theorem c_L_groupsAfter (l : Launch) (hl0 : l.stackTraces = false) (t : Nat) (G : sk_G) (u0 u1 u2 u3 u4 u5 : Nat → Nat) (a0_ahead a0_savings a0_script : Nat) (S1 : sk_N) (S2 : sk_N) (S3 : sk_N) (S4 : sk_N) (S5 : sk_O) (p2 : Int32) : sk_wtr l G t yL_groupsAfter cL_groupsAfter 4 (some .int) [(0, 9, 12, 13)] rm_L_groupsAfter 1 6 [.ref (u0 0), .int p2, .ref (u5 0)] [(pc_W u0 (u1 0) (u3 0) a0_ahead a0_savings a0_script), (nt_W G u1 (u2 0) S1), (lg_W G u2 S2), (nt_W G u3 (u4 0) S3), (lg_W G u4 S4), (ot_W G u5 S5)] (m_L_groupsAfter S1 S2 S3 S4 S5 p2) o_L_groupsAfter (w_L_groupsAfter G u0 u1 u2 u3 u4 u5 a0_ahead a0_savings a0_script S1 S2) := by
  refine sk_wentry (own := RL) (by decide) rfl (lv0 := [some (.ref (u0 0)), some (.int p2), some (.ref (u5 0)), none]) rfl (Nat.le_of_ble_eq_true rfl) ?_
  intro Γ X E
  unfold m_L_groupsAfter
  refine sk_aload_n (pc' := 1) X rfl dL_groupsAfter_0 rfl ?_
  refine sk_iconst (pc' := 2) X ic_0 dL_groupsAfter_1 rfl ?_
  refine sk_aload_n (pc' := 3) X rfl dL_groupsAfter_2 rfl ?_
  refine sk_iload_n (pc' := 4) X rfl dL_groupsAfter_3 rfl ?_
  refine sk_callVH1 (bs2 := fun r4 => [(pc_W u0 (u1 0) (u3 0) a0_ahead a0_savings a0_script), (nt_W G u1 (u2 0) S1), (lg_W G u2 S2), (nt_W G u3 (u4 0) r4.2.1), (lg_W G u4 r4.2.2), (ot_W G u5 S5)]) (st := [.int (0 : Int32), .ref (u5 0)]) (st2 := fun r4 => [.int r4.1, .int (0 : Int32), .ref (u5 0)]) (As := [.int p2]) (pc' := 7) X E (c_X4_groupsAfter l hl0 t G u0 u1 u2 u3 u4 a0_ahead a0_savings a0_script S1 S2 S3 S4 p2) lk_RL_71 [0, 1, 2, 3, 4] rfl (by decide) (fun _ => rfl) rfl rfl rfl ⟨(Nat.le_of_ble_eq_true rfl), (Nat.le_of_ble_eq_true rfl)⟩ ⟨rfl, rfl⟩ ⟨(Nat.le_of_ble_eq_true rfl), (Nat.le_of_ble_eq_true rfl)⟩ rfl (Nat.le_of_ble_eq_true rfl) rfl dL_groupsAfter_4 rfl (fun _ => rfl) rfl (fun _ => rfl) 1 (by decide) (by decide) q_552 rfl (fun r4 => ?_) ?_
  · refine sk_i2l (pc' := 8) X dL_groupsAfter_7 rfl ?_
    refine sk_last (bs' := [(pc_W u0 (u1 0) (u3 0) a0_ahead a0_savings a0_script), (nt_W G u1 (u2 0) S1), (lg_W G u2 S2), (nt_W G u3 (u4 0) r4.2.1), (lg_W G u4 r4.2.2), (ot_W G u5 (vp_updL S5 ((0 : Int32)).toNatClampNeg (r4.1).toInt64))]) (pc' := 9) X 5 0 rfl rfl (sk_st 5 (ot_st_0 ..) rfl) dL_groupsAfter_8 rfl ?_
    refine sk_lt (bsf := fun z => [(pc_W u0 (u1 0) (u3 0) a0_ahead a0_savings a0_script), (nt_W G u1 (u2 0) S1), (lg_W G u2 S2), (nt_W G u3 (u4 0) r4.2.1), (lg_W G u4 r4.2.2), (ot_W G u5 z)]) (lvf := fun _ => [some (.ref (u0 0)), some (.int p2), some (.ref (u5 0)), none]) (stf := fun _ => []) (fun N8 => ?_)
    refine sk_goto (tgt := 15) X dL_groupsAfter_9 rfl ?_
    refine sk_iconst (pc' := 16) X ic_0 dL_groupsAfter_15 rfl ?_
    exact sk_wiret X (Nat.le_of_ble_eq_true rfl) (Nat.le_of_ble_eq_true rfl) rfl rfl dL_groupsAfter_16
  · intro q0
    refine sk_astore_n (lv' := [some (.ref (u0 0)), some (.int p2), some (.ref (u5 0)), some (.ref q0)]) (pc' := 13) X (Nat.le_of_ble_eq_true rfl) rfl rfl dL_groupsAfter_12 rfl ?_
    refine sk_iconst (pc' := 14) X ic_1 dL_groupsAfter_13 rfl ?_
    exact sk_wiret X (Nat.le_of_ble_eq_true rfl) (Nat.le_of_ble_eq_true rfl) rfl rfl dL_groupsAfter_14
def rm_L_repeats : Room := { frames := 8, cells := 1, slots := 6, locals := 160 }
def o_L_repeats : (Int32 × sk_N × sk_N × sk_N × sk_N × sk_O) → Option Value := fun r => some (.int r.1)
def w_L_repeats (G : sk_G) (u0 u1 u2 u3 u4 u5 u6 u7 : Nat → Nat) (a0_savings a0_script : Nat) (S3 : sk_N) (S4 : sk_N) : (Int32 × sk_N × sk_N × sk_N × sk_N × sk_O) → sk_B := fun r => [(pc_W u0 (u3 0) (u5 0) (u1 0) a0_savings a0_script), (nt_W G u1 (u2 0) r.2.1), (lg_W G u2 r.2.2.1), (nt_W G u3 (u4 0) S3), (lg_W G u4 S4), (nt_W G u5 (u6 0) r.2.2.2.1), (lg_W G u6 r.2.2.2.2.1), (ot_W G u7 r.2.2.2.2.2)]
set_option maxHeartbeats 4000000 in
set_option maxRecDepth 100000 in
theorem c_L_repeats (l : Launch) (hl0 : l.stackTraces = false) (t : Nat) (G : sk_G) (u0 u1 u2 u3 u4 u5 u6 u7 : Nat → Nat) (a0_savings a0_script : Nat) (S1 : sk_N) (S2 : sk_N) (S3 : sk_N) (S4 : sk_N) (S5 : sk_N) (S6 : sk_N) (S7 : sk_O) (p2 : Int32) (p3 : Int32) : sk_wtr l G t yL_repeats cL_repeats 5 (some .int) [(0, 10, 13, 13)] rm_L_repeats 1 6 [.ref (u0 0), .int p2, .int p3, .ref (u7 0)] [(pc_W u0 (u3 0) (u5 0) (u1 0) a0_savings a0_script), (nt_W G u1 (u2 0) S1), (lg_W G u2 S2), (nt_W G u3 (u4 0) S3), (lg_W G u4 S4), (nt_W G u5 (u6 0) S5), (lg_W G u6 S6), (ot_W G u7 S7)] (m_L_repeats S1 S2 S3 S4 S5 S6 S7 p2 p3) o_L_repeats (w_L_repeats G u0 u1 u2 u3 u4 u5 u6 u7 a0_savings a0_script S3 S4) := by
  refine sk_wentry (own := RL) (by decide) rfl (lv0 := [some (.ref (u0 0)), some (.int p2), some (.int p3), some (.ref (u7 0)), none]) rfl (Nat.le_of_ble_eq_true rfl) ?_
  intro Γ X E
  unfold m_L_repeats
  refine sk_aload_n (pc' := 1) X rfl dL_repeats_0 rfl ?_
  refine sk_iconst (pc' := 2) X ic_0 dL_repeats_1 rfl ?_
  refine sk_aload_n (pc' := 3) X rfl dL_repeats_2 rfl ?_
  refine sk_iload_n (pc' := 4) X rfl dL_repeats_3 rfl ?_
  refine sk_iload_n (pc' := 5) X rfl dL_repeats_4 rfl ?_
  refine sk_callVH1 (bs2 := fun r5 => [(pc_W u0 (u3 0) (u5 0) (u1 0) a0_savings a0_script), (nt_W G u1 (u2 0) r5.2.1), (lg_W G u2 r5.2.2.1), (nt_W G u3 (u4 0) S3), (lg_W G u4 S4), (nt_W G u5 (u6 0) r5.2.2.2.1), (lg_W G u6 r5.2.2.2.2), (ot_W G u7 S7)]) (st := [.int (0 : Int32), .ref (u7 0)]) (st2 := fun r5 => [.int r5.1, .int (0 : Int32), .ref (u7 0)]) (As := [.int p2, .int p3]) (pc' := 8) X E (c_X4_repeats l hl0 t G u0 u1 u2 u3 u4 u5 u6 a0_savings a0_script S1 S2 S3 S4 S5 S6 p2 p3) lk_RL_74 [0, 1, 2, 3, 4, 5, 6] rfl (by decide) (fun _ => rfl) rfl rfl rfl ⟨(Nat.le_of_ble_eq_true rfl), (Nat.le_of_ble_eq_true rfl)⟩ ⟨rfl, rfl⟩ ⟨(Nat.le_of_ble_eq_true rfl), (Nat.le_of_ble_eq_true rfl)⟩ rfl (Nat.le_of_ble_eq_true rfl) rfl dL_repeats_5 rfl (fun _ => rfl) rfl (fun _ => rfl) 1 (by decide) (by decide) q_552 rfl (fun r5 => ?_) ?_
  · refine sk_i2l (pc' := 9) X dL_repeats_8 rfl ?_
    refine sk_last (bs' := [(pc_W u0 (u3 0) (u5 0) (u1 0) a0_savings a0_script), (nt_W G u1 (u2 0) r5.2.1), (lg_W G u2 r5.2.2.1), (nt_W G u3 (u4 0) S3), (lg_W G u4 S4), (nt_W G u5 (u6 0) r5.2.2.2.1), (lg_W G u6 r5.2.2.2.2), (ot_W G u7 (vp_updL S7 ((0 : Int32)).toNatClampNeg (r5.1).toInt64))]) (pc' := 10) X 7 0 rfl rfl (sk_st 7 (ot_st_0 ..) rfl) dL_repeats_9 rfl ?_
    refine sk_lt (bsf := fun z => [(pc_W u0 (u3 0) (u5 0) (u1 0) a0_savings a0_script), (nt_W G u1 (u2 0) r5.2.1), (lg_W G u2 r5.2.2.1), (nt_W G u3 (u4 0) S3), (lg_W G u4 S4), (nt_W G u5 (u6 0) r5.2.2.2.1), (lg_W G u6 r5.2.2.2.2), (ot_W G u7 z)]) (lvf := fun _ => [some (.ref (u0 0)), some (.int p2), some (.int p3), some (.ref (u7 0)), none]) (stf := fun _ => []) (fun N9 => ?_)
    refine sk_goto (tgt := 17) X dL_repeats_10 rfl ?_
    refine sk_iconst (pc' := 18) X ic_0 dL_repeats_17 rfl ?_
    exact sk_wiret X (Nat.le_of_ble_eq_true rfl) (Nat.le_of_ble_eq_true rfl) rfl rfl dL_repeats_18
  · intro q0
    refine sk_astore (lv' := [some (.ref (u0 0)), some (.int p2), some (.int p3), some (.ref (u7 0)), some (.ref q0)]) (pc' := 15) X (Nat.le_of_ble_eq_true rfl) rfl rfl dL_repeats_13 rfl ?_
    refine sk_iconst (pc' := 16) X ic_1 dL_repeats_15 rfl ?_
    exact sk_wiret X (Nat.le_of_ble_eq_true rfl) (Nat.le_of_ble_eq_true rfl) rfl rfl dL_repeats_16
def rm_L_leastStrength : Room := { frames := 8, cells := 1, slots := 6, locals := 158 }
def o_L_leastStrength : (Int32 × sk_N × sk_N × sk_O) → Option Value := fun r => some (.int r.1)
def w_L_leastStrength (G : sk_G) (u0 u1 u2 u3 u4 u5 : Nat → Nat) (a0_ahead a0_savings a0_script : Nat) (S1 : sk_N) (S2 : sk_N) : (Int32 × sk_N × sk_N × sk_O) → sk_B := fun r => [(pc_W u0 (u1 0) (u3 0) a0_ahead a0_savings a0_script), (nt_W G u1 (u2 0) S1), (lg_W G u2 S2), (nt_W G u3 (u4 0) r.2.1), (lg_W G u4 r.2.2.1), (ot_W G u5 r.2.2.2)]
set_option maxHeartbeats 4000000 in
set_option maxRecDepth 100000 in
theorem c_L_leastStrength (l : Launch) (hl0 : l.stackTraces = false) (t : Nat) (G : sk_G) (u0 u1 u2 u3 u4 u5 : Nat → Nat) (a0_ahead a0_savings a0_script : Nat) (S1 : sk_N) (S2 : sk_N) (S3 : sk_N) (S4 : sk_N) (S5 : sk_O) (p2 : Int32) : sk_wtr l G t yL_leastStrength cL_leastStrength 4 (some .int) [(0, 9, 12, 13)] rm_L_leastStrength 1 6 [.ref (u0 0), .int p2, .ref (u5 0)] [(pc_W u0 (u1 0) (u3 0) a0_ahead a0_savings a0_script), (nt_W G u1 (u2 0) S1), (lg_W G u2 S2), (nt_W G u3 (u4 0) S3), (lg_W G u4 S4), (ot_W G u5 S5)] (m_L_leastStrength S1 S2 S3 S4 S5 p2) o_L_leastStrength (w_L_leastStrength G u0 u1 u2 u3 u4 u5 a0_ahead a0_savings a0_script S1 S2) := by
  refine sk_wentry (own := RL) (by decide) rfl (lv0 := [some (.ref (u0 0)), some (.int p2), some (.ref (u5 0)), none]) rfl (Nat.le_of_ble_eq_true rfl) ?_
  intro Γ X E
  unfold m_L_leastStrength
  refine sk_aload_n (pc' := 1) X rfl dL_leastStrength_0 rfl ?_
  refine sk_iconst (pc' := 2) X ic_0 dL_leastStrength_1 rfl ?_
  refine sk_aload_n (pc' := 3) X rfl dL_leastStrength_2 rfl ?_
  refine sk_iload_n (pc' := 4) X rfl dL_leastStrength_3 rfl ?_
  refine sk_callVH1 (bs2 := fun r4 => [(pc_W u0 (u1 0) (u3 0) a0_ahead a0_savings a0_script), (nt_W G u1 (u2 0) S1), (lg_W G u2 S2), (nt_W G u3 (u4 0) r4.2.1), (lg_W G u4 r4.2.2), (ot_W G u5 S5)]) (st := [.int (0 : Int32), .ref (u5 0)]) (st2 := fun r4 => [.int r4.1, .int (0 : Int32), .ref (u5 0)]) (As := [.int p2]) (pc' := 7) X E (c_X4_leastStrength l hl0 t G u0 u1 u2 u3 u4 a0_ahead a0_savings a0_script S1 S2 S3 S4 p2) lk_RL_77 [0, 1, 2, 3, 4] rfl (by decide) (fun _ => rfl) rfl rfl rfl ⟨(Nat.le_of_ble_eq_true rfl), (Nat.le_of_ble_eq_true rfl)⟩ ⟨rfl, rfl⟩ ⟨(Nat.le_of_ble_eq_true rfl), (Nat.le_of_ble_eq_true rfl)⟩ rfl (Nat.le_of_ble_eq_true rfl) rfl dL_leastStrength_4 rfl (fun _ => rfl) rfl (fun _ => rfl) 1 (by decide) (by decide) q_552 rfl (fun r4 => ?_) ?_
  · refine sk_i2l (pc' := 8) X dL_leastStrength_7 rfl ?_
    refine sk_last (bs' := [(pc_W u0 (u1 0) (u3 0) a0_ahead a0_savings a0_script), (nt_W G u1 (u2 0) S1), (lg_W G u2 S2), (nt_W G u3 (u4 0) r4.2.1), (lg_W G u4 r4.2.2), (ot_W G u5 (vp_updL S5 ((0 : Int32)).toNatClampNeg (r4.1).toInt64))]) (pc' := 9) X 5 0 rfl rfl (sk_st 5 (ot_st_0 ..) rfl) dL_leastStrength_8 rfl ?_
    refine sk_lt (bsf := fun z => [(pc_W u0 (u1 0) (u3 0) a0_ahead a0_savings a0_script), (nt_W G u1 (u2 0) S1), (lg_W G u2 S2), (nt_W G u3 (u4 0) r4.2.1), (lg_W G u4 r4.2.2), (ot_W G u5 z)]) (lvf := fun _ => [some (.ref (u0 0)), some (.int p2), some (.ref (u5 0)), none]) (stf := fun _ => []) (fun N8 => ?_)
    refine sk_goto (tgt := 15) X dL_leastStrength_9 rfl ?_
    refine sk_iconst (pc' := 16) X ic_0 dL_leastStrength_15 rfl ?_
    exact sk_wiret X (Nat.le_of_ble_eq_true rfl) (Nat.le_of_ble_eq_true rfl) rfl rfl dL_leastStrength_16
  · intro q0
    refine sk_astore_n (lv' := [some (.ref (u0 0)), some (.int p2), some (.ref (u5 0)), some (.ref q0)]) (pc' := 13) X (Nat.le_of_ble_eq_true rfl) rfl rfl dL_leastStrength_12 rfl ?_
    refine sk_iconst (pc' := 14) X ic_1 dL_leastStrength_13 rfl ?_
    exact sk_wiret X (Nat.le_of_ble_eq_true rfl) (Nat.le_of_ble_eq_true rfl) rfl rfl dL_leastStrength_14
def rm_L_basin : Room := { frames := 8, cells := 2, slots := 12, locals := 160 }
def o_L_basin : (Int32 × sk_N × sk_N × sk_O) → Option Value := fun r => some (.int r.1)
def w_L_basin (G : sk_G) (u0 u1 u2 u3 u4 u5 : Nat → Nat) (a0_ahead a0_savings a0_script : Nat) (S1 : sk_N) (S2 : sk_N) : (Int32 × sk_N × sk_N × sk_O) → sk_B := fun r => [(pc_W u0 (u1 0) (u3 0) a0_ahead a0_savings a0_script), (nt_W G u1 (u2 0) S1), (lg_W G u2 S2), (nt_W G u3 (u4 0) r.2.1), (lg_W G u4 r.2.2.1), (ot_W G u5 r.2.2.2)]
set_option maxHeartbeats 4000000 in
set_option maxRecDepth 100000 in
theorem c_L_basin (l : Launch) (hl0 : l.stackTraces = false) (t : Nat) (G : sk_G) (u0 u1 u2 u3 u4 u5 : Nat → Nat) (a0_ahead a0_savings a0_script : Nat) (S1 : sk_N) (S2 : sk_N) (S3 : sk_N) (S4 : sk_N) (S5 : sk_O) (p2 : Int32) (p3 : Int32) : sk_wtr l G t yL_basin cL_basin 5 (some .int) [(0, 10, 13, 21), (0, 10, 17, 13)] rm_L_basin 2 12 [.ref (u0 0), .int p2, .int p3, .ref (u5 0)] [(pc_W u0 (u1 0) (u3 0) a0_ahead a0_savings a0_script), (nt_W G u1 (u2 0) S1), (lg_W G u2 S2), (nt_W G u3 (u4 0) S3), (lg_W G u4 S4), (ot_W G u5 S5)] (m_L_basin S1 S2 S3 S4 S5 p2 p3) o_L_basin (w_L_basin G u0 u1 u2 u3 u4 u5 a0_ahead a0_savings a0_script S1 S2) := by
  refine sk_wentry (own := RL) (by decide) rfl (lv0 := [some (.ref (u0 0)), some (.int p2), some (.int p3), some (.ref (u5 0)), none]) rfl (Nat.le_of_ble_eq_true rfl) ?_
  intro Γ X E
  unfold m_L_basin
  refine sk_aload_n (pc' := 1) X rfl dL_basin_0 rfl ?_
  refine sk_iconst (pc' := 2) X ic_0 dL_basin_1 rfl ?_
  refine sk_aload_n (pc' := 3) X rfl dL_basin_2 rfl ?_
  refine sk_iload_n (pc' := 4) X rfl dL_basin_3 rfl ?_
  refine sk_iload_n (pc' := 5) X rfl dL_basin_4 rfl ?_
  refine sk_callVH2 (bs2 := fun r5 => [(pc_W u0 (u1 0) (u3 0) a0_ahead a0_savings a0_script), (nt_W G u1 (u2 0) S1), (lg_W G u2 S2), (nt_W G u3 (u4 0) r5.2.1), (lg_W G u4 r5.2.2), (ot_W G u5 S5)]) (st := [.int (0 : Int32), .ref (u5 0)]) (st2 := fun r5 => [.int r5.1, .int (0 : Int32), .ref (u5 0)]) (As := [.int p2, .int p3]) (pc' := 8) X E (c_X4_basin l hl0 t G u0 u1 u2 u3 u4 a0_ahead a0_savings a0_script S1 S2 S3 S4 p2 p3) lk_RL_80 [0, 1, 2, 3, 4] rfl (by decide) (fun _ => rfl) rfl rfl rfl ⟨(Nat.le_of_ble_eq_true rfl), (Nat.le_of_ble_eq_true rfl)⟩ ⟨rfl, rfl⟩ ⟨(Nat.le_of_ble_eq_true rfl), (Nat.le_of_ble_eq_true rfl)⟩ rfl (Nat.le_of_ble_eq_true rfl) rfl dL_basin_5 rfl (fun _ => rfl) rfl (fun _ => rfl) 3 (by decide) (by decide) q_648 rfl 1 (by decide) (by decide) q_552 rfl (by decide) (fun r5 => ?_) ?_ ?_
  · refine sk_i2l (pc' := 9) X dL_basin_8 rfl ?_
    refine sk_last (bs' := [(pc_W u0 (u1 0) (u3 0) a0_ahead a0_savings a0_script), (nt_W G u1 (u2 0) S1), (lg_W G u2 S2), (nt_W G u3 (u4 0) r5.2.1), (lg_W G u4 r5.2.2), (ot_W G u5 (vp_updL S5 ((0 : Int32)).toNatClampNeg (r5.1).toInt64))]) (pc' := 10) X 5 0 rfl rfl (sk_st 5 (ot_st_0 ..) rfl) dL_basin_9 rfl ?_
    refine sk_lt (bsf := fun z => [(pc_W u0 (u1 0) (u3 0) a0_ahead a0_savings a0_script), (nt_W G u1 (u2 0) S1), (lg_W G u2 S2), (nt_W G u3 (u4 0) r5.2.1), (lg_W G u4 r5.2.2), (ot_W G u5 z)]) (lvf := fun _ => [some (.ref (u0 0)), some (.int p2), some (.int p3), some (.ref (u5 0)), none]) (stf := fun _ => []) (fun N9 => ?_)
    refine sk_goto (tgt := 21) X dL_basin_10 rfl ?_
    refine sk_iconst (pc' := 22) X ic_0 dL_basin_21 rfl ?_
    exact sk_wiret X (Nat.le_of_ble_eq_true rfl) (Nat.le_of_ble_eq_true rfl) rfl rfl dL_basin_22
  · intro q0
    refine sk_astore (lv' := [some (.ref (u0 0)), some (.int p2), some (.int p3), some (.ref (u5 0)), some (.ref q0)]) (pc' := 15) X (Nat.le_of_ble_eq_true rfl) rfl rfl dL_basin_13 rfl ?_
    refine sk_iconst (pc' := 16) X ic_1 dL_basin_15 rfl ?_
    exact sk_wiret X (Nat.le_of_ble_eq_true rfl) (Nat.le_of_ble_eq_true rfl) rfl rfl dL_basin_16
  · intro q1
    refine sk_astore (lv' := [some (.ref (u0 0)), some (.int p2), some (.int p3), some (.ref (u5 0)), some (.ref q1)]) (pc' := 19) X (Nat.le_of_ble_eq_true rfl) rfl rfl dL_basin_17 rfl ?_
    refine sk_iconst (pc' := 20) X ic_2 dL_basin_19 rfl ?_
    exact sk_wiret X (Nat.le_of_ble_eq_true rfl) (Nat.le_of_ble_eq_true rfl) rfl rfl dL_basin_20
def rm_L_worstPhase : Room := { frames := 8, cells := 2, slots := 12, locals := 162 }
def o_L_worstPhase : (Int32 × sk_N × sk_N × sk_O) → Option Value := fun r => some (.int r.1)
def w_L_worstPhase (G : sk_G) (u0 u1 u2 u3 u4 u5 : Nat → Nat) (a0_ahead a0_savings a0_script : Nat) (S1 : sk_N) (S2 : sk_N) : (Int32 × sk_N × sk_N × sk_O) → sk_B := fun r => [(pc_W u0 (u1 0) (u3 0) a0_ahead a0_savings a0_script), (nt_W G u1 (u2 0) S1), (lg_W G u2 S2), (nt_W G u3 (u4 0) r.2.1), (lg_W G u4 r.2.2.1), (ot_W G u5 r.2.2.2)]
set_option maxHeartbeats 4000000 in
set_option maxRecDepth 100000 in
theorem c_L_worstPhase (l : Launch) (hl0 : l.stackTraces = false) (t : Nat) (G : sk_G) (u0 u1 u2 u3 u4 u5 : Nat → Nat) (a0_ahead a0_savings a0_script : Nat) (S1 : sk_N) (S2 : sk_N) (S3 : sk_N) (S4 : sk_N) (S5 : sk_O) (p2 : Int32) (p3 : Int32) : sk_wtr l G t yL_worstPhase cL_worstPhase 5 (some .int) [(0, 10, 13, 21), (0, 10, 17, 13)] rm_L_worstPhase 2 12 [.ref (u0 0), .int p2, .int p3, .ref (u5 0)] [(pc_W u0 (u1 0) (u3 0) a0_ahead a0_savings a0_script), (nt_W G u1 (u2 0) S1), (lg_W G u2 S2), (nt_W G u3 (u4 0) S3), (lg_W G u4 S4), (ot_W G u5 S5)] (m_L_worstPhase S1 S2 S3 S4 S5 p2 p3) o_L_worstPhase (w_L_worstPhase G u0 u1 u2 u3 u4 u5 a0_ahead a0_savings a0_script S1 S2) := by
  refine sk_wentry (own := RL) (by decide) rfl (lv0 := [some (.ref (u0 0)), some (.int p2), some (.int p3), some (.ref (u5 0)), none]) rfl (Nat.le_of_ble_eq_true rfl) ?_
  intro Γ X E
  unfold m_L_worstPhase
  refine sk_aload_n (pc' := 1) X rfl dL_worstPhase_0 rfl ?_
  refine sk_iconst (pc' := 2) X ic_0 dL_worstPhase_1 rfl ?_
  refine sk_aload_n (pc' := 3) X rfl dL_worstPhase_2 rfl ?_
  refine sk_iload_n (pc' := 4) X rfl dL_worstPhase_3 rfl ?_
  refine sk_iload_n (pc' := 5) X rfl dL_worstPhase_4 rfl ?_
  refine sk_callVH2 (bs2 := fun r5 => [(pc_W u0 (u1 0) (u3 0) a0_ahead a0_savings a0_script), (nt_W G u1 (u2 0) S1), (lg_W G u2 S2), (nt_W G u3 (u4 0) r5.2.1), (lg_W G u4 r5.2.2), (ot_W G u5 S5)]) (st := [.int (0 : Int32), .ref (u5 0)]) (st2 := fun r5 => [.int r5.1, .int (0 : Int32), .ref (u5 0)]) (As := [.int p2, .int p3]) (pc' := 8) X E (c_X4_worstPhase l hl0 t G u0 u1 u2 u3 u4 a0_ahead a0_savings a0_script S1 S2 S3 S4 p2 p3) lk_RL_83 [0, 1, 2, 3, 4] rfl (by decide) (fun _ => rfl) rfl rfl rfl ⟨(Nat.le_of_ble_eq_true rfl), (Nat.le_of_ble_eq_true rfl)⟩ ⟨rfl, rfl⟩ ⟨(Nat.le_of_ble_eq_true rfl), (Nat.le_of_ble_eq_true rfl)⟩ rfl (Nat.le_of_ble_eq_true rfl) rfl dL_worstPhase_5 rfl (fun _ => rfl) rfl (fun _ => rfl) 3 (by decide) (by decide) q_648 rfl 1 (by decide) (by decide) q_552 rfl (by decide) (fun r5 => ?_) ?_ ?_
  · refine sk_i2l (pc' := 9) X dL_worstPhase_8 rfl ?_
    refine sk_last (bs' := [(pc_W u0 (u1 0) (u3 0) a0_ahead a0_savings a0_script), (nt_W G u1 (u2 0) S1), (lg_W G u2 S2), (nt_W G u3 (u4 0) r5.2.1), (lg_W G u4 r5.2.2), (ot_W G u5 (vp_updL S5 ((0 : Int32)).toNatClampNeg (r5.1).toInt64))]) (pc' := 10) X 5 0 rfl rfl (sk_st 5 (ot_st_0 ..) rfl) dL_worstPhase_9 rfl ?_
    refine sk_lt (bsf := fun z => [(pc_W u0 (u1 0) (u3 0) a0_ahead a0_savings a0_script), (nt_W G u1 (u2 0) S1), (lg_W G u2 S2), (nt_W G u3 (u4 0) r5.2.1), (lg_W G u4 r5.2.2), (ot_W G u5 z)]) (lvf := fun _ => [some (.ref (u0 0)), some (.int p2), some (.int p3), some (.ref (u5 0)), none]) (stf := fun _ => []) (fun N9 => ?_)
    refine sk_goto (tgt := 21) X dL_worstPhase_10 rfl ?_
    refine sk_iconst (pc' := 22) X ic_0 dL_worstPhase_21 rfl ?_
    exact sk_wiret X (Nat.le_of_ble_eq_true rfl) (Nat.le_of_ble_eq_true rfl) rfl rfl dL_worstPhase_22
  · intro q0
    refine sk_astore (lv' := [some (.ref (u0 0)), some (.int p2), some (.int p3), some (.ref (u5 0)), some (.ref q0)]) (pc' := 15) X (Nat.le_of_ble_eq_true rfl) rfl rfl dL_worstPhase_13 rfl ?_
    refine sk_iconst (pc' := 16) X ic_1 dL_worstPhase_15 rfl ?_
    exact sk_wiret X (Nat.le_of_ble_eq_true rfl) (Nat.le_of_ble_eq_true rfl) rfl rfl dL_worstPhase_16
  · intro q1
    refine sk_astore (lv' := [some (.ref (u0 0)), some (.int p2), some (.int p3), some (.ref (u5 0)), some (.ref q1)]) (pc' := 19) X (Nat.le_of_ble_eq_true rfl) rfl rfl dL_worstPhase_17 rfl ?_
    refine sk_iconst (pc' := 20) X ic_2 dL_worstPhase_19 rfl ?_
    exact sk_wiret X (Nat.le_of_ble_eq_true rfl) (Nat.le_of_ble_eq_true rfl) rfl rfl dL_worstPhase_20
def rm_L_blamed : Room := { frames := 8, cells := 1, slots := 6, locals := 158 }
def o_L_blamed : (Int32 × sk_N × sk_N × sk_O) → Option Value := fun r => some (.int r.1)
def w_L_blamed (G : sk_G) (u0 u1 u2 u3 u4 u5 : Nat → Nat) (a0_ahead a0_savings a0_script : Nat) (S1 : sk_N) (S2 : sk_N) : (Int32 × sk_N × sk_N × sk_O) → sk_B := fun r => [(pc_W u0 (u1 0) (u3 0) a0_ahead a0_savings a0_script), (nt_W G u1 (u2 0) S1), (lg_W G u2 S2), (nt_W G u3 (u4 0) r.2.1), (lg_W G u4 r.2.2.1), (ot_W G u5 r.2.2.2)]
set_option maxHeartbeats 4000000 in
set_option maxRecDepth 100000 in
theorem c_L_blamed (l : Launch) (hl0 : l.stackTraces = false) (t : Nat) (G : sk_G) (u0 u1 u2 u3 u4 u5 : Nat → Nat) (a0_ahead a0_savings a0_script : Nat) (S1 : sk_N) (S2 : sk_N) (S3 : sk_N) (S4 : sk_N) (S5 : sk_O) (p2 : Int32) : sk_wtr l G t yL_blamed cL_blamed 4 (some .int) [(0, 9, 12, 13)] rm_L_blamed 1 6 [.ref (u0 0), .int p2, .ref (u5 0)] [(pc_W u0 (u1 0) (u3 0) a0_ahead a0_savings a0_script), (nt_W G u1 (u2 0) S1), (lg_W G u2 S2), (nt_W G u3 (u4 0) S3), (lg_W G u4 S4), (ot_W G u5 S5)] (m_L_blamed S1 S2 S3 S4 S5 p2) o_L_blamed (w_L_blamed G u0 u1 u2 u3 u4 u5 a0_ahead a0_savings a0_script S1 S2) := by
  refine sk_wentry (own := RL) (by decide) rfl (lv0 := [some (.ref (u0 0)), some (.int p2), some (.ref (u5 0)), none]) rfl (Nat.le_of_ble_eq_true rfl) ?_
  intro Γ X E
  unfold m_L_blamed
  refine sk_aload_n (pc' := 1) X rfl dL_blamed_0 rfl ?_
  refine sk_iconst (pc' := 2) X ic_0 dL_blamed_1 rfl ?_
  refine sk_aload_n (pc' := 3) X rfl dL_blamed_2 rfl ?_
  refine sk_iload_n (pc' := 4) X rfl dL_blamed_3 rfl ?_
  refine sk_callVH1 (bs2 := fun r4 => [(pc_W u0 (u1 0) (u3 0) a0_ahead a0_savings a0_script), (nt_W G u1 (u2 0) S1), (lg_W G u2 S2), (nt_W G u3 (u4 0) r4.2.1), (lg_W G u4 r4.2.2), (ot_W G u5 S5)]) (st := [.int (0 : Int32), .ref (u5 0)]) (st2 := fun r4 => [.int r4.1, .int (0 : Int32), .ref (u5 0)]) (As := [.int p2]) (pc' := 7) X E (c_X4_blamed l hl0 t G u0 u1 u2 u3 u4 a0_ahead a0_savings a0_script S1 S2 S3 S4 p2) lk_RL_86 [0, 1, 2, 3, 4] rfl (by decide) (fun _ => rfl) rfl rfl rfl ⟨(Nat.le_of_ble_eq_true rfl), (Nat.le_of_ble_eq_true rfl)⟩ ⟨rfl, rfl⟩ ⟨(Nat.le_of_ble_eq_true rfl), (Nat.le_of_ble_eq_true rfl)⟩ rfl (Nat.le_of_ble_eq_true rfl) rfl dL_blamed_4 rfl (fun _ => rfl) rfl (fun _ => rfl) 1 (by decide) (by decide) q_552 rfl (fun r4 => ?_) ?_
  · refine sk_i2l (pc' := 8) X dL_blamed_7 rfl ?_
    refine sk_last (bs' := [(pc_W u0 (u1 0) (u3 0) a0_ahead a0_savings a0_script), (nt_W G u1 (u2 0) S1), (lg_W G u2 S2), (nt_W G u3 (u4 0) r4.2.1), (lg_W G u4 r4.2.2), (ot_W G u5 (vp_updL S5 ((0 : Int32)).toNatClampNeg (r4.1).toInt64))]) (pc' := 9) X 5 0 rfl rfl (sk_st 5 (ot_st_0 ..) rfl) dL_blamed_8 rfl ?_
    refine sk_lt (bsf := fun z => [(pc_W u0 (u1 0) (u3 0) a0_ahead a0_savings a0_script), (nt_W G u1 (u2 0) S1), (lg_W G u2 S2), (nt_W G u3 (u4 0) r4.2.1), (lg_W G u4 r4.2.2), (ot_W G u5 z)]) (lvf := fun _ => [some (.ref (u0 0)), some (.int p2), some (.ref (u5 0)), none]) (stf := fun _ => []) (fun N8 => ?_)
    refine sk_goto (tgt := 15) X dL_blamed_9 rfl ?_
    refine sk_iconst (pc' := 16) X ic_0 dL_blamed_15 rfl ?_
    exact sk_wiret X (Nat.le_of_ble_eq_true rfl) (Nat.le_of_ble_eq_true rfl) rfl rfl dL_blamed_16
  · intro q0
    refine sk_astore_n (lv' := [some (.ref (u0 0)), some (.int p2), some (.ref (u5 0)), some (.ref q0)]) (pc' := 13) X (Nat.le_of_ble_eq_true rfl) rfl rfl dL_blamed_12 rfl ?_
    refine sk_iconst (pc' := 14) X ic_1 dL_blamed_13 rfl ?_
    exact sk_wiret X (Nat.le_of_ble_eq_true rfl) (Nat.le_of_ble_eq_true rfl) rfl rfl dL_blamed_14
def rm_L_firesIn : Room := { frames := 8, cells := 2, slots := 12, locals := 136 }
def o_L_firesIn : (Int32 × sk_N × sk_N × sk_O) → Option Value := fun r => some (.int r.1)
def w_L_firesIn (G : sk_G) (u0 u1 u2 u3 u4 u5 : Nat → Nat) (a0_ahead a0_savings a0_script : Nat) (S1 : sk_N) (S2 : sk_N) : (Int32 × sk_N × sk_N × sk_O) → sk_B := fun r => [(pc_W u0 (u1 0) (u3 0) a0_ahead a0_savings a0_script), (nt_W G u1 (u2 0) S1), (lg_W G u2 S2), (nt_W G u3 (u4 0) r.2.1), (lg_W G u4 r.2.2.1), (ot_W G u5 r.2.2.2)]
set_option maxHeartbeats 4000000 in
set_option maxRecDepth 100000 in
theorem c_L_firesIn (l : Launch) (hl0 : l.stackTraces = false) (t : Nat) (G : sk_G) (u0 u1 u2 u3 u4 u5 : Nat → Nat) (a0_ahead a0_savings a0_script : Nat) (S1 : sk_N) (S2 : sk_N) (S3 : sk_N) (S4 : sk_N) (S5 : sk_O) (p2 : Int32) (p3 : Int32) : sk_wtr l G t yL_firesIn cL_firesIn 5 (some .int) [(0, 10, 13, 21), (0, 10, 17, 13)] rm_L_firesIn 2 12 [.ref (u0 0), .int p2, .int p3, .ref (u5 0)] [(pc_W u0 (u1 0) (u3 0) a0_ahead a0_savings a0_script), (nt_W G u1 (u2 0) S1), (lg_W G u2 S2), (nt_W G u3 (u4 0) S3), (lg_W G u4 S4), (ot_W G u5 S5)] (m_L_firesIn S1 S2 S3 S4 S5 p2 p3) o_L_firesIn (w_L_firesIn G u0 u1 u2 u3 u4 u5 a0_ahead a0_savings a0_script S1 S2) := by
  refine sk_wentry (own := RL) (by decide) rfl (lv0 := [some (.ref (u0 0)), some (.int p2), some (.int p3), some (.ref (u5 0)), none]) rfl (Nat.le_of_ble_eq_true rfl) ?_
  intro Γ X E
  unfold m_L_firesIn
  refine sk_aload_n (pc' := 1) X rfl dL_firesIn_0 rfl ?_
  refine sk_iconst (pc' := 2) X ic_0 dL_firesIn_1 rfl ?_
  refine sk_aload_n (pc' := 3) X rfl dL_firesIn_2 rfl ?_
  refine sk_iload_n (pc' := 4) X rfl dL_firesIn_3 rfl ?_
  refine sk_iload_n (pc' := 5) X rfl dL_firesIn_4 rfl ?_
  refine sk_callVH2 (bs2 := fun r5 => [(pc_W u0 (u1 0) (u3 0) a0_ahead a0_savings a0_script), (nt_W G u1 (u2 0) S1), (lg_W G u2 S2), (nt_W G u3 (u4 0) r5.2.1), (lg_W G u4 r5.2.2), (ot_W G u5 S5)]) (st := [.int (0 : Int32), .ref (u5 0)]) (st2 := fun r5 => [.int r5.1, .int (0 : Int32), .ref (u5 0)]) (As := [.int p2, .int p3]) (pc' := 8) X E (c_X4_firesIn l hl0 t G u0 u1 u2 u3 u4 a0_ahead a0_savings a0_script S1 S2 S3 S4 p2 p3) lk_RL_89 [0, 1, 2, 3, 4] rfl (by decide) (fun _ => rfl) rfl rfl rfl ⟨(Nat.le_of_ble_eq_true rfl), (Nat.le_of_ble_eq_true rfl)⟩ ⟨rfl, rfl⟩ ⟨(Nat.le_of_ble_eq_true rfl), (Nat.le_of_ble_eq_true rfl)⟩ rfl (Nat.le_of_ble_eq_true rfl) rfl dL_firesIn_5 rfl (fun _ => rfl) rfl (fun _ => rfl) 3 (by decide) (by decide) q_648 rfl 1 (by decide) (by decide) q_552 rfl (by decide) (fun r5 => ?_) ?_ ?_
  · refine sk_i2l (pc' := 9) X dL_firesIn_8 rfl ?_
    refine sk_last (bs' := [(pc_W u0 (u1 0) (u3 0) a0_ahead a0_savings a0_script), (nt_W G u1 (u2 0) S1), (lg_W G u2 S2), (nt_W G u3 (u4 0) r5.2.1), (lg_W G u4 r5.2.2), (ot_W G u5 (vp_updL S5 ((0 : Int32)).toNatClampNeg (r5.1).toInt64))]) (pc' := 10) X 5 0 rfl rfl (sk_st 5 (ot_st_0 ..) rfl) dL_firesIn_9 rfl ?_
    refine sk_lt (bsf := fun z => [(pc_W u0 (u1 0) (u3 0) a0_ahead a0_savings a0_script), (nt_W G u1 (u2 0) S1), (lg_W G u2 S2), (nt_W G u3 (u4 0) r5.2.1), (lg_W G u4 r5.2.2), (ot_W G u5 z)]) (lvf := fun _ => [some (.ref (u0 0)), some (.int p2), some (.int p3), some (.ref (u5 0)), none]) (stf := fun _ => []) (fun N9 => ?_)
    refine sk_goto (tgt := 21) X dL_firesIn_10 rfl ?_
    refine sk_iconst (pc' := 22) X ic_0 dL_firesIn_21 rfl ?_
    exact sk_wiret X (Nat.le_of_ble_eq_true rfl) (Nat.le_of_ble_eq_true rfl) rfl rfl dL_firesIn_22
  · intro q0
    refine sk_astore (lv' := [some (.ref (u0 0)), some (.int p2), some (.int p3), some (.ref (u5 0)), some (.ref q0)]) (pc' := 15) X (Nat.le_of_ble_eq_true rfl) rfl rfl dL_firesIn_13 rfl ?_
    refine sk_iconst (pc' := 16) X ic_1 dL_firesIn_15 rfl ?_
    exact sk_wiret X (Nat.le_of_ble_eq_true rfl) (Nat.le_of_ble_eq_true rfl) rfl rfl dL_firesIn_16
  · intro q1
    refine sk_astore (lv' := [some (.ref (u0 0)), some (.int p2), some (.int p3), some (.ref (u5 0)), some (.ref q1)]) (pc' := 19) X (Nat.le_of_ble_eq_true rfl) rfl rfl dL_firesIn_17 rfl ?_
    refine sk_iconst (pc' := 20) X ic_2 dL_firesIn_19 rfl ?_
    exact sk_wiret X (Nat.le_of_ble_eq_true rfl) (Nat.le_of_ble_eq_true rfl) rfl rfl dL_firesIn_20
def rm_L_append : Room := { frames := 7, cells := 1, slots := 6, locals := 111 }
def o_L_append : (Int32 × sk_N × sk_O) → Option Value := fun r => some (.int r.1)
def w_L_append (G : sk_G) (u0 u1 u2 : Nat → Nat) (a0_network a0_thought a0_ahead a0_savings : Nat) : (Int32 × sk_N × sk_O) → sk_B := fun r => [(pc_W u0 a0_network a0_thought a0_ahead a0_savings (u1 0)), (sc_W G u1 r.2.1), (ot_W G u2 r.2.2)]
set_option maxHeartbeats 4000000 in
set_option maxRecDepth 100000 in
theorem c_L_append (l : Launch) (hl0 : l.stackTraces = false) (t : Nat) (G : sk_G) (u0 u1 u2 : Nat → Nat) (a0_network a0_thought a0_ahead a0_savings : Nat) (S1 : sk_N) (S2 : sk_O) (p2 : Int32) : sk_wtr l G t yL_append cL_append 4 (some .int) [(0, 9, 12, 13), (0, 9, 15, 15)] rm_L_append 1 6 [.ref (u0 0), .int p2, .ref (u2 0)] [(pc_W u0 a0_network a0_thought a0_ahead a0_savings (u1 0)), (sc_W G u1 S1), (ot_W G u2 S2)] (m_L_append S1 S2 p2) o_L_append (w_L_append G u0 u1 u2 a0_network a0_thought a0_ahead a0_savings) := by
  refine sk_wentry (own := RL) (by decide) rfl (lv0 := [some (.ref (u0 0)), some (.int p2), some (.ref (u2 0)), none]) rfl (Nat.le_of_ble_eq_true rfl) ?_
  intro Γ X E
  unfold m_L_append
  refine sk_aload_n (pc' := 1) X rfl dL_append_0 rfl ?_
  refine sk_iconst (pc' := 2) X ic_0 dL_append_1 rfl ?_
  refine sk_aload_n (pc' := 3) X rfl dL_append_2 rfl ?_
  refine sk_iload_n (pc' := 4) X rfl dL_append_3 rfl ?_
  refine sk_callVH2 (bs2 := fun r4 => [(pc_W u0 a0_network a0_thought a0_ahead a0_savings (u1 0)), (sc_W G u1 r4.2), (ot_W G u2 S2)]) (st := [.int (0 : Int32), .ref (u2 0)]) (st2 := fun r4 => [.int r4.1, .int (0 : Int32), .ref (u2 0)]) (As := [.int p2]) (pc' := 7) X E (c_X4_append l hl0 t G u0 u1 a0_network a0_thought a0_ahead a0_savings S1 p2) lk_RL_92 [0, 1] rfl (by decide) (fun _ => rfl) rfl rfl rfl ⟨(Nat.le_of_ble_eq_true rfl), (Nat.le_of_ble_eq_true rfl)⟩ ⟨rfl, rfl⟩ ⟨(Nat.le_of_ble_eq_true rfl), (Nat.le_of_ble_eq_true rfl)⟩ rfl (Nat.le_of_ble_eq_true rfl) rfl dL_append_4 rfl (fun _ => rfl) rfl (fun _ => rfl) 1 (by decide) (by decide) q_552 rfl 2 (by decide) (by decide) q_553 rfl (by decide) (fun r4 => ?_) ?_ ?_
  · refine sk_i2l (pc' := 8) X dL_append_7 rfl ?_
    refine sk_last (bs' := [(pc_W u0 a0_network a0_thought a0_ahead a0_savings (u1 0)), (sc_W G u1 r4.2), (ot_W G u2 (vp_updL S2 ((0 : Int32)).toNatClampNeg (r4.1).toInt64))]) (pc' := 9) X 2 0 rfl rfl (sk_st 2 (ot_st_0 ..) rfl) dL_append_8 rfl ?_
    refine sk_lt (bsf := fun z => [(pc_W u0 a0_network a0_thought a0_ahead a0_savings (u1 0)), (sc_W G u1 r4.2), (ot_W G u2 z)]) (lvf := fun _ => [some (.ref (u0 0)), some (.int p2), some (.ref (u2 0)), none]) (stf := fun _ => []) (fun N8 => ?_)
    refine sk_goto (tgt := 18) X dL_append_9 rfl ?_
    refine sk_iconst (pc' := 19) X ic_0 dL_append_18 rfl ?_
    exact sk_wiret X (Nat.le_of_ble_eq_true rfl) (Nat.le_of_ble_eq_true rfl) rfl rfl dL_append_19
  · intro q0
    refine sk_astore_n (lv' := [some (.ref (u0 0)), some (.int p2), some (.ref (u2 0)), some (.ref q0)]) (pc' := 13) X (Nat.le_of_ble_eq_true rfl) rfl rfl dL_append_12 rfl ?_
    refine sk_iconst (pc' := 14) X ic_1 dL_append_13 rfl ?_
    exact sk_wiret X (Nat.le_of_ble_eq_true rfl) (Nat.le_of_ble_eq_true rfl) rfl rfl dL_append_14
  · intro q1
    refine sk_astore_n (lv' := [some (.ref (u0 0)), some (.int p2), some (.ref (u2 0)), some (.ref q1)]) (pc' := 16) X (Nat.le_of_ble_eq_true rfl) rfl rfl dL_append_15 rfl ?_
    refine sk_iconst (pc' := 17) X ic_2 dL_append_16 rfl ?_
    exact sk_wiret X (Nat.le_of_ble_eq_true rfl) (Nat.le_of_ble_eq_true rfl) rfl rfl dL_append_17
def rm_L_undo : Room := { frames := 7, cells := 1, slots := 6, locals := 123 }
def o_L_undo : (Int32 × sk_N × sk_N × sk_N × sk_O) → Option Value := fun r => some (.int r.1)
def w_L_undo (G : sk_G) (u0 u1 u2 u3 u4 u5 u6 u7 u8 u9 u10 u11 u12 : Nat → Nat) (a0_thought a0_ahead a0_script : Nat) (S4 : sk_N) (S5 : sk_N) (S6 : sk_N) (S7 : sk_N) (S8 : sk_N) (S9 : sk_N) (S10 : sk_N) (S11 : sk_N) : (Int32 × sk_N × sk_N × sk_N × sk_O) → sk_B := fun r => [(pc_W u0 (u1 0) a0_thought a0_ahead (u3 0) a0_script), (nt_W G u1 (u2 0) r.2.1), (lg_W G u2 r.2.2.1), (sv_W G u3 (u4 0) (u6 0) (u8 0) (u10 0) r.2.2.2.1), (nt_W G u4 (u5 0) S4), (lg_W G u5 S5), (nt_W G u6 (u7 0) S6), (lg_W G u7 S7), (nt_W G u8 (u9 0) S8), (lg_W G u9 S9), (nt_W G u10 (u11 0) S10), (lg_W G u11 S11), (ot_W G u12 r.2.2.2.2)]
set_option maxHeartbeats 4000000 in
set_option maxRecDepth 100000 in
theorem c_L_undo (l : Launch) (hl0 : l.stackTraces = false) (t : Nat) (G : sk_G) (u0 u1 u2 u3 u4 u5 u6 u7 u8 u9 u10 u11 u12 : Nat → Nat) (a0_thought a0_ahead a0_script : Nat) (S1 : sk_N) (S2 : sk_N) (S3 : sk_N) (S4 : sk_N) (S5 : sk_N) (S6 : sk_N) (S7 : sk_N) (S8 : sk_N) (S9 : sk_N) (S10 : sk_N) (S11 : sk_N) (S12 : sk_O) : sk_wtr l G t yL_undo cL_undo 3 (some .int) [(0, 8, 11, 15)] rm_L_undo 1 6 [.ref (u0 0), .ref (u12 0)] [(pc_W u0 (u1 0) a0_thought a0_ahead (u3 0) a0_script), (nt_W G u1 (u2 0) S1), (lg_W G u2 S2), (sv_W G u3 (u4 0) (u6 0) (u8 0) (u10 0) S3), (nt_W G u4 (u5 0) S4), (lg_W G u5 S5), (nt_W G u6 (u7 0) S6), (lg_W G u7 S7), (nt_W G u8 (u9 0) S8), (lg_W G u9 S9), (nt_W G u10 (u11 0) S10), (lg_W G u11 S11), (ot_W G u12 S12)] (m_L_undo S1 S2 S3 S4 S5 S6 S7 S8 S9 S10 S11 S12) o_L_undo (w_L_undo G u0 u1 u2 u3 u4 u5 u6 u7 u8 u9 u10 u11 u12 a0_thought a0_ahead a0_script S4 S5 S6 S7 S8 S9 S10 S11) := by
  refine sk_wentry (own := RL) (by decide) rfl (lv0 := [some (.ref (u0 0)), some (.ref (u12 0)), none]) rfl (Nat.le_of_ble_eq_true rfl) ?_
  intro Γ X E
  unfold m_L_undo
  refine sk_aload_n (pc' := 1) X rfl dL_undo_0 rfl ?_
  refine sk_iconst (pc' := 2) X ic_0 dL_undo_1 rfl ?_
  refine sk_aload_n (pc' := 3) X rfl dL_undo_2 rfl ?_
  refine sk_callVH1 (bs2 := fun r3 => [(pc_W u0 (u1 0) a0_thought a0_ahead (u3 0) a0_script), (nt_W G u1 (u2 0) r3.2.1), (lg_W G u2 r3.2.2.1), (sv_W G u3 (u4 0) (u6 0) (u8 0) (u10 0) r3.2.2.2), (nt_W G u4 (u5 0) S4), (lg_W G u5 S5), (nt_W G u6 (u7 0) S6), (lg_W G u7 S7), (nt_W G u8 (u9 0) S8), (lg_W G u9 S9), (nt_W G u10 (u11 0) S10), (lg_W G u11 S11), (ot_W G u12 S12)]) (st := [.int (0 : Int32), .ref (u12 0)]) (st2 := fun r3 => [.int r3.1, .int (0 : Int32), .ref (u12 0)]) (As := []) (pc' := 6) X E (c_X4_undo l hl0 t G u0 u1 u2 u3 u4 u5 u6 u7 u8 u9 u10 u11 a0_thought a0_ahead a0_script S1 S2 S3 S4 S5 S6 S7 S8 S9 S10 S11) lk_RL_95 [0, 1, 2, 3, 4, 5, 6, 7, 8, 9, 10, 11] rfl (by decide) (fun _ => rfl) rfl rfl rfl ⟨(Nat.le_of_ble_eq_true rfl), (Nat.le_of_ble_eq_true rfl)⟩ ⟨rfl, rfl⟩ ⟨(Nat.le_of_ble_eq_true rfl), (Nat.le_of_ble_eq_true rfl)⟩ rfl (Nat.le_of_ble_eq_true rfl) rfl dL_undo_3 rfl (fun _ => rfl) rfl (fun _ => rfl) 2 (by decide) (by decide) q_553 rfl (fun r3 => ?_) ?_
  · refine sk_i2l (pc' := 7) X dL_undo_6 rfl ?_
    refine sk_last (bs' := [(pc_W u0 (u1 0) a0_thought a0_ahead (u3 0) a0_script), (nt_W G u1 (u2 0) r3.2.1), (lg_W G u2 r3.2.2.1), (sv_W G u3 (u4 0) (u6 0) (u8 0) (u10 0) r3.2.2.2), (nt_W G u4 (u5 0) S4), (lg_W G u5 S5), (nt_W G u6 (u7 0) S6), (lg_W G u7 S7), (nt_W G u8 (u9 0) S8), (lg_W G u9 S9), (nt_W G u10 (u11 0) S10), (lg_W G u11 S11), (ot_W G u12 (vp_updL S12 ((0 : Int32)).toNatClampNeg (r3.1).toInt64))]) (pc' := 8) X 12 0 rfl rfl (sk_st 12 (ot_st_0 ..) rfl) dL_undo_7 rfl ?_
    refine sk_lt (bsf := fun z => [(pc_W u0 (u1 0) a0_thought a0_ahead (u3 0) a0_script), (nt_W G u1 (u2 0) r3.2.1), (lg_W G u2 r3.2.2.1), (sv_W G u3 (u4 0) (u6 0) (u8 0) (u10 0) r3.2.2.2), (nt_W G u4 (u5 0) S4), (lg_W G u5 S5), (nt_W G u6 (u7 0) S6), (lg_W G u7 S7), (nt_W G u8 (u9 0) S8), (lg_W G u9 S9), (nt_W G u10 (u11 0) S10), (lg_W G u11 S11), (ot_W G u12 z)]) (lvf := fun _ => [some (.ref (u0 0)), some (.ref (u12 0)), none]) (stf := fun _ => []) (fun N7 => ?_)
    refine sk_goto (tgt := 14) X dL_undo_8 rfl ?_
    refine sk_iconst (pc' := 15) X ic_0 dL_undo_14 rfl ?_
    exact sk_wiret X (Nat.le_of_ble_eq_true rfl) (Nat.le_of_ble_eq_true rfl) rfl rfl dL_undo_15
  · intro q0
    refine sk_astore_n (lv' := [some (.ref (u0 0)), some (.ref (u12 0)), some (.ref q0)]) (pc' := 12) X (Nat.le_of_ble_eq_true rfl) rfl rfl dL_undo_11 rfl ?_
    refine sk_iconst (pc' := 13) X ic_1 dL_undo_12 rfl ?_
    exact sk_wiret X (Nat.le_of_ble_eq_true rfl) (Nat.le_of_ble_eq_true rfl) rfl rfl dL_undo_13
