def rm_X5_doTick : Room := { frames := 4, cells := 0, slots := 0, locals := 90 }
def o_X5_doTick : (Int32 × sk_M) → Option Value := fun r => some (.int r.1)
def w_X5_doTick (G : sk_G) (u0 : Nat → Nat) : (Int32 × sk_M) → sk_B := fun r => [(md_W G u0 r.2)]
set_option maxHeartbeats 4000000 in
set_option maxRecDepth 100000 in
theorem c_X5_doTick (l : Launch) (G : sk_G) (u0 : Nat → Nat) (S0 : sk_M) (p1 : Int32) : sk_ctr l G yX5_doTick cX5_doTick 4 (some .int) rm_X5_doTick [.ref (u0 0), .int p1] [(md_W G u0 S0)] (m_X5_doTick S0 p1) o_X5_doTick (w_X5_doTick G u0) := by
  refine sk_entry (own := RX5) (by decide) rfl (lv0 := [some (.ref (u0 0)), some (.int p1), none, none]) rfl (Nat.le_of_ble_eq_true rfl) ?_
  intro Γ X
  have h4 : ∀ s4 : sk_M × Int32 × Int32, sk_S Γ (sk_Φ Γ o_X5_doTick (w_X5_doTick G u0)) 0 0 (m_X5_doTick_4 p1 s4) [(md_W G u0 s4.1)] [some (.ref (u0 0)), some (.int p1), some (.int s4.2.1), some (.int s4.2.2)] 4 [] := by
    intro s4
    unfold m_X5_doTick_4
    refine sk_loop (bsf := fun s4 => [(md_W G u0 s4.1)]) (lvf := fun s4 => [some (.ref (u0 0)), some (.int p1), some (.int s4.2.1), some (.int s4.2.2)]) ?_ sk_fuel s4
    intro k4 s4 ih4
    unfold m_X5_doTick_4_step
    refine sk_iload_n (pc' := 5) X rfl dX5_doTick_4 rfl ?_
    refine sk_iload_n (pc' := 6) X rfl dX5_doTick_5 rfl ?_
    refine sk_icmp_ge (tgt := 22) (pc' := 9) X dX5_doTick_6 rfl rfl ?_ ?_
    · refine sk_iload_n (pc' := 23) X rfl dX5_doTick_22 rfl ?_
      exact sk_iret X rfl rfl dX5_doTick_23
    · refine sk_iload_n (pc' := 10) X rfl dX5_doTick_9 rfl ?_
      refine sk_aload_n (pc' := 11) X rfl dX5_doTick_10 rfl ?_
      refine sk_callV (bs2 := fun r11 => [(md_W G u0 r11.2)]) (st := [.int s4.2.1]) (st2 := fun r11 => [.int r11.1, .int s4.2.1]) (As := []) (pc' := 14) X (c_X5_ticks l G u0 s4.1) lk_RX5_139 [0] rfl (by decide) (fun _ => rfl) rfl rfl rfl ⟨(Nat.le_of_ble_eq_true rfl), (Nat.le_of_ble_eq_true rfl)⟩ ⟨rfl, rfl⟩ ⟨(Nat.le_of_ble_eq_true rfl), (Nat.le_of_ble_eq_true rfl)⟩ rfl (Nat.le_of_ble_eq_true rfl) rfl dX5_doTick_11 rfl (fun _ => rfl) (fun _ => rfl) (fun r11 => ?_)
      refine sk_iadd (pc' := 15) X dX5_doTick_14 rfl ?_
      refine sk_istore_n (lv' := [some (.ref (u0 0)), some (.int p1), some (.int (s4.2.1 + r11.1)), some (.int s4.2.2)]) (pc' := 16) X (Nat.le_of_ble_eq_true rfl) rfl rfl dX5_doTick_15 rfl ?_
      refine sk_lt (bsf := fun _ => [(md_W G u0 r11.2)]) (lvf := fun z => [some (.ref (u0 0)), some (.int p1), some (.int z), some (.int s4.2.2)]) (stf := fun _ => []) (fun x15 => ?_)
      refine sk_iinc (lv' := [some (.ref (u0 0)), some (.int p1), some (.int x15), some (.int (s4.2.2 + (1 : Int32)))]) (pc' := 19) X rfl ic_1 (Nat.le_of_ble_eq_true rfl) rfl rfl dX5_doTick_16 rfl ?_
      refine sk_goto (tgt := 4) X dX5_doTick_19 rfl ?_
      exact (ih4 (r11.2, x15, (s4.2.2 + (1 : Int32))))
  unfold m_X5_doTick
  refine sk_iconst (pc' := 1) X ic_0 dX5_doTick_0 rfl ?_
  refine sk_istore_n (lv' := [some (.ref (u0 0)), some (.int p1), some (.int (0 : Int32)), none]) (pc' := 2) X (Nat.le_of_ble_eq_true rfl) rfl rfl dX5_doTick_1 rfl ?_
  refine sk_iconst (pc' := 3) X ic_0 dX5_doTick_2 rfl ?_
  refine sk_istore_n (lv' := [some (.ref (u0 0)), some (.int p1), some (.int (0 : Int32)), some (.int (0 : Int32))]) (pc' := 4) X (Nat.le_of_ble_eq_true rfl) rfl rfl dX5_doTick_3 rfl ?_
  exact (h4 (S0, (0 : Int32), (0 : Int32)))
def rm_X5_tick : Room := { frames := 5, cells := 0, slots := 0, locals := 113 }
def o_X5_tick : (Int32 × sk_M) → Option Value := fun r => some (.int r.1)
def w_X5_tick (G : sk_G) (u0 : Nat → Nat) : (Int32 × sk_M) → sk_B := fun r => [(md_W G u0 r.2)]
set_option maxHeartbeats 4000000 in
set_option maxRecDepth 100000 in
theorem c_X5_tick (l : Launch) (G : sk_G) (u0 : Nat → Nat) (S0 : sk_M) (p1 : Int32) : sk_ctr l G yX5_tick cX5_tick 2 (some .int) rm_X5_tick [.ref (u0 0), .int p1] [(md_W G u0 S0)] (m_X5_tick S0 p1) o_X5_tick (w_X5_tick G u0) := by
  refine sk_entry (own := RX5) (by decide) rfl (lv0 := [some (.ref (u0 0)), some (.int p1)]) rfl (Nat.le_of_ble_eq_true rfl) ?_
  intro Γ X
  unfold m_X5_tick
  refine sk_aload_n (pc' := 1) X rfl dX5_tick_0 rfl ?_
  refine sk_aload_n (pc' := 2) X rfl dX5_tick_1 rfl ?_
  refine sk_iload_n (pc' := 3) X rfl dX5_tick_2 rfl ?_
  refine sk_iconst (pc' := 4) X ic_1 dX5_tick_3 rfl ?_
  refine sk_bipush (pc' := 6) X bp_99 dX5_tick_4 rfl ?_
  refine sk_callS (bs2 := fun r6 => [(md_W G u0 S0)]) (st := [.ref (u0 0), .ref (u0 0)]) (st2 := fun r6 => [.int r6, .ref (u0 0), .ref (u0 0)]) (As := [.int p1, .int (1 : Int32), .int (99 : Int32)]) (pc' := 9) X (c_X5_within l G p1 (1 : Int32) (99 : Int32)) lk_RX5_39 [] rfl (by decide) (fun _ => rfl) ⟨(Nat.le_of_ble_eq_true rfl), (Nat.le_of_ble_eq_true rfl)⟩ ⟨rfl, rfl⟩ ⟨(Nat.le_of_ble_eq_true rfl), (Nat.le_of_ble_eq_true rfl)⟩ rfl (Nat.le_of_ble_eq_true rfl) rfl dX5_tick_6 rfl (fun _ => rfl) (fun _ => rfl) (fun r6 => ?_)
  refine sk_callV (bs2 := fun r9 => [(md_W G u0 S0)]) (st := [.ref (u0 0)]) (st2 := fun r9 => [.int r9, .ref (u0 0)]) (As := [.int r6]) (pc' := 12) X (c_X5_need l G u0 S0 r6) lk_RX5_94 [0] rfl (by decide) (fun _ => rfl) rfl rfl rfl ⟨(Nat.le_of_ble_eq_true rfl), (Nat.le_of_ble_eq_true rfl)⟩ ⟨rfl, rfl⟩ ⟨(Nat.le_of_ble_eq_true rfl), (Nat.le_of_ble_eq_true rfl)⟩ rfl (Nat.le_of_ble_eq_true rfl) rfl dX5_tick_9 rfl (fun _ => rfl) (fun _ => rfl) (fun r9 => ?_)
  refine sk_callV (bs2 := fun r12 => [(md_W G u0 r12.2)]) (st := []) (st2 := fun r12 => [.int r12.1]) (As := [.int r9]) (pc' := 15) X (c_X5_refused l G u0 S0 r9) lk_RX5_46 [0] rfl (by decide) (fun _ => rfl) rfl rfl rfl ⟨(Nat.le_of_ble_eq_true rfl), (Nat.le_of_ble_eq_true rfl)⟩ ⟨rfl, rfl⟩ ⟨(Nat.le_of_ble_eq_true rfl), (Nat.le_of_ble_eq_true rfl)⟩ rfl (Nat.le_of_ble_eq_true rfl) rfl dX5_tick_12 rfl (fun _ => rfl) (fun _ => rfl) (fun r12 => ?_)
  refine sk_if_eq (tgt := 20) (pc' := 18) X dX5_tick_15 rfl rfl ?_ ?_
  · refine sk_aload_n (pc' := 21) X rfl dX5_tick_20 rfl ?_
    refine sk_callV (bs2 := fun r21 => [(md_W G u0 r21)]) (st := []) (st2 := fun r21 => []) (As := []) (pc' := 24) X (c_X5_saves l G u0 r12.2) lk_RX5_54 [0] rfl (by decide) (fun _ => rfl) rfl rfl rfl ⟨(Nat.le_of_ble_eq_true rfl), (Nat.le_of_ble_eq_true rfl)⟩ ⟨rfl, rfl⟩ ⟨(Nat.le_of_ble_eq_true rfl), (Nat.le_of_ble_eq_true rfl)⟩ rfl (Nat.le_of_ble_eq_true rfl) rfl dX5_tick_21 rfl (fun _ => rfl) (fun _ => rfl) (fun r21 => ?_)
    refine sk_aload_n (pc' := 25) X rfl dX5_tick_24 rfl ?_
    refine sk_iload_n (pc' := 26) X rfl dX5_tick_25 rfl ?_
    refine sk_callV (bs2 := fun r26 => [(md_W G u0 r26.2)]) (st := []) (st2 := fun r26 => [.int r26.1]) (As := [.int p1]) (pc' := 29) X (c_X5_doTick l G u0 r21 p1) lk_RX5_142 [0] rfl (by decide) (fun _ => rfl) rfl rfl rfl ⟨(Nat.le_of_ble_eq_true rfl), (Nat.le_of_ble_eq_true rfl)⟩ ⟨rfl, rfl⟩ ⟨(Nat.le_of_ble_eq_true rfl), (Nat.le_of_ble_eq_true rfl)⟩ rfl (Nat.le_of_ble_eq_true rfl) rfl dX5_tick_26 rfl (fun _ => rfl) (fun _ => rfl) (fun r26 => ?_)
    exact sk_iret X rfl rfl dX5_tick_29
  · refine sk_iconst (pc' := 19) X ic_0 dX5_tick_18 rfl ?_
    exact sk_iret X rfl rfl dX5_tick_19
def rm_X5_now : Room := { frames := 0, cells := 0, slots := 0, locals := 0 }
def o_X5_now : (Int32 × sk_M) → Option Value := fun r => some (.int r.1)
def w_X5_now (G : sk_G) (u0 : Nat → Nat) : (Int32 × sk_M) → sk_B := fun r => [(md_W G u0 r.2)]
set_option maxHeartbeats 4000000 in
set_option maxRecDepth 100000 in
theorem c_X5_now (l : Launch) (G : sk_G) (u0 : Nat → Nat) (S0 : sk_M) : sk_ctr l G yX5_now cX5_now 1 (some .int) rm_X5_now [.ref (u0 0)] [(md_W G u0 S0)] (m_X5_now S0) o_X5_now (w_X5_now G u0) := by
  refine sk_entry (own := RX5) (by decide) rfl (lv0 := [some (.ref (u0 0))]) rfl (Nat.le_of_ble_eq_true rfl) ?_
  intro Γ X
  unfold m_X5_now
  refine sk_aload_n (pc' := 1) X rfl dX5_now_0 rfl ?_
  refine sk_iconst (pc' := 2) X ic_0 dX5_now_1 rfl ?_
  refine sk_putf (bs' := [(md_W G u0 (md_up S0 0 4 (0 : Int32)))]) (pc' := 5) X 0 0 4 in_RX5 tyX5 tyX5_ok nmX5 rfl rfl rfl (Nat.le_of_ble_eq_true rfl) fl_RX5_35 rfl (tyX5_ok 4 (Nat.le_of_ble_eq_true rfl)) rfl rfl (Nat.le_of_ble_eq_true rfl) (sk_st 0 (md_pf_4 ..) rfl) dX5_now_2 rfl ?_
  refine sk_lt (bsf := fun z => [(md_W G u0 z)]) (lvf := fun _ => [some (.ref (u0 0))]) (stf := fun _ => []) (fun N2 => ?_)
  refine sk_aload_n (pc' := 6) X rfl dX5_now_5 rfl ?_
  refine sk_getf (pc' := 9) X 0 0 0 in_RX5 rfl rfl rfl (Nat.le_of_ble_eq_true rfl) fl_RX5_7 rfl dX5_now_6 rfl ?_
  refine sk_iconst (pc' := 10) X ic_4 dX5_now_9 rfl ?_
  refine sk_iald (pc' := 11) X 0 1 rfl rfl dX5_now_10 rfl ?_
  exact sk_iret X rfl rfl dX5_now_11
def rm_X5_noted : Room := { frames := 1, cells := 0, slots := 0, locals := 22 }
def o_X5_noted : (Int32 × sk_M) → Option Value := fun r => some (.int r.1)
def w_X5_noted (G : sk_G) (u0 : Nat → Nat) : (Int32 × sk_M) → sk_B := fun r => [(md_W G u0 r.2)]
set_option maxHeartbeats 4000000 in
set_option maxRecDepth 100000 in
theorem c_X5_noted (l : Launch) (G : sk_G) (u0 : Nat → Nat) (S0 : sk_M) (p1 : Int32) (p2 : Int32) : sk_ctr l G yX5_noted cX5_noted 3 (some .int) rm_X5_noted [.ref (u0 0), .int p1, .int p2] [(md_W G u0 S0)] (m_X5_noted S0 p1 p2) o_X5_noted (w_X5_noted G u0) := by
  refine sk_entry (own := RX5) (by decide) rfl (lv0 := [some (.ref (u0 0)), some (.int p1), some (.int p2)]) rfl (Nat.le_of_ble_eq_true rfl) ?_
  intro Γ X
  have h54 : ∀ s54 : sk_M × Int32 × Int32, sk_S Γ (sk_Φ Γ o_X5_noted (w_X5_noted G u0)) 0 0 (m_X5_noted_54 p1 p2 s54) [(md_W G u0 s54.1)] [none, none, none] 54 [.int s54.2.2, .int s54.2.1, .ref (u0 1)] := by
    intro s54
    unfold m_X5_noted_54
    refine sk_iadd (pc' := 55) X dX5_noted_54 rfl ?_
    refine sk_iald (pc' := 56) X 0 1 rfl rfl dX5_noted_55 rfl ?_
    exact sk_iret X rfl rfl dX5_noted_56
  unfold m_X5_noted
  refine sk_aload_n (pc' := 1) X rfl dX5_noted_0 rfl ?_
  refine sk_iconst (pc' := 2) X ic_0 dX5_noted_1 rfl ?_
  refine sk_putf (bs' := [(md_W G u0 (md_up S0 0 4 (0 : Int32)))]) (pc' := 5) X 0 0 4 in_RX5 tyX5 tyX5_ok nmX5 rfl rfl rfl (Nat.le_of_ble_eq_true rfl) fl_RX5_35 rfl (tyX5_ok 4 (Nat.le_of_ble_eq_true rfl)) rfl rfl (Nat.le_of_ble_eq_true rfl) (sk_st 0 (md_pf_4 ..) rfl) dX5_noted_2 rfl ?_
  refine sk_lt (bsf := fun z => [(md_W G u0 z)]) (lvf := fun _ => [some (.ref (u0 0)), some (.int p1), some (.int p2)]) (stf := fun _ => []) (fun N2 => ?_)
  refine sk_iload_n (pc' := 6) X rfl dX5_noted_5 rfl ?_
  refine sk_iconst (pc' := 7) X ic_0 dX5_noted_6 rfl ?_
  refine sk_aload_n (pc' := 8) X rfl dX5_noted_7 rfl ?_
  refine sk_getf (pc' := 11) X 0 0 0 in_RX5 rfl rfl rfl (Nat.le_of_ble_eq_true rfl) fl_RX5_7 rfl dX5_noted_8 rfl ?_
  refine sk_bipush (pc' := 13) X bp_7 dX5_noted_11 rfl ?_
  refine sk_iald (pc' := 14) X 0 1 rfl rfl dX5_noted_13 rfl ?_
  refine sk_iconst (pc' := 15) X ic_1 dX5_noted_14 rfl ?_
  refine sk_isub (pc' := 16) X dX5_noted_15 rfl ?_
  refine sk_callS (bs2 := fun r16 => [(md_W G u0 N2)]) (st := []) (st2 := fun r16 => [.int r16]) (As := [.int p1, .int (0 : Int32), .int (((N2.1 1) ((7 : Int32)).toNatClampNeg) - (1 : Int32))]) (pc' := 19) X (c_X5_within l G p1 (0 : Int32) (((N2.1 1) ((7 : Int32)).toNatClampNeg) - (1 : Int32))) lk_RX5_39 [] rfl (by decide) (fun _ => rfl) ⟨(Nat.le_of_ble_eq_true rfl), (Nat.le_of_ble_eq_true rfl)⟩ ⟨rfl, rfl⟩ ⟨(Nat.le_of_ble_eq_true rfl), (Nat.le_of_ble_eq_true rfl)⟩ rfl (Nat.le_of_ble_eq_true rfl) rfl dX5_noted_16 rfl (fun _ => rfl) (fun _ => rfl) (fun r16 => ?_)
  refine sk_if_ne (tgt := 24) (pc' := 22) X dX5_noted_19 rfl rfl ?_ ?_
  · refine sk_aload_n (pc' := 25) X rfl dX5_noted_24 rfl ?_
    refine sk_getf (pc' := 28) X 0 0 0 in_RX5 rfl rfl rfl (Nat.le_of_ble_eq_true rfl) fl_RX5_7 rfl dX5_noted_25 rfl ?_
    refine sk_sipush (pc' := 31) X sp_258 dX5_noted_28 rfl ?_
    refine sk_iconst (pc' := 32) X ic_2 dX5_noted_31 rfl ?_
    refine sk_aload_n (pc' := 33) X rfl dX5_noted_32 rfl ?_
    refine sk_getf (pc' := 36) X 0 0 0 in_RX5 rfl rfl rfl (Nat.le_of_ble_eq_true rfl) fl_RX5_7 rfl dX5_noted_33 rfl ?_
    refine sk_bipush (pc' := 38) X bp_7 dX5_noted_36 rfl ?_
    refine sk_iald (pc' := 39) X 0 1 rfl rfl dX5_noted_38 rfl ?_
    refine sk_iconst (pc' := 40) X ic_1 dX5_noted_39 rfl ?_
    refine sk_isub (pc' := 41) X dX5_noted_40 rfl ?_
    refine sk_iload_n (pc' := 42) X rfl dX5_noted_41 rfl ?_
    refine sk_isub (pc' := 43) X dX5_noted_42 rfl ?_
    refine sk_imul (pc' := 44) X dX5_noted_43 rfl ?_
    refine sk_iadd (pc' := 45) X dX5_noted_44 rfl ?_
    refine sk_iload_n (pc' := 46) X rfl dX5_noted_45 rfl ?_
    refine sk_if_eq (tgt := 53) (pc' := 49) X dX5_noted_46 rfl rfl ?_ ?_
    · refine sk_iconst (pc' := 54) X ic_1 dX5_noted_53 rfl ?_
      exact (sk_kill 2 (sk_kill 1 (sk_kill 0 (h54 (N2, ((258 : Int32) + ((2 : Int32) * ((((N2.1 1) ((7 : Int32)).toNatClampNeg) - (1 : Int32)) - p1))), (1 : Int32))))))
    · refine sk_iconst (pc' := 50) X ic_0 dX5_noted_49 rfl ?_
      refine sk_goto (tgt := 54) X dX5_noted_50 rfl ?_
      exact (sk_kill 2 (sk_kill 1 (sk_kill 0 (h54 (N2, ((258 : Int32) + ((2 : Int32) * ((((N2.1 1) ((7 : Int32)).toNatClampNeg) - (1 : Int32)) - p1))), (0 : Int32))))))
  · refine sk_iconst (pc' := 23) X ic_m1 dX5_noted_22 rfl ?_
    exact sk_iret X rfl rfl dX5_noted_23
def rm_X5_fired : Room := { frames := 0, cells := 0, slots := 0, locals := 0 }
def o_X5_fired : (Int32 × sk_M) → Option Value := fun r => some (.int r.1)
def w_X5_fired (G : sk_G) (u0 : Nat → Nat) : (Int32 × sk_M) → sk_B := fun r => [(md_W G u0 r.2)]
set_option maxHeartbeats 4000000 in
set_option maxRecDepth 100000 in
theorem c_X5_fired (l : Launch) (G : sk_G) (u0 : Nat → Nat) (S0 : sk_M) : sk_ctr l G yX5_fired cX5_fired 1 (some .int) rm_X5_fired [.ref (u0 0)] [(md_W G u0 S0)] (m_X5_fired S0) o_X5_fired (w_X5_fired G u0) := by
  refine sk_entry (own := RX5) (by decide) rfl (lv0 := [some (.ref (u0 0))]) rfl (Nat.le_of_ble_eq_true rfl) ?_
  intro Γ X
  unfold m_X5_fired
  refine sk_aload_n (pc' := 1) X rfl dX5_fired_0 rfl ?_
  refine sk_iconst (pc' := 2) X ic_0 dX5_fired_1 rfl ?_
  refine sk_putf (bs' := [(md_W G u0 (md_up S0 0 4 (0 : Int32)))]) (pc' := 5) X 0 0 4 in_RX5 tyX5 tyX5_ok nmX5 rfl rfl rfl (Nat.le_of_ble_eq_true rfl) fl_RX5_35 rfl (tyX5_ok 4 (Nat.le_of_ble_eq_true rfl)) rfl rfl (Nat.le_of_ble_eq_true rfl) (sk_st 0 (md_pf_4 ..) rfl) dX5_fired_2 rfl ?_
  refine sk_lt (bsf := fun z => [(md_W G u0 z)]) (lvf := fun _ => [some (.ref (u0 0))]) (stf := fun _ => []) (fun N2 => ?_)
  refine sk_aload_n (pc' := 6) X rfl dX5_fired_5 rfl ?_
  refine sk_getf (pc' := 9) X 0 0 0 in_RX5 rfl rfl rfl (Nat.le_of_ble_eq_true rfl) fl_RX5_7 rfl dX5_fired_6 rfl ?_
  refine sk_bipush (pc' := 11) X bp_6 dX5_fired_9 rfl ?_
  refine sk_iald (pc' := 12) X 0 1 rfl rfl dX5_fired_11 rfl ?_
  exact sk_iret X rfl rfl dX5_fired_12
def rm_X5_pulses : Room := { frames := 2, cells := 0, slots := 0, locals := 45 }
def o_X5_pulses : (Int32) → Option Value := fun r => some (.int r)
def w_X5_pulses (G : sk_G) (u0 : Nat → Nat) (S0 : sk_M) : (Int32) → sk_B := fun r => [(md_W G u0 S0)]
set_option maxHeartbeats 4000000 in
set_option maxRecDepth 100000 in
theorem c_X5_pulses (l : Launch) (G : sk_G) (u0 : Nat → Nat) (S0 : sk_M) : sk_ctr l G yX5_pulses cX5_pulses 3 (some .int) rm_X5_pulses [.ref (u0 0)] [(md_W G u0 S0)] (m_X5_pulses S0) o_X5_pulses (w_X5_pulses G u0 S0) := by
  refine sk_entry (own := RX5) (by decide) rfl (lv0 := [some (.ref (u0 0)), none, none]) rfl (Nat.le_of_ble_eq_true rfl) ?_
  intro Γ X
  have h4 : ∀ s4 : Int32 × Int32, sk_S Γ (sk_Φ Γ o_X5_pulses (w_X5_pulses G u0 S0)) 0 0 (m_X5_pulses_4 S0 s4) [(md_W G u0 S0)] [some (.ref (u0 0)), some (.int s4.1), some (.int s4.2)] 4 [] := by
    intro s4
    unfold m_X5_pulses_4
    refine sk_loop (bsf := fun s4 => [(md_W G u0 S0)]) (lvf := fun s4 => [some (.ref (u0 0)), some (.int s4.1), some (.int s4.2)]) ?_ sk_fuel s4
    intro k4 s4 ih4
    unfold m_X5_pulses_4_step
    refine sk_iload_n (pc' := 5) X rfl dX5_pulses_4 rfl ?_
    refine sk_aload_n (pc' := 6) X rfl dX5_pulses_5 rfl ?_
    refine sk_getf (pc' := 9) X 0 0 0 in_RX5 rfl rfl rfl (Nat.le_of_ble_eq_true rfl) fl_RX5_7 rfl dX5_pulses_6 rfl ?_
    refine sk_iconst (pc' := 10) X ic_5 dX5_pulses_9 rfl ?_
    refine sk_iald (pc' := 11) X 0 1 rfl rfl dX5_pulses_10 rfl ?_
    refine sk_icmp_ge (tgt := 28) (pc' := 14) X dX5_pulses_11 rfl rfl ?_ ?_
    · refine sk_iload_n (pc' := 29) X rfl dX5_pulses_28 rfl ?_
      exact sk_iret X rfl rfl dX5_pulses_29
    · refine sk_iload_n (pc' := 15) X rfl dX5_pulses_14 rfl ?_
      refine sk_aload_n (pc' := 16) X rfl dX5_pulses_15 rfl ?_
      refine sk_iload_n (pc' := 17) X rfl dX5_pulses_16 rfl ?_
      refine sk_callV (bs2 := fun r17 => [(md_W G u0 S0)]) (st := [.int s4.1]) (st2 := fun r17 => [.int r17, .int s4.1]) (As := [.int s4.2]) (pc' := 20) X (c_X5_comingTo l G u0 S0 s4.2) lk_RX5_101 [0] rfl (by decide) (fun _ => rfl) rfl rfl rfl ⟨(Nat.le_of_ble_eq_true rfl), (Nat.le_of_ble_eq_true rfl)⟩ ⟨rfl, rfl⟩ ⟨(Nat.le_of_ble_eq_true rfl), (Nat.le_of_ble_eq_true rfl)⟩ rfl (Nat.le_of_ble_eq_true rfl) rfl dX5_pulses_17 rfl (fun _ => rfl) (fun _ => rfl) (fun r17 => ?_)
      refine sk_iadd (pc' := 21) X dX5_pulses_20 rfl ?_
      refine sk_istore_n (lv' := [some (.ref (u0 0)), some (.int (s4.1 + r17)), some (.int s4.2)]) (pc' := 22) X (Nat.le_of_ble_eq_true rfl) rfl rfl dX5_pulses_21 rfl ?_
      refine sk_lt (bsf := fun _ => [(md_W G u0 S0)]) (lvf := fun z => [some (.ref (u0 0)), some (.int z), some (.int s4.2)]) (stf := fun _ => []) (fun x21 => ?_)
      refine sk_iinc (lv' := [some (.ref (u0 0)), some (.int x21), some (.int (s4.2 + (1 : Int32)))]) (pc' := 25) X rfl ic_1 (Nat.le_of_ble_eq_true rfl) rfl rfl dX5_pulses_22 rfl ?_
      refine sk_goto (tgt := 4) X dX5_pulses_25 rfl ?_
      exact (ih4 (x21, (s4.2 + (1 : Int32))))
  unfold m_X5_pulses
  refine sk_iconst (pc' := 1) X ic_0 dX5_pulses_0 rfl ?_
  refine sk_istore_n (lv' := [some (.ref (u0 0)), some (.int (0 : Int32)), none]) (pc' := 2) X (Nat.le_of_ble_eq_true rfl) rfl rfl dX5_pulses_1 rfl ?_
  refine sk_iconst (pc' := 3) X ic_0 dX5_pulses_2 rfl ?_
  refine sk_istore_n (lv' := [some (.ref (u0 0)), some (.int (0 : Int32)), some (.int (0 : Int32))]) (pc' := 4) X (Nat.le_of_ble_eq_true rfl) rfl rfl dX5_pulses_3 rfl ?_
  exact (h4 ((0 : Int32), (0 : Int32)))
def rm_X5_underWay : Room := { frames := 3, cells := 0, slots := 0, locals := 67 }
def o_X5_underWay : (Int32 × sk_M) → Option Value := fun r => some (.int r.1)
def w_X5_underWay (G : sk_G) (u0 : Nat → Nat) : (Int32 × sk_M) → sk_B := fun r => [(md_W G u0 r.2)]
set_option maxHeartbeats 4000000 in
set_option maxRecDepth 100000 in
theorem c_X5_underWay (l : Launch) (G : sk_G) (u0 : Nat → Nat) (S0 : sk_M) : sk_ctr l G yX5_underWay cX5_underWay 1 (some .int) rm_X5_underWay [.ref (u0 0)] [(md_W G u0 S0)] (m_X5_underWay S0) o_X5_underWay (w_X5_underWay G u0) := by
  refine sk_entry (own := RX5) (by decide) rfl (lv0 := [some (.ref (u0 0))]) rfl (Nat.le_of_ble_eq_true rfl) ?_
  intro Γ X
  unfold m_X5_underWay
  refine sk_aload_n (pc' := 1) X rfl dX5_underWay_0 rfl ?_
  refine sk_iconst (pc' := 2) X ic_0 dX5_underWay_1 rfl ?_
  refine sk_putf (bs' := [(md_W G u0 (md_up S0 0 4 (0 : Int32)))]) (pc' := 5) X 0 0 4 in_RX5 tyX5 tyX5_ok nmX5 rfl rfl rfl (Nat.le_of_ble_eq_true rfl) fl_RX5_35 rfl (tyX5_ok 4 (Nat.le_of_ble_eq_true rfl)) rfl rfl (Nat.le_of_ble_eq_true rfl) (sk_st 0 (md_pf_4 ..) rfl) dX5_underWay_2 rfl ?_
  refine sk_lt (bsf := fun z => [(md_W G u0 z)]) (lvf := fun _ => [some (.ref (u0 0))]) (stf := fun _ => []) (fun N2 => ?_)
  refine sk_aload_n (pc' := 6) X rfl dX5_underWay_5 rfl ?_
  refine sk_callV (bs2 := fun r6 => [(md_W G u0 N2)]) (st := []) (st2 := fun r6 => [.int r6]) (As := []) (pc' := 9) X (c_X5_pulses l G u0 N2) lk_RX5_145 [0] rfl (by decide) (fun _ => rfl) rfl rfl rfl ⟨(Nat.le_of_ble_eq_true rfl), (Nat.le_of_ble_eq_true rfl)⟩ ⟨rfl, rfl⟩ ⟨(Nat.le_of_ble_eq_true rfl), (Nat.le_of_ble_eq_true rfl)⟩ rfl (Nat.le_of_ble_eq_true rfl) rfl dX5_underWay_6 rfl (fun _ => rfl) (fun _ => rfl) (fun r6 => ?_)
  exact sk_iret X rfl rfl dX5_underWay_9
def rm_X5_at : Room := { frames := 0, cells := 0, slots := 0, locals := 0 }
def o_X5_at : (Int32) → Option Value := fun r => some (.int r)
def w_X5_at (G : sk_G) (u0 : Nat → Nat) (S0 : sk_M) : (Int32) → sk_B := fun r => [(md_W G u0 S0)]
set_option maxHeartbeats 4000000 in
set_option maxRecDepth 100000 in
theorem c_X5_at (l : Launch) (G : sk_G) (u0 : Nat → Nat) (S0 : sk_M) (p1 : Int32) : sk_ctr l G yX5_at cX5_at 4 (some .int) rm_X5_at [.ref (u0 0), .int p1] [(md_W G u0 S0)] (m_X5_at S0 p1) o_X5_at (w_X5_at G u0 S0) := by
  refine sk_entry (own := RX5) (by decide) rfl (lv0 := [some (.ref (u0 0)), some (.int p1), none, none]) rfl (Nat.le_of_ble_eq_true rfl) ?_
  intro Γ X
  have h4 : ∀ s4 : Int32 × Int32, sk_S Γ (sk_Φ Γ o_X5_at (w_X5_at G u0 S0)) 0 0 (m_X5_at_4 S0 p1 s4) [(md_W G u0 S0)] [some (.ref (u0 0)), some (.int p1), some (.int s4.1), some (.int s4.2)] 4 [] := by
    intro s4
    unfold m_X5_at_4
    refine sk_loop (bsf := fun s4 => [(md_W G u0 S0)]) (lvf := fun s4 => [some (.ref (u0 0)), some (.int p1), some (.int s4.1), some (.int s4.2)]) ?_ sk_fuel s4
    intro k4 s4 ih4
    have h46 : ∀ s46 : Int32 × Int32, sk_S Γ (sk_Φ Γ o_X5_at (w_X5_at G u0 S0)) 0 0 (m_X5_at_46 S0 p1 k4 s46) [(md_W G u0 S0)] [some (.ref (u0 0)), some (.int p1), none, some (.int s46.1)] 46 [.int s46.2] := by
      intro s46
      unfold m_X5_at_46
      refine sk_iconst (pc' := 47) X ic_0 dX5_at_46 rfl ?_
      refine sk_ior (pc' := 48) X dX5_at_47 rfl ?_
      refine sk_istore_n (lv' := [some (.ref (u0 0)), some (.int p1), some (.int (s46.2 ||| (0 : Int32))), some (.int s46.1)]) (pc' := 49) X (Nat.le_of_ble_eq_true rfl) rfl rfl dX5_at_48 rfl ?_
      refine sk_lt (bsf := fun _ => [(md_W G u0 S0)]) (lvf := fun z => [some (.ref (u0 0)), some (.int p1), some (.int z), some (.int s46.1)]) (stf := fun _ => []) (fun x48 => ?_)
      refine sk_iinc (lv' := [some (.ref (u0 0)), some (.int p1), some (.int x48), some (.int (s46.1 + (1 : Int32)))]) (pc' := 52) X rfl ic_1 (Nat.le_of_ble_eq_true rfl) rfl rfl dX5_at_49 rfl ?_
      refine sk_goto (tgt := 4) X dX5_at_52 rfl ?_
      exact (ih4 (x48, (s46.1 + (1 : Int32))))
    unfold m_X5_at_4_step
    refine sk_iload_n (pc' := 5) X rfl dX5_at_4 rfl ?_
    refine sk_aload_n (pc' := 6) X rfl dX5_at_5 rfl ?_
    refine sk_getf (pc' := 9) X 0 0 0 in_RX5 rfl rfl rfl (Nat.le_of_ble_eq_true rfl) fl_RX5_7 rfl dX5_at_6 rfl ?_
    refine sk_iconst (pc' := 10) X ic_5 dX5_at_9 rfl ?_
    refine sk_iald (pc' := 11) X 0 1 rfl rfl dX5_at_10 rfl ?_
    refine sk_icmp_ge (tgt := 55) (pc' := 14) X dX5_at_11 rfl rfl ?_ ?_
    · refine sk_iload_n (pc' := 56) X rfl dX5_at_55 rfl ?_
      exact sk_iret X rfl rfl dX5_at_56
    · refine sk_iload_n (pc' := 15) X rfl dX5_at_14 rfl ?_
      refine sk_aload_n (pc' := 16) X rfl dX5_at_15 rfl ?_
      refine sk_getf (pc' := 19) X 0 0 0 in_RX5 rfl rfl rfl (Nat.le_of_ble_eq_true rfl) fl_RX5_7 rfl dX5_at_16 rfl ?_
      refine sk_bipush (pc' := 21) X bp_28 dX5_at_19 rfl ?_
      refine sk_iload_n (pc' := 22) X rfl dX5_at_21 rfl ?_
      refine sk_iadd (pc' := 23) X dX5_at_22 rfl ?_
      refine sk_iald (pc' := 24) X 0 1 rfl rfl dX5_at_23 rfl ?_
      refine sk_if_ne (tgt := 46) (pc' := 27) X dX5_at_24 rfl rfl ?_ ?_
      · exact (sk_kill 2 (h46 (s4.2, s4.1)))
      · refine sk_aload_n (pc' := 28) X rfl dX5_at_27 rfl ?_
        refine sk_getf (pc' := 31) X 0 0 0 in_RX5 rfl rfl rfl (Nat.le_of_ble_eq_true rfl) fl_RX5_7 rfl dX5_at_28 rfl ?_
        refine sk_bipush (pc' := 33) X bp_8 dX5_at_31 rfl ?_
        refine sk_iload_n (pc' := 34) X rfl dX5_at_33 rfl ?_
        refine sk_iadd (pc' := 35) X dX5_at_34 rfl ?_
        refine sk_iald (pc' := 36) X 0 1 rfl rfl dX5_at_35 rfl ?_
        refine sk_iload_n (pc' := 37) X rfl dX5_at_36 rfl ?_
        refine sk_icmp_ne (tgt := 46) (pc' := 40) X dX5_at_37 rfl rfl ?_ ?_
        · exact (sk_kill 2 (h46 (s4.2, s4.1)))
        · refine sk_iconst (pc' := 41) X ic_1 dX5_at_40 rfl ?_
          refine sk_iload_n (pc' := 42) X rfl dX5_at_41 rfl ?_
          refine sk_ishl (pc' := 43) X dX5_at_42 rfl ?_
          refine sk_goto (tgt := 47) X dX5_at_43 rfl ?_
          refine sk_ior (pc' := 48) X dX5_at_47 rfl ?_
          refine sk_istore_n (lv' := [some (.ref (u0 0)), some (.int p1), some (.int (s4.1 ||| (sk_shl (1 : Int32) s4.2))), some (.int s4.2)]) (pc' := 49) X (Nat.le_of_ble_eq_true rfl) rfl rfl dX5_at_48 rfl ?_
          refine sk_lt (bsf := fun _ => [(md_W G u0 S0)]) (lvf := fun z => [some (.ref (u0 0)), some (.int p1), some (.int z), some (.int s4.2)]) (stf := fun _ => []) (fun x48 => ?_)
          refine sk_iinc (lv' := [some (.ref (u0 0)), some (.int p1), some (.int x48), some (.int (s4.2 + (1 : Int32)))]) (pc' := 52) X rfl ic_1 (Nat.le_of_ble_eq_true rfl) rfl rfl dX5_at_49 rfl ?_
          refine sk_goto (tgt := 4) X dX5_at_52 rfl ?_
          exact (ih4 (x48, (s4.2 + (1 : Int32))))
  unfold m_X5_at
  refine sk_iconst (pc' := 1) X ic_0 dX5_at_0 rfl ?_
  refine sk_istore_n (lv' := [some (.ref (u0 0)), some (.int p1), some (.int (0 : Int32)), none]) (pc' := 2) X (Nat.le_of_ble_eq_true rfl) rfl rfl dX5_at_1 rfl ?_
  refine sk_iconst (pc' := 3) X ic_0 dX5_at_2 rfl ?_
  refine sk_istore_n (lv' := [some (.ref (u0 0)), some (.int p1), some (.int (0 : Int32)), some (.int (0 : Int32))]) (pc' := 4) X (Nat.le_of_ble_eq_true rfl) rfl rfl dX5_at_3 rfl ?_
  exact (h4 ((0 : Int32), (0 : Int32)))
def rm_X5_groupMany : Room := { frames := 1, cells := 0, slots := 0, locals := 23 }
def o_X5_groupMany : (Int32) → Option Value := fun r => some (.int r)
def w_X5_groupMany (G : sk_G) (u0 : Nat → Nat) (S0 : sk_M) : (Int32) → sk_B := fun r => [(md_W G u0 S0)]
set_option maxHeartbeats 4000000 in
set_option maxRecDepth 100000 in
theorem c_X5_groupMany (l : Launch) (G : sk_G) (u0 : Nat → Nat) (S0 : sk_M) : sk_ctr l G yX5_groupMany cX5_groupMany 4 (some .int) rm_X5_groupMany [.ref (u0 0)] [(md_W G u0 S0)] (m_X5_groupMany S0) o_X5_groupMany (w_X5_groupMany G u0 S0) := by
  refine sk_entry (own := RX5) (by decide) rfl (lv0 := [some (.ref (u0 0)), none, none, none]) rfl (Nat.le_of_ble_eq_true rfl) ?_
  intro Γ X
  have h4 : ∀ s4 : Int32 × Int32, sk_S Γ (sk_Φ Γ o_X5_groupMany (w_X5_groupMany G u0 S0)) 0 0 (m_X5_groupMany_4 S0 s4) [(md_W G u0 S0)] [some (.ref (u0 0)), some (.int s4.1), some (.int s4.2), none] 4 [] := by
    intro s4
    unfold m_X5_groupMany_4
    refine sk_loop (bsf := fun s4 => [(md_W G u0 S0)]) (lvf := fun s4 => [some (.ref (u0 0)), some (.int s4.1), some (.int s4.2), none]) ?_ sk_fuel s4
    intro k4 s4 ih4
    have h53 : ∀ s53 : Int32 × Int32 × Int32, sk_S Γ (sk_Φ Γ o_X5_groupMany (w_X5_groupMany G u0 S0)) 0 0 (m_X5_groupMany_53 S0 k4 s53) [(md_W G u0 S0)] [some (.ref (u0 0)), some (.int s53.1), some (.int s53.2.1), none] 53 [.int s53.2.2] := by
      intro s53
      unfold m_X5_groupMany_53
      refine sk_istore_n (lv' := [some (.ref (u0 0)), some (.int s53.1), some (.int s53.2.1), some (.int s53.2.2)]) (pc' := 54) X (Nat.le_of_ble_eq_true rfl) rfl rfl dX5_groupMany_53 rfl ?_
      refine sk_iload_n (pc' := 55) X rfl dX5_groupMany_54 rfl ?_
      refine sk_iload_n (pc' := 56) X rfl dX5_groupMany_55 rfl ?_
      refine sk_if_eq (tgt := 63) (pc' := 59) X dX5_groupMany_56 rfl rfl ?_ ?_
      · refine sk_iconst (pc' := 64) X ic_0 dX5_groupMany_63 rfl ?_
        refine sk_iadd (pc' := 65) X dX5_groupMany_64 rfl ?_
        refine sk_istore_n (lv' := [some (.ref (u0 0)), some (.int (s53.1 + (0 : Int32))), some (.int s53.2.1), some (.int s53.2.2)]) (pc' := 66) X (Nat.le_of_ble_eq_true rfl) rfl rfl dX5_groupMany_65 rfl ?_
        refine sk_lt (bsf := fun _ => [(md_W G u0 S0)]) (lvf := fun z => [some (.ref (u0 0)), some (.int z), some (.int s53.2.1), some (.int s53.2.2)]) (stf := fun _ => []) (fun x65 => ?_)
        refine sk_iinc (lv' := [some (.ref (u0 0)), some (.int x65), some (.int (s53.2.1 + (1 : Int32))), some (.int s53.2.2)]) (pc' := 69) X rfl ic_1 (Nat.le_of_ble_eq_true rfl) rfl rfl dX5_groupMany_66 rfl ?_
        refine sk_goto (tgt := 4) X dX5_groupMany_69 rfl ?_
        exact (sk_kill 3 (ih4 (x65, (s53.2.1 + (1 : Int32)))))
      · refine sk_iconst (pc' := 60) X ic_1 dX5_groupMany_59 rfl ?_
        refine sk_goto (tgt := 64) X dX5_groupMany_60 rfl ?_
        refine sk_iadd (pc' := 65) X dX5_groupMany_64 rfl ?_
        refine sk_istore_n (lv' := [some (.ref (u0 0)), some (.int (s53.1 + (1 : Int32))), some (.int s53.2.1), some (.int s53.2.2)]) (pc' := 66) X (Nat.le_of_ble_eq_true rfl) rfl rfl dX5_groupMany_65 rfl ?_
        refine sk_lt (bsf := fun _ => [(md_W G u0 S0)]) (lvf := fun z => [some (.ref (u0 0)), some (.int z), some (.int s53.2.1), some (.int s53.2.2)]) (stf := fun _ => []) (fun x65 => ?_)
        refine sk_iinc (lv' := [some (.ref (u0 0)), some (.int x65), some (.int (s53.2.1 + (1 : Int32))), some (.int s53.2.2)]) (pc' := 69) X rfl ic_1 (Nat.le_of_ble_eq_true rfl) rfl rfl dX5_groupMany_66 rfl ?_
        refine sk_goto (tgt := 4) X dX5_groupMany_69 rfl ?_
        exact (sk_kill 3 (ih4 (x65, (s53.2.1 + (1 : Int32)))))
    have h52 : ∀ s52 : Int32 × Int32, sk_S Γ (sk_Φ Γ o_X5_groupMany (w_X5_groupMany G u0 S0)) 0 0 (m_X5_groupMany_52 S0 k4 s52) [(md_W G u0 S0)] [some (.ref (u0 0)), some (.int s52.1), some (.int s52.2), none] 52 [] := by
      intro s52
      unfold m_X5_groupMany_52
      refine sk_iconst (pc' := 53) X ic_0 dX5_groupMany_52 rfl ?_
      exact (h53 (s52.1, s52.2, (0 : Int32)))
    unfold m_X5_groupMany_4_step
    refine sk_iload_n (pc' := 5) X rfl dX5_groupMany_4 rfl ?_
    refine sk_aload_n (pc' := 6) X rfl dX5_groupMany_5 rfl ?_
    refine sk_getf (pc' := 9) X 0 0 0 in_RX5 rfl rfl rfl (Nat.le_of_ble_eq_true rfl) fl_RX5_7 rfl dX5_groupMany_6 rfl ?_
    refine sk_iconst (pc' := 10) X ic_5 dX5_groupMany_9 rfl ?_
    refine sk_iald (pc' := 11) X 0 1 rfl rfl dX5_groupMany_10 rfl ?_
    refine sk_icmp_ge (tgt := 72) (pc' := 14) X dX5_groupMany_11 rfl rfl ?_ ?_
    · refine sk_iload_n (pc' := 73) X rfl dX5_groupMany_72 rfl ?_
      exact sk_iret X rfl rfl dX5_groupMany_73
    · refine sk_aload_n (pc' := 15) X rfl dX5_groupMany_14 rfl ?_
      refine sk_getf (pc' := 18) X 0 0 0 in_RX5 rfl rfl rfl (Nat.le_of_ble_eq_true rfl) fl_RX5_7 rfl dX5_groupMany_15 rfl ?_
      refine sk_bipush (pc' := 20) X bp_28 dX5_groupMany_18 rfl ?_
      refine sk_iload_n (pc' := 21) X rfl dX5_groupMany_20 rfl ?_
      refine sk_iadd (pc' := 22) X dX5_groupMany_21 rfl ?_
      refine sk_iald (pc' := 23) X 0 1 rfl rfl dX5_groupMany_22 rfl ?_
      refine sk_if_ne (tgt := 52) (pc' := 26) X dX5_groupMany_23 rfl rfl ?_ ?_
      · exact (h52 (s4.1, s4.2))
      · refine sk_aload_n (pc' := 27) X rfl dX5_groupMany_26 rfl ?_
        refine sk_aload_n (pc' := 28) X rfl dX5_groupMany_27 rfl ?_
        refine sk_getf (pc' := 31) X 0 0 0 in_RX5 rfl rfl rfl (Nat.le_of_ble_eq_true rfl) fl_RX5_7 rfl dX5_groupMany_28 rfl ?_
        refine sk_bipush (pc' := 33) X bp_8 dX5_groupMany_31 rfl ?_
        refine sk_iload_n (pc' := 34) X rfl dX5_groupMany_33 rfl ?_
        refine sk_iadd (pc' := 35) X dX5_groupMany_34 rfl ?_
        refine sk_iald (pc' := 36) X 0 1 rfl rfl dX5_groupMany_35 rfl ?_
        refine sk_callV (bs2 := fun r36 => [(md_W G u0 S0)]) (st := []) (st2 := fun r36 => [.int r36]) (As := [.int ((S0.1 1) (((8 : Int32) + s4.2)).toNatClampNeg)]) (pc' := 39) X (c_X5_at l G u0 S0 ((S0.1 1) (((8 : Int32) + s4.2)).toNatClampNeg)) lk_RX5_148 [0] rfl (by decide) (fun _ => rfl) rfl rfl rfl ⟨(Nat.le_of_ble_eq_true rfl), (Nat.le_of_ble_eq_true rfl)⟩ ⟨rfl, rfl⟩ ⟨(Nat.le_of_ble_eq_true rfl), (Nat.le_of_ble_eq_true rfl)⟩ rfl (Nat.le_of_ble_eq_true rfl) rfl dX5_groupMany_36 rfl (fun _ => rfl) (fun _ => rfl) (fun r36 => ?_)
        refine sk_iconst (pc' := 40) X ic_1 dX5_groupMany_39 rfl ?_
        refine sk_iload_n (pc' := 41) X rfl dX5_groupMany_40 rfl ?_
        refine sk_ishl (pc' := 42) X dX5_groupMany_41 rfl ?_
        refine sk_iconst (pc' := 43) X ic_1 dX5_groupMany_42 rfl ?_
        refine sk_isub (pc' := 44) X dX5_groupMany_43 rfl ?_
        refine sk_iand (pc' := 45) X dX5_groupMany_44 rfl ?_
        refine sk_if_ne (tgt := 52) (pc' := 48) X dX5_groupMany_45 rfl rfl ?_ ?_
        · exact (h52 (s4.1, s4.2))
        · refine sk_iconst (pc' := 49) X ic_1 dX5_groupMany_48 rfl ?_
          refine sk_goto (tgt := 53) X dX5_groupMany_49 rfl ?_
          exact (h53 (s4.1, s4.2, (1 : Int32)))
  unfold m_X5_groupMany
  refine sk_iconst (pc' := 1) X ic_0 dX5_groupMany_0 rfl ?_
  refine sk_istore_n (lv' := [some (.ref (u0 0)), some (.int (0 : Int32)), none, none]) (pc' := 2) X (Nat.le_of_ble_eq_true rfl) rfl rfl dX5_groupMany_1 rfl ?_
  refine sk_iconst (pc' := 3) X ic_0 dX5_groupMany_2 rfl ?_
  refine sk_istore_n (lv' := [some (.ref (u0 0)), some (.int (0 : Int32)), some (.int (0 : Int32)), none]) (pc' := 4) X (Nat.le_of_ble_eq_true rfl) rfl rfl dX5_groupMany_3 rfl ?_
  exact (h4 ((0 : Int32), (0 : Int32)))
def rm_X5_groups : Room := { frames := 2, cells := 0, slots := 0, locals := 46 }
def o_X5_groups : (Int32 × sk_M) → Option Value := fun r => some (.int r.1)
def w_X5_groups (G : sk_G) (u0 : Nat → Nat) : (Int32 × sk_M) → sk_B := fun r => [(md_W G u0 r.2)]
set_option maxHeartbeats 4000000 in
set_option maxRecDepth 100000 in
theorem c_X5_groups (l : Launch) (G : sk_G) (u0 : Nat → Nat) (S0 : sk_M) : sk_ctr l G yX5_groups cX5_groups 1 (some .int) rm_X5_groups [.ref (u0 0)] [(md_W G u0 S0)] (m_X5_groups S0) o_X5_groups (w_X5_groups G u0) := by
  refine sk_entry (own := RX5) (by decide) rfl (lv0 := [some (.ref (u0 0))]) rfl (Nat.le_of_ble_eq_true rfl) ?_
  intro Γ X
  unfold m_X5_groups
  refine sk_aload_n (pc' := 1) X rfl dX5_groups_0 rfl ?_
  refine sk_iconst (pc' := 2) X ic_0 dX5_groups_1 rfl ?_
  refine sk_putf (bs' := [(md_W G u0 (md_up S0 0 4 (0 : Int32)))]) (pc' := 5) X 0 0 4 in_RX5 tyX5 tyX5_ok nmX5 rfl rfl rfl (Nat.le_of_ble_eq_true rfl) fl_RX5_35 rfl (tyX5_ok 4 (Nat.le_of_ble_eq_true rfl)) rfl rfl (Nat.le_of_ble_eq_true rfl) (sk_st 0 (md_pf_4 ..) rfl) dX5_groups_2 rfl ?_
  refine sk_lt (bsf := fun z => [(md_W G u0 z)]) (lvf := fun _ => [some (.ref (u0 0))]) (stf := fun _ => []) (fun N2 => ?_)
  refine sk_aload_n (pc' := 6) X rfl dX5_groups_5 rfl ?_
  refine sk_callV (bs2 := fun r6 => [(md_W G u0 N2)]) (st := []) (st2 := fun r6 => [.int r6]) (As := []) (pc' := 9) X (c_X5_groupMany l G u0 N2) lk_RX5_151 [0] rfl (by decide) (fun _ => rfl) rfl rfl rfl ⟨(Nat.le_of_ble_eq_true rfl), (Nat.le_of_ble_eq_true rfl)⟩ ⟨rfl, rfl⟩ ⟨(Nat.le_of_ble_eq_true rfl), (Nat.le_of_ble_eq_true rfl)⟩ rfl (Nat.le_of_ble_eq_true rfl) rfl dX5_groups_6 rfl (fun _ => rfl) (fun _ => rfl) (fun r6 => ?_)
  exact sk_iret X rfl rfl dX5_groups_9
def rm_X5_phaseOf : Room := { frames := 1, cells := 0, slots := 0, locals := 23 }
def o_X5_phaseOf : (Int32) → Option Value := fun r => some (.int r)
def w_X5_phaseOf (G : sk_G) (u0 : Nat → Nat) (S0 : sk_M) : (Int32) → sk_B := fun r => [(md_W G u0 S0)]
set_option maxHeartbeats 4000000 in
set_option maxRecDepth 100000 in
theorem c_X5_phaseOf (l : Launch) (G : sk_G) (u0 : Nat → Nat) (S0 : sk_M) (p1 : Int32) : sk_ctr l G yX5_phaseOf cX5_phaseOf 4 (some .int) rm_X5_phaseOf [.ref (u0 0), .int p1] [(md_W G u0 S0)] (m_X5_phaseOf S0 p1) o_X5_phaseOf (w_X5_phaseOf G u0 S0) := by
  refine sk_entry (own := RX5) (by decide) rfl (lv0 := [some (.ref (u0 0)), some (.int p1), none, none]) rfl (Nat.le_of_ble_eq_true rfl) ?_
  intro Γ X
  have h4 : ∀ s4 : Int32 × Int32, sk_S Γ (sk_Φ Γ o_X5_phaseOf (w_X5_phaseOf G u0 S0)) 0 0 (m_X5_phaseOf_4 S0 p1 s4) [(md_W G u0 S0)] [some (.ref (u0 0)), some (.int p1), some (.int s4.1), some (.int s4.2)] 4 [] := by
    intro s4
    unfold m_X5_phaseOf_4
    refine sk_loop (bsf := fun s4 => [(md_W G u0 S0)]) (lvf := fun s4 => [some (.ref (u0 0)), some (.int p1), some (.int s4.1), some (.int s4.2)]) ?_ sk_fuel s4
    intro k4 s4 ih4
    unfold m_X5_phaseOf_4_step
    refine sk_iload_n (pc' := 5) X rfl dX5_phaseOf_4 rfl ?_
    refine sk_iload_n (pc' := 6) X rfl dX5_phaseOf_5 rfl ?_
    refine sk_icmp_ge (tgt := 31) (pc' := 9) X dX5_phaseOf_6 rfl rfl ?_ ?_
    · refine sk_iload_n (pc' := 32) X rfl dX5_phaseOf_31 rfl ?_
      exact sk_iret X rfl rfl dX5_phaseOf_32
    · refine sk_iinc (lv' := [some (.ref (u0 0)), some (.int p1), some (.int s4.1), some (.int (s4.2 + (1 : Int32)))]) (pc' := 12) X rfl ic_1 (Nat.le_of_ble_eq_true rfl) rfl rfl dX5_phaseOf_9 rfl ?_
      refine sk_iload_n (pc' := 13) X rfl dX5_phaseOf_12 rfl ?_
      refine sk_aload_n (pc' := 14) X rfl dX5_phaseOf_13 rfl ?_
      refine sk_iload_n (pc' := 15) X rfl dX5_phaseOf_14 rfl ?_
      refine sk_callV (bs2 := fun r15 => [(md_W G u0 S0)]) (st := [.int s4.1]) (st2 := fun r15 => [.int r15, .int s4.1]) (As := [.int (s4.2 + (1 : Int32))]) (pc' := 18) X (c_X5_at l G u0 S0 (s4.2 + (1 : Int32))) lk_RX5_148 [0] rfl (by decide) (fun _ => rfl) rfl rfl rfl ⟨(Nat.le_of_ble_eq_true rfl), (Nat.le_of_ble_eq_true rfl)⟩ ⟨rfl, rfl⟩ ⟨(Nat.le_of_ble_eq_true rfl), (Nat.le_of_ble_eq_true rfl)⟩ rfl (Nat.le_of_ble_eq_true rfl) rfl dX5_phaseOf_15 rfl (fun _ => rfl) (fun _ => rfl) (fun r15 => ?_)
      refine sk_if_ne (tgt := 25) (pc' := 21) X dX5_phaseOf_18 rfl rfl ?_ ?_
      · refine sk_iconst (pc' := 26) X ic_1 dX5_phaseOf_25 rfl ?_
        refine sk_iadd (pc' := 27) X dX5_phaseOf_26 rfl ?_
        refine sk_istore_n (lv' := [some (.ref (u0 0)), some (.int p1), some (.int (s4.1 + (1 : Int32))), some (.int (s4.2 + (1 : Int32)))]) (pc' := 28) X (Nat.le_of_ble_eq_true rfl) rfl rfl dX5_phaseOf_27 rfl ?_
        refine sk_lt (bsf := fun _ => [(md_W G u0 S0)]) (lvf := fun z => [some (.ref (u0 0)), some (.int p1), some (.int z), some (.int (s4.2 + (1 : Int32)))]) (stf := fun _ => []) (fun x27 => ?_)
        refine sk_goto (tgt := 4) X dX5_phaseOf_28 rfl ?_
        exact (ih4 (x27, (s4.2 + (1 : Int32))))
      · refine sk_iconst (pc' := 22) X ic_0 dX5_phaseOf_21 rfl ?_
        refine sk_goto (tgt := 26) X dX5_phaseOf_22 rfl ?_
        refine sk_iadd (pc' := 27) X dX5_phaseOf_26 rfl ?_
        refine sk_istore_n (lv' := [some (.ref (u0 0)), some (.int p1), some (.int (s4.1 + (0 : Int32))), some (.int (s4.2 + (1 : Int32)))]) (pc' := 28) X (Nat.le_of_ble_eq_true rfl) rfl rfl dX5_phaseOf_27 rfl ?_
        refine sk_lt (bsf := fun _ => [(md_W G u0 S0)]) (lvf := fun z => [some (.ref (u0 0)), some (.int p1), some (.int z), some (.int (s4.2 + (1 : Int32)))]) (stf := fun _ => []) (fun x27 => ?_)
        refine sk_goto (tgt := 4) X dX5_phaseOf_28 rfl ?_
        exact (ih4 (x27, (s4.2 + (1 : Int32))))
  unfold m_X5_phaseOf
  refine sk_iconst (pc' := 1) X ic_m1 dX5_phaseOf_0 rfl ?_
  refine sk_istore_n (lv' := [some (.ref (u0 0)), some (.int p1), some (.int (-1 : Int32)), none]) (pc' := 2) X (Nat.le_of_ble_eq_true rfl) rfl rfl dX5_phaseOf_1 rfl ?_
  refine sk_iconst (pc' := 3) X ic_m1 dX5_phaseOf_2 rfl ?_
  refine sk_istore_n (lv' := [some (.ref (u0 0)), some (.int p1), some (.int (-1 : Int32)), some (.int (-1 : Int32))]) (pc' := 4) X (Nat.le_of_ble_eq_true rfl) rfl rfl dX5_phaseOf_3 rfl ?_
  exact (h4 ((-1 : Int32), (-1 : Int32)))
def rm_X5_group : Room := { frames := 2, cells := 0, slots := 0, locals := 46 }
def o_X5_group : (Int32 × sk_M) → Option Value := fun r => some (.int r.1)
def w_X5_group (G : sk_G) (u0 : Nat → Nat) : (Int32 × sk_M) → sk_B := fun r => [(md_W G u0 r.2)]
set_option maxHeartbeats 4000000 in
set_option maxRecDepth 100000 in
theorem c_X5_group (l : Launch) (G : sk_G) (u0 : Nat → Nat) (S0 : sk_M) (p1 : Int32) (p2 : Int32) : sk_ctr l G yX5_group cX5_group 4 (some .int) rm_X5_group [.ref (u0 0), .int p1, .int p2] [(md_W G u0 S0)] (m_X5_group S0 p1 p2) o_X5_group (w_X5_group G u0) := by
  refine sk_entry (own := RX5) (by decide) rfl (lv0 := [some (.ref (u0 0)), some (.int p1), some (.int p2), none]) rfl (Nat.le_of_ble_eq_true rfl) ?_
  intro Γ X
  unfold m_X5_group
  refine sk_aload_n (pc' := 1) X rfl dX5_group_0 rfl ?_
  refine sk_aload_n (pc' := 2) X rfl dX5_group_1 rfl ?_
  refine sk_iload_n (pc' := 3) X rfl dX5_group_2 rfl ?_
  refine sk_iconst (pc' := 4) X ic_0 dX5_group_3 rfl ?_
  refine sk_aload_n (pc' := 5) X rfl dX5_group_4 rfl ?_
  refine sk_callV (bs2 := fun r5 => [(md_W G u0 S0)]) (st := [.int (0 : Int32), .int p1, .ref (u0 0), .ref (u0 0)]) (st2 := fun r5 => [.int r5, .int (0 : Int32), .int p1, .ref (u0 0), .ref (u0 0)]) (As := []) (pc' := 8) X (c_X5_groupMany l G u0 S0) lk_RX5_151 [0] rfl (by decide) (fun _ => rfl) rfl rfl rfl ⟨(Nat.le_of_ble_eq_true rfl), (Nat.le_of_ble_eq_true rfl)⟩ ⟨rfl, rfl⟩ ⟨(Nat.le_of_ble_eq_true rfl), (Nat.le_of_ble_eq_true rfl)⟩ rfl (Nat.le_of_ble_eq_true rfl) rfl dX5_group_5 rfl (fun _ => rfl) (fun _ => rfl) (fun r5 => ?_)
  refine sk_iconst (pc' := 9) X ic_1 dX5_group_8 rfl ?_
  refine sk_isub (pc' := 10) X dX5_group_9 rfl ?_
  refine sk_callS (bs2 := fun r10 => [(md_W G u0 S0)]) (st := [.ref (u0 0), .ref (u0 0)]) (st2 := fun r10 => [.int r10, .ref (u0 0), .ref (u0 0)]) (As := [.int p1, .int (0 : Int32), .int (r5 - (1 : Int32))]) (pc' := 13) X (c_X5_within l G p1 (0 : Int32) (r5 - (1 : Int32))) lk_RX5_39 [] rfl (by decide) (fun _ => rfl) ⟨(Nat.le_of_ble_eq_true rfl), (Nat.le_of_ble_eq_true rfl)⟩ ⟨rfl, rfl⟩ ⟨(Nat.le_of_ble_eq_true rfl), (Nat.le_of_ble_eq_true rfl)⟩ rfl (Nat.le_of_ble_eq_true rfl) rfl dX5_group_10 rfl (fun _ => rfl) (fun _ => rfl) (fun r10 => ?_)
  refine sk_callV (bs2 := fun r13 => [(md_W G u0 S0)]) (st := [.ref (u0 0)]) (st2 := fun r13 => [.int r13, .ref (u0 0)]) (As := [.int r10]) (pc' := 16) X (c_X5_need l G u0 S0 r10) lk_RX5_94 [0] rfl (by decide) (fun _ => rfl) rfl rfl rfl ⟨(Nat.le_of_ble_eq_true rfl), (Nat.le_of_ble_eq_true rfl)⟩ ⟨rfl, rfl⟩ ⟨(Nat.le_of_ble_eq_true rfl), (Nat.le_of_ble_eq_true rfl)⟩ rfl (Nat.le_of_ble_eq_true rfl) rfl dX5_group_13 rfl (fun _ => rfl) (fun _ => rfl) (fun r13 => ?_)
  refine sk_callV (bs2 := fun r16 => [(md_W G u0 r16.2)]) (st := []) (st2 := fun r16 => [.int r16.1]) (As := [.int r13]) (pc' := 19) X (c_X5_refused l G u0 S0 r13) lk_RX5_46 [0] rfl (by decide) (fun _ => rfl) rfl rfl rfl ⟨(Nat.le_of_ble_eq_true rfl), (Nat.le_of_ble_eq_true rfl)⟩ ⟨rfl, rfl⟩ ⟨(Nat.le_of_ble_eq_true rfl), (Nat.le_of_ble_eq_true rfl)⟩ rfl (Nat.le_of_ble_eq_true rfl) rfl dX5_group_16 rfl (fun _ => rfl) (fun _ => rfl) (fun r16 => ?_)
  refine sk_if_eq (tgt := 24) (pc' := 22) X dX5_group_19 rfl rfl ?_ ?_
  · refine sk_aload_n (pc' := 25) X rfl dX5_group_24 rfl ?_
    refine sk_iload_n (pc' := 26) X rfl dX5_group_25 rfl ?_
    refine sk_callV (bs2 := fun r26 => [(md_W G u0 r16.2)]) (st := []) (st2 := fun r26 => [.int r26]) (As := [.int p1]) (pc' := 29) X (c_X5_phaseOf l G u0 r16.2 p1) lk_RX5_154 [0] rfl (by decide) (fun _ => rfl) rfl rfl rfl ⟨(Nat.le_of_ble_eq_true rfl), (Nat.le_of_ble_eq_true rfl)⟩ ⟨rfl, rfl⟩ ⟨(Nat.le_of_ble_eq_true rfl), (Nat.le_of_ble_eq_true rfl)⟩ rfl (Nat.le_of_ble_eq_true rfl) rfl dX5_group_26 rfl (fun _ => rfl) (fun _ => rfl) (fun r26 => ?_)
    refine sk_istore_n (lv' := [some (.ref (u0 0)), some (.int p1), some (.int p2), some (.int r26)]) (pc' := 30) X (Nat.le_of_ble_eq_true rfl) rfl rfl dX5_group_29 rfl ?_
    refine sk_iload_n (pc' := 31) X rfl dX5_group_30 rfl ?_
    refine sk_if_eq (tgt := 38) (pc' := 34) X dX5_group_31 rfl rfl ?_ ?_
    · refine sk_aload_n (pc' := 39) X rfl dX5_group_38 rfl ?_
      refine sk_iload_n (pc' := 40) X rfl dX5_group_39 rfl ?_
      refine sk_callV (bs2 := fun r40 => [(md_W G u0 r16.2)]) (st := []) (st2 := fun r40 => [.int r40]) (As := [.int r26]) (pc' := 43) X (c_X5_at l G u0 r16.2 r26) lk_RX5_148 [0] rfl (by decide) (fun _ => rfl) rfl rfl rfl ⟨(Nat.le_of_ble_eq_true rfl), (Nat.le_of_ble_eq_true rfl)⟩ ⟨rfl, rfl⟩ ⟨(Nat.le_of_ble_eq_true rfl), (Nat.le_of_ble_eq_true rfl)⟩ rfl (Nat.le_of_ble_eq_true rfl) rfl dX5_group_40 rfl (fun _ => rfl) (fun _ => rfl) (fun r40 => ?_)
      exact sk_iret X rfl rfl dX5_group_43
    · refine sk_iload_n (pc' := 35) X rfl dX5_group_34 rfl ?_
      refine sk_goto (tgt := 43) X dX5_group_35 rfl ?_
      exact sk_iret X rfl rfl dX5_group_43
  · refine sk_iconst (pc' := 23) X ic_0 dX5_group_22 rfl ?_
    exact sk_iret X rfl rfl dX5_group_23
def rm_X5_groupOf : Room := { frames := 2, cells := 0, slots := 0, locals := 43 }
def o_X5_groupOf : (Int32 × sk_M) → Option Value := fun r => some (.int r.1)
def w_X5_groupOf (G : sk_G) (u0 : Nat → Nat) : (Int32 × sk_M) → sk_B := fun r => [(md_W G u0 r.2)]
set_option maxHeartbeats 4000000 in
set_option maxRecDepth 100000 in
theorem c_X5_groupOf (l : Launch) (G : sk_G) (u0 : Nat → Nat) (S0 : sk_M) (p1 : Int32) : sk_ctr l G yX5_groupOf cX5_groupOf 4 (some .int) rm_X5_groupOf [.ref (u0 0), .int p1] [(md_W G u0 S0)] (m_X5_groupOf S0 p1) o_X5_groupOf (w_X5_groupOf G u0) := by
  refine sk_entry (own := RX5) (by decide) rfl (lv0 := [some (.ref (u0 0)), some (.int p1), none, none]) rfl (Nat.le_of_ble_eq_true rfl) ?_
  intro Γ X
  have h22 : ∀ s22 : sk_M × Int32 × Int32, sk_S Γ (sk_Φ Γ o_X5_groupOf (w_X5_groupOf G u0)) 0 0 (m_X5_groupOf_22 p1 s22) [(md_W G u0 s22.1)] [some (.ref (u0 0)), some (.int p1), some (.int s22.2.1), some (.int s22.2.2)] 22 [] := by
    intro s22
    unfold m_X5_groupOf_22
    refine sk_loop (bsf := fun s22 => [(md_W G u0 s22.1)]) (lvf := fun s22 => [some (.ref (u0 0)), some (.int p1), some (.int s22.2.1), some (.int s22.2.2)]) ?_ sk_fuel s22
    intro k22 s22 ih22
    unfold m_X5_groupOf_22_step
    refine sk_iload_n (pc' := 23) X rfl dX5_groupOf_22 rfl ?_
    refine sk_aload_n (pc' := 24) X rfl dX5_groupOf_23 rfl ?_
    refine sk_getf (pc' := 27) X 0 0 0 in_RX5 rfl rfl rfl (Nat.le_of_ble_eq_true rfl) fl_RX5_7 rfl dX5_groupOf_24 rfl ?_
    refine sk_bipush (pc' := 29) X bp_8 dX5_groupOf_27 rfl ?_
    refine sk_iload_n (pc' := 30) X rfl dX5_groupOf_29 rfl ?_
    refine sk_iadd (pc' := 31) X dX5_groupOf_30 rfl ?_
    refine sk_iald (pc' := 32) X 0 1 rfl rfl dX5_groupOf_31 rfl ?_
    refine sk_icmp_ge (tgt := 57) (pc' := 35) X dX5_groupOf_32 rfl rfl ?_ ?_
    · refine sk_aload_n (pc' := 58) X rfl dX5_groupOf_57 rfl ?_
      refine sk_getf (pc' := 61) X 0 0 0 in_RX5 rfl rfl rfl (Nat.le_of_ble_eq_true rfl) fl_RX5_7 rfl dX5_groupOf_58 rfl ?_
      refine sk_bipush (pc' := 63) X bp_28 dX5_groupOf_61 rfl ?_
      refine sk_iload_n (pc' := 64) X rfl dX5_groupOf_63 rfl ?_
      refine sk_iadd (pc' := 65) X dX5_groupOf_64 rfl ?_
      refine sk_iald (pc' := 66) X 0 1 rfl rfl dX5_groupOf_65 rfl ?_
      refine sk_iconst (pc' := 67) X ic_1 dX5_groupOf_66 rfl ?_
      refine sk_icmp_ne (tgt := 74) (pc' := 70) X dX5_groupOf_67 rfl rfl ?_ ?_
      · refine sk_iload_n (pc' := 75) X rfl dX5_groupOf_74 rfl ?_
        exact sk_iret X rfl rfl dX5_groupOf_75
      · refine sk_iconst (pc' := 71) X ic_m1 dX5_groupOf_70 rfl ?_
        refine sk_goto (tgt := 75) X dX5_groupOf_71 rfl ?_
        exact sk_iret X rfl rfl dX5_groupOf_75
    · refine sk_iload_n (pc' := 36) X rfl dX5_groupOf_35 rfl ?_
      refine sk_aload_n (pc' := 37) X rfl dX5_groupOf_36 rfl ?_
      refine sk_iload_n (pc' := 38) X rfl dX5_groupOf_37 rfl ?_
      refine sk_callV (bs2 := fun r38 => [(md_W G u0 s22.1)]) (st := [.int s22.2.1]) (st2 := fun r38 => [.int r38, .int s22.2.1]) (As := [.int s22.2.2]) (pc' := 41) X (c_X5_at l G u0 s22.1 s22.2.2) lk_RX5_148 [0] rfl (by decide) (fun _ => rfl) rfl rfl rfl ⟨(Nat.le_of_ble_eq_true rfl), (Nat.le_of_ble_eq_true rfl)⟩ ⟨rfl, rfl⟩ ⟨(Nat.le_of_ble_eq_true rfl), (Nat.le_of_ble_eq_true rfl)⟩ rfl (Nat.le_of_ble_eq_true rfl) rfl dX5_groupOf_38 rfl (fun _ => rfl) (fun _ => rfl) (fun r38 => ?_)
      refine sk_if_ne (tgt := 48) (pc' := 44) X dX5_groupOf_41 rfl rfl ?_ ?_
      · refine sk_iconst (pc' := 49) X ic_1 dX5_groupOf_48 rfl ?_
        refine sk_iadd (pc' := 50) X dX5_groupOf_49 rfl ?_
        refine sk_istore_n (lv' := [some (.ref (u0 0)), some (.int p1), some (.int (s22.2.1 + (1 : Int32))), some (.int s22.2.2)]) (pc' := 51) X (Nat.le_of_ble_eq_true rfl) rfl rfl dX5_groupOf_50 rfl ?_
        refine sk_lt (bsf := fun _ => [(md_W G u0 s22.1)]) (lvf := fun z => [some (.ref (u0 0)), some (.int p1), some (.int z), some (.int s22.2.2)]) (stf := fun _ => []) (fun x50 => ?_)
        refine sk_iinc (lv' := [some (.ref (u0 0)), some (.int p1), some (.int x50), some (.int (s22.2.2 + (1 : Int32)))]) (pc' := 54) X rfl ic_1 (Nat.le_of_ble_eq_true rfl) rfl rfl dX5_groupOf_51 rfl ?_
        refine sk_goto (tgt := 22) X dX5_groupOf_54 rfl ?_
        exact (ih22 (s22.1, x50, (s22.2.2 + (1 : Int32))))
      · refine sk_iconst (pc' := 45) X ic_0 dX5_groupOf_44 rfl ?_
        refine sk_goto (tgt := 49) X dX5_groupOf_45 rfl ?_
        refine sk_iadd (pc' := 50) X dX5_groupOf_49 rfl ?_
        refine sk_istore_n (lv' := [some (.ref (u0 0)), some (.int p1), some (.int (s22.2.1 + (0 : Int32))), some (.int s22.2.2)]) (pc' := 51) X (Nat.le_of_ble_eq_true rfl) rfl rfl dX5_groupOf_50 rfl ?_
        refine sk_lt (bsf := fun _ => [(md_W G u0 s22.1)]) (lvf := fun z => [some (.ref (u0 0)), some (.int p1), some (.int z), some (.int s22.2.2)]) (stf := fun _ => []) (fun x50 => ?_)
        refine sk_iinc (lv' := [some (.ref (u0 0)), some (.int p1), some (.int x50), some (.int (s22.2.2 + (1 : Int32)))]) (pc' := 54) X rfl ic_1 (Nat.le_of_ble_eq_true rfl) rfl rfl dX5_groupOf_51 rfl ?_
        refine sk_goto (tgt := 22) X dX5_groupOf_54 rfl ?_
        exact (ih22 (s22.1, x50, (s22.2.2 + (1 : Int32))))
  unfold m_X5_groupOf
  refine sk_aload_n (pc' := 1) X rfl dX5_groupOf_0 rfl ?_
  refine sk_aload_n (pc' := 2) X rfl dX5_groupOf_1 rfl ?_
  refine sk_aload_n (pc' := 3) X rfl dX5_groupOf_2 rfl ?_
  refine sk_iload_n (pc' := 4) X rfl dX5_groupOf_3 rfl ?_
  refine sk_callV (bs2 := fun r4 => [(md_W G u0 S0)]) (st := [.ref (u0 0), .ref (u0 0)]) (st2 := fun r4 => [.int r4, .ref (u0 0), .ref (u0 0)]) (As := [.int p1]) (pc' := 7) X (c_X5_isClock l G u0 S0 p1) lk_RX5_60 [0] rfl (by decide) (fun _ => rfl) rfl rfl rfl ⟨(Nat.le_of_ble_eq_true rfl), (Nat.le_of_ble_eq_true rfl)⟩ ⟨rfl, rfl⟩ ⟨(Nat.le_of_ble_eq_true rfl), (Nat.le_of_ble_eq_true rfl)⟩ rfl (Nat.le_of_ble_eq_true rfl) rfl dX5_groupOf_4 rfl (fun _ => rfl) (fun _ => rfl) (fun r4 => ?_)
  refine sk_callV (bs2 := fun r7 => [(md_W G u0 S0)]) (st := [.ref (u0 0)]) (st2 := fun r7 => [.int r7, .ref (u0 0)]) (As := [.int r4]) (pc' := 10) X (c_X5_need l G u0 S0 r4) lk_RX5_94 [0] rfl (by decide) (fun _ => rfl) rfl rfl rfl ⟨(Nat.le_of_ble_eq_true rfl), (Nat.le_of_ble_eq_true rfl)⟩ ⟨rfl, rfl⟩ ⟨(Nat.le_of_ble_eq_true rfl), (Nat.le_of_ble_eq_true rfl)⟩ rfl (Nat.le_of_ble_eq_true rfl) rfl dX5_groupOf_7 rfl (fun _ => rfl) (fun _ => rfl) (fun r7 => ?_)
  refine sk_callV (bs2 := fun r10 => [(md_W G u0 r10.2)]) (st := []) (st2 := fun r10 => [.int r10.1]) (As := [.int r7]) (pc' := 13) X (c_X5_refused l G u0 S0 r7) lk_RX5_46 [0] rfl (by decide) (fun _ => rfl) rfl rfl rfl ⟨(Nat.le_of_ble_eq_true rfl), (Nat.le_of_ble_eq_true rfl)⟩ ⟨rfl, rfl⟩ ⟨(Nat.le_of_ble_eq_true rfl), (Nat.le_of_ble_eq_true rfl)⟩ rfl (Nat.le_of_ble_eq_true rfl) rfl dX5_groupOf_10 rfl (fun _ => rfl) (fun _ => rfl) (fun r10 => ?_)
  refine sk_if_eq (tgt := 18) (pc' := 16) X dX5_groupOf_13 rfl rfl ?_ ?_
  · refine sk_iconst (pc' := 19) X ic_0 dX5_groupOf_18 rfl ?_
    refine sk_istore_n (lv' := [some (.ref (u0 0)), some (.int p1), some (.int (0 : Int32)), none]) (pc' := 20) X (Nat.le_of_ble_eq_true rfl) rfl rfl dX5_groupOf_19 rfl ?_
    refine sk_iconst (pc' := 21) X ic_0 dX5_groupOf_20 rfl ?_
    refine sk_istore_n (lv' := [some (.ref (u0 0)), some (.int p1), some (.int (0 : Int32)), some (.int (0 : Int32))]) (pc' := 22) X (Nat.le_of_ble_eq_true rfl) rfl rfl dX5_groupOf_21 rfl ?_
    exact (h22 (r10.2, (0 : Int32), (0 : Int32)))
  · refine sk_iconst (pc' := 17) X ic_0 dX5_groupOf_16 rfl ?_
    exact sk_iret X rfl rfl dX5_groupOf_17
def rm_X5_spreadOf : Room := { frames := 0, cells := 0, slots := 0, locals := 0 }
def o_X5_spreadOf : (Int32) → Option Value := fun r => some (.int r)
def w_X5_spreadOf (G : sk_G) (u0 : Nat → Nat) (S0 : sk_M) : (Int32) → sk_B := fun r => [(md_W G u0 S0)]
set_option maxHeartbeats 4000000 in
set_option maxRecDepth 100000 in
theorem c_X5_spreadOf (l : Launch) (G : sk_G) (u0 : Nat → Nat) (S0 : sk_M) : sk_ctr l G yX5_spreadOf cX5_spreadOf 6 (some .int) rm_X5_spreadOf [.ref (u0 0)] [(md_W G u0 S0)] (m_X5_spreadOf S0) o_X5_spreadOf (w_X5_spreadOf G u0 S0) := by
  refine sk_entry (own := RX5) (by decide) rfl (lv0 := [some (.ref (u0 0)), none, none, none, none, none]) rfl (Nat.le_of_ble_eq_true rfl) ?_
  intro Γ X
  have h4 : ∀ s4 : Int32 × Int32, sk_S Γ (sk_Φ Γ o_X5_spreadOf (w_X5_spreadOf G u0 S0)) 0 0 (m_X5_spreadOf_4 S0 s4) [(md_W G u0 S0)] [some (.ref (u0 0)), some (.int s4.1), some (.int s4.2), none, none, none] 4 [] := by
    intro s4
    unfold m_X5_spreadOf_4
    refine sk_loop (bsf := fun s4 => [(md_W G u0 S0)]) (lvf := fun s4 => [some (.ref (u0 0)), some (.int s4.1), some (.int s4.2), none, none, none]) ?_ sk_fuel s4
    intro k4 s4 ih4
    have h100 : ∀ s100 : Int32 × Int32, sk_S Γ (sk_Φ Γ o_X5_spreadOf (w_X5_spreadOf G u0 S0)) 0 0 (m_X5_spreadOf_100 S0 k4 s100) [(md_W G u0 S0)] [some (.ref (u0 0)), none, some (.int s100.1), some (.int s100.2), none, none] 100 [] := by
      intro s100
      unfold m_X5_spreadOf_100
      refine sk_iload_n (pc' := 101) X rfl dX5_spreadOf_100 rfl ?_
      refine sk_goto (tgt := 105) X dX5_spreadOf_101 rfl ?_
      refine sk_istore_n (lv' := [some (.ref (u0 0)), some (.int s100.2), some (.int s100.1), some (.int s100.2), none, none]) (pc' := 106) X (Nat.le_of_ble_eq_true rfl) rfl rfl dX5_spreadOf_105 rfl ?_
      refine sk_iinc (lv' := [some (.ref (u0 0)), some (.int s100.2), some (.int (s100.1 + (1 : Int32))), some (.int s100.2), none, none]) (pc' := 109) X rfl ic_1 (Nat.le_of_ble_eq_true rfl) rfl rfl dX5_spreadOf_106 rfl ?_
      refine sk_goto (tgt := 4) X dX5_spreadOf_109 rfl ?_
      exact (sk_kill 3 (ih4 (s100.2, (s100.1 + (1 : Int32)))))
    have h19 : ∀ s19 : Int32 × Int32 × Int32 × Int32, sk_S Γ (sk_Φ Γ o_X5_spreadOf (w_X5_spreadOf G u0 S0)) 0 0 (m_X5_spreadOf_19 S0 k4 s19) [(md_W G u0 S0)] [some (.ref (u0 0)), some (.int s19.1), some (.int s19.2.1), some (.int s19.2.2.1), some (.int s19.2.2.2), none] 19 [] := by
      intro s19
      unfold m_X5_spreadOf_19
      refine sk_loop (bsf := fun s19 => [(md_W G u0 S0)]) (lvf := fun s19 => [some (.ref (u0 0)), some (.int s19.1), some (.int s19.2.1), some (.int s19.2.2.1), some (.int s19.2.2.2), none]) ?_ sk_fuel s19
      intro k19 s19 ih19
      unfold m_X5_spreadOf_19_step
      refine sk_iload (pc' := 21) X rfl dX5_spreadOf_19 rfl ?_
      refine sk_aload_n (pc' := 22) X rfl dX5_spreadOf_21 rfl ?_
      refine sk_getf (pc' := 25) X 0 0 0 in_RX5 rfl rfl rfl (Nat.le_of_ble_eq_true rfl) fl_RX5_7 rfl dX5_spreadOf_22 rfl ?_
      refine sk_iconst (pc' := 26) X ic_5 dX5_spreadOf_25 rfl ?_
      refine sk_iald (pc' := 27) X 0 1 rfl rfl dX5_spreadOf_26 rfl ?_
      refine sk_icmp_ge (tgt := 90) (pc' := 30) X dX5_spreadOf_27 rfl rfl ?_ ?_
      · refine sk_iload_n (pc' := 91) X rfl dX5_spreadOf_90 rfl ?_
        refine sk_iconst (pc' := 92) X ic_m1 dX5_spreadOf_91 rfl ?_
        refine sk_icmp_eq (tgt := 100) (pc' := 95) X dX5_spreadOf_92 rfl rfl ?_ ?_
        · exact (sk_kill 4 (sk_kill 1 (h100 (s19.2.1, s19.2.2.1))))
        · refine sk_iload_n (pc' := 96) X rfl dX5_spreadOf_95 rfl ?_
          refine sk_iload_n (pc' := 97) X rfl dX5_spreadOf_96 rfl ?_
          refine sk_icmp_ge (tgt := 104) (pc' := 100) X dX5_spreadOf_97 rfl rfl ?_ ?_
          · refine sk_iload_n (pc' := 105) X rfl dX5_spreadOf_104 rfl ?_
            refine sk_istore_n (lv' := [some (.ref (u0 0)), some (.int s19.1), some (.int s19.2.1), some (.int s19.2.2.1), some (.int s19.2.2.2), none]) (pc' := 106) X (Nat.le_of_ble_eq_true rfl) rfl rfl dX5_spreadOf_105 rfl ?_
            refine sk_iinc (lv' := [some (.ref (u0 0)), some (.int s19.1), some (.int (s19.2.1 + (1 : Int32))), some (.int s19.2.2.1), some (.int s19.2.2.2), none]) (pc' := 109) X rfl ic_1 (Nat.le_of_ble_eq_true rfl) rfl rfl dX5_spreadOf_106 rfl ?_
            refine sk_goto (tgt := 4) X dX5_spreadOf_109 rfl ?_
            exact (sk_kill 4 (sk_kill 3 (ih4 (s19.1, (s19.2.1 + (1 : Int32))))))
          · exact (sk_kill 4 (sk_kill 1 (h100 (s19.2.1, s19.2.2.1))))
      · refine sk_aload_n (pc' := 31) X rfl dX5_spreadOf_30 rfl ?_
        refine sk_getf (pc' := 34) X 0 0 0 in_RX5 rfl rfl rfl (Nat.le_of_ble_eq_true rfl) fl_RX5_7 rfl dX5_spreadOf_31 rfl ?_
        refine sk_bipush (pc' := 36) X bp_8 dX5_spreadOf_34 rfl ?_
        refine sk_iload (pc' := 38) X rfl dX5_spreadOf_36 rfl ?_
        refine sk_iadd (pc' := 39) X dX5_spreadOf_38 rfl ?_
        refine sk_iald (pc' := 40) X 0 1 rfl rfl dX5_spreadOf_39 rfl ?_
        refine sk_iload_n (pc' := 41) X rfl dX5_spreadOf_40 rfl ?_
        refine sk_isub (pc' := 42) X dX5_spreadOf_41 rfl ?_
        refine sk_aload_n (pc' := 43) X rfl dX5_spreadOf_42 rfl ?_
        refine sk_getf (pc' := 46) X 0 0 0 in_RX5 rfl rfl rfl (Nat.le_of_ble_eq_true rfl) fl_RX5_7 rfl dX5_spreadOf_43 rfl ?_
        refine sk_iconst (pc' := 47) X ic_0 dX5_spreadOf_46 rfl ?_
        refine sk_iald (pc' := 48) X 0 1 rfl rfl dX5_spreadOf_47 rfl ?_
        refine sk_iadd (pc' := 49) X dX5_spreadOf_48 rfl ?_
        refine sk_aload_n (pc' := 50) X rfl dX5_spreadOf_49 rfl ?_
        refine sk_getf (pc' := 53) X 0 0 0 in_RX5 rfl rfl rfl (Nat.le_of_ble_eq_true rfl) fl_RX5_7 rfl dX5_spreadOf_50 rfl ?_
        refine sk_iconst (pc' := 54) X ic_0 dX5_spreadOf_53 rfl ?_
        refine sk_iald (pc' := 55) X 0 1 rfl rfl dX5_spreadOf_54 rfl ?_
        refine sk_irem (pc' := 56) X dX5_spreadOf_55 rfl ?_
        refine sk_istore (lv' := [some (.ref (u0 0)), some (.int s19.1), some (.int s19.2.1), some (.int s19.2.2.1), some (.int s19.2.2.2), some (.int (sk_rem ((((S0.1 1) (((8 : Int32) + s19.2.2.2)).toNatClampNeg) - s19.2.1) + ((S0.1 1) ((0 : Int32)).toNatClampNeg)) ((S0.1 1) ((0 : Int32)).toNatClampNeg)))]) (pc' := 58) X (Nat.le_of_ble_eq_true rfl) rfl rfl dX5_spreadOf_56 rfl ?_
        refine sk_lt (bsf := fun _ => [(md_W G u0 S0)]) (lvf := fun z => [some (.ref (u0 0)), some (.int s19.1), some (.int s19.2.1), some (.int s19.2.2.1), some (.int s19.2.2.2), some (.int z)]) (stf := fun _ => []) (fun x56 => ?_)
        refine sk_aload_n (pc' := 59) X rfl dX5_spreadOf_58 rfl ?_
        refine sk_getf (pc' := 62) X 0 0 0 in_RX5 rfl rfl rfl (Nat.le_of_ble_eq_true rfl) fl_RX5_7 rfl dX5_spreadOf_59 rfl ?_
        refine sk_bipush (pc' := 64) X bp_28 dX5_spreadOf_62 rfl ?_
        refine sk_iload (pc' := 66) X rfl dX5_spreadOf_64 rfl ?_
        refine sk_iadd (pc' := 67) X dX5_spreadOf_66 rfl ?_
        refine sk_iald (pc' := 68) X 0 1 rfl rfl dX5_spreadOf_67 rfl ?_
        refine sk_if_ne (tgt := 82) (pc' := 71) X dX5_spreadOf_68 rfl rfl ?_ ?_
        · refine sk_iload_n (pc' := 83) X rfl dX5_spreadOf_82 rfl ?_
          refine sk_istore_n (lv' := [some (.ref (u0 0)), some (.int s19.1), some (.int s19.2.1), some (.int s19.2.2.1), some (.int s19.2.2.2), some (.int x56)]) (pc' := 84) X (Nat.le_of_ble_eq_true rfl) rfl rfl dX5_spreadOf_83 rfl ?_
          refine sk_iinc (lv' := [some (.ref (u0 0)), some (.int s19.1), some (.int s19.2.1), some (.int s19.2.2.1), some (.int (s19.2.2.2 + (1 : Int32))), some (.int x56)]) (pc' := 87) X rfl ic_1 (Nat.le_of_ble_eq_true rfl) rfl rfl dX5_spreadOf_84 rfl ?_
          refine sk_goto (tgt := 19) X dX5_spreadOf_87 rfl ?_
          exact (sk_kill 5 (ih19 (s19.1, s19.2.1, s19.2.2.1, (s19.2.2.2 + (1 : Int32)))))
        · refine sk_iload (pc' := 73) X rfl dX5_spreadOf_71 rfl ?_
          refine sk_iload_n (pc' := 74) X rfl dX5_spreadOf_73 rfl ?_
          refine sk_icmp_le (tgt := 82) (pc' := 77) X dX5_spreadOf_74 rfl rfl ?_ ?_
          · refine sk_iload_n (pc' := 83) X rfl dX5_spreadOf_82 rfl ?_
            refine sk_istore_n (lv' := [some (.ref (u0 0)), some (.int s19.1), some (.int s19.2.1), some (.int s19.2.2.1), some (.int s19.2.2.2), some (.int x56)]) (pc' := 84) X (Nat.le_of_ble_eq_true rfl) rfl rfl dX5_spreadOf_83 rfl ?_
            refine sk_iinc (lv' := [some (.ref (u0 0)), some (.int s19.1), some (.int s19.2.1), some (.int s19.2.2.1), some (.int (s19.2.2.2 + (1 : Int32))), some (.int x56)]) (pc' := 87) X rfl ic_1 (Nat.le_of_ble_eq_true rfl) rfl rfl dX5_spreadOf_84 rfl ?_
            refine sk_goto (tgt := 19) X dX5_spreadOf_87 rfl ?_
            exact (sk_kill 5 (ih19 (s19.1, s19.2.1, s19.2.2.1, (s19.2.2.2 + (1 : Int32)))))
          · refine sk_iload (pc' := 79) X rfl dX5_spreadOf_77 rfl ?_
            refine sk_goto (tgt := 83) X dX5_spreadOf_79 rfl ?_
            refine sk_istore_n (lv' := [some (.ref (u0 0)), some (.int s19.1), some (.int s19.2.1), some (.int x56), some (.int s19.2.2.2), some (.int x56)]) (pc' := 84) X (Nat.le_of_ble_eq_true rfl) rfl rfl dX5_spreadOf_83 rfl ?_
            refine sk_iinc (lv' := [some (.ref (u0 0)), some (.int s19.1), some (.int s19.2.1), some (.int x56), some (.int (s19.2.2.2 + (1 : Int32))), some (.int x56)]) (pc' := 87) X rfl ic_1 (Nat.le_of_ble_eq_true rfl) rfl rfl dX5_spreadOf_84 rfl ?_
            refine sk_goto (tgt := 19) X dX5_spreadOf_87 rfl ?_
            exact (sk_kill 5 (ih19 (s19.1, s19.2.1, x56, (s19.2.2.2 + (1 : Int32)))))
    unfold m_X5_spreadOf_4_step
    refine sk_iload_n (pc' := 5) X rfl dX5_spreadOf_4 rfl ?_
    refine sk_aload_n (pc' := 6) X rfl dX5_spreadOf_5 rfl ?_
    refine sk_getf (pc' := 9) X 0 0 0 in_RX5 rfl rfl rfl (Nat.le_of_ble_eq_true rfl) fl_RX5_7 rfl dX5_spreadOf_6 rfl ?_
    refine sk_iconst (pc' := 10) X ic_0 dX5_spreadOf_9 rfl ?_
    refine sk_iald (pc' := 11) X 0 1 rfl rfl dX5_spreadOf_10 rfl ?_
    refine sk_icmp_ge (tgt := 112) (pc' := 14) X dX5_spreadOf_11 rfl rfl ?_ ?_
    · refine sk_iload_n (pc' := 113) X rfl dX5_spreadOf_112 rfl ?_
      exact sk_iret X rfl rfl dX5_spreadOf_113
    · refine sk_iconst (pc' := 15) X ic_0 dX5_spreadOf_14 rfl ?_
      refine sk_istore_n (lv' := [some (.ref (u0 0)), some (.int s4.1), some (.int s4.2), some (.int (0 : Int32)), none, none]) (pc' := 16) X (Nat.le_of_ble_eq_true rfl) rfl rfl dX5_spreadOf_15 rfl ?_
      refine sk_iconst (pc' := 17) X ic_0 dX5_spreadOf_16 rfl ?_
      refine sk_istore (lv' := [some (.ref (u0 0)), some (.int s4.1), some (.int s4.2), some (.int (0 : Int32)), some (.int (0 : Int32)), none]) (pc' := 19) X (Nat.le_of_ble_eq_true rfl) rfl rfl dX5_spreadOf_17 rfl ?_
      exact (h19 (s4.1, s4.2, (0 : Int32), (0 : Int32)))
  unfold m_X5_spreadOf
  refine sk_iconst (pc' := 1) X ic_m1 dX5_spreadOf_0 rfl ?_
  refine sk_istore_n (lv' := [some (.ref (u0 0)), some (.int (-1 : Int32)), none, none, none, none]) (pc' := 2) X (Nat.le_of_ble_eq_true rfl) rfl rfl dX5_spreadOf_1 rfl ?_
  refine sk_iconst (pc' := 3) X ic_0 dX5_spreadOf_2 rfl ?_
  refine sk_istore_n (lv' := [some (.ref (u0 0)), some (.int (-1 : Int32)), some (.int (0 : Int32)), none, none, none]) (pc' := 4) X (Nat.le_of_ble_eq_true rfl) rfl rfl dX5_spreadOf_3 rfl ?_
  exact (h4 ((-1 : Int32), (0 : Int32)))
def rm_X5_spread : Room := { frames := 1, cells := 0, slots := 0, locals := 25 }
def o_X5_spread : (Int32 × sk_M) → Option Value := fun r => some (.int r.1)
def w_X5_spread (G : sk_G) (u0 : Nat → Nat) : (Int32 × sk_M) → sk_B := fun r => [(md_W G u0 r.2)]
set_option maxHeartbeats 4000000 in
set_option maxRecDepth 100000 in
theorem c_X5_spread (l : Launch) (G : sk_G) (u0 : Nat → Nat) (S0 : sk_M) : sk_ctr l G yX5_spread cX5_spread 1 (some .int) rm_X5_spread [.ref (u0 0)] [(md_W G u0 S0)] (m_X5_spread S0) o_X5_spread (w_X5_spread G u0) := by
  refine sk_entry (own := RX5) (by decide) rfl (lv0 := [some (.ref (u0 0))]) rfl (Nat.le_of_ble_eq_true rfl) ?_
  intro Γ X
  unfold m_X5_spread
  refine sk_aload_n (pc' := 1) X rfl dX5_spread_0 rfl ?_
  refine sk_iconst (pc' := 2) X ic_0 dX5_spread_1 rfl ?_
  refine sk_putf (bs' := [(md_W G u0 (md_up S0 0 4 (0 : Int32)))]) (pc' := 5) X 0 0 4 in_RX5 tyX5 tyX5_ok nmX5 rfl rfl rfl (Nat.le_of_ble_eq_true rfl) fl_RX5_35 rfl (tyX5_ok 4 (Nat.le_of_ble_eq_true rfl)) rfl rfl (Nat.le_of_ble_eq_true rfl) (sk_st 0 (md_pf_4 ..) rfl) dX5_spread_2 rfl ?_
  refine sk_lt (bsf := fun z => [(md_W G u0 z)]) (lvf := fun _ => [some (.ref (u0 0))]) (stf := fun _ => []) (fun N2 => ?_)
  refine sk_aload_n (pc' := 6) X rfl dX5_spread_5 rfl ?_
  refine sk_callV (bs2 := fun r6 => [(md_W G u0 N2)]) (st := []) (st2 := fun r6 => [.int r6]) (As := []) (pc' := 9) X (c_X5_spreadOf l G u0 N2) lk_RX5_157 [0] rfl (by decide) (fun _ => rfl) rfl rfl rfl ⟨(Nat.le_of_ble_eq_true rfl), (Nat.le_of_ble_eq_true rfl)⟩ ⟨rfl, rfl⟩ ⟨(Nat.le_of_ble_eq_true rfl), (Nat.le_of_ble_eq_true rfl)⟩ rfl (Nat.le_of_ble_eq_true rfl) rfl dX5_spread_6 rfl (fun _ => rfl) (fun _ => rfl) (fun r6 => ?_)
  exact sk_iret X rfl rfl dX5_spread_9
def rm_X5_leaves : Room := { frames := 0, cells := 0, slots := 0, locals := 0 }
def o_X5_leaves : (sk_M) → Option Value := fun r => none
def w_X5_leaves (G : sk_G) (u0 : Nat → Nat) : (sk_M) → sk_B := fun r => [(md_W G u0 r)]
set_option maxHeartbeats 4000000 in
set_option maxRecDepth 100000 in
theorem c_X5_leaves (l : Launch) (G : sk_G) (u0 : Nat → Nat) (S0 : sk_M) : sk_ctr l G yX5_leaves cX5_leaves 2 none rm_X5_leaves [.ref (u0 0)] [(md_W G u0 S0)] (m_X5_leaves S0) o_X5_leaves (w_X5_leaves G u0) := by
  refine sk_entry (own := RX5) (by decide) rfl (lv0 := [some (.ref (u0 0)), none]) rfl (Nat.le_of_ble_eq_true rfl) ?_
  intro Γ X
  have h2 : ∀ s2 : sk_M × Int32, sk_S Γ (sk_Φ Γ o_X5_leaves (w_X5_leaves G u0)) 0 0 (m_X5_leaves_2 s2) [(md_W G u0 s2.1)] [some (.ref (u0 0)), some (.int s2.2)] 2 [] := by
    intro s2
    unfold m_X5_leaves_2
    refine sk_loop (bsf := fun s2 => [(md_W G u0 s2.1)]) (lvf := fun s2 => [some (.ref (u0 0)), some (.int s2.2)]) ?_ sk_fuel s2
    intro k2 s2 ih2
    unfold m_X5_leaves_2_step
    refine sk_iload_n (pc' := 3) X rfl dX5_leaves_2 rfl ?_
    refine sk_sipush (pc' := 6) X sp_378 dX5_leaves_3 rfl ?_
    refine sk_icmp_ge (tgt := 27) (pc' := 9) X dX5_leaves_6 rfl rfl ?_ ?_
    · refine sk_aload_n (pc' := 28) X rfl dX5_leaves_27 rfl ?_
      refine sk_iconst (pc' := 29) X ic_1 dX5_leaves_28 rfl ?_
      refine sk_putf (bs' := [(md_W G u0 (md_up s2.1 0 10 (1 : Int32)))]) (pc' := 32) X 0 0 10 in_RX5 tyX5 tyX5_ok nmX5 rfl rfl rfl (Nat.le_of_ble_eq_true rfl) fl_RX5_119 rfl (tyX5_ok 10 (Nat.le_of_ble_eq_true rfl)) (by decide) rfl (Nat.le_of_ble_eq_true rfl) (sk_st 0 (md_pf_10 ..) rfl) dX5_leaves_29 rfl ?_
      refine sk_lt (bsf := fun z => [(md_W G u0 z)]) (lvf := fun _ => [some (.ref (u0 0)), some (.int s2.2)]) (stf := fun _ => []) (fun N29 => ?_)
      exact sk_vret X rfl rfl dX5_leaves_32
    · refine sk_aload_n (pc' := 10) X rfl dX5_leaves_9 rfl ?_
      refine sk_getf (pc' := 13) X 0 0 2 in_RX5 rfl rfl rfl (Nat.le_of_ble_eq_true rfl) fl_RX5_16 rfl dX5_leaves_10 rfl ?_
      refine sk_iload_n (pc' := 14) X rfl dX5_leaves_13 rfl ?_
      refine sk_aload_n (pc' := 15) X rfl dX5_leaves_14 rfl ?_
      refine sk_getf (pc' := 18) X 0 0 0 in_RX5 rfl rfl rfl (Nat.le_of_ble_eq_true rfl) fl_RX5_7 rfl dX5_leaves_15 rfl ?_
      refine sk_iload_n (pc' := 19) X rfl dX5_leaves_18 rfl ?_
      refine sk_iald (pc' := 20) X 0 1 rfl rfl dX5_leaves_19 rfl ?_
      refine sk_iast (bs' := [(md_W G u0 (md_up s2.1 3 (s2.2).toNatClampNeg ((s2.1.1 1) (s2.2).toNatClampNeg)))]) (pc' := 21) X 0 3 rfl rfl (sk_st 0 (md_st_3 ..) rfl) dX5_leaves_20 rfl ?_
      refine sk_lt (bsf := fun z => [(md_W G u0 z)]) (lvf := fun _ => [some (.ref (u0 0)), some (.int s2.2)]) (stf := fun _ => []) (fun N20 => ?_)
      refine sk_iinc (lv' := [some (.ref (u0 0)), some (.int (s2.2 + (1 : Int32)))]) (pc' := 24) X rfl ic_1 (Nat.le_of_ble_eq_true rfl) rfl rfl dX5_leaves_21 rfl ?_
      refine sk_goto (tgt := 2) X dX5_leaves_24 rfl ?_
      exact (ih2 (N20, (s2.2 + (1 : Int32))))
  unfold m_X5_leaves
  refine sk_iconst (pc' := 1) X ic_0 dX5_leaves_0 rfl ?_
  refine sk_istore_n (lv' := [some (.ref (u0 0)), some (.int (0 : Int32))]) (pc' := 2) X (Nat.le_of_ble_eq_true rfl) rfl rfl dX5_leaves_1 rfl ?_
  exact (h2 (S0, (0 : Int32)))
def rm_X5_until : Room := { frames := 4, cells := 0, slots := 0, locals := 90 }
def o_X5_until : (Int32 × sk_M) → Option Value := fun r => some (.int r.1)
def w_X5_until (G : sk_G) (u0 : Nat → Nat) : (Int32 × sk_M) → sk_B := fun r => [(md_W G u0 r.2)]
set_option maxHeartbeats 4000000 in
set_option maxRecDepth 100000 in
theorem c_X5_until (l : Launch) (G : sk_G) (u0 : Nat → Nat) (S0 : sk_M) (p1 : Int32) (p2 : Int32) : sk_ctr l G yX5_until cX5_until 5 (some .int) rm_X5_until [.ref (u0 0), .int p1, .int p2] [(md_W G u0 S0)] (m_X5_until S0 p1 p2) o_X5_until (w_X5_until G u0) := by
  refine sk_entry (own := RX5) (by decide) rfl (lv0 := [some (.ref (u0 0)), some (.int p1), some (.int p2), none, none]) rfl (Nat.le_of_ble_eq_true rfl) ?_
  intro Γ X
  have h2 : ∀ s2 : sk_M × Int32, sk_S Γ (sk_Φ Γ o_X5_until (w_X5_until G u0)) 0 0 (m_X5_until_2 p1 p2 s2) [(md_W G u0 s2.1)] [some (.ref (u0 0)), some (.int p1), some (.int p2), some (.int s2.2), none] 2 [] := by
    intro s2
    unfold m_X5_until_2
    refine sk_loop (bsf := fun s2 => [(md_W G u0 s2.1)]) (lvf := fun s2 => [some (.ref (u0 0)), some (.int p1), some (.int p2), some (.int s2.2), none]) ?_ sk_fuel s2
    intro k2 s2 ih2
    unfold m_X5_until_2_step
    refine sk_iload_n (pc' := 3) X rfl dX5_until_2 rfl ?_
    refine sk_iload_n (pc' := 4) X rfl dX5_until_3 rfl ?_
    refine sk_icmp_gt (tgt := 29) (pc' := 7) X dX5_until_4 rfl rfl ?_ ?_
    · refine sk_iconst (pc' := 30) X ic_m1 dX5_until_29 rfl ?_
      exact sk_iret X rfl rfl dX5_until_30
    · refine sk_aload_n (pc' := 8) X rfl dX5_until_7 rfl ?_
      refine sk_callV (bs2 := fun r8 => [(md_W G u0 r8.2)]) (st := []) (st2 := fun r8 => [.int r8.1]) (As := []) (pc' := 11) X (c_X5_ticks l G u0 s2.1) lk_RX5_139 [0] rfl (by decide) (fun _ => rfl) rfl rfl rfl ⟨(Nat.le_of_ble_eq_true rfl), (Nat.le_of_ble_eq_true rfl)⟩ ⟨rfl, rfl⟩ ⟨(Nat.le_of_ble_eq_true rfl), (Nat.le_of_ble_eq_true rfl)⟩ rfl (Nat.le_of_ble_eq_true rfl) rfl dX5_until_8 rfl (fun _ => rfl) (fun _ => rfl) (fun r8 => ?_)
      refine sk_istore (lv' := [some (.ref (u0 0)), some (.int p1), some (.int p2), some (.int s2.2), some (.int r8.1)]) (pc' := 13) X (Nat.le_of_ble_eq_true rfl) rfl rfl dX5_until_11 rfl ?_
      refine sk_aload_n (pc' := 14) X rfl dX5_until_13 rfl ?_
      refine sk_callV (bs2 := fun r14 => [(md_W G u0 r8.2)]) (st := []) (st2 := fun r14 => [.int r14]) (As := []) (pc' := 17) X (c_X5_groupMany l G u0 r8.2) lk_RX5_151 [0] rfl (by decide) (fun _ => rfl) rfl rfl rfl ⟨(Nat.le_of_ble_eq_true rfl), (Nat.le_of_ble_eq_true rfl)⟩ ⟨rfl, rfl⟩ ⟨(Nat.le_of_ble_eq_true rfl), (Nat.le_of_ble_eq_true rfl)⟩ rfl (Nat.le_of_ble_eq_true rfl) rfl dX5_until_14 rfl (fun _ => rfl) (fun _ => rfl) (fun r14 => ?_)
      refine sk_iload_n (pc' := 18) X rfl dX5_until_17 rfl ?_
      refine sk_icmp_gt (tgt := 23) (pc' := 21) X dX5_until_18 rfl rfl ?_ ?_
      · refine sk_iinc (lv' := [some (.ref (u0 0)), some (.int p1), some (.int p2), some (.int (s2.2 + (1 : Int32))), some (.int r8.1)]) (pc' := 26) X rfl ic_1 (Nat.le_of_ble_eq_true rfl) rfl rfl dX5_until_23 rfl ?_
        refine sk_goto (tgt := 2) X dX5_until_26 rfl ?_
        exact (sk_kill 4 (ih2 (r8.2, (s2.2 + (1 : Int32)))))
      · refine sk_iload_n (pc' := 22) X rfl dX5_until_21 rfl ?_
        exact sk_iret X rfl rfl dX5_until_22
  unfold m_X5_until
  refine sk_iconst (pc' := 1) X ic_1 dX5_until_0 rfl ?_
  refine sk_istore_n (lv' := [some (.ref (u0 0)), some (.int p1), some (.int p2), some (.int (1 : Int32)), none]) (pc' := 2) X (Nat.le_of_ble_eq_true rfl) rfl rfl dX5_until_1 rfl ?_
  exact (h2 (S0, (1 : Int32)))
def rm_X5_comesBack : Room := { frames := 0, cells := 0, slots := 0, locals := 0 }
def o_X5_comesBack : (sk_M) → Option Value := fun r => none
def w_X5_comesBack (G : sk_G) (u0 : Nat → Nat) : (sk_M) → sk_B := fun r => [(md_W G u0 r)]
set_option maxHeartbeats 4000000 in
set_option maxRecDepth 100000 in
theorem c_X5_comesBack (l : Launch) (G : sk_G) (u0 : Nat → Nat) (S0 : sk_M) : sk_ctr l G yX5_comesBack cX5_comesBack 2 none rm_X5_comesBack [.ref (u0 0)] [(md_W G u0 S0)] (m_X5_comesBack S0) o_X5_comesBack (w_X5_comesBack G u0) := by
  refine sk_entry (own := RX5) (by decide) rfl (lv0 := [some (.ref (u0 0)), none]) rfl (Nat.le_of_ble_eq_true rfl) ?_
  intro Γ X
  have h2 : ∀ s2 : sk_M × Int32, sk_S Γ (sk_Φ Γ o_X5_comesBack (w_X5_comesBack G u0)) 0 0 (m_X5_comesBack_2 s2) [(md_W G u0 s2.1)] [some (.ref (u0 0)), some (.int s2.2)] 2 [] := by
    intro s2
    unfold m_X5_comesBack_2
    refine sk_loop (bsf := fun s2 => [(md_W G u0 s2.1)]) (lvf := fun s2 => [some (.ref (u0 0)), some (.int s2.2)]) ?_ sk_fuel s2
    intro k2 s2 ih2
    unfold m_X5_comesBack_2_step
    refine sk_iload_n (pc' := 3) X rfl dX5_comesBack_2 rfl ?_
    refine sk_sipush (pc' := 6) X sp_378 dX5_comesBack_3 rfl ?_
    refine sk_icmp_ge (tgt := 27) (pc' := 9) X dX5_comesBack_6 rfl rfl ?_ ?_
    · refine sk_aload_n (pc' := 28) X rfl dX5_comesBack_27 rfl ?_
      refine sk_iconst (pc' := 29) X ic_0 dX5_comesBack_28 rfl ?_
      refine sk_putf (bs' := [(md_W G u0 (md_up s2.1 0 10 (0 : Int32)))]) (pc' := 32) X 0 0 10 in_RX5 tyX5 tyX5_ok nmX5 rfl rfl rfl (Nat.le_of_ble_eq_true rfl) fl_RX5_119 rfl (tyX5_ok 10 (Nat.le_of_ble_eq_true rfl)) (by decide) rfl (Nat.le_of_ble_eq_true rfl) (sk_st 0 (md_pf_10 ..) rfl) dX5_comesBack_29 rfl ?_
      refine sk_lt (bsf := fun z => [(md_W G u0 z)]) (lvf := fun _ => [some (.ref (u0 0)), some (.int s2.2)]) (stf := fun _ => []) (fun N29 => ?_)
      exact sk_vret X rfl rfl dX5_comesBack_32
    · refine sk_aload_n (pc' := 10) X rfl dX5_comesBack_9 rfl ?_
      refine sk_getf (pc' := 13) X 0 0 0 in_RX5 rfl rfl rfl (Nat.le_of_ble_eq_true rfl) fl_RX5_7 rfl dX5_comesBack_10 rfl ?_
      refine sk_iload_n (pc' := 14) X rfl dX5_comesBack_13 rfl ?_
      refine sk_aload_n (pc' := 15) X rfl dX5_comesBack_14 rfl ?_
      refine sk_getf (pc' := 18) X 0 0 2 in_RX5 rfl rfl rfl (Nat.le_of_ble_eq_true rfl) fl_RX5_16 rfl dX5_comesBack_15 rfl ?_
      refine sk_iload_n (pc' := 19) X rfl dX5_comesBack_18 rfl ?_
      refine sk_iald (pc' := 20) X 0 3 rfl rfl dX5_comesBack_19 rfl ?_
      refine sk_iast (bs' := [(md_W G u0 (md_up s2.1 1 (s2.2).toNatClampNeg ((s2.1.1 3) (s2.2).toNatClampNeg)))]) (pc' := 21) X 0 1 rfl rfl (sk_st 0 (md_st_1 ..) rfl) dX5_comesBack_20 rfl ?_
      refine sk_lt (bsf := fun z => [(md_W G u0 z)]) (lvf := fun _ => [some (.ref (u0 0)), some (.int s2.2)]) (stf := fun _ => []) (fun N20 => ?_)
      refine sk_iinc (lv' := [some (.ref (u0 0)), some (.int (s2.2 + (1 : Int32)))]) (pc' := 24) X rfl ic_1 (Nat.le_of_ble_eq_true rfl) rfl rfl dX5_comesBack_21 rfl ?_
      refine sk_goto (tgt := 2) X dX5_comesBack_24 rfl ?_
      exact (ih2 (N20, (s2.2 + (1 : Int32))))
  unfold m_X5_comesBack
  refine sk_iconst (pc' := 1) X ic_0 dX5_comesBack_0 rfl ?_
  refine sk_istore_n (lv' := [some (.ref (u0 0)), some (.int (0 : Int32))]) (pc' := 2) X (Nat.le_of_ble_eq_true rfl) rfl rfl dX5_comesBack_1 rfl ?_
  exact (h2 (S0, (0 : Int32)))
def rm_X5_isLimit : Room := { frames := 1, cells := 0, slots := 0, locals := 22 }
def o_X5_isLimit : (Int32) → Option Value := fun r => some (.int r)
def w_X5_isLimit (G : sk_G) : (Int32) → sk_B := fun r => []
set_option maxHeartbeats 4000000 in
set_option maxRecDepth 100000 in
theorem c_X5_isLimit (l : Launch) (G : sk_G) (p1 : Int32) : sk_ctr l G yX5_isLimit cX5_isLimit 1 (some .boolean) rm_X5_isLimit [.int p1] [] (m_X5_isLimit p1) o_X5_isLimit (w_X5_isLimit G) := by
  refine sk_entry (own := RX5) (by decide) rfl (lv0 := [some (.int p1)]) rfl (Nat.le_of_ble_eq_true rfl) ?_
  intro Γ X
  unfold m_X5_isLimit
  refine sk_iload_n (pc' := 1) X rfl dX5_isLimit_0 rfl ?_
  refine sk_iconst (pc' := 2) X ic_1 dX5_isLimit_1 rfl ?_
  refine sk_sipush (pc' := 5) X sp_400 dX5_isLimit_2 rfl ?_
  refine sk_callS (bs2 := fun r5 => []) (st := []) (st2 := fun r5 => [.int r5]) (As := [.int p1, .int (1 : Int32), .int (400 : Int32)]) (pc' := 8) X (c_X5_within l G p1 (1 : Int32) (400 : Int32)) lk_RX5_39 [] rfl (by decide) (fun _ => rfl) ⟨(Nat.le_of_ble_eq_true rfl), (Nat.le_of_ble_eq_true rfl)⟩ ⟨rfl, rfl⟩ ⟨(Nat.le_of_ble_eq_true rfl), (Nat.le_of_ble_eq_true rfl)⟩ rfl (Nat.le_of_ble_eq_true rfl) rfl dX5_isLimit_5 rfl (fun _ => rfl) (fun _ => rfl) (fun r5 => ?_)
  exact sk_zretb X rfl rfl dX5_isLimit_8
def rm_X5_ticksUntil : Room := { frames := 5, cells := 0, slots := 0, locals := 114 }
def o_X5_ticksUntil : (Int32 × sk_M) → Option Value := fun r => some (.int r.1)
def w_X5_ticksUntil (G : sk_G) (u0 : Nat → Nat) : (Int32 × sk_M) → sk_B := fun r => [(md_W G u0 r.2)]
set_option maxHeartbeats 4000000 in
set_option maxRecDepth 100000 in
theorem c_X5_ticksUntil (l : Launch) (G : sk_G) (u0 : Nat → Nat) (S0 : sk_M) (p1 : Int32) (p2 : Int32) : sk_ctr l G yX5_ticksUntil cX5_ticksUntil 4 (some .int) rm_X5_ticksUntil [.ref (u0 0), .int p1, .int p2] [(md_W G u0 S0)] (m_X5_ticksUntil S0 p1 p2) o_X5_ticksUntil (w_X5_ticksUntil G u0) := by
  refine sk_entry (own := RX5) (by decide) rfl (lv0 := [some (.ref (u0 0)), some (.int p1), some (.int p2), none]) rfl (Nat.le_of_ble_eq_true rfl) ?_
  intro Γ X
  have h24 : ∀ s24 : sk_M × Int32, sk_S Γ (sk_Φ Γ o_X5_ticksUntil (w_X5_ticksUntil G u0)) 0 0 (m_X5_ticksUntil_24 p1 p2 s24) [(md_W G u0 s24.1)] [some (.ref (u0 0)), some (.int p1), some (.int p2), none] 24 [.int s24.2, .ref (u0 0), .ref (u0 0)] := by
    intro s24
    unfold m_X5_ticksUntil_24
    refine sk_callV (bs2 := fun r24 => [(md_W G u0 s24.1)]) (st := [.ref (u0 0)]) (st2 := fun r24 => [.int r24, .ref (u0 0)]) (As := [.int s24.2]) (pc' := 27) X (c_X5_need l G u0 s24.1 s24.2) lk_RX5_94 [0] rfl (by decide) (fun _ => rfl) rfl rfl rfl ⟨(Nat.le_of_ble_eq_true rfl), (Nat.le_of_ble_eq_true rfl)⟩ ⟨rfl, rfl⟩ ⟨(Nat.le_of_ble_eq_true rfl), (Nat.le_of_ble_eq_true rfl)⟩ rfl (Nat.le_of_ble_eq_true rfl) rfl dX5_ticksUntil_24 rfl (fun _ => rfl) (fun _ => rfl) (fun r24 => ?_)
    refine sk_callV (bs2 := fun r27 => [(md_W G u0 r27.2)]) (st := []) (st2 := fun r27 => [.int r27.1]) (As := [.int r24]) (pc' := 30) X (c_X5_refused l G u0 s24.1 r24) lk_RX5_46 [0] rfl (by decide) (fun _ => rfl) rfl rfl rfl ⟨(Nat.le_of_ble_eq_true rfl), (Nat.le_of_ble_eq_true rfl)⟩ ⟨rfl, rfl⟩ ⟨(Nat.le_of_ble_eq_true rfl), (Nat.le_of_ble_eq_true rfl)⟩ rfl (Nat.le_of_ble_eq_true rfl) rfl dX5_ticksUntil_27 rfl (fun _ => rfl) (fun _ => rfl) (fun r27 => ?_)
    refine sk_if_eq (tgt := 35) (pc' := 33) X dX5_ticksUntil_30 rfl rfl ?_ ?_
    · refine sk_aload_n (pc' := 36) X rfl dX5_ticksUntil_35 rfl ?_
      refine sk_callV (bs2 := fun r36 => [(md_W G u0 r36)]) (st := []) (st2 := fun r36 => []) (As := []) (pc' := 39) X (c_X5_leaves l G u0 r27.2) lk_RX5_163 [0] rfl (by decide) (fun _ => rfl) rfl rfl rfl ⟨(Nat.le_of_ble_eq_true rfl), (Nat.le_of_ble_eq_true rfl)⟩ ⟨rfl, rfl⟩ ⟨(Nat.le_of_ble_eq_true rfl), (Nat.le_of_ble_eq_true rfl)⟩ rfl (Nat.le_of_ble_eq_true rfl) rfl dX5_ticksUntil_36 rfl (fun _ => rfl) (fun _ => rfl) (fun r36 => ?_)
      refine sk_aload_n (pc' := 40) X rfl dX5_ticksUntil_39 rfl ?_
      refine sk_iload_n (pc' := 41) X rfl dX5_ticksUntil_40 rfl ?_
      refine sk_iload_n (pc' := 42) X rfl dX5_ticksUntil_41 rfl ?_
      refine sk_callV (bs2 := fun r42 => [(md_W G u0 r42.2)]) (st := []) (st2 := fun r42 => [.int r42.1]) (As := [.int p1, .int p2]) (pc' := 45) X (c_X5_until l G u0 r36 p1 p2) lk_RX5_166 [0] rfl (by decide) (fun _ => rfl) rfl rfl rfl ⟨(Nat.le_of_ble_eq_true rfl), (Nat.le_of_ble_eq_true rfl)⟩ ⟨rfl, rfl⟩ ⟨(Nat.le_of_ble_eq_true rfl), (Nat.le_of_ble_eq_true rfl)⟩ rfl (Nat.le_of_ble_eq_true rfl) rfl dX5_ticksUntil_42 rfl (fun _ => rfl) (fun _ => rfl) (fun r42 => ?_)
      refine sk_istore_n (lv' := [some (.ref (u0 0)), some (.int p1), some (.int p2), some (.int r42.1)]) (pc' := 46) X (Nat.le_of_ble_eq_true rfl) rfl rfl dX5_ticksUntil_45 rfl ?_
      refine sk_aload_n (pc' := 47) X rfl dX5_ticksUntil_46 rfl ?_
      refine sk_callV (bs2 := fun r47 => [(md_W G u0 r47)]) (st := []) (st2 := fun r47 => []) (As := []) (pc' := 50) X (c_X5_comesBack l G u0 r42.2) lk_RX5_169 [0] rfl (by decide) (fun _ => rfl) rfl rfl rfl ⟨(Nat.le_of_ble_eq_true rfl), (Nat.le_of_ble_eq_true rfl)⟩ ⟨rfl, rfl⟩ ⟨(Nat.le_of_ble_eq_true rfl), (Nat.le_of_ble_eq_true rfl)⟩ rfl (Nat.le_of_ble_eq_true rfl) rfl dX5_ticksUntil_47 rfl (fun _ => rfl) (fun _ => rfl) (fun r47 => ?_)
      refine sk_iload_n (pc' := 51) X rfl dX5_ticksUntil_50 rfl ?_
      exact sk_iret X rfl rfl dX5_ticksUntil_51
    · refine sk_iconst (pc' := 34) X ic_0 dX5_ticksUntil_33 rfl ?_
      exact sk_iret X rfl rfl dX5_ticksUntil_34
  have h23 : ∀ s23 : sk_M, sk_S Γ (sk_Φ Γ o_X5_ticksUntil (w_X5_ticksUntil G u0)) 0 0 (m_X5_ticksUntil_23 p1 p2 s23) [(md_W G u0 s23)] [some (.ref (u0 0)), some (.int p1), some (.int p2), none] 23 [.ref (u0 0), .ref (u0 0)] := by
    intro s23
    unfold m_X5_ticksUntil_23
    refine sk_iconst (pc' := 24) X ic_0 dX5_ticksUntil_23 rfl ?_
    exact (h24 (s23, (0 : Int32)))
  unfold m_X5_ticksUntil
  refine sk_aload_n (pc' := 1) X rfl dX5_ticksUntil_0 rfl ?_
  refine sk_aload_n (pc' := 2) X rfl dX5_ticksUntil_1 rfl ?_
  refine sk_iload_n (pc' := 3) X rfl dX5_ticksUntil_2 rfl ?_
  refine sk_iconst (pc' := 4) X ic_0 dX5_ticksUntil_3 rfl ?_
  refine sk_bipush (pc' := 6) X bp_10 dX5_ticksUntil_4 rfl ?_
  refine sk_callS (bs2 := fun r6 => [(md_W G u0 S0)]) (st := [.ref (u0 0), .ref (u0 0)]) (st2 := fun r6 => [.int r6, .ref (u0 0), .ref (u0 0)]) (As := [.int p1, .int (0 : Int32), .int (10 : Int32)]) (pc' := 9) X (c_X5_within l G p1 (0 : Int32) (10 : Int32)) lk_RX5_39 [] rfl (by decide) (fun _ => rfl) ⟨(Nat.le_of_ble_eq_true rfl), (Nat.le_of_ble_eq_true rfl)⟩ ⟨rfl, rfl⟩ ⟨(Nat.le_of_ble_eq_true rfl), (Nat.le_of_ble_eq_true rfl)⟩ rfl (Nat.le_of_ble_eq_true rfl) rfl dX5_ticksUntil_6 rfl (fun _ => rfl) (fun _ => rfl) (fun r6 => ?_)
  refine sk_if_eq (tgt := 23) (pc' := 12) X dX5_ticksUntil_9 rfl rfl ?_ ?_
  · exact (h23 S0)
  · refine sk_iload_n (pc' := 13) X rfl dX5_ticksUntil_12 rfl ?_
    refine sk_callS (bs2 := fun r13 => [(md_W G u0 S0)]) (st := [.ref (u0 0), .ref (u0 0)]) (st2 := fun r13 => [.int r13, .ref (u0 0), .ref (u0 0)]) (As := [.int p2]) (pc' := 16) X (c_X5_isLimit l G p2) lk_RX5_160 [] rfl (by decide) (fun _ => rfl) ⟨(Nat.le_of_ble_eq_true rfl), (Nat.le_of_ble_eq_true rfl)⟩ ⟨rfl, rfl⟩ ⟨(Nat.le_of_ble_eq_true rfl), (Nat.le_of_ble_eq_true rfl)⟩ rfl (Nat.le_of_ble_eq_true rfl) rfl dX5_ticksUntil_13 rfl (fun _ => rfl) (fun _ => rfl) (fun r13 => ?_)
    refine sk_if_eq (tgt := 23) (pc' := 19) X dX5_ticksUntil_16 rfl rfl ?_ ?_
    · exact (h23 S0)
    · refine sk_iconst (pc' := 20) X ic_1 dX5_ticksUntil_19 rfl ?_
      refine sk_goto (tgt := 24) X dX5_ticksUntil_20 rfl ?_
      exact (h24 (S0, (1 : Int32)))
def rm_X5_groupsAfter : Room := { frames := 5, cells := 0, slots := 0, locals := 113 }
def o_X5_groupsAfter : (Int32 × sk_M) → Option Value := fun r => some (.int r.1)
def w_X5_groupsAfter (G : sk_G) (u0 : Nat → Nat) : (Int32 × sk_M) → sk_B := fun r => [(md_W G u0 r.2)]
set_option maxHeartbeats 4000000 in
set_option maxRecDepth 100000 in
theorem c_X5_groupsAfter (l : Launch) (G : sk_G) (u0 : Nat → Nat) (S0 : sk_M) (p1 : Int32) : sk_ctr l G yX5_groupsAfter cX5_groupsAfter 4 (some .int) rm_X5_groupsAfter [.ref (u0 0), .int p1] [(md_W G u0 S0)] (m_X5_groupsAfter S0 p1) o_X5_groupsAfter (w_X5_groupsAfter G u0) := by
  refine sk_entry (own := RX5) (by decide) rfl (lv0 := [some (.ref (u0 0)), some (.int p1), none, none]) rfl (Nat.le_of_ble_eq_true rfl) ?_
  intro Γ X
  unfold m_X5_groupsAfter
  refine sk_aload_n (pc' := 1) X rfl dX5_groupsAfter_0 rfl ?_
  refine sk_aload_n (pc' := 2) X rfl dX5_groupsAfter_1 rfl ?_
  refine sk_iload_n (pc' := 3) X rfl dX5_groupsAfter_2 rfl ?_
  refine sk_callS (bs2 := fun r3 => [(md_W G u0 S0)]) (st := [.ref (u0 0), .ref (u0 0)]) (st2 := fun r3 => [.int r3, .ref (u0 0), .ref (u0 0)]) (As := [.int p1]) (pc' := 6) X (c_X5_isLimit l G p1) lk_RX5_160 [] rfl (by decide) (fun _ => rfl) ⟨(Nat.le_of_ble_eq_true rfl), (Nat.le_of_ble_eq_true rfl)⟩ ⟨rfl, rfl⟩ ⟨(Nat.le_of_ble_eq_true rfl), (Nat.le_of_ble_eq_true rfl)⟩ rfl (Nat.le_of_ble_eq_true rfl) rfl dX5_groupsAfter_3 rfl (fun _ => rfl) (fun _ => rfl) (fun r3 => ?_)
  refine sk_callV (bs2 := fun r6 => [(md_W G u0 S0)]) (st := [.ref (u0 0)]) (st2 := fun r6 => [.int r6, .ref (u0 0)]) (As := [.int r3]) (pc' := 9) X (c_X5_need l G u0 S0 r3) lk_RX5_94 [0] rfl (by decide) (fun _ => rfl) rfl rfl rfl ⟨(Nat.le_of_ble_eq_true rfl), (Nat.le_of_ble_eq_true rfl)⟩ ⟨rfl, rfl⟩ ⟨(Nat.le_of_ble_eq_true rfl), (Nat.le_of_ble_eq_true rfl)⟩ rfl (Nat.le_of_ble_eq_true rfl) rfl dX5_groupsAfter_6 rfl (fun _ => rfl) (fun _ => rfl) (fun r6 => ?_)
  refine sk_callV (bs2 := fun r9 => [(md_W G u0 r9.2)]) (st := []) (st2 := fun r9 => [.int r9.1]) (As := [.int r6]) (pc' := 12) X (c_X5_refused l G u0 S0 r6) lk_RX5_46 [0] rfl (by decide) (fun _ => rfl) rfl rfl rfl ⟨(Nat.le_of_ble_eq_true rfl), (Nat.le_of_ble_eq_true rfl)⟩ ⟨rfl, rfl⟩ ⟨(Nat.le_of_ble_eq_true rfl), (Nat.le_of_ble_eq_true rfl)⟩ rfl (Nat.le_of_ble_eq_true rfl) rfl dX5_groupsAfter_9 rfl (fun _ => rfl) (fun _ => rfl) (fun r9 => ?_)
  refine sk_if_eq (tgt := 17) (pc' := 15) X dX5_groupsAfter_12 rfl rfl ?_ ?_
  · refine sk_aload_n (pc' := 18) X rfl dX5_groupsAfter_17 rfl ?_
    refine sk_callV (bs2 := fun r18 => [(md_W G u0 r18)]) (st := []) (st2 := fun r18 => []) (As := []) (pc' := 21) X (c_X5_leaves l G u0 r9.2) lk_RX5_163 [0] rfl (by decide) (fun _ => rfl) rfl rfl rfl ⟨(Nat.le_of_ble_eq_true rfl), (Nat.le_of_ble_eq_true rfl)⟩ ⟨rfl, rfl⟩ ⟨(Nat.le_of_ble_eq_true rfl), (Nat.le_of_ble_eq_true rfl)⟩ rfl (Nat.le_of_ble_eq_true rfl) rfl dX5_groupsAfter_18 rfl (fun _ => rfl) (fun _ => rfl) (fun r18 => ?_)
    refine sk_aload_n (pc' := 22) X rfl dX5_groupsAfter_21 rfl ?_
    refine sk_iload_n (pc' := 23) X rfl dX5_groupsAfter_22 rfl ?_
    refine sk_callV (bs2 := fun r23 => [(md_W G u0 r23.2)]) (st := []) (st2 := fun r23 => [.int r23.1]) (As := [.int p1]) (pc' := 26) X (c_X5_doTick l G u0 r18 p1) lk_RX5_142 [0] rfl (by decide) (fun _ => rfl) rfl rfl rfl ⟨(Nat.le_of_ble_eq_true rfl), (Nat.le_of_ble_eq_true rfl)⟩ ⟨rfl, rfl⟩ ⟨(Nat.le_of_ble_eq_true rfl), (Nat.le_of_ble_eq_true rfl)⟩ rfl (Nat.le_of_ble_eq_true rfl) rfl dX5_groupsAfter_23 rfl (fun _ => rfl) (fun _ => rfl) (fun r23 => ?_)
    refine sk_istore_n (lv' := [some (.ref (u0 0)), some (.int p1), some (.int r23.1), none]) (pc' := 27) X (Nat.le_of_ble_eq_true rfl) rfl rfl dX5_groupsAfter_26 rfl ?_
    refine sk_aload_n (pc' := 28) X rfl dX5_groupsAfter_27 rfl ?_
    refine sk_callV (bs2 := fun r28 => [(md_W G u0 r23.2)]) (st := []) (st2 := fun r28 => [.int r28]) (As := []) (pc' := 31) X (c_X5_groupMany l G u0 r23.2) lk_RX5_151 [0] rfl (by decide) (fun _ => rfl) rfl rfl rfl ⟨(Nat.le_of_ble_eq_true rfl), (Nat.le_of_ble_eq_true rfl)⟩ ⟨rfl, rfl⟩ ⟨(Nat.le_of_ble_eq_true rfl), (Nat.le_of_ble_eq_true rfl)⟩ rfl (Nat.le_of_ble_eq_true rfl) rfl dX5_groupsAfter_28 rfl (fun _ => rfl) (fun _ => rfl) (fun r28 => ?_)
    refine sk_istore_n (lv' := [some (.ref (u0 0)), some (.int p1), some (.int r23.1), some (.int r28)]) (pc' := 32) X (Nat.le_of_ble_eq_true rfl) rfl rfl dX5_groupsAfter_31 rfl ?_
    refine sk_aload_n (pc' := 33) X rfl dX5_groupsAfter_32 rfl ?_
    refine sk_callV (bs2 := fun r33 => [(md_W G u0 r33)]) (st := []) (st2 := fun r33 => []) (As := []) (pc' := 36) X (c_X5_comesBack l G u0 r23.2) lk_RX5_169 [0] rfl (by decide) (fun _ => rfl) rfl rfl rfl ⟨(Nat.le_of_ble_eq_true rfl), (Nat.le_of_ble_eq_true rfl)⟩ ⟨rfl, rfl⟩ ⟨(Nat.le_of_ble_eq_true rfl), (Nat.le_of_ble_eq_true rfl)⟩ rfl (Nat.le_of_ble_eq_true rfl) rfl dX5_groupsAfter_33 rfl (fun _ => rfl) (fun _ => rfl) (fun r33 => ?_)
    refine sk_iload_n (pc' := 37) X rfl dX5_groupsAfter_36 rfl ?_
    exact sk_iret X rfl rfl dX5_groupsAfter_37
  · refine sk_iconst (pc' := 16) X ic_0 dX5_groupsAfter_15 rfl ?_
    exact sk_iret X rfl rfl dX5_groupsAfter_16
def rm_X5_keepsSituation : Room := { frames := 0, cells := 0, slots := 0, locals := 0 }
def o_X5_keepsSituation : (sk_M) → Option Value := fun r => none
def w_X5_keepsSituation (G : sk_G) (u0 : Nat → Nat) : (sk_M) → sk_B := fun r => [(md_W G u0 r)]
set_option maxHeartbeats 4000000 in
set_option maxRecDepth 100000 in
theorem c_X5_keepsSituation (l : Launch) (G : sk_G) (u0 : Nat → Nat) (S0 : sk_M) (p1 : Int32) : sk_ctr l G yX5_keepsSituation cX5_keepsSituation 4 none rm_X5_keepsSituation [.ref (u0 0), .int p1] [(md_W G u0 S0)] (m_X5_keepsSituation S0 p1) o_X5_keepsSituation (w_X5_keepsSituation G u0) := by
  refine sk_entry (own := RX5) (by decide) rfl (lv0 := [some (.ref (u0 0)), some (.int p1), none, none]) rfl (Nat.le_of_ble_eq_true rfl) ?_
  intro Γ X
  have h137 : ∀ s137 : sk_M × Int32, sk_S Γ (sk_Φ Γ o_X5_keepsSituation (w_X5_keepsSituation G u0)) 0 0 (m_X5_keepsSituation_137 p1 s137) [(md_W G u0 s137.1)] [some (.ref (u0 0)), some (.int p1), some (.int s137.2), none] 137 [] := by
    intro s137
    unfold m_X5_keepsSituation_137
    refine sk_loop (bsf := fun s137 => [(md_W G u0 s137.1)]) (lvf := fun s137 => [some (.ref (u0 0)), some (.int p1), some (.int s137.2), none]) ?_ sk_fuel s137
    intro k137 s137 ih137
    unfold m_X5_keepsSituation_137_step
    refine sk_iload_n (pc' := 138) X rfl dX5_keepsSituation_137 rfl ?_
    refine sk_bipush (pc' := 140) X bp_100 dX5_keepsSituation_138 rfl ?_
    refine sk_icmp_ge (tgt := 173) (pc' := 143) X dX5_keepsSituation_140 rfl rfl ?_ ?_
    · exact sk_vret X rfl rfl dX5_keepsSituation_173
    · refine sk_aload_n (pc' := 144) X rfl dX5_keepsSituation_143 rfl ?_
      refine sk_getf (pc' := 147) X 0 0 11 in_RX5 rfl rfl rfl (Nat.le_of_ble_eq_true rfl) fl_RX5_29 rfl dX5_keepsSituation_144 rfl ?_
      refine sk_bipush (pc' := 149) X bp_120 dX5_keepsSituation_147 rfl ?_
      refine sk_iload_n (pc' := 150) X rfl dX5_keepsSituation_149 rfl ?_
      refine sk_imul (pc' := 151) X dX5_keepsSituation_150 rfl ?_
      refine sk_bipush (pc' := 153) X bp_20 dX5_keepsSituation_151 rfl ?_
      refine sk_iadd (pc' := 154) X dX5_keepsSituation_153 rfl ?_
      refine sk_iload_n (pc' := 155) X rfl dX5_keepsSituation_154 rfl ?_
      refine sk_iadd (pc' := 156) X dX5_keepsSituation_155 rfl ?_
      refine sk_aload_n (pc' := 157) X rfl dX5_keepsSituation_156 rfl ?_
      refine sk_getf (pc' := 160) X 0 0 0 in_RX5 rfl rfl rfl (Nat.le_of_ble_eq_true rfl) fl_RX5_7 rfl dX5_keepsSituation_157 rfl ?_
      refine sk_sipush (pc' := 163) X sp_158 dX5_keepsSituation_160 rfl ?_
      refine sk_iload_n (pc' := 164) X rfl dX5_keepsSituation_163 rfl ?_
      refine sk_iadd (pc' := 165) X dX5_keepsSituation_164 rfl ?_
      refine sk_iald (pc' := 166) X 0 1 rfl rfl dX5_keepsSituation_165 rfl ?_
      refine sk_iast (bs' := [(md_W G u0 (md_up s137.1 7 (((((120 : Int32) * p1) + (20 : Int32)) + s137.2)).toNatClampNeg ((s137.1.1 1) (((158 : Int32) + s137.2)).toNatClampNeg)))]) (pc' := 167) X 0 7 rfl rfl (sk_st 0 (md_st_7 ..) rfl) dX5_keepsSituation_166 rfl ?_
      refine sk_lt (bsf := fun z => [(md_W G u0 z)]) (lvf := fun _ => [some (.ref (u0 0)), some (.int p1), some (.int s137.2), none]) (stf := fun _ => []) (fun N166 => ?_)
      refine sk_iinc (lv' := [some (.ref (u0 0)), some (.int p1), some (.int (s137.2 + (1 : Int32))), none]) (pc' := 170) X rfl ic_1 (Nat.le_of_ble_eq_true rfl) rfl rfl dX5_keepsSituation_167 rfl ?_
      refine sk_goto (tgt := 137) X dX5_keepsSituation_170 rfl ?_
      exact (ih137 (N166, (s137.2 + (1 : Int32))))
  have h2 : ∀ s2 : sk_M × Int32, sk_S Γ (sk_Φ Γ o_X5_keepsSituation (w_X5_keepsSituation G u0)) 0 0 (m_X5_keepsSituation_2 p1 s2) [(md_W G u0 s2.1)] [some (.ref (u0 0)), some (.int p1), some (.int s2.2), none] 2 [] := by
    intro s2
    unfold m_X5_keepsSituation_2
    refine sk_loop (bsf := fun s2 => [(md_W G u0 s2.1)]) (lvf := fun s2 => [some (.ref (u0 0)), some (.int p1), some (.int s2.2), none]) ?_ sk_fuel s2
    intro k2 s2 ih2
    have h106 : ∀ s106 : sk_M × Int32 × Int32 × Int32 × Int32, sk_S Γ (sk_Φ Γ o_X5_keepsSituation (w_X5_keepsSituation G u0)) 0 0 (m_X5_keepsSituation_106 p1 k2 s106) [(md_W G u0 s106.1)] [some (.ref (u0 0)), some (.int p1), some (.int s106.2.1), some (.int s106.2.2.1)] 106 [.int s106.2.2.2.2, .int s106.2.2.2.1, .ref (u0 7)] := by
      intro s106
      unfold m_X5_keepsSituation_106
      refine sk_iast (bs' := [(md_W G u0 (md_up s106.1 7 (s106.2.2.2.1).toNatClampNeg s106.2.2.2.2))]) (pc' := 107) X 0 7 rfl rfl (sk_st 0 (md_st_7 ..) rfl) dX5_keepsSituation_106 rfl ?_
      refine sk_lt (bsf := fun z => [(md_W G u0 z)]) (lvf := fun _ => [some (.ref (u0 0)), some (.int p1), some (.int s106.2.1), some (.int s106.2.2.1)]) (stf := fun _ => []) (fun N106 => ?_)
      refine sk_aload_n (pc' := 108) X rfl dX5_keepsSituation_107 rfl ?_
      refine sk_getf (pc' := 111) X 0 0 11 in_RX5 rfl rfl rfl (Nat.le_of_ble_eq_true rfl) fl_RX5_29 rfl dX5_keepsSituation_108 rfl ?_
      refine sk_bipush (pc' := 113) X bp_120 dX5_keepsSituation_111 rfl ?_
      refine sk_iload_n (pc' := 114) X rfl dX5_keepsSituation_113 rfl ?_
      refine sk_imul (pc' := 115) X dX5_keepsSituation_114 rfl ?_
      refine sk_bipush (pc' := 117) X bp_10 dX5_keepsSituation_115 rfl ?_
      refine sk_iadd (pc' := 118) X dX5_keepsSituation_117 rfl ?_
      refine sk_iload_n (pc' := 119) X rfl dX5_keepsSituation_118 rfl ?_
      refine sk_iadd (pc' := 120) X dX5_keepsSituation_119 rfl ?_
      refine sk_aload_n (pc' := 121) X rfl dX5_keepsSituation_120 rfl ?_
      refine sk_getf (pc' := 124) X 0 0 0 in_RX5 rfl rfl rfl (Nat.le_of_ble_eq_true rfl) fl_RX5_7 rfl dX5_keepsSituation_121 rfl ?_
      refine sk_iconst (pc' := 125) X ic_4 dX5_keepsSituation_124 rfl ?_
      refine sk_iald (pc' := 126) X 0 1 rfl rfl dX5_keepsSituation_125 rfl ?_
      refine sk_iload_n (pc' := 127) X rfl dX5_keepsSituation_126 rfl ?_
      refine sk_irem (pc' := 128) X dX5_keepsSituation_127 rfl ?_
      refine sk_iast (bs' := [(md_W G u0 (md_up N106 7 (((((120 : Int32) * p1) + (10 : Int32)) + s106.2.1)).toNatClampNeg (sk_rem ((N106.1 1) ((4 : Int32)).toNatClampNeg) s106.2.2.1)))]) (pc' := 129) X 0 7 rfl rfl (sk_st 0 (md_st_7 ..) rfl) dX5_keepsSituation_128 rfl ?_
      refine sk_lt (bsf := fun z => [(md_W G u0 z)]) (lvf := fun _ => [some (.ref (u0 0)), some (.int p1), some (.int s106.2.1), some (.int s106.2.2.1)]) (stf := fun _ => []) (fun N128 => ?_)
      refine sk_iinc (lv' := [some (.ref (u0 0)), some (.int p1), some (.int (s106.2.1 + (1 : Int32))), some (.int s106.2.2.1)]) (pc' := 132) X rfl ic_1 (Nat.le_of_ble_eq_true rfl) rfl rfl dX5_keepsSituation_129 rfl ?_
      refine sk_goto (tgt := 2) X dX5_keepsSituation_132 rfl ?_
      exact (sk_kill 3 (ih2 (N128, (s106.2.1 + (1 : Int32)))))
    have h72 : ∀ s72 : sk_M × Int32 × Int32, sk_S Γ (sk_Φ Γ o_X5_keepsSituation (w_X5_keepsSituation G u0)) 0 0 (m_X5_keepsSituation_72 p1 k2 s72) [(md_W G u0 s72.1)] [some (.ref (u0 0)), some (.int p1), some (.int s72.2.1), none] 72 [.int s72.2.2] := by
      intro s72
      unfold m_X5_keepsSituation_72
      refine sk_istore_n (lv' := [some (.ref (u0 0)), some (.int p1), some (.int s72.2.1), some (.int s72.2.2)]) (pc' := 73) X (Nat.le_of_ble_eq_true rfl) rfl rfl dX5_keepsSituation_72 rfl ?_
      refine sk_aload_n (pc' := 74) X rfl dX5_keepsSituation_73 rfl ?_
      refine sk_getf (pc' := 77) X 0 0 11 in_RX5 rfl rfl rfl (Nat.le_of_ble_eq_true rfl) fl_RX5_29 rfl dX5_keepsSituation_74 rfl ?_
      refine sk_bipush (pc' := 79) X bp_120 dX5_keepsSituation_77 rfl ?_
      refine sk_iload_n (pc' := 80) X rfl dX5_keepsSituation_79 rfl ?_
      refine sk_imul (pc' := 81) X dX5_keepsSituation_80 rfl ?_
      refine sk_iload_n (pc' := 82) X rfl dX5_keepsSituation_81 rfl ?_
      refine sk_iadd (pc' := 83) X dX5_keepsSituation_82 rfl ?_
      refine sk_iload_n (pc' := 84) X rfl dX5_keepsSituation_83 rfl ?_
      refine sk_aload_n (pc' := 85) X rfl dX5_keepsSituation_84 rfl ?_
      refine sk_getf (pc' := 88) X 0 0 0 in_RX5 rfl rfl rfl (Nat.le_of_ble_eq_true rfl) fl_RX5_7 rfl dX5_keepsSituation_85 rfl ?_
      refine sk_iconst (pc' := 89) X ic_5 dX5_keepsSituation_88 rfl ?_
      refine sk_iald (pc' := 90) X 0 1 rfl rfl dX5_keepsSituation_89 rfl ?_
      refine sk_icmp_ge (tgt := 105) (pc' := 93) X dX5_keepsSituation_90 rfl rfl ?_ ?_
      · refine sk_iconst (pc' := 106) X ic_0 dX5_keepsSituation_105 rfl ?_
        exact (h106 (s72.1, s72.2.1, s72.2.2, (((120 : Int32) * p1) + s72.2.1), (0 : Int32)))
      · refine sk_aload_n (pc' := 94) X rfl dX5_keepsSituation_93 rfl ?_
        refine sk_getf (pc' := 97) X 0 0 0 in_RX5 rfl rfl rfl (Nat.le_of_ble_eq_true rfl) fl_RX5_7 rfl dX5_keepsSituation_94 rfl ?_
        refine sk_bipush (pc' := 99) X bp_8 dX5_keepsSituation_97 rfl ?_
        refine sk_iload_n (pc' := 100) X rfl dX5_keepsSituation_99 rfl ?_
        refine sk_iadd (pc' := 101) X dX5_keepsSituation_100 rfl ?_
        refine sk_iald (pc' := 102) X 0 1 rfl rfl dX5_keepsSituation_101 rfl ?_
        refine sk_goto (tgt := 106) X dX5_keepsSituation_102 rfl ?_
        exact (h106 (s72.1, s72.2.1, s72.2.2, (((120 : Int32) * p1) + s72.2.1), ((s72.1.1 1) (((8 : Int32) + s72.2.1)).toNatClampNeg)))
    unfold m_X5_keepsSituation_2_step
    refine sk_iload_n (pc' := 3) X rfl dX5_keepsSituation_2 rfl ?_
    refine sk_bipush (pc' := 5) X bp_10 dX5_keepsSituation_3 rfl ?_
    refine sk_icmp_ge (tgt := 135) (pc' := 8) X dX5_keepsSituation_5 rfl rfl ?_ ?_
    · refine sk_iconst (pc' := 136) X ic_0 dX5_keepsSituation_135 rfl ?_
      refine sk_istore_n (lv' := [some (.ref (u0 0)), some (.int p1), some (.int (0 : Int32)), none]) (pc' := 137) X (Nat.le_of_ble_eq_true rfl) rfl rfl dX5_keepsSituation_136 rfl ?_
      exact (h137 (s2.1, (0 : Int32)))
    · refine sk_iload_n (pc' := 9) X rfl dX5_keepsSituation_8 rfl ?_
      refine sk_aload_n (pc' := 10) X rfl dX5_keepsSituation_9 rfl ?_
      refine sk_getf (pc' := 13) X 0 0 0 in_RX5 rfl rfl rfl (Nat.le_of_ble_eq_true rfl) fl_RX5_7 rfl dX5_keepsSituation_10 rfl ?_
      refine sk_iconst (pc' := 14) X ic_5 dX5_keepsSituation_13 rfl ?_
      refine sk_iald (pc' := 15) X 0 1 rfl rfl dX5_keepsSituation_14 rfl ?_
      refine sk_icmp_lt (tgt := 22) (pc' := 18) X dX5_keepsSituation_15 rfl rfl ?_ ?_
      · refine sk_aload_n (pc' := 23) X rfl dX5_keepsSituation_22 rfl ?_
        refine sk_getf (pc' := 26) X 0 0 0 in_RX5 rfl rfl rfl (Nat.le_of_ble_eq_true rfl) fl_RX5_7 rfl dX5_keepsSituation_23 rfl ?_
        refine sk_bipush (pc' := 28) X bp_28 dX5_keepsSituation_26 rfl ?_
        refine sk_iload_n (pc' := 29) X rfl dX5_keepsSituation_28 rfl ?_
        refine sk_iadd (pc' := 30) X dX5_keepsSituation_29 rfl ?_
        refine sk_iald (pc' := 31) X 0 1 rfl rfl dX5_keepsSituation_30 rfl ?_
        refine sk_iconst (pc' := 32) X ic_1 dX5_keepsSituation_31 rfl ?_
        refine sk_icmp_ne (tgt := 47) (pc' := 35) X dX5_keepsSituation_32 rfl rfl ?_ ?_
        · refine sk_aload_n (pc' := 48) X rfl dX5_keepsSituation_47 rfl ?_
          refine sk_getf (pc' := 51) X 0 0 0 in_RX5 rfl rfl rfl (Nat.le_of_ble_eq_true rfl) fl_RX5_7 rfl dX5_keepsSituation_48 rfl ?_
          refine sk_bipush (pc' := 53) X bp_18 dX5_keepsSituation_51 rfl ?_
          refine sk_iload_n (pc' := 54) X rfl dX5_keepsSituation_53 rfl ?_
          refine sk_iadd (pc' := 55) X dX5_keepsSituation_54 rfl ?_
          refine sk_iald (pc' := 56) X 0 1 rfl rfl dX5_keepsSituation_55 rfl ?_
          refine sk_if_ne (tgt := 63) (pc' := 59) X dX5_keepsSituation_56 rfl rfl ?_ ?_
          · refine sk_aload_n (pc' := 64) X rfl dX5_keepsSituation_63 rfl ?_
            refine sk_getf (pc' := 67) X 0 0 0 in_RX5 rfl rfl rfl (Nat.le_of_ble_eq_true rfl) fl_RX5_7 rfl dX5_keepsSituation_64 rfl ?_
            refine sk_bipush (pc' := 69) X bp_18 dX5_keepsSituation_67 rfl ?_
            refine sk_iload_n (pc' := 70) X rfl dX5_keepsSituation_69 rfl ?_
            refine sk_iadd (pc' := 71) X dX5_keepsSituation_70 rfl ?_
            refine sk_iald (pc' := 72) X 0 1 rfl rfl dX5_keepsSituation_71 rfl ?_
            exact (h72 (s2.1, s2.2, ((s2.1.1 1) (((18 : Int32) + s2.2)).toNatClampNeg)))
          · refine sk_iconst (pc' := 60) X ic_1 dX5_keepsSituation_59 rfl ?_
            refine sk_goto (tgt := 72) X dX5_keepsSituation_60 rfl ?_
            exact (h72 (s2.1, s2.2, (1 : Int32)))
        · refine sk_aload_n (pc' := 36) X rfl dX5_keepsSituation_35 rfl ?_
          refine sk_getf (pc' := 39) X 0 0 0 in_RX5 rfl rfl rfl (Nat.le_of_ble_eq_true rfl) fl_RX5_7 rfl dX5_keepsSituation_36 rfl ?_
          refine sk_bipush (pc' := 41) X bp_38 dX5_keepsSituation_39 rfl ?_
          refine sk_iload_n (pc' := 42) X rfl dX5_keepsSituation_41 rfl ?_
          refine sk_iadd (pc' := 43) X dX5_keepsSituation_42 rfl ?_
          refine sk_iald (pc' := 44) X 0 1 rfl rfl dX5_keepsSituation_43 rfl ?_
          refine sk_goto (tgt := 72) X dX5_keepsSituation_44 rfl ?_
          exact (h72 (s2.1, s2.2, ((s2.1.1 1) (((38 : Int32) + s2.2)).toNatClampNeg)))
      · refine sk_iconst (pc' := 19) X ic_1 dX5_keepsSituation_18 rfl ?_
        refine sk_goto (tgt := 72) X dX5_keepsSituation_19 rfl ?_
        exact (h72 (s2.1, s2.2, (1 : Int32)))
  unfold m_X5_keepsSituation
  refine sk_iconst (pc' := 1) X ic_0 dX5_keepsSituation_0 rfl ?_
  refine sk_istore_n (lv' := [some (.ref (u0 0)), some (.int p1), some (.int (0 : Int32)), none]) (pc' := 2) X (Nat.le_of_ble_eq_true rfl) rfl rfl dX5_keepsSituation_1 rfl ?_
  exact (h2 (S0, (0 : Int32)))
def rm_X5_areAlike : Room := { frames := 0, cells := 0, slots := 0, locals := 0 }
def o_X5_areAlike : (Int32) → Option Value := fun r => some (.int r)
def w_X5_areAlike (G : sk_G) (u0 : Nat → Nat) (S0 : sk_M) : (Int32) → sk_B := fun r => [(md_W G u0 S0)]
set_option maxHeartbeats 4000000 in
set_option maxRecDepth 100000 in
theorem c_X5_areAlike (l : Launch) (G : sk_G) (u0 : Nat → Nat) (S0 : sk_M) (p1 : Int32) (p2 : Int32) : sk_ctr l G yX5_areAlike cX5_areAlike 5 (some .boolean) rm_X5_areAlike [.ref (u0 0), .int p1, .int p2] [(md_W G u0 S0)] (m_X5_areAlike S0 p1 p2) o_X5_areAlike (w_X5_areAlike G u0 S0) := by
  refine sk_entry (own := RX5) (by decide) rfl (lv0 := [some (.ref (u0 0)), some (.int p1), some (.int p2), none, none]) rfl (Nat.le_of_ble_eq_true rfl) ?_
  intro Γ X
  have h5 : ∀ s5 : Int32 × Int32, sk_S Γ (sk_Φ Γ o_X5_areAlike (w_X5_areAlike G u0 S0)) 0 0 (m_X5_areAlike_5 S0 p1 p2 s5) [(md_W G u0 S0)] [some (.ref (u0 0)), some (.int p1), some (.int p2), some (.int s5.1), some (.int s5.2)] 5 [] := by
    intro s5
    unfold m_X5_areAlike_5
    refine sk_loop (bsf := fun s5 => [(md_W G u0 S0)]) (lvf := fun s5 => [some (.ref (u0 0)), some (.int p1), some (.int p2), some (.int s5.1), some (.int s5.2)]) ?_ sk_fuel s5
    intro k5 s5 ih5
    unfold m_X5_areAlike_5_step
    refine sk_iload (pc' := 7) X rfl dX5_areAlike_5 rfl ?_
    refine sk_bipush (pc' := 9) X bp_120 dX5_areAlike_7 rfl ?_
    refine sk_icmp_ge (tgt := 55) (pc' := 12) X dX5_areAlike_9 rfl rfl ?_ ?_
    · refine sk_iload_n (pc' := 56) X rfl dX5_areAlike_55 rfl ?_
      exact sk_zretb X rfl rfl dX5_areAlike_56
    · refine sk_iload_n (pc' := 13) X rfl dX5_areAlike_12 rfl ?_
      refine sk_if_eq (tgt := 55) (pc' := 16) X dX5_areAlike_13 rfl rfl ?_ ?_
      · refine sk_iload_n (pc' := 56) X rfl dX5_areAlike_55 rfl ?_
        exact sk_zretb X rfl rfl dX5_areAlike_56
      · refine sk_aload_n (pc' := 17) X rfl dX5_areAlike_16 rfl ?_
        refine sk_getf (pc' := 20) X 0 0 11 in_RX5 rfl rfl rfl (Nat.le_of_ble_eq_true rfl) fl_RX5_29 rfl dX5_areAlike_17 rfl ?_
        refine sk_bipush (pc' := 22) X bp_120 dX5_areAlike_20 rfl ?_
        refine sk_iload_n (pc' := 23) X rfl dX5_areAlike_22 rfl ?_
        refine sk_imul (pc' := 24) X dX5_areAlike_23 rfl ?_
        refine sk_iload (pc' := 26) X rfl dX5_areAlike_24 rfl ?_
        refine sk_iadd (pc' := 27) X dX5_areAlike_26 rfl ?_
        refine sk_iald (pc' := 28) X 0 7 rfl rfl dX5_areAlike_27 rfl ?_
        refine sk_aload_n (pc' := 29) X rfl dX5_areAlike_28 rfl ?_
        refine sk_getf (pc' := 32) X 0 0 11 in_RX5 rfl rfl rfl (Nat.le_of_ble_eq_true rfl) fl_RX5_29 rfl dX5_areAlike_29 rfl ?_
        refine sk_bipush (pc' := 34) X bp_120 dX5_areAlike_32 rfl ?_
        refine sk_iload_n (pc' := 35) X rfl dX5_areAlike_34 rfl ?_
        refine sk_imul (pc' := 36) X dX5_areAlike_35 rfl ?_
        refine sk_iload (pc' := 38) X rfl dX5_areAlike_36 rfl ?_
        refine sk_iadd (pc' := 39) X dX5_areAlike_38 rfl ?_
        refine sk_iald (pc' := 40) X 0 7 rfl rfl dX5_areAlike_39 rfl ?_
        refine sk_icmp_ne (tgt := 47) (pc' := 43) X dX5_areAlike_40 rfl rfl ?_ ?_
        · refine sk_iconst (pc' := 48) X ic_0 dX5_areAlike_47 rfl ?_
          refine sk_istore_n (lv' := [some (.ref (u0 0)), some (.int p1), some (.int p2), some (.int (0 : Int32)), some (.int s5.2)]) (pc' := 49) X (Nat.le_of_ble_eq_true rfl) rfl rfl dX5_areAlike_48 rfl ?_
          refine sk_iinc (lv' := [some (.ref (u0 0)), some (.int p1), some (.int p2), some (.int (0 : Int32)), some (.int (s5.2 + (1 : Int32)))]) (pc' := 52) X rfl ic_1 (Nat.le_of_ble_eq_true rfl) rfl rfl dX5_areAlike_49 rfl ?_
          refine sk_goto (tgt := 5) X dX5_areAlike_52 rfl ?_
          exact (ih5 ((0 : Int32), (s5.2 + (1 : Int32))))
        · refine sk_iconst (pc' := 44) X ic_1 dX5_areAlike_43 rfl ?_
          refine sk_goto (tgt := 48) X dX5_areAlike_44 rfl ?_
          refine sk_istore_n (lv' := [some (.ref (u0 0)), some (.int p1), some (.int p2), some (.int (1 : Int32)), some (.int s5.2)]) (pc' := 49) X (Nat.le_of_ble_eq_true rfl) rfl rfl dX5_areAlike_48 rfl ?_
          refine sk_iinc (lv' := [some (.ref (u0 0)), some (.int p1), some (.int p2), some (.int (1 : Int32)), some (.int (s5.2 + (1 : Int32)))]) (pc' := 52) X rfl ic_1 (Nat.le_of_ble_eq_true rfl) rfl rfl dX5_areAlike_49 rfl ?_
          refine sk_goto (tgt := 5) X dX5_areAlike_52 rfl ?_
          exact (ih5 ((1 : Int32), (s5.2 + (1 : Int32))))
  unfold m_X5_areAlike
  refine sk_iconst (pc' := 1) X ic_1 dX5_areAlike_0 rfl ?_
  refine sk_istore_n (lv' := [some (.ref (u0 0)), some (.int p1), some (.int p2), some (.int (1 : Int32)), none]) (pc' := 2) X (Nat.le_of_ble_eq_true rfl) rfl rfl dX5_areAlike_1 rfl ?_
  refine sk_iconst (pc' := 3) X ic_0 dX5_areAlike_2 rfl ?_
  refine sk_istore (lv' := [some (.ref (u0 0)), some (.int p1), some (.int p2), some (.int (1 : Int32)), some (.int (0 : Int32))]) (pc' := 5) X (Nat.le_of_ble_eq_true rfl) rfl rfl dX5_areAlike_3 rfl ?_
  exact (h5 ((1 : Int32), (0 : Int32)))
def rm_X5_repeats : Room := { frames := 4, cells := 0, slots := 0, locals := 90 }
def o_X5_repeats : (Int32 × sk_M) → Option Value := fun r => some (.int r.1)
def w_X5_repeats (G : sk_G) (u0 : Nat → Nat) : (Int32 × sk_M) → sk_B := fun r => [(md_W G u0 r.2)]
set_option maxHeartbeats 4000000 in
set_option maxRecDepth 100000 in
theorem c_X5_repeats (l : Launch) (G : sk_G) (u0 : Nat → Nat) (S0 : sk_M) (p1 : Int32) (p2 : Int32) : sk_ctr l G yX5_repeats cX5_repeats 7 (some .int) rm_X5_repeats [.ref (u0 0), .int p1, .int p2] [(md_W G u0 S0)] (m_X5_repeats S0 p1 p2) o_X5_repeats (w_X5_repeats G u0) := by
  refine sk_entry (own := RX5) (by decide) rfl (lv0 := [some (.ref (u0 0)), some (.int p1), some (.int p2), none, none, none, none]) rfl (Nat.le_of_ble_eq_true rfl) ?_
  intro Γ X
  have h99 : ∀ s99 : sk_M × Int32 × Int32, sk_S Γ (sk_Φ Γ o_X5_repeats (w_X5_repeats G u0)) 0 0 (m_X5_repeats_99 p1 p2 s99) [(md_W G u0 s99.1)] [some (.ref (u0 0)), none, some (.int p2), some (.int s99.2.1), some (.int s99.2.2), none, none] 99 [] := by
    intro s99
    unfold m_X5_repeats_99
    refine sk_aload_n (pc' := 100) X rfl dX5_repeats_99 rfl ?_
    refine sk_callV (bs2 := fun r100 => [(md_W G u0 r100)]) (st := []) (st2 := fun r100 => []) (As := []) (pc' := 103) X (c_X5_comesBack l G u0 s99.1) lk_RX5_169 [0] rfl (by decide) (fun _ => rfl) rfl rfl rfl ⟨(Nat.le_of_ble_eq_true rfl), (Nat.le_of_ble_eq_true rfl)⟩ ⟨rfl, rfl⟩ ⟨(Nat.le_of_ble_eq_true rfl), (Nat.le_of_ble_eq_true rfl)⟩ rfl (Nat.le_of_ble_eq_true rfl) rfl dX5_repeats_100 rfl (fun _ => rfl) (fun _ => rfl) (fun r100 => ?_)
    refine sk_iload_n (pc' := 104) X rfl dX5_repeats_103 rfl ?_
    refine sk_iconst (pc' := 105) X ic_m1 dX5_repeats_104 rfl ?_
    refine sk_icmp_ne (tgt := 112) (pc' := 108) X dX5_repeats_105 rfl rfl ?_ ?_
    · refine sk_iload_n (pc' := 113) X rfl dX5_repeats_112 rfl ?_
      refine sk_if_eq (tgt := 120) (pc' := 116) X dX5_repeats_113 rfl rfl ?_ ?_
      · refine sk_iload (pc' := 122) X rfl dX5_repeats_120 rfl ?_
        refine sk_iload_n (pc' := 123) X rfl dX5_repeats_122 rfl ?_
        refine sk_isub (pc' := 124) X dX5_repeats_123 rfl ?_
        exact sk_iret X rfl rfl dX5_repeats_124
      · refine sk_iload_n (pc' := 117) X rfl dX5_repeats_116 rfl ?_
        refine sk_goto (tgt := 124) X dX5_repeats_117 rfl ?_
        exact sk_iret X rfl rfl dX5_repeats_124
    · refine sk_iconst (pc' := 109) X ic_m1 dX5_repeats_108 rfl ?_
      refine sk_goto (tgt := 124) X dX5_repeats_109 rfl ?_
      exact sk_iret X rfl rfl dX5_repeats_124
  have h31 : ∀ s31 : sk_M × Int32 × Int32, sk_S Γ (sk_Φ Γ o_X5_repeats (w_X5_repeats G u0)) 0 0 (m_X5_repeats_31 p1 p2 s31) [(md_W G u0 s31.1)] [some (.ref (u0 0)), some (.int p1), some (.int p2), some (.int s31.2.1), some (.int s31.2.2), none, none] 31 [] := by
    intro s31
    unfold m_X5_repeats_31
    refine sk_loop (bsf := fun s31 => [(md_W G u0 s31.1)]) (lvf := fun s31 => [some (.ref (u0 0)), some (.int p1), some (.int p2), some (.int s31.2.1), some (.int s31.2.2), none, none]) ?_ sk_fuel s31
    intro k31 s31 ih31
    have h60 : ∀ s60 : sk_M × Int32 × Int32 × Int32, sk_S Γ (sk_Φ Γ o_X5_repeats (w_X5_repeats G u0)) 0 0 (m_X5_repeats_60 p1 p2 k31 s60) [(md_W G u0 s60.1)] [some (.ref (u0 0)), some (.int p1), some (.int p2), some (.int s60.2.1), some (.int s60.2.2.1), none, some (.int s60.2.2.2)] 60 [] := by
      intro s60
      unfold m_X5_repeats_60
      refine sk_loop (bsf := fun s60 => [(md_W G u0 s60.1)]) (lvf := fun s60 => [some (.ref (u0 0)), some (.int p1), some (.int p2), some (.int s60.2.1), some (.int s60.2.2.1), none, some (.int s60.2.2.2)]) ?_ sk_fuel s60
      intro k60 s60 ih60
      unfold m_X5_repeats_60_step
      refine sk_iload (pc' := 62) X rfl dX5_repeats_60 rfl ?_
      refine sk_iload (pc' := 64) X rfl dX5_repeats_62 rfl ?_
      refine sk_icmp_ge (tgt := 96) (pc' := 67) X dX5_repeats_64 rfl rfl ?_ ?_
      · refine sk_goto (tgt := 31) X dX5_repeats_96 rfl ?_
        exact (sk_kill 6 (ih31 (s60.1, s60.2.1, s60.2.2.1)))
      · refine sk_iload_n (pc' := 68) X rfl dX5_repeats_67 rfl ?_
        refine sk_iconst (pc' := 69) X ic_m1 dX5_repeats_68 rfl ?_
        refine sk_icmp_ne (tgt := 96) (pc' := 72) X dX5_repeats_69 rfl rfl ?_ ?_
        · refine sk_goto (tgt := 31) X dX5_repeats_96 rfl ?_
          exact (sk_kill 6 (ih31 (s60.1, s60.2.1, s60.2.2.1)))
        · refine sk_aload_n (pc' := 73) X rfl dX5_repeats_72 rfl ?_
          refine sk_iload (pc' := 75) X rfl dX5_repeats_73 rfl ?_
          refine sk_iload (pc' := 77) X rfl dX5_repeats_75 rfl ?_
          refine sk_callV (bs2 := fun r77 => [(md_W G u0 s60.1)]) (st := []) (st2 := fun r77 => [.int r77]) (As := [.int s60.2.2.2, .int s60.2.2.1]) (pc' := 80) X (c_X5_areAlike l G u0 s60.1 s60.2.2.2 s60.2.2.1) lk_RX5_175 [0] rfl (by decide) (fun _ => rfl) rfl rfl rfl ⟨(Nat.le_of_ble_eq_true rfl), (Nat.le_of_ble_eq_true rfl)⟩ ⟨rfl, rfl⟩ ⟨(Nat.le_of_ble_eq_true rfl), (Nat.le_of_ble_eq_true rfl)⟩ rfl (Nat.le_of_ble_eq_true rfl) rfl dX5_repeats_77 rfl (fun _ => rfl) (fun _ => rfl) (fun r77 => ?_)
          refine sk_if_eq (tgt := 88) (pc' := 83) X dX5_repeats_80 rfl rfl ?_ ?_
          · refine sk_iconst (pc' := 89) X ic_m1 dX5_repeats_88 rfl ?_
            refine sk_istore_n (lv' := [some (.ref (u0 0)), some (.int p1), some (.int p2), some (.int (-1 : Int32)), some (.int s60.2.2.1), none, some (.int s60.2.2.2)]) (pc' := 90) X (Nat.le_of_ble_eq_true rfl) rfl rfl dX5_repeats_89 rfl ?_
            refine sk_iinc (lv' := [some (.ref (u0 0)), some (.int p1), some (.int p2), some (.int (-1 : Int32)), some (.int s60.2.2.1), none, some (.int (s60.2.2.2 + (1 : Int32)))]) (pc' := 93) X rfl ic_1 (Nat.le_of_ble_eq_true rfl) rfl rfl dX5_repeats_90 rfl ?_
            refine sk_goto (tgt := 60) X dX5_repeats_93 rfl ?_
            exact (ih60 (s60.1, (-1 : Int32), s60.2.2.1, (s60.2.2.2 + (1 : Int32))))
          · refine sk_iload (pc' := 85) X rfl dX5_repeats_83 rfl ?_
            refine sk_goto (tgt := 89) X dX5_repeats_85 rfl ?_
            refine sk_istore_n (lv' := [some (.ref (u0 0)), some (.int p1), some (.int p2), some (.int s60.2.2.2), some (.int s60.2.2.1), none, some (.int s60.2.2.2)]) (pc' := 90) X (Nat.le_of_ble_eq_true rfl) rfl rfl dX5_repeats_89 rfl ?_
            refine sk_iinc (lv' := [some (.ref (u0 0)), some (.int p1), some (.int p2), some (.int s60.2.2.2), some (.int s60.2.2.1), none, some (.int (s60.2.2.2 + (1 : Int32)))]) (pc' := 93) X rfl ic_1 (Nat.le_of_ble_eq_true rfl) rfl rfl dX5_repeats_90 rfl ?_
            refine sk_goto (tgt := 60) X dX5_repeats_93 rfl ?_
            exact (ih60 (s60.1, s60.2.2.2, s60.2.2.1, (s60.2.2.2 + (1 : Int32))))
    unfold m_X5_repeats_31_step
    refine sk_iload (pc' := 33) X rfl dX5_repeats_31 rfl ?_
    refine sk_iload_n (pc' := 34) X rfl dX5_repeats_33 rfl ?_
    refine sk_icmp_ge (tgt := 99) (pc' := 37) X dX5_repeats_34 rfl rfl ?_ ?_
    · exact (sk_kill 1 (h99 (s31.1, s31.2.1, s31.2.2)))
    · refine sk_iload_n (pc' := 38) X rfl dX5_repeats_37 rfl ?_
      refine sk_iconst (pc' := 39) X ic_m1 dX5_repeats_38 rfl ?_
      refine sk_icmp_ne (tgt := 99) (pc' := 42) X dX5_repeats_39 rfl rfl ?_ ?_
      · exact (sk_kill 1 (h99 (s31.1, s31.2.1, s31.2.2)))
      · refine sk_iinc (lv' := [some (.ref (u0 0)), some (.int p1), some (.int p2), some (.int s31.2.1), some (.int (s31.2.2 + (1 : Int32))), none, none]) (pc' := 45) X rfl ic_1 (Nat.le_of_ble_eq_true rfl) rfl rfl dX5_repeats_42 rfl ?_
        refine sk_aload_n (pc' := 46) X rfl dX5_repeats_45 rfl ?_
        refine sk_callV (bs2 := fun r46 => [(md_W G u0 r46.2)]) (st := []) (st2 := fun r46 => [.int r46.1]) (As := []) (pc' := 49) X (c_X5_ticks l G u0 s31.1) lk_RX5_139 [0] rfl (by decide) (fun _ => rfl) rfl rfl rfl ⟨(Nat.le_of_ble_eq_true rfl), (Nat.le_of_ble_eq_true rfl)⟩ ⟨rfl, rfl⟩ ⟨(Nat.le_of_ble_eq_true rfl), (Nat.le_of_ble_eq_true rfl)⟩ rfl (Nat.le_of_ble_eq_true rfl) rfl dX5_repeats_46 rfl (fun _ => rfl) (fun _ => rfl) (fun r46 => ?_)
        refine sk_istore (lv' := [some (.ref (u0 0)), some (.int p1), some (.int p2), some (.int s31.2.1), some (.int (s31.2.2 + (1 : Int32))), some (.int r46.1), none]) (pc' := 51) X (Nat.le_of_ble_eq_true rfl) rfl rfl dX5_repeats_49 rfl ?_
        refine sk_aload_n (pc' := 52) X rfl dX5_repeats_51 rfl ?_
        refine sk_iload (pc' := 54) X rfl dX5_repeats_52 rfl ?_
        refine sk_callV (bs2 := fun r54 => [(md_W G u0 r54)]) (st := []) (st2 := fun r54 => []) (As := [.int (s31.2.2 + (1 : Int32))]) (pc' := 57) X (c_X5_keepsSituation l G u0 r46.2 (s31.2.2 + (1 : Int32))) lk_RX5_172 [0] rfl (by decide) (fun _ => rfl) rfl rfl rfl ⟨(Nat.le_of_ble_eq_true rfl), (Nat.le_of_ble_eq_true rfl)⟩ ⟨rfl, rfl⟩ ⟨(Nat.le_of_ble_eq_true rfl), (Nat.le_of_ble_eq_true rfl)⟩ rfl (Nat.le_of_ble_eq_true rfl) rfl dX5_repeats_54 rfl (fun _ => rfl) (fun _ => rfl) (fun r54 => ?_)
        refine sk_iconst (pc' := 58) X ic_0 dX5_repeats_57 rfl ?_
        refine sk_istore (lv' := [some (.ref (u0 0)), some (.int p1), some (.int p2), some (.int s31.2.1), some (.int (s31.2.2 + (1 : Int32))), some (.int r46.1), some (.int (0 : Int32))]) (pc' := 60) X (Nat.le_of_ble_eq_true rfl) rfl rfl dX5_repeats_58 rfl ?_
        exact (sk_kill 5 (h60 (r54, s31.2.1, (s31.2.2 + (1 : Int32)), (0 : Int32))))
  unfold m_X5_repeats
  refine sk_aload_n (pc' := 1) X rfl dX5_repeats_0 rfl ?_
  refine sk_aload_n (pc' := 2) X rfl dX5_repeats_1 rfl ?_
  refine sk_iload_n (pc' := 3) X rfl dX5_repeats_2 rfl ?_
  refine sk_callS (bs2 := fun r3 => [(md_W G u0 S0)]) (st := [.ref (u0 0), .ref (u0 0)]) (st2 := fun r3 => [.int r3, .ref (u0 0), .ref (u0 0)]) (As := [.int p1]) (pc' := 6) X (c_X5_isLimit l G p1) lk_RX5_160 [] rfl (by decide) (fun _ => rfl) ⟨(Nat.le_of_ble_eq_true rfl), (Nat.le_of_ble_eq_true rfl)⟩ ⟨rfl, rfl⟩ ⟨(Nat.le_of_ble_eq_true rfl), (Nat.le_of_ble_eq_true rfl)⟩ rfl (Nat.le_of_ble_eq_true rfl) rfl dX5_repeats_3 rfl (fun _ => rfl) (fun _ => rfl) (fun r3 => ?_)
  refine sk_callV (bs2 := fun r6 => [(md_W G u0 S0)]) (st := [.ref (u0 0)]) (st2 := fun r6 => [.int r6, .ref (u0 0)]) (As := [.int r3]) (pc' := 9) X (c_X5_need l G u0 S0 r3) lk_RX5_94 [0] rfl (by decide) (fun _ => rfl) rfl rfl rfl ⟨(Nat.le_of_ble_eq_true rfl), (Nat.le_of_ble_eq_true rfl)⟩ ⟨rfl, rfl⟩ ⟨(Nat.le_of_ble_eq_true rfl), (Nat.le_of_ble_eq_true rfl)⟩ rfl (Nat.le_of_ble_eq_true rfl) rfl dX5_repeats_6 rfl (fun _ => rfl) (fun _ => rfl) (fun r6 => ?_)
  refine sk_callV (bs2 := fun r9 => [(md_W G u0 r9.2)]) (st := []) (st2 := fun r9 => [.int r9.1]) (As := [.int r6]) (pc' := 12) X (c_X5_refused l G u0 S0 r6) lk_RX5_46 [0] rfl (by decide) (fun _ => rfl) rfl rfl rfl ⟨(Nat.le_of_ble_eq_true rfl), (Nat.le_of_ble_eq_true rfl)⟩ ⟨rfl, rfl⟩ ⟨(Nat.le_of_ble_eq_true rfl), (Nat.le_of_ble_eq_true rfl)⟩ rfl (Nat.le_of_ble_eq_true rfl) rfl dX5_repeats_9 rfl (fun _ => rfl) (fun _ => rfl) (fun r9 => ?_)
  refine sk_if_eq (tgt := 17) (pc' := 15) X dX5_repeats_12 rfl rfl ?_ ?_
  · refine sk_aload_n (pc' := 18) X rfl dX5_repeats_17 rfl ?_
    refine sk_callV (bs2 := fun r18 => [(md_W G u0 r18)]) (st := []) (st2 := fun r18 => []) (As := []) (pc' := 21) X (c_X5_leaves l G u0 r9.2) lk_RX5_163 [0] rfl (by decide) (fun _ => rfl) rfl rfl rfl ⟨(Nat.le_of_ble_eq_true rfl), (Nat.le_of_ble_eq_true rfl)⟩ ⟨rfl, rfl⟩ ⟨(Nat.le_of_ble_eq_true rfl), (Nat.le_of_ble_eq_true rfl)⟩ rfl (Nat.le_of_ble_eq_true rfl) rfl dX5_repeats_18 rfl (fun _ => rfl) (fun _ => rfl) (fun r18 => ?_)
    refine sk_aload_n (pc' := 22) X rfl dX5_repeats_21 rfl ?_
    refine sk_iconst (pc' := 23) X ic_0 dX5_repeats_22 rfl ?_
    refine sk_callV (bs2 := fun r23 => [(md_W G u0 r23)]) (st := []) (st2 := fun r23 => []) (As := [.int (0 : Int32)]) (pc' := 26) X (c_X5_keepsSituation l G u0 r18 (0 : Int32)) lk_RX5_172 [0] rfl (by decide) (fun _ => rfl) rfl rfl rfl ⟨(Nat.le_of_ble_eq_true rfl), (Nat.le_of_ble_eq_true rfl)⟩ ⟨rfl, rfl⟩ ⟨(Nat.le_of_ble_eq_true rfl), (Nat.le_of_ble_eq_true rfl)⟩ rfl (Nat.le_of_ble_eq_true rfl) rfl dX5_repeats_23 rfl (fun _ => rfl) (fun _ => rfl) (fun r23 => ?_)
    refine sk_iconst (pc' := 27) X ic_m1 dX5_repeats_26 rfl ?_
    refine sk_istore_n (lv' := [some (.ref (u0 0)), some (.int p1), some (.int p2), some (.int (-1 : Int32)), none, none, none]) (pc' := 28) X (Nat.le_of_ble_eq_true rfl) rfl rfl dX5_repeats_27 rfl ?_
    refine sk_iconst (pc' := 29) X ic_0 dX5_repeats_28 rfl ?_
    refine sk_istore (lv' := [some (.ref (u0 0)), some (.int p1), some (.int p2), some (.int (-1 : Int32)), some (.int (0 : Int32)), none, none]) (pc' := 31) X (Nat.le_of_ble_eq_true rfl) rfl rfl dX5_repeats_29 rfl ?_
    exact (h31 (r23, (-1 : Int32), (0 : Int32)))
  · refine sk_iconst (pc' := 16) X ic_0 dX5_repeats_15 rfl ?_
    exact sk_iret X rfl rfl dX5_repeats_16
def rm_X5_leastStrength : Room := { frames := 5, cells := 0, slots := 0, locals := 114 }
def o_X5_leastStrength : (Int32 × sk_M) → Option Value := fun r => some (.int r.1)
def w_X5_leastStrength (G : sk_G) (u0 : Nat → Nat) : (Int32 × sk_M) → sk_B := fun r => [(md_W G u0 r.2)]
set_option maxHeartbeats 4000000 in
set_option maxRecDepth 100000 in
theorem c_X5_leastStrength (l : Launch) (G : sk_G) (u0 : Nat → Nat) (S0 : sk_M) (p1 : Int32) : sk_ctr l G yX5_leastStrength cX5_leastStrength 4 (some .int) rm_X5_leastStrength [.ref (u0 0), .int p1] [(md_W G u0 S0)] (m_X5_leastStrength S0 p1) o_X5_leastStrength (w_X5_leastStrength G u0) := by
  refine sk_entry (own := RX5) (by decide) rfl (lv0 := [some (.ref (u0 0)), some (.int p1), none, none]) rfl (Nat.le_of_ble_eq_true rfl) ?_
  intro Γ X
  have h21 : ∀ s21 : sk_M × Int32 × Int32, sk_S Γ (sk_Φ Γ o_X5_leastStrength (w_X5_leastStrength G u0)) 0 0 (m_X5_leastStrength_21 p1 s21) [(md_W G u0 s21.1)] [some (.ref (u0 0)), some (.int p1), some (.int s21.2.1), some (.int s21.2.2)] 21 [] := by
    intro s21
    unfold m_X5_leastStrength_21
    refine sk_loop (bsf := fun s21 => [(md_W G u0 s21.1)]) (lvf := fun s21 => [some (.ref (u0 0)), some (.int p1), some (.int s21.2.1), some (.int s21.2.2)]) ?_ sk_fuel s21
    intro k21 s21 ih21
    have h58 : ∀ s58 : sk_M × Int32 × Int32, sk_S Γ (sk_Φ Γ o_X5_leastStrength (w_X5_leastStrength G u0)) 0 0 (m_X5_leastStrength_58 p1 k21 s58) [(md_W G u0 s58.1)] [some (.ref (u0 0)), some (.int p1), none, some (.int s58.2.1)] 58 [.int s58.2.2] := by
      intro s58
      unfold m_X5_leastStrength_58
      refine sk_istore_n (lv' := [some (.ref (u0 0)), some (.int p1), some (.int s58.2.2), some (.int s58.2.1)]) (pc' := 59) X (Nat.le_of_ble_eq_true rfl) rfl rfl dX5_leastStrength_58 rfl ?_
      refine sk_aload_n (pc' := 60) X rfl dX5_leastStrength_59 rfl ?_
      refine sk_callV (bs2 := fun r60 => [(md_W G u0 r60)]) (st := []) (st2 := fun r60 => []) (As := []) (pc' := 63) X (c_X5_comesBack l G u0 s58.1) lk_RX5_169 [0] rfl (by decide) (fun _ => rfl) rfl rfl rfl ⟨(Nat.le_of_ble_eq_true rfl), (Nat.le_of_ble_eq_true rfl)⟩ ⟨rfl, rfl⟩ ⟨(Nat.le_of_ble_eq_true rfl), (Nat.le_of_ble_eq_true rfl)⟩ rfl (Nat.le_of_ble_eq_true rfl) rfl dX5_leastStrength_60 rfl (fun _ => rfl) (fun _ => rfl) (fun r60 => ?_)
      refine sk_iinc (lv' := [some (.ref (u0 0)), some (.int p1), some (.int s58.2.2), some (.int (s58.2.1 + (1 : Int32)))]) (pc' := 66) X rfl ic_1 (Nat.le_of_ble_eq_true rfl) rfl rfl dX5_leastStrength_63 rfl ?_
      refine sk_goto (tgt := 21) X dX5_leastStrength_66 rfl ?_
      exact (ih21 (r60, s58.2.2, (s58.2.1 + (1 : Int32))))
    unfold m_X5_leastStrength_21_step
    refine sk_iload_n (pc' := 22) X rfl dX5_leastStrength_21 rfl ?_
    refine sk_bipush (pc' := 24) X bp_33 dX5_leastStrength_22 rfl ?_
    refine sk_icmp_ge (tgt := 69) (pc' := 27) X dX5_leastStrength_24 rfl rfl ?_ ?_
    · refine sk_iload_n (pc' := 70) X rfl dX5_leastStrength_69 rfl ?_
      exact sk_iret X rfl rfl dX5_leastStrength_70
    · refine sk_iload_n (pc' := 28) X rfl dX5_leastStrength_27 rfl ?_
      refine sk_iconst (pc' := 29) X ic_m1 dX5_leastStrength_28 rfl ?_
      refine sk_icmp_ne (tgt := 69) (pc' := 32) X dX5_leastStrength_29 rfl rfl ?_ ?_
      · refine sk_iload_n (pc' := 70) X rfl dX5_leastStrength_69 rfl ?_
        exact sk_iret X rfl rfl dX5_leastStrength_70
      · refine sk_aload_n (pc' := 33) X rfl dX5_leastStrength_32 rfl ?_
        refine sk_callV (bs2 := fun r33 => [(md_W G u0 r33)]) (st := []) (st2 := fun r33 => []) (As := []) (pc' := 36) X (c_X5_leaves l G u0 s21.1) lk_RX5_163 [0] rfl (by decide) (fun _ => rfl) rfl rfl rfl ⟨(Nat.le_of_ble_eq_true rfl), (Nat.le_of_ble_eq_true rfl)⟩ ⟨rfl, rfl⟩ ⟨(Nat.le_of_ble_eq_true rfl), (Nat.le_of_ble_eq_true rfl)⟩ rfl (Nat.le_of_ble_eq_true rfl) rfl dX5_leastStrength_33 rfl (fun _ => rfl) (fun _ => rfl) (fun r33 => ?_)
        refine sk_aload_n (pc' := 37) X rfl dX5_leastStrength_36 rfl ?_
        refine sk_getf (pc' := 40) X 0 0 0 in_RX5 rfl rfl rfl (Nat.le_of_ble_eq_true rfl) fl_RX5_7 rfl dX5_leastStrength_37 rfl ?_
        refine sk_iconst (pc' := 41) X ic_2 dX5_leastStrength_40 rfl ?_
        refine sk_iload_n (pc' := 42) X rfl dX5_leastStrength_41 rfl ?_
        refine sk_iast (bs' := [(md_W G u0 (md_up r33 1 ((2 : Int32)).toNatClampNeg s21.2.2))]) (pc' := 43) X 0 1 rfl rfl (sk_st 0 (md_st_1 ..) rfl) dX5_leastStrength_42 rfl ?_
        refine sk_lt (bsf := fun z => [(md_W G u0 z)]) (lvf := fun _ => [some (.ref (u0 0)), some (.int p1), some (.int s21.2.1), some (.int s21.2.2)]) (stf := fun _ => []) (fun N42 => ?_)
        refine sk_aload_n (pc' := 44) X rfl dX5_leastStrength_43 rfl ?_
        refine sk_iconst (pc' := 45) X ic_1 dX5_leastStrength_44 rfl ?_
        refine sk_iload_n (pc' := 46) X rfl dX5_leastStrength_45 rfl ?_
        refine sk_callV (bs2 := fun r46 => [(md_W G u0 r46.2)]) (st := []) (st2 := fun r46 => [.int r46.1]) (As := [.int (1 : Int32), .int p1]) (pc' := 49) X (c_X5_until l G u0 N42 (1 : Int32) p1) lk_RX5_166 [0] rfl (by decide) (fun _ => rfl) rfl rfl rfl ⟨(Nat.le_of_ble_eq_true rfl), (Nat.le_of_ble_eq_true rfl)⟩ ⟨rfl, rfl⟩ ⟨(Nat.le_of_ble_eq_true rfl), (Nat.le_of_ble_eq_true rfl)⟩ rfl (Nat.le_of_ble_eq_true rfl) rfl dX5_leastStrength_46 rfl (fun _ => rfl) (fun _ => rfl) (fun r46 => ?_)
        refine sk_iconst (pc' := 50) X ic_m1 dX5_leastStrength_49 rfl ?_
        refine sk_icmp_ne (tgt := 57) (pc' := 53) X dX5_leastStrength_50 rfl rfl ?_ ?_
        · refine sk_iload_n (pc' := 58) X rfl dX5_leastStrength_57 rfl ?_
          exact (sk_kill 2 (h58 (r46.2, s21.2.2, s21.2.2)))
        · refine sk_iconst (pc' := 54) X ic_m1 dX5_leastStrength_53 rfl ?_
          refine sk_goto (tgt := 58) X dX5_leastStrength_54 rfl ?_
          exact (sk_kill 2 (h58 (r46.2, s21.2.2, (-1 : Int32))))
  unfold m_X5_leastStrength
  refine sk_aload_n (pc' := 1) X rfl dX5_leastStrength_0 rfl ?_
  refine sk_aload_n (pc' := 2) X rfl dX5_leastStrength_1 rfl ?_
  refine sk_iload_n (pc' := 3) X rfl dX5_leastStrength_2 rfl ?_
  refine sk_callS (bs2 := fun r3 => [(md_W G u0 S0)]) (st := [.ref (u0 0), .ref (u0 0)]) (st2 := fun r3 => [.int r3, .ref (u0 0), .ref (u0 0)]) (As := [.int p1]) (pc' := 6) X (c_X5_isLimit l G p1) lk_RX5_160 [] rfl (by decide) (fun _ => rfl) ⟨(Nat.le_of_ble_eq_true rfl), (Nat.le_of_ble_eq_true rfl)⟩ ⟨rfl, rfl⟩ ⟨(Nat.le_of_ble_eq_true rfl), (Nat.le_of_ble_eq_true rfl)⟩ rfl (Nat.le_of_ble_eq_true rfl) rfl dX5_leastStrength_3 rfl (fun _ => rfl) (fun _ => rfl) (fun r3 => ?_)
  refine sk_callV (bs2 := fun r6 => [(md_W G u0 S0)]) (st := [.ref (u0 0)]) (st2 := fun r6 => [.int r6, .ref (u0 0)]) (As := [.int r3]) (pc' := 9) X (c_X5_need l G u0 S0 r3) lk_RX5_94 [0] rfl (by decide) (fun _ => rfl) rfl rfl rfl ⟨(Nat.le_of_ble_eq_true rfl), (Nat.le_of_ble_eq_true rfl)⟩ ⟨rfl, rfl⟩ ⟨(Nat.le_of_ble_eq_true rfl), (Nat.le_of_ble_eq_true rfl)⟩ rfl (Nat.le_of_ble_eq_true rfl) rfl dX5_leastStrength_6 rfl (fun _ => rfl) (fun _ => rfl) (fun r6 => ?_)
  refine sk_callV (bs2 := fun r9 => [(md_W G u0 r9.2)]) (st := []) (st2 := fun r9 => [.int r9.1]) (As := [.int r6]) (pc' := 12) X (c_X5_refused l G u0 S0 r6) lk_RX5_46 [0] rfl (by decide) (fun _ => rfl) rfl rfl rfl ⟨(Nat.le_of_ble_eq_true rfl), (Nat.le_of_ble_eq_true rfl)⟩ ⟨rfl, rfl⟩ ⟨(Nat.le_of_ble_eq_true rfl), (Nat.le_of_ble_eq_true rfl)⟩ rfl (Nat.le_of_ble_eq_true rfl) rfl dX5_leastStrength_9 rfl (fun _ => rfl) (fun _ => rfl) (fun r9 => ?_)
  refine sk_if_eq (tgt := 17) (pc' := 15) X dX5_leastStrength_12 rfl rfl ?_ ?_
  · refine sk_iconst (pc' := 18) X ic_m1 dX5_leastStrength_17 rfl ?_
    refine sk_istore_n (lv' := [some (.ref (u0 0)), some (.int p1), some (.int (-1 : Int32)), none]) (pc' := 19) X (Nat.le_of_ble_eq_true rfl) rfl rfl dX5_leastStrength_18 rfl ?_
    refine sk_iconst (pc' := 20) X ic_0 dX5_leastStrength_19 rfl ?_
    refine sk_istore_n (lv' := [some (.ref (u0 0)), some (.int p1), some (.int (-1 : Int32)), some (.int (0 : Int32))]) (pc' := 21) X (Nat.le_of_ble_eq_true rfl) rfl rfl dX5_leastStrength_20 rfl ?_
    exact (h21 (r9.2, (-1 : Int32), (0 : Int32)))
  · refine sk_iconst (pc' := 16) X ic_0 dX5_leastStrength_15 rfl ?_
    exact sk_iret X rfl rfl dX5_leastStrength_16
