def rm_X4_repeats : Room := { frames := 7, cells := 1, slots := 6, locals := 136 }
def o_X4_repeats : (Int32 × sk_N × sk_N × sk_N × sk_N) → Option Value := fun r => some (.int r.1)
def w_X4_repeats (G : sk_G) (u0 u1 u2 u3 u4 u5 u6 : Nat → Nat) (a0_savings a0_script : Nat) (S3 : sk_N) (S4 : sk_N) : (Int32 × sk_N × sk_N × sk_N × sk_N) → sk_B := fun r => [(pc_W u0 (u3 0) (u5 0) (u1 0) a0_savings a0_script), (nt_W G u1 (u2 0) r.2.1), (lg_W G u2 r.2.2.1), (nt_W G u3 (u4 0) S3), (lg_W G u4 S4), (nt_W G u5 (u6 0) r.2.2.2.1), (lg_W G u6 r.2.2.2.2)]
set_option maxHeartbeats 4000000 in
set_option maxRecDepth 100000 in
theorem c_X4_repeats (l : Launch) (hl0 : l.stackTraces = false) (t : Nat) (G : sk_G) (u0 u1 u2 u3 u4 u5 u6 : Nat → Nat) (a0_savings a0_script : Nat) (S1 : sk_N) (S2 : sk_N) (S3 : sk_N) (S4 : sk_N) (S5 : sk_N) (S6 : sk_N) (p1 : Int32) (p2 : Int32) : sk_xtr l G t yX4_repeats cX4_repeats 5 (some .int) rm_X4_repeats 1 6 [.ref (u0 0), .int p1, .int p2] [(pc_W u0 (u3 0) (u5 0) (u1 0) a0_savings a0_script), (nt_W G u1 (u2 0) S1), (lg_W G u2 S2), (nt_W G u3 (u4 0) S3), (lg_W G u4 S4), (nt_W G u5 (u6 0) S5), (lg_W G u6 S6)] (m_X4_repeats S1 S2 S3 S4 S5 S6 p1 p2) o_X4_repeats (w_X4_repeats G u0 u1 u2 u3 u4 u5 u6 a0_savings a0_script S3 S4) := by
  refine sk_xentry hl0 (own := RX4) (by decide) rfl (lv0 := [some (.ref (u0 0)), some (.int p1), some (.int p2), none, none]) rfl (Nat.le_of_ble_eq_true rfl) ?_
  intro Γ X E
  have h35 : ∀ s35 : sk_N × sk_N × sk_N × sk_N × Int32, sk_S Γ (sk_Φx Γ o_X4_repeats (w_X4_repeats G u0 u1 u2 u3 u4 u5 u6 a0_savings a0_script S3 S4) [(pc_W u0 (u3 0) (u5 0) (u1 0) a0_savings a0_script), (nt_W G u1 (u2 0) S1), (lg_W G u2 S2), (nt_W G u3 (u4 0) S3), (lg_W G u4 S4), (nt_W G u5 (u6 0) S5), (lg_W G u6 S6)] 1 6) 1 6 (m_X4_repeats_35 S3 S4 p1 p2 s35) [(pc_W u0 (u3 0) (u5 0) (u1 0) a0_savings a0_script), (nt_W G u1 (u2 0) s35.1), (lg_W G u2 s35.2.1), (nt_W G u3 (u4 0) S3), (lg_W G u4 S4), (nt_W G u5 (u6 0) s35.2.2.1), (lg_W G u6 s35.2.2.2.1)] [none, none, none, none, some (.int s35.2.2.2.2)] 35 [] := by
    intro s35
    unfold m_X4_repeats_35
    refine sk_iload (pc' := 37) X rfl dX4_repeats_35 rfl ?_
    refine sk_goto (tgt := 41) X dX4_repeats_37 rfl ?_
    exact sk_xiret X (Nat.le_of_ble_eq_true rfl) (Nat.le_of_ble_eq_true rfl) rfl rfl dX4_repeats_41
  unfold m_X4_repeats
  refine sk_iload_n (pc' := 1) X rfl dX4_repeats_0 rfl ?_
  refine sk_callSX (bs2 := fun r1 => [(pc_W u0 (u3 0) (u5 0) (u1 0) a0_savings a0_script), (nt_W G u1 (u2 0) S1), (lg_W G u2 S2), (nt_W G u3 (u4 0) S3), (lg_W G u4 S4), (nt_W G u5 (u6 0) S5), (lg_W G u6 S6)]) (st := []) (st2 := fun r1 => []) (As := [.int p1]) (pc' := 4) X E (c_X4_requireLimit l hl0 t G p1) lk_RX4_200 [] rfl (by decide) (fun _ => rfl)  ⟨(Nat.le_of_ble_eq_true rfl), (Nat.le_of_ble_eq_true rfl)⟩ ⟨rfl, rfl⟩ ⟨(Nat.le_of_ble_eq_true rfl), (Nat.le_of_ble_eq_true rfl)⟩ ⟨(Nat.le_of_ble_eq_true rfl), (Nat.le_of_ble_eq_true rfl)⟩ rfl (Nat.le_of_ble_eq_true rfl) rfl dX4_repeats_1 rfl (fun _ => rfl) rfl (fun _ => rfl) (fun r1 => ?_)
  refine sk_aload_n (pc' := 5) X rfl dX4_repeats_4 rfl ?_
  refine sk_iload_n (pc' := 6) X rfl dX4_repeats_5 rfl ?_
  refine sk_callV (bs2 := fun r6 => [(pc_W u0 (u3 0) (u5 0) (u1 0) a0_savings a0_script), (nt_W G u1 (u2 0) r6.2.1), (lg_W G u2 r6.2.2.1), (nt_W G u3 (u4 0) S3), (lg_W G u4 S4), (nt_W G u5 (u6 0) r6.2.2.2.1), (lg_W G u6 r6.2.2.2.2)]) (st := []) (st2 := fun r6 => [.int r6.1]) (As := [.int p1]) (pc' := 9) X (c_X4_lengthOfCycle l G u0 u1 u2 u3 u4 u5 u6 a0_savings a0_script S1 S2 S3 S4 S5 S6 p1) lk_RX4_209 [0, 1, 2, 3, 4, 5, 6] rfl (by decide) (fun _ => rfl) rfl rfl rfl ⟨(Nat.le_of_ble_eq_true rfl), (Nat.le_of_ble_eq_true rfl)⟩ ⟨rfl, rfl⟩ ⟨(Nat.le_of_ble_eq_true rfl), (Nat.le_of_ble_eq_true rfl)⟩ rfl (Nat.le_of_ble_eq_true rfl) rfl dX4_repeats_6 rfl (fun _ => rfl) (fun _ => rfl) (fun r6 => ?_)
  refine sk_istore_n (lv' := [some (.ref (u0 0)), some (.int p1), some (.int p2), some (.int r6.1), none]) (pc' := 10) X (Nat.le_of_ble_eq_true rfl) rfl rfl dX4_repeats_9 rfl ?_
  refine sk_iload_n (pc' := 11) X rfl dX4_repeats_10 rfl ?_
  refine sk_iconst (pc' := 12) X ic_m1 dX4_repeats_11 rfl ?_
  refine sk_icmp_ne (tgt := 17) (pc' := 15) X dX4_repeats_12 rfl rfl ?_ ?_
  · refine sk_aload_n (pc' := 18) X rfl dX4_repeats_17 rfl ?_
    refine sk_iload_n (pc' := 19) X rfl dX4_repeats_18 rfl ?_
    refine sk_iload_n (pc' := 20) X rfl dX4_repeats_19 rfl ?_
    refine sk_callV (bs2 := fun r20 => [(pc_W u0 (u3 0) (u5 0) (u1 0) a0_savings a0_script), (nt_W G u1 (u2 0) r20.2.1), (lg_W G u2 r20.2.2.1), (nt_W G u3 (u4 0) S3), (lg_W G u4 S4), (nt_W G u5 (u6 0) r20.2.2.2.1), (lg_W G u6 r20.2.2.2.2)]) (st := []) (st2 := fun r20 => [.int r20.1]) (As := [.int r6.1, .int p1]) (pc' := 23) X (c_X4_startOfCycle l G u0 u1 u2 u3 u4 u5 u6 a0_savings a0_script r6.2.1 r6.2.2.1 S3 S4 r6.2.2.2.1 r6.2.2.2.2 r6.1 p1) lk_RX4_212 [0, 1, 2, 3, 4, 5, 6] rfl (by decide) (fun _ => rfl) rfl rfl rfl ⟨(Nat.le_of_ble_eq_true rfl), (Nat.le_of_ble_eq_true rfl)⟩ ⟨rfl, rfl⟩ ⟨(Nat.le_of_ble_eq_true rfl), (Nat.le_of_ble_eq_true rfl)⟩ rfl (Nat.le_of_ble_eq_true rfl) rfl dX4_repeats_20 rfl (fun _ => rfl) (fun _ => rfl) (fun r20 => ?_)
    refine sk_istore (lv' := [some (.ref (u0 0)), some (.int p1), some (.int p2), some (.int r6.1), some (.int r20.1)]) (pc' := 25) X (Nat.le_of_ble_eq_true rfl) rfl rfl dX4_repeats_23 rfl ?_
    refine sk_iload_n (pc' := 26) X rfl dX4_repeats_25 rfl ?_
    refine sk_if_ne (tgt := 35) (pc' := 29) X dX4_repeats_26 rfl rfl ?_ ?_
    · exact (sk_kill 3 (sk_kill 2 (sk_kill 1 (sk_kill 0 (h35 (r20.2.1, r20.2.2.1, r20.2.2.2.1, r20.2.2.2.2, r20.1))))))
    · refine sk_iload (pc' := 31) X rfl dX4_repeats_29 rfl ?_
      refine sk_iconst (pc' := 32) X ic_m1 dX4_repeats_31 rfl ?_
      refine sk_icmp_ne (tgt := 40) (pc' := 35) X dX4_repeats_32 rfl rfl ?_ ?_
      · refine sk_iload_n (pc' := 41) X rfl dX4_repeats_40 rfl ?_
        exact sk_xiret X (Nat.le_of_ble_eq_true rfl) (Nat.le_of_ble_eq_true rfl) rfl rfl dX4_repeats_41
      · exact (sk_kill 3 (sk_kill 2 (sk_kill 1 (sk_kill 0 (h35 (r20.2.1, r20.2.2.1, r20.2.2.2.1, r20.2.2.2.2, r20.1))))))
  · refine sk_iconst (pc' := 16) X ic_m1 dX4_repeats_15 rfl ?_
    exact sk_xiret X (Nat.le_of_ble_eq_true rfl) (Nat.le_of_ble_eq_true rfl) rfl rfl dX4_repeats_16
def rm_X4_leastStrength : Room := { frames := 7, cells := 1, slots := 6, locals := 136 }
def o_X4_leastStrength : (Int32 × sk_N × sk_N) → Option Value := fun r => some (.int r.1)
def w_X4_leastStrength (G : sk_G) (u0 u1 u2 u3 u4 : Nat → Nat) (a0_ahead a0_savings a0_script : Nat) (S1 : sk_N) (S2 : sk_N) : (Int32 × sk_N × sk_N) → sk_B := fun r => [(pc_W u0 (u1 0) (u3 0) a0_ahead a0_savings a0_script), (nt_W G u1 (u2 0) S1), (lg_W G u2 S2), (nt_W G u3 (u4 0) r.2.1), (lg_W G u4 r.2.2)]
set_option maxHeartbeats 4000000 in
set_option maxRecDepth 100000 in
theorem c_X4_leastStrength (l : Launch) (hl0 : l.stackTraces = false) (t : Nat) (G : sk_G) (u0 u1 u2 u3 u4 : Nat → Nat) (a0_ahead a0_savings a0_script : Nat) (S1 : sk_N) (S2 : sk_N) (S3 : sk_N) (S4 : sk_N) (p1 : Int32) : sk_xtr l G t yX4_leastStrength cX4_leastStrength 3 (some .int) rm_X4_leastStrength 1 6 [.ref (u0 0), .int p1] [(pc_W u0 (u1 0) (u3 0) a0_ahead a0_savings a0_script), (nt_W G u1 (u2 0) S1), (lg_W G u2 S2), (nt_W G u3 (u4 0) S3), (lg_W G u4 S4)] (m_X4_leastStrength S1 S2 S3 S4 p1) o_X4_leastStrength (w_X4_leastStrength G u0 u1 u2 u3 u4 a0_ahead a0_savings a0_script S1 S2) := by
  refine sk_xentry hl0 (own := RX4) (by decide) rfl (lv0 := [some (.ref (u0 0)), some (.int p1), none]) rfl (Nat.le_of_ble_eq_true rfl) ?_
  intro Γ X E
  have h6 : ∀ s6 : sk_N × sk_N × Int32, sk_S Γ (sk_Φx Γ o_X4_leastStrength (w_X4_leastStrength G u0 u1 u2 u3 u4 a0_ahead a0_savings a0_script S1 S2) [(pc_W u0 (u1 0) (u3 0) a0_ahead a0_savings a0_script), (nt_W G u1 (u2 0) S1), (lg_W G u2 S2), (nt_W G u3 (u4 0) S3), (lg_W G u4 S4)] 1 6) 1 6 (m_X4_leastStrength_6 S1 S2 p1 s6) [(pc_W u0 (u1 0) (u3 0) a0_ahead a0_savings a0_script), (nt_W G u1 (u2 0) S1), (lg_W G u2 S2), (nt_W G u3 (u4 0) s6.1), (lg_W G u4 s6.2.1)] [some (.ref (u0 0)), some (.int p1), some (.int s6.2.2)] 6 [] := by
    intro s6
    unfold m_X4_leastStrength_6
    refine sk_loop (bsf := fun s6 => [(pc_W u0 (u1 0) (u3 0) a0_ahead a0_savings a0_script), (nt_W G u1 (u2 0) S1), (lg_W G u2 S2), (nt_W G u3 (u4 0) s6.1), (lg_W G u4 s6.2.1)]) (lvf := fun s6 => [some (.ref (u0 0)), some (.int p1), some (.int s6.2.2)]) ?_ sk_fuel s6
    intro k6 s6 ih6
    unfold m_X4_leastStrength_6_step
    refine sk_iload_n (pc' := 7) X rfl dX4_leastStrength_6 rfl ?_
    refine sk_gets (pc' := 10) X E q_749 dX4_leastStrength_7 rfl ?_
    refine sk_iconst (pc' := 11) X ic_1 dX4_leastStrength_10 rfl ?_
    refine sk_sld (pc' := 12) X E dX4_leastStrength_11 rfl ?_
    refine sk_icmp_gt (tgt := 57) (pc' := 15) X dX4_leastStrength_12 rfl rfl ?_ ?_
    · refine sk_iconst (pc' := 58) X ic_m1 dX4_leastStrength_57 rfl ?_
      exact sk_xiret X (Nat.le_of_ble_eq_true rfl) (Nat.le_of_ble_eq_true rfl) rfl rfl dX4_leastStrength_58
    · refine sk_aload_n (pc' := 16) X rfl dX4_leastStrength_15 rfl ?_
      refine sk_getf (pc' := 19) X 0 0 1 in_RX4 rfl rfl rfl (Nat.le_of_ble_eq_true rfl) fl_RX4_16 rfl dX4_leastStrength_16 rfl ?_
      refine sk_aload_n (pc' := 20) X rfl dX4_leastStrength_19 rfl ?_
      refine sk_getf (pc' := 23) X 0 0 0 in_RX4 rfl rfl rfl (Nat.le_of_ble_eq_true rfl) fl_RX4_10 rfl dX4_leastStrength_20 rfl ?_
      refine sk_callV (bs2 := fun r23 => [(pc_W u0 (u1 0) (u3 0) a0_ahead a0_savings a0_script), (nt_W G u1 (u2 0) S1), (lg_W G u2 S2), (nt_W G u3 (u4 0) r23.1), (lg_W G u4 r23.2)]) (st := []) (st2 := fun r23 => []) (As := [.ref (u1 0)]) (pc' := 26) X (c_X1_copyFrom l G u3 u4 u1 u2 s6.1 s6.2.1 S1 S2) lk_RX4_203 [3, 4, 1, 2] rfl (by decide) (fun _ => rfl) rfl rfl rfl ⟨(Nat.le_of_ble_eq_true rfl), (Nat.le_of_ble_eq_true rfl)⟩ ⟨rfl, rfl⟩ ⟨(Nat.le_of_ble_eq_true rfl), (Nat.le_of_ble_eq_true rfl)⟩ rfl (Nat.le_of_ble_eq_true rfl) rfl dX4_leastStrength_23 rfl (fun _ => rfl) (fun _ => rfl) (fun r23 => ?_)
      refine sk_aload_n (pc' := 27) X rfl dX4_leastStrength_26 rfl ?_
      refine sk_getf (pc' := 30) X 0 0 1 in_RX4 rfl rfl rfl (Nat.le_of_ble_eq_true rfl) fl_RX4_16 rfl dX4_leastStrength_27 rfl ?_
      refine sk_iconst (pc' := 31) X ic_1 dX4_leastStrength_30 rfl ?_
      refine sk_iload_n (pc' := 32) X rfl dX4_leastStrength_31 rfl ?_
      refine sk_callV (bs2 := fun r32 => [(pc_W u0 (u1 0) (u3 0) a0_ahead a0_savings a0_script), (nt_W G u1 (u2 0) S1), (lg_W G u2 S2), (nt_W G u3 (u4 0) r32.2), (lg_W G u4 r23.2)]) (st := []) (st2 := fun r32 => [.int r32.1]) (As := [.int (1 : Int32), .int s6.2.2]) (pc' := 35) X (c_X1_changeResponse l G u3 (u4 0) r23.1 (1 : Int32) s6.2.2) lk_RX4_125 [3] rfl (by decide) (fun _ => rfl) rfl rfl rfl ⟨(Nat.le_of_ble_eq_true rfl), (Nat.le_of_ble_eq_true rfl)⟩ ⟨rfl, rfl⟩ ⟨(Nat.le_of_ble_eq_true rfl), (Nat.le_of_ble_eq_true rfl)⟩ rfl (Nat.le_of_ble_eq_true rfl) rfl dX4_leastStrength_32 rfl (fun _ => rfl) (fun _ => rfl) (fun r32 => ?_)
      refine sk_pop (pc' := 36) X rfl dX4_leastStrength_35 rfl ?_
      refine sk_aload_n (pc' := 37) X rfl dX4_leastStrength_36 rfl ?_
      refine sk_getf (pc' := 40) X 0 0 1 in_RX4 rfl rfl rfl (Nat.le_of_ble_eq_true rfl) fl_RX4_16 rfl dX4_leastStrength_37 rfl ?_
      refine sk_iconst (pc' := 41) X ic_1 dX4_leastStrength_40 rfl ?_
      refine sk_iload_n (pc' := 42) X rfl dX4_leastStrength_41 rfl ?_
      refine sk_callV (bs2 := fun r42 => [(pc_W u0 (u1 0) (u3 0) a0_ahead a0_savings a0_script), (nt_W G u1 (u2 0) S1), (lg_W G u2 S2), (nt_W G u3 (u4 0) r42.2.1), (lg_W G u4 r42.2.2)]) (st := []) (st2 := fun r42 => [.int r42.1]) (As := [.int (1 : Int32), .int p1]) (pc' := 45) X (c_X1_passUntilGroups l G u3 u4 r32.2 r23.2 (1 : Int32) p1) lk_RX4_206 [3, 4] rfl (by decide) (fun _ => rfl) rfl rfl rfl ⟨(Nat.le_of_ble_eq_true rfl), (Nat.le_of_ble_eq_true rfl)⟩ ⟨rfl, rfl⟩ ⟨(Nat.le_of_ble_eq_true rfl), (Nat.le_of_ble_eq_true rfl)⟩ rfl (Nat.le_of_ble_eq_true rfl) rfl dX4_leastStrength_42 rfl (fun _ => rfl) (fun _ => rfl) (fun r42 => ?_)
      refine sk_iconst (pc' := 46) X ic_m1 dX4_leastStrength_45 rfl ?_
      refine sk_icmp_eq (tgt := 51) (pc' := 49) X dX4_leastStrength_46 rfl rfl ?_ ?_
      · refine sk_iinc (lv' := [some (.ref (u0 0)), some (.int p1), some (.int (s6.2.2 + (1 : Int32)))]) (pc' := 54) X rfl ic_1 (Nat.le_of_ble_eq_true rfl) rfl rfl dX4_leastStrength_51 rfl ?_
        refine sk_goto (tgt := 6) X dX4_leastStrength_54 rfl ?_
        exact (ih6 (r42.2.1, r42.2.2, (s6.2.2 + (1 : Int32))))
      · refine sk_iload_n (pc' := 50) X rfl dX4_leastStrength_49 rfl ?_
        exact sk_xiret X (Nat.le_of_ble_eq_true rfl) (Nat.le_of_ble_eq_true rfl) rfl rfl dX4_leastStrength_50
  unfold m_X4_leastStrength
  refine sk_iload_n (pc' := 1) X rfl dX4_leastStrength_0 rfl ?_
  refine sk_callSX (bs2 := fun r1 => [(pc_W u0 (u1 0) (u3 0) a0_ahead a0_savings a0_script), (nt_W G u1 (u2 0) S1), (lg_W G u2 S2), (nt_W G u3 (u4 0) S3), (lg_W G u4 S4)]) (st := []) (st2 := fun r1 => []) (As := [.int p1]) (pc' := 4) X E (c_X4_requireLimit l hl0 t G p1) lk_RX4_200 [] rfl (by decide) (fun _ => rfl)  ⟨(Nat.le_of_ble_eq_true rfl), (Nat.le_of_ble_eq_true rfl)⟩ ⟨rfl, rfl⟩ ⟨(Nat.le_of_ble_eq_true rfl), (Nat.le_of_ble_eq_true rfl)⟩ ⟨(Nat.le_of_ble_eq_true rfl), (Nat.le_of_ble_eq_true rfl)⟩ rfl (Nat.le_of_ble_eq_true rfl) rfl dX4_leastStrength_1 rfl (fun _ => rfl) rfl (fun _ => rfl) (fun r1 => ?_)
  refine sk_iconst (pc' := 5) X ic_0 dX4_leastStrength_4 rfl ?_
  refine sk_istore_n (lv' := [some (.ref (u0 0)), some (.int p1), some (.int (0 : Int32))]) (pc' := 6) X (Nat.le_of_ble_eq_true rfl) rfl rfl dX4_leastStrength_5 rfl ?_
  exact (h6 (S3, S4, (0 : Int32)))
def rm_X4_imaginePhase : Room := { frames := 3, cells := 0, slots := 0, locals := 82 }
def o_X4_imaginePhase : (sk_N × sk_N) → Option Value := fun r => none
def w_X4_imaginePhase (G : sk_G) (u0 u1 u2 u3 u4 : Nat → Nat) (a0_ahead a0_savings a0_script : Nat) (S1 : sk_N) (S2 : sk_N) : (sk_N × sk_N) → sk_B := fun r => [(pc_W u0 (u1 0) (u3 0) a0_ahead a0_savings a0_script), (nt_W G u1 (u2 0) S1), (lg_W G u2 S2), (nt_W G u3 (u4 0) r.1), (lg_W G u4 r.2)]
set_option maxHeartbeats 4000000 in
set_option maxRecDepth 100000 in
theorem c_X4_imaginePhase (l : Launch) (G : sk_G) (u0 u1 u2 u3 u4 : Nat → Nat) (a0_ahead a0_savings a0_script : Nat) (S1 : sk_N) (S2 : sk_N) (S3 : sk_N) (S4 : sk_N) (p1 : Int32) (p2 : Int32) : sk_ctr l G yX4_imaginePhase cX4_imaginePhase 3 none rm_X4_imaginePhase [.ref (u0 0), .int p1, .int p2] [(pc_W u0 (u1 0) (u3 0) a0_ahead a0_savings a0_script), (nt_W G u1 (u2 0) S1), (lg_W G u2 S2), (nt_W G u3 (u4 0) S3), (lg_W G u4 S4)] (m_X4_imaginePhase S1 S2 S3 S4 p1 p2) o_X4_imaginePhase (w_X4_imaginePhase G u0 u1 u2 u3 u4 a0_ahead a0_savings a0_script S1 S2) := by
  refine sk_entry (own := RX4) (by decide) rfl (lv0 := [some (.ref (u0 0)), some (.int p1), some (.int p2)]) rfl (Nat.le_of_ble_eq_true rfl) ?_
  intro Γ X
  unfold m_X4_imaginePhase
  refine sk_aload_n (pc' := 1) X rfl dX4_imaginePhase_0 rfl ?_
  refine sk_getf (pc' := 4) X 0 0 1 in_RX4 rfl rfl rfl (Nat.le_of_ble_eq_true rfl) fl_RX4_16 rfl dX4_imaginePhase_1 rfl ?_
  refine sk_aload_n (pc' := 5) X rfl dX4_imaginePhase_4 rfl ?_
  refine sk_getf (pc' := 8) X 0 0 0 in_RX4 rfl rfl rfl (Nat.le_of_ble_eq_true rfl) fl_RX4_10 rfl dX4_imaginePhase_5 rfl ?_
  refine sk_callV (bs2 := fun r8 => [(pc_W u0 (u1 0) (u3 0) a0_ahead a0_savings a0_script), (nt_W G u1 (u2 0) S1), (lg_W G u2 S2), (nt_W G u3 (u4 0) r8.1), (lg_W G u4 r8.2)]) (st := []) (st2 := fun r8 => []) (As := [.ref (u1 0)]) (pc' := 11) X (c_X1_copyFrom l G u3 u4 u1 u2 S3 S4 S1 S2) lk_RX4_203 [3, 4, 1, 2] rfl (by decide) (fun _ => rfl) rfl rfl rfl ⟨(Nat.le_of_ble_eq_true rfl), (Nat.le_of_ble_eq_true rfl)⟩ ⟨rfl, rfl⟩ ⟨(Nat.le_of_ble_eq_true rfl), (Nat.le_of_ble_eq_true rfl)⟩ rfl (Nat.le_of_ble_eq_true rfl) rfl dX4_imaginePhase_8 rfl (fun _ => rfl) (fun _ => rfl) (fun r8 => ?_)
  refine sk_aload_n (pc' := 12) X rfl dX4_imaginePhase_11 rfl ?_
  refine sk_getf (pc' := 15) X 0 0 1 in_RX4 rfl rfl rfl (Nat.le_of_ble_eq_true rfl) fl_RX4_16 rfl dX4_imaginePhase_12 rfl ?_
  refine sk_iload_n (pc' := 16) X rfl dX4_imaginePhase_15 rfl ?_
  refine sk_iload_n (pc' := 17) X rfl dX4_imaginePhase_16 rfl ?_
  refine sk_callV (bs2 := fun r17 => [(pc_W u0 (u1 0) (u3 0) a0_ahead a0_savings a0_script), (nt_W G u1 (u2 0) S1), (lg_W G u2 S2), (nt_W G u3 (u4 0) r17.2), (lg_W G u4 r8.2)]) (st := []) (st2 := fun r17 => [.int r17.1]) (As := [.int p1, .int p2]) (pc' := 20) X (c_X1_changePhase l G u3 (u4 0) r8.1 p1 p2) lk_RX4_62 [3] rfl (by decide) (fun _ => rfl) rfl rfl rfl ⟨(Nat.le_of_ble_eq_true rfl), (Nat.le_of_ble_eq_true rfl)⟩ ⟨rfl, rfl⟩ ⟨(Nat.le_of_ble_eq_true rfl), (Nat.le_of_ble_eq_true rfl)⟩ rfl (Nat.le_of_ble_eq_true rfl) rfl dX4_imaginePhase_17 rfl (fun _ => rfl) (fun _ => rfl) (fun r17 => ?_)
  refine sk_pop (pc' := 21) X rfl dX4_imaginePhase_20 rfl ?_
  exact sk_vret X rfl rfl dX4_imaginePhase_21
def rm_X4_basin : Room := { frames := 7, cells := 2, slots := 12, locals := 136 }
def o_X4_basin : (Int32 × sk_N × sk_N) → Option Value := fun r => some (.int r.1)
def w_X4_basin (G : sk_G) (u0 u1 u2 u3 u4 : Nat → Nat) (a0_ahead a0_savings a0_script : Nat) (S1 : sk_N) (S2 : sk_N) : (Int32 × sk_N × sk_N) → sk_B := fun r => [(pc_W u0 (u1 0) (u3 0) a0_ahead a0_savings a0_script), (nt_W G u1 (u2 0) S1), (lg_W G u2 S2), (nt_W G u3 (u4 0) r.2.1), (lg_W G u4 r.2.2)]
set_option maxHeartbeats 4000000 in
set_option maxRecDepth 100000 in
theorem c_X4_basin (l : Launch) (hl0 : l.stackTraces = false) (t : Nat) (G : sk_G) (u0 u1 u2 u3 u4 : Nat → Nat) (a0_ahead a0_savings a0_script : Nat) (S1 : sk_N) (S2 : sk_N) (S3 : sk_N) (S4 : sk_N) (p1 : Int32) (p2 : Int32) : sk_xtr l G t yX4_basin cX4_basin 5 (some .int) rm_X4_basin 2 12 [.ref (u0 0), .int p1, .int p2] [(pc_W u0 (u1 0) (u3 0) a0_ahead a0_savings a0_script), (nt_W G u1 (u2 0) S1), (lg_W G u2 S2), (nt_W G u3 (u4 0) S3), (lg_W G u4 S4)] (m_X4_basin S1 S2 S3 S4 p1 p2) o_X4_basin (w_X4_basin G u0 u1 u2 u3 u4 a0_ahead a0_savings a0_script S1 S2) := by
  refine sk_xentry hl0 (own := RX4) (by decide) rfl (lv0 := [some (.ref (u0 0)), some (.int p1), some (.int p2), none, none]) rfl (Nat.le_of_ble_eq_true rfl) ?_
  intro Γ X E
  have h14 : ∀ s14 : sk_N × sk_N × Int32 × Int32, sk_S Γ (sk_Φx Γ o_X4_basin (w_X4_basin G u0 u1 u2 u3 u4 a0_ahead a0_savings a0_script S1 S2) [(pc_W u0 (u1 0) (u3 0) a0_ahead a0_savings a0_script), (nt_W G u1 (u2 0) S1), (lg_W G u2 S2), (nt_W G u3 (u4 0) S3), (lg_W G u4 S4)] 2 12) 2 12 (m_X4_basin_14 S1 S2 p1 p2 s14) [(pc_W u0 (u1 0) (u3 0) a0_ahead a0_savings a0_script), (nt_W G u1 (u2 0) S1), (lg_W G u2 S2), (nt_W G u3 (u4 0) s14.1), (lg_W G u4 s14.2.1)] [some (.ref (u0 0)), some (.int p1), some (.int p2), some (.int s14.2.2.1), some (.int s14.2.2.2)] 14 [] := by
    intro s14
    unfold m_X4_basin_14
    refine sk_loop (bsf := fun s14 => [(pc_W u0 (u1 0) (u3 0) a0_ahead a0_savings a0_script), (nt_W G u1 (u2 0) S1), (lg_W G u2 S2), (nt_W G u3 (u4 0) s14.1), (lg_W G u4 s14.2.1)]) (lvf := fun s14 => [some (.ref (u0 0)), some (.int p1), some (.int p2), some (.int s14.2.2.1), some (.int s14.2.2.2)]) ?_ sk_fuel s14
    intro k14 s14 ih14
    unfold m_X4_basin_14_step
    refine sk_iload (pc' := 16) X rfl dX4_basin_14 rfl ?_
    refine sk_aload_n (pc' := 17) X rfl dX4_basin_16 rfl ?_
    refine sk_getf (pc' := 20) X 0 0 0 in_RX4 rfl rfl rfl (Nat.le_of_ble_eq_true rfl) fl_RX4_10 rfl dX4_basin_17 rfl ?_
    refine sk_getf (pc' := 23) X 1 0 1 in_RX1 rfl rfl rfl (Nat.le_of_ble_eq_true rfl) fl_RX4_215 rfl dX4_basin_20 rfl ?_
    refine sk_icmp_ge (tgt := 55) (pc' := 26) X dX4_basin_23 rfl rfl ?_ ?_
    · refine sk_iload_n (pc' := 56) X rfl dX4_basin_55 rfl ?_
      exact sk_xiret X (Nat.le_of_ble_eq_true rfl) (Nat.le_of_ble_eq_true rfl) rfl rfl dX4_basin_56
    · refine sk_aload_n (pc' := 27) X rfl dX4_basin_26 rfl ?_
      refine sk_iload_n (pc' := 28) X rfl dX4_basin_27 rfl ?_
      refine sk_iload (pc' := 30) X rfl dX4_basin_28 rfl ?_
      refine sk_callV (bs2 := fun r30 => [(pc_W u0 (u1 0) (u3 0) a0_ahead a0_savings a0_script), (nt_W G u1 (u2 0) S1), (lg_W G u2 S2), (nt_W G u3 (u4 0) r30.1), (lg_W G u4 r30.2)]) (st := []) (st2 := fun r30 => []) (As := [.int p1, .int s14.2.2.2]) (pc' := 33) X (c_X4_imaginePhase l G u0 u1 u2 u3 u4 a0_ahead a0_savings a0_script S1 S2 s14.1 s14.2.1 p1 s14.2.2.2) lk_RX4_218 [0, 1, 2, 3, 4] rfl (by decide) (fun _ => rfl) rfl rfl rfl ⟨(Nat.le_of_ble_eq_true rfl), (Nat.le_of_ble_eq_true rfl)⟩ ⟨rfl, rfl⟩ ⟨(Nat.le_of_ble_eq_true rfl), (Nat.le_of_ble_eq_true rfl)⟩ rfl (Nat.le_of_ble_eq_true rfl) rfl dX4_basin_30 rfl (fun _ => rfl) (fun _ => rfl) (fun r30 => ?_)
      refine sk_aload_n (pc' := 34) X rfl dX4_basin_33 rfl ?_
      refine sk_getf (pc' := 37) X 0 0 1 in_RX4 rfl rfl rfl (Nat.le_of_ble_eq_true rfl) fl_RX4_16 rfl dX4_basin_34 rfl ?_
      refine sk_iconst (pc' := 38) X ic_1 dX4_basin_37 rfl ?_
      refine sk_iload_n (pc' := 39) X rfl dX4_basin_38 rfl ?_
      refine sk_callV (bs2 := fun r39 => [(pc_W u0 (u1 0) (u3 0) a0_ahead a0_savings a0_script), (nt_W G u1 (u2 0) S1), (lg_W G u2 S2), (nt_W G u3 (u4 0) r39.2.1), (lg_W G u4 r39.2.2)]) (st := []) (st2 := fun r39 => [.int r39.1]) (As := [.int (1 : Int32), .int p2]) (pc' := 42) X (c_X1_passUntilGroups l G u3 u4 r30.1 r30.2 (1 : Int32) p2) lk_RX4_206 [3, 4] rfl (by decide) (fun _ => rfl) rfl rfl rfl ⟨(Nat.le_of_ble_eq_true rfl), (Nat.le_of_ble_eq_true rfl)⟩ ⟨rfl, rfl⟩ ⟨(Nat.le_of_ble_eq_true rfl), (Nat.le_of_ble_eq_true rfl)⟩ rfl (Nat.le_of_ble_eq_true rfl) rfl dX4_basin_39 rfl (fun _ => rfl) (fun _ => rfl) (fun r39 => ?_)
      refine sk_iconst (pc' := 43) X ic_m1 dX4_basin_42 rfl ?_
      refine sk_icmp_eq (tgt := 49) (pc' := 46) X dX4_basin_43 rfl rfl ?_ ?_
      · refine sk_iinc (lv' := [some (.ref (u0 0)), some (.int p1), some (.int p2), some (.int s14.2.2.1), some (.int (s14.2.2.2 + (1 : Int32)))]) (pc' := 52) X rfl ic_1 (Nat.le_of_ble_eq_true rfl) rfl rfl dX4_basin_49 rfl ?_
        refine sk_goto (tgt := 14) X dX4_basin_52 rfl ?_
        exact (ih14 (r39.2.1, r39.2.2, s14.2.2.1, (s14.2.2.2 + (1 : Int32))))
      · refine sk_iinc (lv' := [some (.ref (u0 0)), some (.int p1), some (.int p2), some (.int (s14.2.2.1 + (1 : Int32))), some (.int s14.2.2.2)]) (pc' := 49) X rfl ic_1 (Nat.le_of_ble_eq_true rfl) rfl rfl dX4_basin_46 rfl ?_
        refine sk_iinc (lv' := [some (.ref (u0 0)), some (.int p1), some (.int p2), some (.int (s14.2.2.1 + (1 : Int32))), some (.int (s14.2.2.2 + (1 : Int32)))]) (pc' := 52) X rfl ic_1 (Nat.le_of_ble_eq_true rfl) rfl rfl dX4_basin_49 rfl ?_
        refine sk_goto (tgt := 14) X dX4_basin_52 rfl ?_
        exact (ih14 (r39.2.1, r39.2.2, (s14.2.2.1 + (1 : Int32)), (s14.2.2.2 + (1 : Int32))))
  unfold m_X4_basin
  refine sk_aload_n (pc' := 1) X rfl dX4_basin_0 rfl ?_
  refine sk_iload_n (pc' := 2) X rfl dX4_basin_1 rfl ?_
  refine sk_callVX (bs2 := fun r2 => [(pc_W u0 (u1 0) (u3 0) a0_ahead a0_savings a0_script), (nt_W G u1 (u2 0) S1), (lg_W G u2 S2), (nt_W G u3 (u4 0) S3), (lg_W G u4 S4)]) (st := []) (st2 := fun r2 => []) (As := [.int p1]) (pc' := 5) X E (c_X4_requireClock l hl0 t G u0 u1 (u3 0) a0_ahead a0_savings a0_script (u2 0) S1 p1) lk_RX4_59 [0, 1] rfl (by decide) (fun _ => rfl) rfl rfl rfl ⟨(Nat.le_of_ble_eq_true rfl), (Nat.le_of_ble_eq_true rfl)⟩ ⟨rfl, rfl⟩ ⟨(Nat.le_of_ble_eq_true rfl), (Nat.le_of_ble_eq_true rfl)⟩ ⟨(Nat.le_of_ble_eq_true rfl), (Nat.le_of_ble_eq_true rfl)⟩ rfl (Nat.le_of_ble_eq_true rfl) rfl dX4_basin_2 rfl (fun _ => rfl) rfl (fun _ => rfl) (fun r2 => ?_)
  refine sk_iload_n (pc' := 6) X rfl dX4_basin_5 rfl ?_
  refine sk_callSX (bs2 := fun r6 => [(pc_W u0 (u1 0) (u3 0) a0_ahead a0_savings a0_script), (nt_W G u1 (u2 0) S1), (lg_W G u2 S2), (nt_W G u3 (u4 0) S3), (lg_W G u4 S4)]) (st := []) (st2 := fun r6 => []) (As := [.int p2]) (pc' := 9) X E (c_X4_requireLimit l hl0 t G p2) lk_RX4_200 [] rfl (by decide) (fun _ => rfl)  ⟨(Nat.le_of_ble_eq_true rfl), (Nat.le_of_ble_eq_true rfl)⟩ ⟨rfl, rfl⟩ ⟨(Nat.le_of_ble_eq_true rfl), (Nat.le_of_ble_eq_true rfl)⟩ ⟨(Nat.le_of_ble_eq_true rfl), (Nat.le_of_ble_eq_true rfl)⟩ rfl (Nat.le_of_ble_eq_true rfl) rfl dX4_basin_6 rfl (fun _ => rfl) rfl (fun _ => rfl) (fun r6 => ?_)
  refine sk_iconst (pc' := 10) X ic_0 dX4_basin_9 rfl ?_
  refine sk_istore_n (lv' := [some (.ref (u0 0)), some (.int p1), some (.int p2), some (.int (0 : Int32)), none]) (pc' := 11) X (Nat.le_of_ble_eq_true rfl) rfl rfl dX4_basin_10 rfl ?_
  refine sk_iconst (pc' := 12) X ic_0 dX4_basin_11 rfl ?_
  refine sk_istore (lv' := [some (.ref (u0 0)), some (.int p1), some (.int p2), some (.int (0 : Int32)), some (.int (0 : Int32))]) (pc' := 14) X (Nat.le_of_ble_eq_true rfl) rfl rfl dX4_basin_12 rfl ?_
  exact (h14 (S3, S4, (0 : Int32), (0 : Int32)))
def rm_X4_worstPhase : Room := { frames := 7, cells := 2, slots := 12, locals := 136 }
def o_X4_worstPhase : (Int32 × sk_N × sk_N) → Option Value := fun r => some (.int r.1)
def w_X4_worstPhase (G : sk_G) (u0 u1 u2 u3 u4 : Nat → Nat) (a0_ahead a0_savings a0_script : Nat) (S1 : sk_N) (S2 : sk_N) : (Int32 × sk_N × sk_N) → sk_B := fun r => [(pc_W u0 (u1 0) (u3 0) a0_ahead a0_savings a0_script), (nt_W G u1 (u2 0) S1), (lg_W G u2 S2), (nt_W G u3 (u4 0) r.2.1), (lg_W G u4 r.2.2)]
set_option maxHeartbeats 4000000 in
set_option maxRecDepth 100000 in
theorem c_X4_worstPhase (l : Launch) (hl0 : l.stackTraces = false) (t : Nat) (G : sk_G) (u0 u1 u2 u3 u4 : Nat → Nat) (a0_ahead a0_savings a0_script : Nat) (S1 : sk_N) (S2 : sk_N) (S3 : sk_N) (S4 : sk_N) (p1 : Int32) (p2 : Int32) : sk_xtr l G t yX4_worstPhase cX4_worstPhase 7 (some .int) rm_X4_worstPhase 2 12 [.ref (u0 0), .int p1, .int p2] [(pc_W u0 (u1 0) (u3 0) a0_ahead a0_savings a0_script), (nt_W G u1 (u2 0) S1), (lg_W G u2 S2), (nt_W G u3 (u4 0) S3), (lg_W G u4 S4)] (m_X4_worstPhase S1 S2 S3 S4 p1 p2) o_X4_worstPhase (w_X4_worstPhase G u0 u1 u2 u3 u4 a0_ahead a0_savings a0_script S1 S2) := by
  refine sk_xentry hl0 (own := RX4) (by decide) rfl (lv0 := [some (.ref (u0 0)), some (.int p1), some (.int p2), none, none, none, none]) rfl (Nat.le_of_ble_eq_true rfl) ?_
  intro Γ X E
  have h17 : ∀ s17 : sk_N × sk_N × Int32 × Int32 × Int32, sk_S Γ (sk_Φx Γ o_X4_worstPhase (w_X4_worstPhase G u0 u1 u2 u3 u4 a0_ahead a0_savings a0_script S1 S2) [(pc_W u0 (u1 0) (u3 0) a0_ahead a0_savings a0_script), (nt_W G u1 (u2 0) S1), (lg_W G u2 S2), (nt_W G u3 (u4 0) S3), (lg_W G u4 S4)] 2 12) 2 12 (m_X4_worstPhase_17 S1 S2 p1 p2 s17) [(pc_W u0 (u1 0) (u3 0) a0_ahead a0_savings a0_script), (nt_W G u1 (u2 0) S1), (lg_W G u2 S2), (nt_W G u3 (u4 0) s17.1), (lg_W G u4 s17.2.1)] [some (.ref (u0 0)), some (.int p1), some (.int p2), some (.int s17.2.2.1), some (.int s17.2.2.2.1), some (.int s17.2.2.2.2), none] 17 [] := by
    intro s17
    unfold m_X4_worstPhase_17
    refine sk_loop (bsf := fun s17 => [(pc_W u0 (u1 0) (u3 0) a0_ahead a0_savings a0_script), (nt_W G u1 (u2 0) S1), (lg_W G u2 S2), (nt_W G u3 (u4 0) s17.1), (lg_W G u4 s17.2.1)]) (lvf := fun s17 => [some (.ref (u0 0)), some (.int p1), some (.int p2), some (.int s17.2.2.1), some (.int s17.2.2.2.1), some (.int s17.2.2.2.2), none]) ?_ sk_fuel s17
    intro k17 s17 ih17
    unfold m_X4_worstPhase_17_step
    refine sk_iload (pc' := 19) X rfl dX4_worstPhase_17 rfl ?_
    refine sk_aload_n (pc' := 20) X rfl dX4_worstPhase_19 rfl ?_
    refine sk_getf (pc' := 23) X 0 0 0 in_RX4 rfl rfl rfl (Nat.le_of_ble_eq_true rfl) fl_RX4_10 rfl dX4_worstPhase_20 rfl ?_
    refine sk_getf (pc' := 26) X 1 0 1 in_RX1 rfl rfl rfl (Nat.le_of_ble_eq_true rfl) fl_RX4_215 rfl dX4_worstPhase_23 rfl ?_
    refine sk_icmp_ge (tgt := 76) (pc' := 29) X dX4_worstPhase_26 rfl rfl ?_ ?_
    · refine sk_iload_n (pc' := 77) X rfl dX4_worstPhase_76 rfl ?_
      exact sk_xiret X (Nat.le_of_ble_eq_true rfl) (Nat.le_of_ble_eq_true rfl) rfl rfl dX4_worstPhase_77
    · refine sk_aload_n (pc' := 30) X rfl dX4_worstPhase_29 rfl ?_
      refine sk_iload_n (pc' := 31) X rfl dX4_worstPhase_30 rfl ?_
      refine sk_iload (pc' := 33) X rfl dX4_worstPhase_31 rfl ?_
      refine sk_callV (bs2 := fun r33 => [(pc_W u0 (u1 0) (u3 0) a0_ahead a0_savings a0_script), (nt_W G u1 (u2 0) S1), (lg_W G u2 S2), (nt_W G u3 (u4 0) r33.1), (lg_W G u4 r33.2)]) (st := []) (st2 := fun r33 => []) (As := [.int p1, .int s17.2.2.2.2]) (pc' := 36) X (c_X4_imaginePhase l G u0 u1 u2 u3 u4 a0_ahead a0_savings a0_script S1 S2 s17.1 s17.2.1 p1 s17.2.2.2.2) lk_RX4_218 [0, 1, 2, 3, 4] rfl (by decide) (fun _ => rfl) rfl rfl rfl ⟨(Nat.le_of_ble_eq_true rfl), (Nat.le_of_ble_eq_true rfl)⟩ ⟨rfl, rfl⟩ ⟨(Nat.le_of_ble_eq_true rfl), (Nat.le_of_ble_eq_true rfl)⟩ rfl (Nat.le_of_ble_eq_true rfl) rfl dX4_worstPhase_33 rfl (fun _ => rfl) (fun _ => rfl) (fun r33 => ?_)
      refine sk_aload_n (pc' := 37) X rfl dX4_worstPhase_36 rfl ?_
      refine sk_getf (pc' := 40) X 0 0 1 in_RX4 rfl rfl rfl (Nat.le_of_ble_eq_true rfl) fl_RX4_16 rfl dX4_worstPhase_37 rfl ?_
      refine sk_iconst (pc' := 41) X ic_1 dX4_worstPhase_40 rfl ?_
      refine sk_iload_n (pc' := 42) X rfl dX4_worstPhase_41 rfl ?_
      refine sk_callV (bs2 := fun r42 => [(pc_W u0 (u1 0) (u3 0) a0_ahead a0_savings a0_script), (nt_W G u1 (u2 0) S1), (lg_W G u2 S2), (nt_W G u3 (u4 0) r42.2.1), (lg_W G u4 r42.2.2)]) (st := []) (st2 := fun r42 => [.int r42.1]) (As := [.int (1 : Int32), .int p2]) (pc' := 45) X (c_X1_passUntilGroups l G u3 u4 r33.1 r33.2 (1 : Int32) p2) lk_RX4_206 [3, 4] rfl (by decide) (fun _ => rfl) rfl rfl rfl ⟨(Nat.le_of_ble_eq_true rfl), (Nat.le_of_ble_eq_true rfl)⟩ ⟨rfl, rfl⟩ ⟨(Nat.le_of_ble_eq_true rfl), (Nat.le_of_ble_eq_true rfl)⟩ rfl (Nat.le_of_ble_eq_true rfl) rfl dX4_worstPhase_42 rfl (fun _ => rfl) (fun _ => rfl) (fun r42 => ?_)
      refine sk_istore (lv' := [some (.ref (u0 0)), some (.int p1), some (.int p2), some (.int s17.2.2.1), some (.int s17.2.2.2.1), some (.int s17.2.2.2.2), some (.int r42.1)]) (pc' := 47) X (Nat.le_of_ble_eq_true rfl) rfl rfl dX4_worstPhase_45 rfl ?_
      refine sk_iload (pc' := 49) X rfl dX4_worstPhase_47 rfl ?_
      refine sk_iconst (pc' := 50) X ic_m1 dX4_worstPhase_49 rfl ?_
      refine sk_icmp_ne (tgt := 56) (pc' := 53) X dX4_worstPhase_50 rfl rfl ?_ ?_
      · refine sk_iload (pc' := 58) X rfl dX4_worstPhase_56 rfl ?_
        refine sk_iload (pc' := 60) X rfl dX4_worstPhase_58 rfl ?_
        refine sk_icmp_le (tgt := 70) (pc' := 63) X dX4_worstPhase_60 rfl rfl ?_ ?_
        · refine sk_iinc (lv' := [some (.ref (u0 0)), some (.int p1), some (.int p2), some (.int s17.2.2.1), some (.int s17.2.2.2.1), some (.int (s17.2.2.2.2 + (1 : Int32))), some (.int r42.1)]) (pc' := 73) X rfl ic_1 (Nat.le_of_ble_eq_true rfl) rfl rfl dX4_worstPhase_70 rfl ?_
          refine sk_goto (tgt := 17) X dX4_worstPhase_73 rfl ?_
          exact (sk_kill 6 (ih17 (r42.2.1, r42.2.2, s17.2.2.1, s17.2.2.2.1, (s17.2.2.2.2 + (1 : Int32)))))
        · refine sk_iload (pc' := 65) X rfl dX4_worstPhase_63 rfl ?_
          refine sk_istore (lv' := [some (.ref (u0 0)), some (.int p1), some (.int p2), some (.int s17.2.2.1), some (.int r42.1), some (.int s17.2.2.2.2), some (.int r42.1)]) (pc' := 67) X (Nat.le_of_ble_eq_true rfl) rfl rfl dX4_worstPhase_65 rfl ?_
          refine sk_iload (pc' := 69) X rfl dX4_worstPhase_67 rfl ?_
          refine sk_istore_n (lv' := [some (.ref (u0 0)), some (.int p1), some (.int p2), some (.int s17.2.2.2.2), some (.int r42.1), some (.int s17.2.2.2.2), some (.int r42.1)]) (pc' := 70) X (Nat.le_of_ble_eq_true rfl) rfl rfl dX4_worstPhase_69 rfl ?_
          refine sk_iinc (lv' := [some (.ref (u0 0)), some (.int p1), some (.int p2), some (.int s17.2.2.2.2), some (.int r42.1), some (.int (s17.2.2.2.2 + (1 : Int32))), some (.int r42.1)]) (pc' := 73) X rfl ic_1 (Nat.le_of_ble_eq_true rfl) rfl rfl dX4_worstPhase_70 rfl ?_
          refine sk_goto (tgt := 17) X dX4_worstPhase_73 rfl ?_
          exact (sk_kill 6 (ih17 (r42.2.1, r42.2.2, s17.2.2.2.2, r42.1, (s17.2.2.2.2 + (1 : Int32)))))
      · refine sk_iload (pc' := 55) X rfl dX4_worstPhase_53 rfl ?_
        exact sk_xiret X (Nat.le_of_ble_eq_true rfl) (Nat.le_of_ble_eq_true rfl) rfl rfl dX4_worstPhase_55
  unfold m_X4_worstPhase
  refine sk_aload_n (pc' := 1) X rfl dX4_worstPhase_0 rfl ?_
  refine sk_iload_n (pc' := 2) X rfl dX4_worstPhase_1 rfl ?_
  refine sk_callVX (bs2 := fun r2 => [(pc_W u0 (u1 0) (u3 0) a0_ahead a0_savings a0_script), (nt_W G u1 (u2 0) S1), (lg_W G u2 S2), (nt_W G u3 (u4 0) S3), (lg_W G u4 S4)]) (st := []) (st2 := fun r2 => []) (As := [.int p1]) (pc' := 5) X E (c_X4_requireClock l hl0 t G u0 u1 (u3 0) a0_ahead a0_savings a0_script (u2 0) S1 p1) lk_RX4_59 [0, 1] rfl (by decide) (fun _ => rfl) rfl rfl rfl ⟨(Nat.le_of_ble_eq_true rfl), (Nat.le_of_ble_eq_true rfl)⟩ ⟨rfl, rfl⟩ ⟨(Nat.le_of_ble_eq_true rfl), (Nat.le_of_ble_eq_true rfl)⟩ ⟨(Nat.le_of_ble_eq_true rfl), (Nat.le_of_ble_eq_true rfl)⟩ rfl (Nat.le_of_ble_eq_true rfl) rfl dX4_worstPhase_2 rfl (fun _ => rfl) rfl (fun _ => rfl) (fun r2 => ?_)
  refine sk_iload_n (pc' := 6) X rfl dX4_worstPhase_5 rfl ?_
  refine sk_callSX (bs2 := fun r6 => [(pc_W u0 (u1 0) (u3 0) a0_ahead a0_savings a0_script), (nt_W G u1 (u2 0) S1), (lg_W G u2 S2), (nt_W G u3 (u4 0) S3), (lg_W G u4 S4)]) (st := []) (st2 := fun r6 => []) (As := [.int p2]) (pc' := 9) X E (c_X4_requireLimit l hl0 t G p2) lk_RX4_200 [] rfl (by decide) (fun _ => rfl)  ⟨(Nat.le_of_ble_eq_true rfl), (Nat.le_of_ble_eq_true rfl)⟩ ⟨rfl, rfl⟩ ⟨(Nat.le_of_ble_eq_true rfl), (Nat.le_of_ble_eq_true rfl)⟩ ⟨(Nat.le_of_ble_eq_true rfl), (Nat.le_of_ble_eq_true rfl)⟩ rfl (Nat.le_of_ble_eq_true rfl) rfl dX4_worstPhase_6 rfl (fun _ => rfl) rfl (fun _ => rfl) (fun r6 => ?_)
  refine sk_iconst (pc' := 10) X ic_0 dX4_worstPhase_9 rfl ?_
  refine sk_istore_n (lv' := [some (.ref (u0 0)), some (.int p1), some (.int p2), some (.int (0 : Int32)), none, none, none]) (pc' := 11) X (Nat.le_of_ble_eq_true rfl) rfl rfl dX4_worstPhase_10 rfl ?_
  refine sk_iconst (pc' := 12) X ic_0 dX4_worstPhase_11 rfl ?_
  refine sk_istore (lv' := [some (.ref (u0 0)), some (.int p1), some (.int p2), some (.int (0 : Int32)), some (.int (0 : Int32)), none, none]) (pc' := 14) X (Nat.le_of_ble_eq_true rfl) rfl rfl dX4_worstPhase_12 rfl ?_
  refine sk_iconst (pc' := 15) X ic_0 dX4_worstPhase_14 rfl ?_
  refine sk_istore (lv' := [some (.ref (u0 0)), some (.int p1), some (.int p2), some (.int (0 : Int32)), some (.int (0 : Int32)), some (.int (0 : Int32)), none]) (pc' := 17) X (Nat.le_of_ble_eq_true rfl) rfl rfl dX4_worstPhase_15 rfl ?_
  exact (h17 (S3, S4, (0 : Int32), (0 : Int32), (0 : Int32)))
def rm_X4_blamed : Room := { frames := 7, cells := 1, slots := 6, locals := 136 }
def o_X4_blamed : (Int32 × sk_N × sk_N) → Option Value := fun r => some (.int r.1)
def w_X4_blamed (G : sk_G) (u0 u1 u2 u3 u4 : Nat → Nat) (a0_ahead a0_savings a0_script : Nat) (S1 : sk_N) (S2 : sk_N) : (Int32 × sk_N × sk_N) → sk_B := fun r => [(pc_W u0 (u1 0) (u3 0) a0_ahead a0_savings a0_script), (nt_W G u1 (u2 0) S1), (lg_W G u2 S2), (nt_W G u3 (u4 0) r.2.1), (lg_W G u4 r.2.2)]
set_option maxHeartbeats 4000000 in
set_option maxRecDepth 100000 in
theorem c_X4_blamed (l : Launch) (hl0 : l.stackTraces = false) (t : Nat) (G : sk_G) (u0 u1 u2 u3 u4 : Nat → Nat) (a0_ahead a0_savings a0_script : Nat) (S1 : sk_N) (S2 : sk_N) (S3 : sk_N) (S4 : sk_N) (p1 : Int32) : sk_xtr l G t yX4_blamed cX4_blamed 3 (some .int) rm_X4_blamed 1 6 [.ref (u0 0), .int p1] [(pc_W u0 (u1 0) (u3 0) a0_ahead a0_savings a0_script), (nt_W G u1 (u2 0) S1), (lg_W G u2 S2), (nt_W G u3 (u4 0) S3), (lg_W G u4 S4)] (m_X4_blamed S1 S2 S3 S4 p1) o_X4_blamed (w_X4_blamed G u0 u1 u2 u3 u4 a0_ahead a0_savings a0_script S1 S2) := by
  refine sk_xentry hl0 (own := RX4) (by decide) rfl (lv0 := [some (.ref (u0 0)), some (.int p1), none]) rfl (Nat.le_of_ble_eq_true rfl) ?_
  intro Γ X E
  have h6 : ∀ s6 : sk_N × sk_N × Int32, sk_S Γ (sk_Φx Γ o_X4_blamed (w_X4_blamed G u0 u1 u2 u3 u4 a0_ahead a0_savings a0_script S1 S2) [(pc_W u0 (u1 0) (u3 0) a0_ahead a0_savings a0_script), (nt_W G u1 (u2 0) S1), (lg_W G u2 S2), (nt_W G u3 (u4 0) S3), (lg_W G u4 S4)] 1 6) 1 6 (m_X4_blamed_6 S1 S2 p1 s6) [(pc_W u0 (u1 0) (u3 0) a0_ahead a0_savings a0_script), (nt_W G u1 (u2 0) S1), (lg_W G u2 S2), (nt_W G u3 (u4 0) s6.1), (lg_W G u4 s6.2.1)] [some (.ref (u0 0)), some (.int p1), some (.int s6.2.2)] 6 [] := by
    intro s6
    unfold m_X4_blamed_6
    refine sk_loop (bsf := fun s6 => [(pc_W u0 (u1 0) (u3 0) a0_ahead a0_savings a0_script), (nt_W G u1 (u2 0) S1), (lg_W G u2 S2), (nt_W G u3 (u4 0) s6.1), (lg_W G u4 s6.2.1)]) (lvf := fun s6 => [some (.ref (u0 0)), some (.int p1), some (.int s6.2.2)]) ?_ sk_fuel s6
    intro k6 s6 ih6
    unfold m_X4_blamed_6_step
    refine sk_iload_n (pc' := 7) X rfl dX4_blamed_6 rfl ?_
    refine sk_aload_n (pc' := 8) X rfl dX4_blamed_7 rfl ?_
    refine sk_getf (pc' := 11) X 0 0 0 in_RX4 rfl rfl rfl (Nat.le_of_ble_eq_true rfl) fl_RX4_10 rfl dX4_blamed_8 rfl ?_
    refine sk_getf (pc' := 14) X 1 0 0 in_RX1 rfl rfl rfl (Nat.le_of_ble_eq_true rfl) fl_RX4_128 rfl dX4_blamed_11 rfl ?_
    refine sk_icmp_ge (tgt := 68) (pc' := 17) X dX4_blamed_14 rfl rfl ?_ ?_
    · refine sk_iconst (pc' := 69) X ic_m1 dX4_blamed_68 rfl ?_
      exact sk_xiret X (Nat.le_of_ble_eq_true rfl) (Nat.le_of_ble_eq_true rfl) rfl rfl dX4_blamed_69
    · refine sk_aload_n (pc' := 18) X rfl dX4_blamed_17 rfl ?_
      refine sk_getf (pc' := 21) X 0 0 0 in_RX4 rfl rfl rfl (Nat.le_of_ble_eq_true rfl) fl_RX4_10 rfl dX4_blamed_18 rfl ?_
      refine sk_iload_n (pc' := 22) X rfl dX4_blamed_21 rfl ?_
      refine sk_callV (bs2 := fun r22 => [(pc_W u0 (u1 0) (u3 0) a0_ahead a0_savings a0_script), (nt_W G u1 (u2 0) S1), (lg_W G u2 S2), (nt_W G u3 (u4 0) s6.1), (lg_W G u4 s6.2.1)]) (st := []) (st2 := fun r22 => [.int r22]) (As := [.int s6.2.2]) (pc' := 25) X (c_X1_isGood l G u1 (u2 0) S1 s6.2.2) lk_RX4_88 [1] rfl (by decide) (fun _ => rfl) rfl rfl rfl ⟨(Nat.le_of_ble_eq_true rfl), (Nat.le_of_ble_eq_true rfl)⟩ ⟨rfl, rfl⟩ ⟨(Nat.le_of_ble_eq_true rfl), (Nat.le_of_ble_eq_true rfl)⟩ rfl (Nat.le_of_ble_eq_true rfl) rfl dX4_blamed_22 rfl (fun _ => rfl) (fun _ => rfl) (fun r22 => ?_)
      refine sk_if_ne (tgt := 62) (pc' := 28) X dX4_blamed_25 rfl rfl ?_ ?_
      · refine sk_iinc (lv' := [some (.ref (u0 0)), some (.int p1), some (.int (s6.2.2 + (1 : Int32)))]) (pc' := 65) X rfl ic_1 (Nat.le_of_ble_eq_true rfl) rfl rfl dX4_blamed_62 rfl ?_
        refine sk_goto (tgt := 6) X dX4_blamed_65 rfl ?_
        exact (ih6 (s6.1, s6.2.1, (s6.2.2 + (1 : Int32))))
      · refine sk_aload_n (pc' := 29) X rfl dX4_blamed_28 rfl ?_
        refine sk_getf (pc' := 32) X 0 0 1 in_RX4 rfl rfl rfl (Nat.le_of_ble_eq_true rfl) fl_RX4_16 rfl dX4_blamed_29 rfl ?_
        refine sk_aload_n (pc' := 33) X rfl dX4_blamed_32 rfl ?_
        refine sk_getf (pc' := 36) X 0 0 0 in_RX4 rfl rfl rfl (Nat.le_of_ble_eq_true rfl) fl_RX4_10 rfl dX4_blamed_33 rfl ?_
        refine sk_callV (bs2 := fun r36 => [(pc_W u0 (u1 0) (u3 0) a0_ahead a0_savings a0_script), (nt_W G u1 (u2 0) S1), (lg_W G u2 S2), (nt_W G u3 (u4 0) r36.1), (lg_W G u4 r36.2)]) (st := []) (st2 := fun r36 => []) (As := [.ref (u1 0)]) (pc' := 39) X (c_X1_copyFrom l G u3 u4 u1 u2 s6.1 s6.2.1 S1 S2) lk_RX4_203 [3, 4, 1, 2] rfl (by decide) (fun _ => rfl) rfl rfl rfl ⟨(Nat.le_of_ble_eq_true rfl), (Nat.le_of_ble_eq_true rfl)⟩ ⟨rfl, rfl⟩ ⟨(Nat.le_of_ble_eq_true rfl), (Nat.le_of_ble_eq_true rfl)⟩ rfl (Nat.le_of_ble_eq_true rfl) rfl dX4_blamed_36 rfl (fun _ => rfl) (fun _ => rfl) (fun r36 => ?_)
        refine sk_aload_n (pc' := 40) X rfl dX4_blamed_39 rfl ?_
        refine sk_getf (pc' := 43) X 0 0 1 in_RX4 rfl rfl rfl (Nat.le_of_ble_eq_true rfl) fl_RX4_16 rfl dX4_blamed_40 rfl ?_
        refine sk_iload_n (pc' := 44) X rfl dX4_blamed_43 rfl ?_
        refine sk_callV (bs2 := fun r44 => [(pc_W u0 (u1 0) (u3 0) a0_ahead a0_savings a0_script), (nt_W G u1 (u2 0) S1), (lg_W G u2 S2), (nt_W G u3 (u4 0) r44), (lg_W G u4 r36.2)]) (st := []) (st2 := fun r44 => []) (As := [.int s6.2.2]) (pc' := 47) X (c_X1_makeGood l G u3 (u4 0) r36.1 s6.2.2) lk_RX4_94 [3] rfl (by decide) (fun _ => rfl) rfl rfl rfl ⟨(Nat.le_of_ble_eq_true rfl), (Nat.le_of_ble_eq_true rfl)⟩ ⟨rfl, rfl⟩ ⟨(Nat.le_of_ble_eq_true rfl), (Nat.le_of_ble_eq_true rfl)⟩ rfl (Nat.le_of_ble_eq_true rfl) rfl dX4_blamed_44 rfl (fun _ => rfl) (fun _ => rfl) (fun r44 => ?_)
        refine sk_aload_n (pc' := 48) X rfl dX4_blamed_47 rfl ?_
        refine sk_getf (pc' := 51) X 0 0 1 in_RX4 rfl rfl rfl (Nat.le_of_ble_eq_true rfl) fl_RX4_16 rfl dX4_blamed_48 rfl ?_
        refine sk_iconst (pc' := 52) X ic_1 dX4_blamed_51 rfl ?_
        refine sk_iload_n (pc' := 53) X rfl dX4_blamed_52 rfl ?_
        refine sk_callV (bs2 := fun r53 => [(pc_W u0 (u1 0) (u3 0) a0_ahead a0_savings a0_script), (nt_W G u1 (u2 0) S1), (lg_W G u2 S2), (nt_W G u3 (u4 0) r53.2.1), (lg_W G u4 r53.2.2)]) (st := []) (st2 := fun r53 => [.int r53.1]) (As := [.int (1 : Int32), .int p1]) (pc' := 56) X (c_X1_passUntilGroups l G u3 u4 r44 r36.2 (1 : Int32) p1) lk_RX4_206 [3, 4] rfl (by decide) (fun _ => rfl) rfl rfl rfl ⟨(Nat.le_of_ble_eq_true rfl), (Nat.le_of_ble_eq_true rfl)⟩ ⟨rfl, rfl⟩ ⟨(Nat.le_of_ble_eq_true rfl), (Nat.le_of_ble_eq_true rfl)⟩ rfl (Nat.le_of_ble_eq_true rfl) rfl dX4_blamed_53 rfl (fun _ => rfl) (fun _ => rfl) (fun r53 => ?_)
        refine sk_iconst (pc' := 57) X ic_m1 dX4_blamed_56 rfl ?_
        refine sk_icmp_eq (tgt := 62) (pc' := 60) X dX4_blamed_57 rfl rfl ?_ ?_
        · refine sk_iinc (lv' := [some (.ref (u0 0)), some (.int p1), some (.int (s6.2.2 + (1 : Int32)))]) (pc' := 65) X rfl ic_1 (Nat.le_of_ble_eq_true rfl) rfl rfl dX4_blamed_62 rfl ?_
          refine sk_goto (tgt := 6) X dX4_blamed_65 rfl ?_
          exact (ih6 (r53.2.1, r53.2.2, (s6.2.2 + (1 : Int32))))
        · refine sk_iload_n (pc' := 61) X rfl dX4_blamed_60 rfl ?_
          exact sk_xiret X (Nat.le_of_ble_eq_true rfl) (Nat.le_of_ble_eq_true rfl) rfl rfl dX4_blamed_61
  unfold m_X4_blamed
  refine sk_iload_n (pc' := 1) X rfl dX4_blamed_0 rfl ?_
  refine sk_callSX (bs2 := fun r1 => [(pc_W u0 (u1 0) (u3 0) a0_ahead a0_savings a0_script), (nt_W G u1 (u2 0) S1), (lg_W G u2 S2), (nt_W G u3 (u4 0) S3), (lg_W G u4 S4)]) (st := []) (st2 := fun r1 => []) (As := [.int p1]) (pc' := 4) X E (c_X4_requireLimit l hl0 t G p1) lk_RX4_200 [] rfl (by decide) (fun _ => rfl)  ⟨(Nat.le_of_ble_eq_true rfl), (Nat.le_of_ble_eq_true rfl)⟩ ⟨rfl, rfl⟩ ⟨(Nat.le_of_ble_eq_true rfl), (Nat.le_of_ble_eq_true rfl)⟩ ⟨(Nat.le_of_ble_eq_true rfl), (Nat.le_of_ble_eq_true rfl)⟩ rfl (Nat.le_of_ble_eq_true rfl) rfl dX4_blamed_1 rfl (fun _ => rfl) rfl (fun _ => rfl) (fun r1 => ?_)
  refine sk_iconst (pc' := 5) X ic_0 dX4_blamed_4 rfl ?_
  refine sk_istore_n (lv' := [some (.ref (u0 0)), some (.int p1), some (.int (0 : Int32))]) (pc' := 6) X (Nat.le_of_ble_eq_true rfl) rfl rfl dX4_blamed_5 rfl ?_
  exact (h6 (S3, S4, (0 : Int32)))
def rm_X4_firesIn : Room := { frames := 7, cells := 2, slots := 12, locals := 113 }
def o_X4_firesIn : (Int32 × sk_N × sk_N) → Option Value := fun r => some (.int r.1)
def w_X4_firesIn (G : sk_G) (u0 u1 u2 u3 u4 : Nat → Nat) (a0_ahead a0_savings a0_script : Nat) (S1 : sk_N) (S2 : sk_N) : (Int32 × sk_N × sk_N) → sk_B := fun r => [(pc_W u0 (u1 0) (u3 0) a0_ahead a0_savings a0_script), (nt_W G u1 (u2 0) S1), (lg_W G u2 S2), (nt_W G u3 (u4 0) r.2.1), (lg_W G u4 r.2.2)]
set_option maxHeartbeats 4000000 in
set_option maxRecDepth 100000 in
theorem c_X4_firesIn (l : Launch) (hl0 : l.stackTraces = false) (t : Nat) (G : sk_G) (u0 u1 u2 u3 u4 : Nat → Nat) (a0_ahead a0_savings a0_script : Nat) (S1 : sk_N) (S2 : sk_N) (S3 : sk_N) (S4 : sk_N) (p1 : Int32) (p2 : Int32) : sk_xtr l G t yX4_firesIn cX4_firesIn 4 (some .int) rm_X4_firesIn 2 12 [.ref (u0 0), .int p1, .int p2] [(pc_W u0 (u1 0) (u3 0) a0_ahead a0_savings a0_script), (nt_W G u1 (u2 0) S1), (lg_W G u2 S2), (nt_W G u3 (u4 0) S3), (lg_W G u4 S4)] (m_X4_firesIn S1 S2 S3 S4 p1 p2) o_X4_firesIn (w_X4_firesIn G u0 u1 u2 u3 u4 a0_ahead a0_savings a0_script S1 S2) := by
  refine sk_xentry hl0 (own := RX4) (by decide) rfl (lv0 := [some (.ref (u0 0)), some (.int p1), some (.int p2), none]) rfl (Nat.le_of_ble_eq_true rfl) ?_
  intro Γ X E
  have h22 : ∀ s22 : sk_N × sk_N × Int32, sk_S Γ (sk_Φx Γ o_X4_firesIn (w_X4_firesIn G u0 u1 u2 u3 u4 a0_ahead a0_savings a0_script S1 S2) [(pc_W u0 (u1 0) (u3 0) a0_ahead a0_savings a0_script), (nt_W G u1 (u2 0) S1), (lg_W G u2 S2), (nt_W G u3 (u4 0) S3), (lg_W G u4 S4)] 2 12) 2 12 (m_X4_firesIn_22 S1 S2 p1 p2 s22) [(pc_W u0 (u1 0) (u3 0) a0_ahead a0_savings a0_script), (nt_W G u1 (u2 0) S1), (lg_W G u2 S2), (nt_W G u3 (u4 0) s22.1), (lg_W G u4 s22.2.1)] [some (.ref (u0 0)), some (.int p1), some (.int p2), some (.int s22.2.2)] 22 [] := by
    intro s22
    unfold m_X4_firesIn_22
    refine sk_loop (bsf := fun s22 => [(pc_W u0 (u1 0) (u3 0) a0_ahead a0_savings a0_script), (nt_W G u1 (u2 0) S1), (lg_W G u2 S2), (nt_W G u3 (u4 0) s22.1), (lg_W G u4 s22.2.1)]) (lvf := fun s22 => [some (.ref (u0 0)), some (.int p1), some (.int p2), some (.int s22.2.2)]) ?_ sk_fuel s22
    intro k22 s22 ih22
    unfold m_X4_firesIn_22_step
    refine sk_iload_n (pc' := 23) X rfl dX4_firesIn_22 rfl ?_
    refine sk_iload_n (pc' := 24) X rfl dX4_firesIn_23 rfl ?_
    refine sk_icmp_gt (tgt := 55) (pc' := 27) X dX4_firesIn_24 rfl rfl ?_ ?_
    · refine sk_iconst (pc' := 56) X ic_m1 dX4_firesIn_55 rfl ?_
      exact sk_xiret X (Nat.le_of_ble_eq_true rfl) (Nat.le_of_ble_eq_true rfl) rfl rfl dX4_firesIn_56
    · refine sk_aload_n (pc' := 28) X rfl dX4_firesIn_27 rfl ?_
      refine sk_getf (pc' := 31) X 0 0 1 in_RX4 rfl rfl rfl (Nat.le_of_ble_eq_true rfl) fl_RX4_16 rfl dX4_firesIn_28 rfl ?_
      refine sk_iconst (pc' := 32) X ic_1 dX4_firesIn_31 rfl ?_
      refine sk_callV (bs2 := fun r32 => [(pc_W u0 (u1 0) (u3 0) a0_ahead a0_savings a0_script), (nt_W G u1 (u2 0) S1), (lg_W G u2 S2), (nt_W G u3 (u4 0) r32.2.1), (lg_W G u4 r32.2.2)]) (st := []) (st2 := fun r32 => [.int r32.1]) (As := [.int (1 : Int32)]) (pc' := 35) X (c_X1_passTicks l G u3 u4 s22.1 s22.2.1 (1 : Int32)) lk_RX4_151 [3, 4] rfl (by decide) (fun _ => rfl) rfl rfl rfl ⟨(Nat.le_of_ble_eq_true rfl), (Nat.le_of_ble_eq_true rfl)⟩ ⟨rfl, rfl⟩ ⟨(Nat.le_of_ble_eq_true rfl), (Nat.le_of_ble_eq_true rfl)⟩ rfl (Nat.le_of_ble_eq_true rfl) rfl dX4_firesIn_32 rfl (fun _ => rfl) (fun _ => rfl) (fun r32 => ?_)
      refine sk_pop (pc' := 36) X rfl dX4_firesIn_35 rfl ?_
      refine sk_aload_n (pc' := 37) X rfl dX4_firesIn_36 rfl ?_
      refine sk_getf (pc' := 40) X 0 0 1 in_RX4 rfl rfl rfl (Nat.le_of_ble_eq_true rfl) fl_RX4_16 rfl dX4_firesIn_37 rfl ?_
      refine sk_iload_n (pc' := 41) X rfl dX4_firesIn_40 rfl ?_
      refine sk_callV (bs2 := fun r41 => [(pc_W u0 (u1 0) (u3 0) a0_ahead a0_savings a0_script), (nt_W G u1 (u2 0) S1), (lg_W G u2 S2), (nt_W G u3 (u4 0) r32.2.1), (lg_W G u4 r32.2.2)]) (st := []) (st2 := fun r41 => [.int r41]) (As := [.int p1]) (pc' := 44) X (c_X1_hasFired l G u3 (u4 0) r32.2.1 p1) lk_RX4_222 [3] rfl (by decide) (fun _ => rfl) rfl rfl rfl ⟨(Nat.le_of_ble_eq_true rfl), (Nat.le_of_ble_eq_true rfl)⟩ ⟨rfl, rfl⟩ ⟨(Nat.le_of_ble_eq_true rfl), (Nat.le_of_ble_eq_true rfl)⟩ rfl (Nat.le_of_ble_eq_true rfl) rfl dX4_firesIn_41 rfl (fun _ => rfl) (fun _ => rfl) (fun r41 => ?_)
      refine sk_if_eq (tgt := 49) (pc' := 47) X dX4_firesIn_44 rfl rfl ?_ ?_
      · refine sk_iinc (lv' := [some (.ref (u0 0)), some (.int p1), some (.int p2), some (.int (s22.2.2 + (1 : Int32)))]) (pc' := 52) X rfl ic_1 (Nat.le_of_ble_eq_true rfl) rfl rfl dX4_firesIn_49 rfl ?_
        refine sk_goto (tgt := 22) X dX4_firesIn_52 rfl ?_
        exact (ih22 (r32.2.1, r32.2.2, (s22.2.2 + (1 : Int32))))
      · refine sk_iload_n (pc' := 48) X rfl dX4_firesIn_47 rfl ?_
        exact sk_xiret X (Nat.le_of_ble_eq_true rfl) (Nat.le_of_ble_eq_true rfl) rfl rfl dX4_firesIn_48
  unfold m_X4_firesIn
  refine sk_aload_n (pc' := 1) X rfl dX4_firesIn_0 rfl ?_
  refine sk_iload_n (pc' := 2) X rfl dX4_firesIn_1 rfl ?_
  refine sk_callVX (bs2 := fun r2 => [(pc_W u0 (u1 0) (u3 0) a0_ahead a0_savings a0_script), (nt_W G u1 (u2 0) S1), (lg_W G u2 S2), (nt_W G u3 (u4 0) S3), (lg_W G u4 S4)]) (st := []) (st2 := fun r2 => []) (As := [.int p1]) (pc' := 5) X E (c_X4_requireClock l hl0 t G u0 u1 (u3 0) a0_ahead a0_savings a0_script (u2 0) S1 p1) lk_RX4_59 [0, 1] rfl (by decide) (fun _ => rfl) rfl rfl rfl ⟨(Nat.le_of_ble_eq_true rfl), (Nat.le_of_ble_eq_true rfl)⟩ ⟨rfl, rfl⟩ ⟨(Nat.le_of_ble_eq_true rfl), (Nat.le_of_ble_eq_true rfl)⟩ ⟨(Nat.le_of_ble_eq_true rfl), (Nat.le_of_ble_eq_true rfl)⟩ rfl (Nat.le_of_ble_eq_true rfl) rfl dX4_firesIn_2 rfl (fun _ => rfl) rfl (fun _ => rfl) (fun r2 => ?_)
  refine sk_iload_n (pc' := 6) X rfl dX4_firesIn_5 rfl ?_
  refine sk_callSX (bs2 := fun r6 => [(pc_W u0 (u1 0) (u3 0) a0_ahead a0_savings a0_script), (nt_W G u1 (u2 0) S1), (lg_W G u2 S2), (nt_W G u3 (u4 0) S3), (lg_W G u4 S4)]) (st := []) (st2 := fun r6 => []) (As := [.int p2]) (pc' := 9) X E (c_X4_requireLimit l hl0 t G p2) lk_RX4_200 [] rfl (by decide) (fun _ => rfl)  ⟨(Nat.le_of_ble_eq_true rfl), (Nat.le_of_ble_eq_true rfl)⟩ ⟨rfl, rfl⟩ ⟨(Nat.le_of_ble_eq_true rfl), (Nat.le_of_ble_eq_true rfl)⟩ ⟨(Nat.le_of_ble_eq_true rfl), (Nat.le_of_ble_eq_true rfl)⟩ rfl (Nat.le_of_ble_eq_true rfl) rfl dX4_firesIn_6 rfl (fun _ => rfl) rfl (fun _ => rfl) (fun r6 => ?_)
  refine sk_aload_n (pc' := 10) X rfl dX4_firesIn_9 rfl ?_
  refine sk_getf (pc' := 13) X 0 0 1 in_RX4 rfl rfl rfl (Nat.le_of_ble_eq_true rfl) fl_RX4_16 rfl dX4_firesIn_10 rfl ?_
  refine sk_aload_n (pc' := 14) X rfl dX4_firesIn_13 rfl ?_
  refine sk_getf (pc' := 17) X 0 0 0 in_RX4 rfl rfl rfl (Nat.le_of_ble_eq_true rfl) fl_RX4_10 rfl dX4_firesIn_14 rfl ?_
  refine sk_callV (bs2 := fun r17 => [(pc_W u0 (u1 0) (u3 0) a0_ahead a0_savings a0_script), (nt_W G u1 (u2 0) S1), (lg_W G u2 S2), (nt_W G u3 (u4 0) r17.1), (lg_W G u4 r17.2)]) (st := []) (st2 := fun r17 => []) (As := [.ref (u1 0)]) (pc' := 20) X (c_X1_copyFrom l G u3 u4 u1 u2 S3 S4 S1 S2) lk_RX4_203 [3, 4, 1, 2] rfl (by decide) (fun _ => rfl) rfl rfl rfl ⟨(Nat.le_of_ble_eq_true rfl), (Nat.le_of_ble_eq_true rfl)⟩ ⟨rfl, rfl⟩ ⟨(Nat.le_of_ble_eq_true rfl), (Nat.le_of_ble_eq_true rfl)⟩ rfl (Nat.le_of_ble_eq_true rfl) rfl dX4_firesIn_17 rfl (fun _ => rfl) (fun _ => rfl) (fun r17 => ?_)
  refine sk_iconst (pc' := 21) X ic_1 dX4_firesIn_20 rfl ?_
  refine sk_istore_n (lv' := [some (.ref (u0 0)), some (.int p1), some (.int p2), some (.int (1 : Int32))]) (pc' := 22) X (Nat.le_of_ble_eq_true rfl) rfl rfl dX4_firesIn_21 rfl ?_
  exact (h22 (r17.1, r17.2, (1 : Int32)))
def rm_X4_append : Room := { frames := 6, cells := 1, slots := 6, locals := 90 }
def o_X4_append : (Int32 × sk_N) → Option Value := fun r => some (.int r.1)
def w_X4_append (G : sk_G) (u0 u1 : Nat → Nat) (a0_network a0_thought a0_ahead a0_savings : Nat) : (Int32 × sk_N) → sk_B := fun r => [(pc_W u0 a0_network a0_thought a0_ahead a0_savings (u1 0)), (sc_W G u1 r.2)]
set_option maxHeartbeats 4000000 in
set_option maxRecDepth 100000 in
theorem c_X4_append (l : Launch) (hl0 : l.stackTraces = false) (t : Nat) (G : sk_G) (u0 u1 : Nat → Nat) (a0_network a0_thought a0_ahead a0_savings : Nat) (S1 : sk_N) (p1 : Int32) : sk_xtr l G t yX4_append cX4_append 2 (some .int) rm_X4_append 1 6 [.ref (u0 0), .int p1] [(pc_W u0 a0_network a0_thought a0_ahead a0_savings (u1 0)), (sc_W G u1 S1)] (m_X4_append S1 p1) o_X4_append (w_X4_append G u0 u1 a0_network a0_thought a0_ahead a0_savings) := by
  refine sk_xentry hl0 (own := RX4) (by decide) rfl (lv0 := [some (.ref (u0 0)), some (.int p1)]) rfl (Nat.le_of_ble_eq_true rfl) ?_
  intro Γ X E
  unfold m_X4_append
  refine sk_iload_n (pc' := 1) X rfl dX4_append_0 rfl ?_
  refine sk_if_lt (tgt := 10) (pc' := 4) X dX4_append_1 rfl rfl ?_ ?_
  · exact sk_xthrow X E 1 tw_1 xs_225 (by decide) (Nat.le_of_ble_eq_true rfl) (Nat.le_of_ble_eq_true rfl) (Nat.le_of_ble_eq_true rfl) (Nat.le_of_ble_eq_true rfl) ⟨(Nat.le_of_ble_eq_true rfl), (Nat.le_of_ble_eq_true rfl)⟩ dX4_append_10 dX4_append_13 dX4_append_14 dX4_append_16 dX4_append_19
  · refine sk_iload_n (pc' := 5) X rfl dX4_append_4 rfl ?_
    refine sk_bipush (pc' := 7) X bp_127 dX4_append_5 rfl ?_
    refine sk_icmp_le (tgt := 20) (pc' := 10) X dX4_append_7 rfl rfl ?_ ?_
    · refine sk_aload_n (pc' := 21) X rfl dX4_append_20 rfl ?_
      refine sk_getf (pc' := 24) X 0 0 4 in_RX4 rfl rfl rfl (Nat.le_of_ble_eq_true rfl) fl_RX4_32 rfl dX4_append_21 rfl ?_
      refine sk_callV (bs2 := fun r24 => [(pc_W u0 a0_network a0_thought a0_ahead a0_savings (u1 0)), (sc_W G u1 S1)]) (st := []) (st2 := fun r24 => [.int r24]) (As := []) (pc' := 27) X (c_X3_isFull l G u1 S1) lk_RX4_227 [1] rfl (by decide) (fun _ => rfl) rfl rfl rfl ⟨(Nat.le_of_ble_eq_true rfl), (Nat.le_of_ble_eq_true rfl)⟩ ⟨rfl, rfl⟩ ⟨(Nat.le_of_ble_eq_true rfl), (Nat.le_of_ble_eq_true rfl)⟩ rfl (Nat.le_of_ble_eq_true rfl) rfl dX4_append_24 rfl (fun _ => rfl) (fun _ => rfl) (fun r24 => ?_)
      refine sk_if_eq (tgt := 40) (pc' := 30) X dX4_append_27 rfl rfl ?_ ?_
      · refine sk_aload_n (pc' := 41) X rfl dX4_append_40 rfl ?_
        refine sk_getf (pc' := 44) X 0 0 4 in_RX4 rfl rfl rfl (Nat.le_of_ble_eq_true rfl) fl_RX4_32 rfl dX4_append_41 rfl ?_
        refine sk_iload_n (pc' := 45) X rfl dX4_append_44 rfl ?_
        refine sk_callV (bs2 := fun r45 => [(pc_W u0 a0_network a0_thought a0_ahead a0_savings (u1 0)), (sc_W G u1 r45)]) (st := []) (st2 := fun r45 => []) (As := [.int p1]) (pc' := 48) X (c_X3_put l G u1 S1 p1) lk_RX4_230 [1] rfl (by decide) (fun _ => rfl) rfl rfl rfl ⟨(Nat.le_of_ble_eq_true rfl), (Nat.le_of_ble_eq_true rfl)⟩ ⟨rfl, rfl⟩ ⟨(Nat.le_of_ble_eq_true rfl), (Nat.le_of_ble_eq_true rfl)⟩ rfl (Nat.le_of_ble_eq_true rfl) rfl dX4_append_45 rfl (fun _ => rfl) (fun _ => rfl) (fun r45 => ?_)
        refine sk_aload_n (pc' := 49) X rfl dX4_append_48 rfl ?_
        refine sk_getf (pc' := 52) X 0 0 4 in_RX4 rfl rfl rfl (Nat.le_of_ble_eq_true rfl) fl_RX4_32 rfl dX4_append_49 rfl ?_
        refine sk_getf (pc' := 55) X 1 0 0 in_RX3 rfl rfl rfl (Nat.le_of_ble_eq_true rfl) fl_RX4_233 rfl dX4_append_52 rfl ?_
        exact sk_xiret X (Nat.le_of_ble_eq_true rfl) (Nat.le_of_ble_eq_true rfl) rfl rfl dX4_append_55
      · exact sk_xthrow X E 2 tw_2 xs_228 (by decide) (Nat.le_of_ble_eq_true rfl) (Nat.le_of_ble_eq_true rfl) (Nat.le_of_ble_eq_true rfl) (Nat.le_of_ble_eq_true rfl) ⟨(Nat.le_of_ble_eq_true rfl), (Nat.le_of_ble_eq_true rfl)⟩ dX4_append_30 dX4_append_33 dX4_append_34 dX4_append_36 dX4_append_39
    · exact sk_xthrow X E 1 tw_1 xs_225 (by decide) (Nat.le_of_ble_eq_true rfl) (Nat.le_of_ble_eq_true rfl) (Nat.le_of_ble_eq_true rfl) (Nat.le_of_ble_eq_true rfl) ⟨(Nat.le_of_ble_eq_true rfl), (Nat.le_of_ble_eq_true rfl)⟩ dX4_append_10 dX4_append_13 dX4_append_14 dX4_append_16 dX4_append_19
def rm_X4_undo : Room := { frames := 6, cells := 1, slots := 6, locals := 103 }
def o_X4_undo : (Int32 × sk_N × sk_N × sk_N) → Option Value := fun r => some (.int r.1)
def w_X4_undo (G : sk_G) (u0 u1 u2 u3 u4 u5 u6 u7 u8 u9 u10 u11 : Nat → Nat) (a0_thought a0_ahead a0_script : Nat) (S4 : sk_N) (S5 : sk_N) (S6 : sk_N) (S7 : sk_N) (S8 : sk_N) (S9 : sk_N) (S10 : sk_N) (S11 : sk_N) : (Int32 × sk_N × sk_N × sk_N) → sk_B := fun r => [(pc_W u0 (u1 0) a0_thought a0_ahead (u3 0) a0_script), (nt_W G u1 (u2 0) r.2.1), (lg_W G u2 r.2.2.1), (sv_W G u3 (u4 0) (u6 0) (u8 0) (u10 0) r.2.2.2), (nt_W G u4 (u5 0) S4), (lg_W G u5 S5), (nt_W G u6 (u7 0) S6), (lg_W G u7 S7), (nt_W G u8 (u9 0) S8), (lg_W G u9 S9), (nt_W G u10 (u11 0) S10), (lg_W G u11 S11)]
set_option maxHeartbeats 4000000 in
set_option maxRecDepth 100000 in
theorem c_X4_undo (l : Launch) (hl0 : l.stackTraces = false) (t : Nat) (G : sk_G) (u0 u1 u2 u3 u4 u5 u6 u7 u8 u9 u10 u11 : Nat → Nat) (a0_thought a0_ahead a0_script : Nat) (S1 : sk_N) (S2 : sk_N) (S3 : sk_N) (S4 : sk_N) (S5 : sk_N) (S6 : sk_N) (S7 : sk_N) (S8 : sk_N) (S9 : sk_N) (S10 : sk_N) (S11 : sk_N) : sk_xtr l G t yX4_undo cX4_undo 1 (some .int) rm_X4_undo 1 6 [.ref (u0 0)] [(pc_W u0 (u1 0) a0_thought a0_ahead (u3 0) a0_script), (nt_W G u1 (u2 0) S1), (lg_W G u2 S2), (sv_W G u3 (u4 0) (u6 0) (u8 0) (u10 0) S3), (nt_W G u4 (u5 0) S4), (lg_W G u5 S5), (nt_W G u6 (u7 0) S6), (lg_W G u7 S7), (nt_W G u8 (u9 0) S8), (lg_W G u9 S9), (nt_W G u10 (u11 0) S10), (lg_W G u11 S11)] (m_X4_undo S1 S2 S3 S4 S5 S6 S7 S8 S9 S10 S11) o_X4_undo (w_X4_undo G u0 u1 u2 u3 u4 u5 u6 u7 u8 u9 u10 u11 a0_thought a0_ahead a0_script S4 S5 S6 S7 S8 S9 S10 S11) := by
  refine sk_xentry hl0 (own := RX4) (by decide) rfl (lv0 := [some (.ref (u0 0))]) rfl (Nat.le_of_ble_eq_true rfl) ?_
  intro Γ X E
  unfold m_X4_undo
  refine sk_aload_n (pc' := 1) X rfl dX4_undo_0 rfl ?_
  refine sk_getf (pc' := 4) X 0 0 3 in_RX4 rfl rfl rfl (Nat.le_of_ble_eq_true rfl) fl_RX4_25 rfl dX4_undo_1 rfl ?_
  refine sk_getf (pc' := 7) X 3 0 2 in_RX2 rfl rfl rfl (Nat.le_of_ble_eq_true rfl) fl_RX4_248 rfl dX4_undo_4 rfl ?_
  refine sk_if_ne (tgt := 20) (pc' := 10) X dX4_undo_7 rfl rfl ?_ ?_
  · refine sk_aload_n (pc' := 21) X rfl dX4_undo_20 rfl ?_
    refine sk_getf (pc' := 24) X 0 0 3 in_RX4 rfl rfl rfl (Nat.le_of_ble_eq_true rfl) fl_RX4_25 rfl dX4_undo_21 rfl ?_
    refine sk_aload_n (pc' := 25) X rfl dX4_undo_24 rfl ?_
    refine sk_getf (pc' := 28) X 0 0 0 in_RX4 rfl rfl rfl (Nat.le_of_ble_eq_true rfl) fl_RX4_10 rfl dX4_undo_25 rfl ?_
    refine sk_callV (bs2 := fun r28 => [(pc_W u0 (u1 0) a0_thought a0_ahead (u3 0) a0_script), (nt_W G u1 (u2 0) r28.2.1), (lg_W G u2 r28.2.2), (sv_W G u3 (u4 0) (u6 0) (u8 0) (u10 0) r28.1), (nt_W G u4 (u5 0) S4), (lg_W G u5 S5), (nt_W G u6 (u7 0) S6), (lg_W G u7 S7), (nt_W G u8 (u9 0) S8), (lg_W G u9 S9), (nt_W G u10 (u11 0) S10), (lg_W G u11 S11)]) (st := []) (st2 := fun r28 => []) (As := [.ref (u1 0)]) (pc' := 31) X (c_X2_restore l G u3 u4 u5 u6 u7 u8 u9 u10 u11 u1 u2 S3 S4 S5 S6 S7 S8 S9 S10 S11 S1 S2) lk_RX4_253 [3, 4, 5, 6, 7, 8, 9, 10, 11, 1, 2] rfl (by decide) (fun _ => rfl) rfl rfl rfl ⟨(Nat.le_of_ble_eq_true rfl), (Nat.le_of_ble_eq_true rfl)⟩ ⟨rfl, rfl⟩ ⟨(Nat.le_of_ble_eq_true rfl), (Nat.le_of_ble_eq_true rfl)⟩ rfl (Nat.le_of_ble_eq_true rfl) rfl dX4_undo_28 rfl (fun _ => rfl) (fun _ => rfl) (fun r28 => ?_)
    refine sk_aload_n (pc' := 32) X rfl dX4_undo_31 rfl ?_
    refine sk_getf (pc' := 35) X 0 0 3 in_RX4 rfl rfl rfl (Nat.le_of_ble_eq_true rfl) fl_RX4_25 rfl dX4_undo_32 rfl ?_
    refine sk_getf (pc' := 38) X 3 0 2 in_RX2 rfl rfl rfl (Nat.le_of_ble_eq_true rfl) fl_RX4_248 rfl dX4_undo_35 rfl ?_
    exact sk_xiret X (Nat.le_of_ble_eq_true rfl) (Nat.le_of_ble_eq_true rfl) rfl rfl dX4_undo_38
  · exact sk_xthrow X E 2 tw_2 xs_251 (by decide) (Nat.le_of_ble_eq_true rfl) (Nat.le_of_ble_eq_true rfl) (Nat.le_of_ble_eq_true rfl) (Nat.le_of_ble_eq_true rfl) ⟨(Nat.le_of_ble_eq_true rfl), (Nat.le_of_ble_eq_true rfl)⟩ dX4_undo_10 dX4_undo_13 dX4_undo_14 dX4_undo_16 dX4_undo_19
