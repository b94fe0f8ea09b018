def rm_X1_phaseOfGroup : Room := { frames := 2, cells := 0, slots := 0, locals := 44 }
def o_X1_phaseOfGroup : (Int32) → Option Value := fun r => some (.int r)
def w_X1_phaseOfGroup (G : sk_G) (u0 : Nat → Nat) (a0_log : Nat) (S0 : sk_N) : (Int32) → sk_B := fun r => [(nt_W G u0 a0_log S0)]
set_option maxHeartbeats 4000000 in
set_option maxRecDepth 100000 in
theorem c_X1_phaseOfGroup (l : Launch) (G : sk_G) (u0 : Nat → Nat) (a0_log : Nat) (S0 : sk_N) (p1 : Int32) : sk_ctr l G yX1_phaseOfGroup cX1_phaseOfGroup 4 (some .int) rm_X1_phaseOfGroup [.ref (u0 0), .int p1] [(nt_W G u0 a0_log S0)] (m_X1_phaseOfGroup S0 p1) o_X1_phaseOfGroup (w_X1_phaseOfGroup G u0 a0_log S0) := by
  refine sk_entry (own := RX1) (by decide) rfl (lv0 := [some (.ref (u0 0)), some (.int p1), none, none]) rfl (Nat.le_of_ble_eq_true rfl) ?_
  intro Γ X
  have h4 : ∀ s4 : Int32 × Int32, sk_S Γ (sk_Φ Γ o_X1_phaseOfGroup (w_X1_phaseOfGroup G u0 a0_log S0)) 0 0 (m_X1_phaseOfGroup_4 S0 p1 s4) [(nt_W G u0 a0_log S0)] [some (.ref (u0 0)), some (.int p1), some (.int s4.1), some (.int s4.2)] 4 [] := by
    intro s4
    unfold m_X1_phaseOfGroup_4
    refine sk_loop (bsf := fun s4 => [(nt_W G u0 a0_log S0)]) (lvf := fun s4 => [some (.ref (u0 0)), some (.int p1), some (.int s4.1), some (.int s4.2)]) ?_ sk_fuel s4
    intro k4 s4 ih4
    unfold m_X1_phaseOfGroup_4_step
    refine sk_iload_n (pc' := 5) X rfl dX1_phaseOfGroup_4 rfl ?_
    refine sk_aload_n (pc' := 6) X rfl dX1_phaseOfGroup_5 rfl ?_
    refine sk_getf (pc' := 9) X 0 0 1 in_RX1 rfl rfl rfl (Nat.le_of_ble_eq_true rfl) fl_RX1_9 rfl dX1_phaseOfGroup_6 rfl ?_
    refine sk_icmp_ge (tgt := 36) (pc' := 12) X dX1_phaseOfGroup_9 rfl rfl ?_ ?_
    · refine sk_iconst (pc' := 37) X ic_m1 dX1_phaseOfGroup_36 rfl ?_
      exact sk_iret X rfl rfl dX1_phaseOfGroup_37
    · refine sk_aload_n (pc' := 13) X rfl dX1_phaseOfGroup_12 rfl ?_
      refine sk_iload_n (pc' := 14) X rfl dX1_phaseOfGroup_13 rfl ?_
      refine sk_callV (bs2 := fun r14 => [(nt_W G u0 a0_log S0)]) (st := []) (st2 := fun r14 => [.int r14]) (As := [.int s4.2]) (pc' := 17) X (c_X1_goodClocksAt l G u0 a0_log S0 s4.2) lk_RX1_142 [0] rfl (by decide) (fun _ => rfl) rfl rfl rfl ⟨(Nat.le_of_ble_eq_true rfl), (Nat.le_of_ble_eq_true rfl)⟩ ⟨rfl, rfl⟩ ⟨(Nat.le_of_ble_eq_true rfl), (Nat.le_of_ble_eq_true rfl)⟩ rfl (Nat.le_of_ble_eq_true rfl) rfl dX1_phaseOfGroup_14 rfl (fun _ => rfl) (fun _ => rfl) (fun r14 => ?_)
      refine sk_if_eq (tgt := 30) (pc' := 20) X dX1_phaseOfGroup_17 rfl rfl ?_ ?_
      · refine sk_iinc (lv' := [some (.ref (u0 0)), some (.int p1), some (.int s4.1), some (.int (s4.2 + (1 : Int32)))]) (pc' := 33) X rfl ic_1 (Nat.le_of_ble_eq_true rfl) rfl rfl dX1_phaseOfGroup_30 rfl ?_
        refine sk_goto (tgt := 4) X dX1_phaseOfGroup_33 rfl ?_
        exact (ih4 (s4.1, (s4.2 + (1 : Int32))))
      · refine sk_iload_n (pc' := 21) X rfl dX1_phaseOfGroup_20 rfl ?_
        refine sk_iload_n (pc' := 22) X rfl dX1_phaseOfGroup_21 rfl ?_
        refine sk_icmp_ne (tgt := 27) (pc' := 25) X dX1_phaseOfGroup_22 rfl rfl ?_ ?_
        · refine sk_iinc (lv' := [some (.ref (u0 0)), some (.int p1), some (.int (s4.1 + (1 : Int32))), some (.int s4.2)]) (pc' := 30) X rfl ic_1 (Nat.le_of_ble_eq_true rfl) rfl rfl dX1_phaseOfGroup_27 rfl ?_
          refine sk_iinc (lv' := [some (.ref (u0 0)), some (.int p1), some (.int (s4.1 + (1 : Int32))), some (.int (s4.2 + (1 : Int32)))]) (pc' := 33) X rfl ic_1 (Nat.le_of_ble_eq_true rfl) rfl rfl dX1_phaseOfGroup_30 rfl ?_
          refine sk_goto (tgt := 4) X dX1_phaseOfGroup_33 rfl ?_
          exact (ih4 ((s4.1 + (1 : Int32)), (s4.2 + (1 : Int32))))
        · refine sk_iload_n (pc' := 26) X rfl dX1_phaseOfGroup_25 rfl ?_
          exact sk_iret X rfl rfl dX1_phaseOfGroup_26
  unfold m_X1_phaseOfGroup
  refine sk_iconst (pc' := 1) X ic_0 dX1_phaseOfGroup_0 rfl ?_
  refine sk_istore_n (lv' := [some (.ref (u0 0)), some (.int p1), some (.int (0 : Int32)), none]) (pc' := 2) X (Nat.le_of_ble_eq_true rfl) rfl rfl dX1_phaseOfGroup_1 rfl ?_
  refine sk_iconst (pc' := 3) X ic_0 dX1_phaseOfGroup_2 rfl ?_
  refine sk_istore_n (lv' := [some (.ref (u0 0)), some (.int p1), some (.int (0 : Int32)), some (.int (0 : Int32))]) (pc' := 4) X (Nat.le_of_ble_eq_true rfl) rfl rfl dX1_phaseOfGroup_3 rfl ?_
  exact (h4 ((0 : Int32), (0 : Int32)))
def rm_X1_numberOfGroup : Room := { frames := 2, cells := 0, slots := 0, locals := 44 }
def o_X1_numberOfGroup : (Int32) → Option Value := fun r => some (.int r)
def w_X1_numberOfGroup (G : sk_G) (u0 : Nat → Nat) (a0_log : Nat) (S0 : sk_N) : (Int32) → sk_B := fun r => [(nt_W G u0 a0_log S0)]
set_option maxHeartbeats 4000000 in
set_option maxRecDepth 100000 in
theorem c_X1_numberOfGroup (l : Launch) (G : sk_G) (u0 : Nat → Nat) (a0_log : Nat) (S0 : sk_N) (p1 : Int32) : sk_ctr l G yX1_numberOfGroup cX1_numberOfGroup 4 (some .int) rm_X1_numberOfGroup [.ref (u0 0), .int p1] [(nt_W G u0 a0_log S0)] (m_X1_numberOfGroup S0 p1) o_X1_numberOfGroup (w_X1_numberOfGroup G u0 a0_log S0) := by
  refine sk_entry (own := RX1) (by decide) rfl (lv0 := [some (.ref (u0 0)), some (.int p1), none, none]) rfl (Nat.le_of_ble_eq_true rfl) ?_
  intro Γ X
  have h14 : ∀ s14 : Int32 × Int32, sk_S Γ (sk_Φ Γ o_X1_numberOfGroup (w_X1_numberOfGroup G u0 a0_log S0)) 0 0 (m_X1_numberOfGroup_14 S0 p1 s14) [(nt_W G u0 a0_log S0)] [some (.ref (u0 0)), some (.int p1), some (.int s14.1), some (.int s14.2)] 14 [] := by
    intro s14
    unfold m_X1_numberOfGroup_14
    refine sk_loop (bsf := fun s14 => [(nt_W G u0 a0_log S0)]) (lvf := fun s14 => [some (.ref (u0 0)), some (.int p1), some (.int s14.1), some (.int s14.2)]) ?_ sk_fuel s14
    intro k14 s14 ih14
    unfold m_X1_numberOfGroup_14_step
    refine sk_iload_n (pc' := 15) X rfl dX1_numberOfGroup_14 rfl ?_
    refine sk_aload_n (pc' := 16) X rfl dX1_numberOfGroup_15 rfl ?_
    refine sk_getf (pc' := 19) X 0 0 6 in_RX1 rfl rfl rfl (Nat.le_of_ble_eq_true rfl) fl_RX1_26 rfl dX1_numberOfGroup_16 rfl ?_
    refine sk_iload_n (pc' := 20) X rfl dX1_numberOfGroup_19 rfl ?_
    refine sk_iald (pc' := 21) X 0 2 rfl rfl dX1_numberOfGroup_20 rfl ?_
    refine sk_icmp_ge (tgt := 41) (pc' := 24) X dX1_numberOfGroup_21 rfl rfl ?_ ?_
    · refine sk_iload_n (pc' := 42) X rfl dX1_numberOfGroup_41 rfl ?_
      exact sk_iret X rfl rfl dX1_numberOfGroup_42
    · refine sk_aload_n (pc' := 25) X rfl dX1_numberOfGroup_24 rfl ?_
      refine sk_iload_n (pc' := 26) X rfl dX1_numberOfGroup_25 rfl ?_
      refine sk_callV (bs2 := fun r26 => [(nt_W G u0 a0_log S0)]) (st := []) (st2 := fun r26 => [.int r26]) (As := [.int s14.2]) (pc' := 29) X (c_X1_goodClocksAt l G u0 a0_log S0 s14.2) lk_RX1_142 [0] rfl (by decide) (fun _ => rfl) rfl rfl rfl ⟨(Nat.le_of_ble_eq_true rfl), (Nat.le_of_ble_eq_true rfl)⟩ ⟨rfl, rfl⟩ ⟨(Nat.le_of_ble_eq_true rfl), (Nat.le_of_ble_eq_true rfl)⟩ rfl (Nat.le_of_ble_eq_true rfl) rfl dX1_numberOfGroup_26 rfl (fun _ => rfl) (fun _ => rfl) (fun r26 => ?_)
      refine sk_if_eq (tgt := 35) (pc' := 32) X dX1_numberOfGroup_29 rfl rfl ?_ ?_
      · refine sk_iinc (lv' := [some (.ref (u0 0)), some (.int p1), some (.int s14.1), some (.int (s14.2 + (1 : Int32)))]) (pc' := 38) X rfl ic_1 (Nat.le_of_ble_eq_true rfl) rfl rfl dX1_numberOfGroup_35 rfl ?_
        refine sk_goto (tgt := 14) X dX1_numberOfGroup_38 rfl ?_
        exact (ih14 (s14.1, (s14.2 + (1 : Int32))))
      · refine sk_iinc (lv' := [some (.ref (u0 0)), some (.int p1), some (.int (s14.1 + (1 : Int32))), some (.int s14.2)]) (pc' := 35) X rfl ic_1 (Nat.le_of_ble_eq_true rfl) rfl rfl dX1_numberOfGroup_32 rfl ?_
        refine sk_iinc (lv' := [some (.ref (u0 0)), some (.int p1), some (.int (s14.1 + (1 : Int32))), some (.int (s14.2 + (1 : Int32)))]) (pc' := 38) X rfl ic_1 (Nat.le_of_ble_eq_true rfl) rfl rfl dX1_numberOfGroup_35 rfl ?_
        refine sk_goto (tgt := 14) X dX1_numberOfGroup_38 rfl ?_
        exact (ih14 ((s14.1 + (1 : Int32)), (s14.2 + (1 : Int32))))
  unfold m_X1_numberOfGroup
  refine sk_aload_n (pc' := 1) X rfl dX1_numberOfGroup_0 rfl ?_
  refine sk_iload_n (pc' := 2) X rfl dX1_numberOfGroup_1 rfl ?_
  refine sk_callV (bs2 := fun r2 => [(nt_W G u0 a0_log S0)]) (st := []) (st2 := fun r2 => [.int r2]) (As := [.int p1]) (pc' := 5) X (c_X1_isGood l G u0 a0_log S0 p1) lk_RX1_66 [0] rfl (by decide) (fun _ => rfl) rfl rfl rfl ⟨(Nat.le_of_ble_eq_true rfl), (Nat.le_of_ble_eq_true rfl)⟩ ⟨rfl, rfl⟩ ⟨(Nat.le_of_ble_eq_true rfl), (Nat.le_of_ble_eq_true rfl)⟩ rfl (Nat.le_of_ble_eq_true rfl) rfl dX1_numberOfGroup_2 rfl (fun _ => rfl) (fun _ => rfl) (fun r2 => ?_)
  refine sk_if_ne (tgt := 10) (pc' := 8) X dX1_numberOfGroup_5 rfl rfl ?_ ?_
  · refine sk_iconst (pc' := 11) X ic_0 dX1_numberOfGroup_10 rfl ?_
    refine sk_istore_n (lv' := [some (.ref (u0 0)), some (.int p1), some (.int (0 : Int32)), none]) (pc' := 12) X (Nat.le_of_ble_eq_true rfl) rfl rfl dX1_numberOfGroup_11 rfl ?_
    refine sk_iconst (pc' := 13) X ic_0 dX1_numberOfGroup_12 rfl ?_
    refine sk_istore_n (lv' := [some (.ref (u0 0)), some (.int p1), some (.int (0 : Int32)), some (.int (0 : Int32))]) (pc' := 14) X (Nat.le_of_ble_eq_true rfl) rfl rfl dX1_numberOfGroup_13 rfl ?_
    exact (h14 ((0 : Int32), (0 : Int32)))
  · refine sk_iconst (pc' := 9) X ic_m1 dX1_numberOfGroup_8 rfl ?_
    exact sk_iret X rfl rfl dX1_numberOfGroup_9
def rm_X1_passUntilGroups : Room := { frames := 5, cells := 0, slots := 0, locals := 113 }
def o_X1_passUntilGroups : (Int32 × sk_N × sk_N) → Option Value := fun r => some (.int r.1)
def w_X1_passUntilGroups (G : sk_G) (u0 u1 : Nat → Nat) : (Int32 × sk_N × sk_N) → sk_B := fun r => [(nt_W G u0 (u1 0) r.2.1), (lg_W G u1 r.2.2)]
set_option maxHeartbeats 4000000 in
set_option maxRecDepth 100000 in
theorem c_X1_passUntilGroups (l : Launch) (G : sk_G) (u0 u1 : Nat → Nat) (S0 : sk_N) (S1 : sk_N) (p1 : Int32) (p2 : Int32) : sk_ctr l G yX1_passUntilGroups cX1_passUntilGroups 4 (some .int) rm_X1_passUntilGroups [.ref (u0 0), .int p1, .int p2] [(nt_W G u0 (u1 0) S0), (lg_W G u1 S1)] (m_X1_passUntilGroups S0 S1 p1 p2) o_X1_passUntilGroups (w_X1_passUntilGroups G u0 u1) := by
  refine sk_entry (own := RX1) (by decide) rfl (lv0 := [some (.ref (u0 0)), some (.int p1), some (.int p2), none]) rfl (Nat.le_of_ble_eq_true rfl) ?_
  intro Γ X
  have h2 : ∀ s2 : sk_N × sk_N × Int32, sk_S Γ (sk_Φ Γ o_X1_passUntilGroups (w_X1_passUntilGroups G u0 u1)) 0 0 (m_X1_passUntilGroups_2 p1 p2 s2) [(nt_W G u0 (u1 0) s2.1), (lg_W G u1 s2.2.1)] [some (.ref (u0 0)), some (.int p1), some (.int p2), some (.int s2.2.2)] 2 [] := by
    intro s2
    unfold m_X1_passUntilGroups_2
    refine sk_loop (bsf := fun s2 => [(nt_W G u0 (u1 0) s2.1), (lg_W G u1 s2.2.1)]) (lvf := fun s2 => [some (.ref (u0 0)), some (.int p1), some (.int p2), some (.int s2.2.2)]) ?_ sk_fuel s2
    intro k2 s2 ih2
    unfold m_X1_passUntilGroups_2_step
    refine sk_iload_n (pc' := 3) X rfl dX1_passUntilGroups_2 rfl ?_
    refine sk_iload_n (pc' := 4) X rfl dX1_passUntilGroups_3 rfl ?_
    refine sk_icmp_gt (tgt := 30) (pc' := 7) X dX1_passUntilGroups_4 rfl rfl ?_ ?_
    · refine sk_iconst (pc' := 31) X ic_m1 dX1_passUntilGroups_30 rfl ?_
      exact sk_iret X rfl rfl dX1_passUntilGroups_31
    · refine sk_aload_n (pc' := 8) X rfl dX1_passUntilGroups_7 rfl ?_
      refine sk_iconst (pc' := 9) X ic_1 dX1_passUntilGroups_8 rfl ?_
      refine sk_callV (bs2 := fun r9 => [(nt_W G u0 (u1 0) r9.2.1), (lg_W G u1 r9.2.2)]) (st := []) (st2 := fun r9 => [.int r9.1]) (As := [.int (1 : Int32)]) (pc' := 12) X (c_X1_passTicks l G u0 u1 s2.1 s2.2.1 (1 : Int32)) lk_RX1_156 [0, 1] rfl (by decide) (fun _ => rfl) rfl rfl rfl ⟨(Nat.le_of_ble_eq_true rfl), (Nat.le_of_ble_eq_true rfl)⟩ ⟨rfl, rfl⟩ ⟨(Nat.le_of_ble_eq_true rfl), (Nat.le_of_ble_eq_true rfl)⟩ rfl (Nat.le_of_ble_eq_true rfl) rfl dX1_passUntilGroups_9 rfl (fun _ => rfl) (fun _ => rfl) (fun r9 => ?_)
      refine sk_pop (pc' := 13) X rfl dX1_passUntilGroups_12 rfl ?_
      refine sk_aload_n (pc' := 14) X rfl dX1_passUntilGroups_13 rfl ?_
      refine sk_iload_n (pc' := 15) X rfl dX1_passUntilGroups_14 rfl ?_
      refine sk_callV (bs2 := fun r15 => [(nt_W G u0 (u1 0) r9.2.1), (lg_W G u1 r9.2.2)]) (st := []) (st2 := fun r15 => [.int r15]) (As := [.int p1]) (pc' := 18) X (c_X1_groupCount l G u0 (u1 0) r9.2.1 p1) lk_RX1_159 [0] rfl (by decide) (fun _ => rfl) rfl rfl rfl ⟨(Nat.le_of_ble_eq_true rfl), (Nat.le_of_ble_eq_true rfl)⟩ ⟨rfl, rfl⟩ ⟨(Nat.le_of_ble_eq_true rfl), (Nat.le_of_ble_eq_true rfl)⟩ rfl (Nat.le_of_ble_eq_true rfl) rfl dX1_passUntilGroups_15 rfl (fun _ => rfl) (fun _ => rfl) (fun r15 => ?_)
      refine sk_iload_n (pc' := 19) X rfl dX1_passUntilGroups_18 rfl ?_
      refine sk_icmp_gt (tgt := 24) (pc' := 22) X dX1_passUntilGroups_19 rfl rfl ?_ ?_
      · refine sk_iinc (lv' := [some (.ref (u0 0)), some (.int p1), some (.int p2), some (.int (s2.2.2 + (1 : Int32)))]) (pc' := 27) X rfl ic_1 (Nat.le_of_ble_eq_true rfl) rfl rfl dX1_passUntilGroups_24 rfl ?_
        refine sk_goto (tgt := 2) X dX1_passUntilGroups_27 rfl ?_
        exact (ih2 (r9.2.1, r9.2.2, (s2.2.2 + (1 : Int32))))
      · refine sk_iload_n (pc' := 23) X rfl dX1_passUntilGroups_22 rfl ?_
        exact sk_iret X rfl rfl dX1_passUntilGroups_23
  unfold m_X1_passUntilGroups
  refine sk_iconst (pc' := 1) X ic_1 dX1_passUntilGroups_0 rfl ?_
  refine sk_istore_n (lv' := [some (.ref (u0 0)), some (.int p1), some (.int p2), some (.int (1 : Int32))]) (pc' := 2) X (Nat.le_of_ble_eq_true rfl) rfl rfl dX1_passUntilGroups_1 rfl ?_
  exact (h2 (S0, S1, (1 : Int32)))
def rm_X1_hasSamePulses : Room := { frames := 1, cells := 0, slots := 0, locals := 20 }
def o_X1_hasSamePulses : (Int32) → Option Value := fun r => some (.int r)
def w_X1_hasSamePulses (G : sk_G) (u0 u1 : Nat → Nat) (a0_log a1_log : Nat) (S0 : sk_N) (S1 : sk_N) : (Int32) → sk_B := fun r => [(nt_W G u0 a0_log S0), (nt_W G u1 a1_log S1)]
set_option maxHeartbeats 4000000 in
set_option maxRecDepth 100000 in
theorem c_X1_hasSamePulses (l : Launch) (G : sk_G) (u0 u1 : Nat → Nat) (a0_log a1_log : Nat) (S0 : sk_N) (S1 : sk_N) : sk_ctr l G yX1_hasSamePulses cX1_hasSamePulses 6 (some .boolean) rm_X1_hasSamePulses [.ref (u0 0), .ref (u1 0)] [(nt_W G u0 a0_log S0), (nt_W G u1 a1_log S1)] (m_X1_hasSamePulses S0 S1) o_X1_hasSamePulses (w_X1_hasSamePulses G u0 u1 a0_log a1_log S0 S1) := by
  refine sk_entry (own := RX1) (by decide) rfl (lv0 := [some (.ref (u0 0)), some (.ref (u1 0)), none, none, none, none]) rfl (Nat.le_of_ble_eq_true rfl) ?_
  intro Γ X
  have h2 : ∀ s2 : Int32, sk_S Γ (sk_Φ Γ o_X1_hasSamePulses (w_X1_hasSamePulses G u0 u1 a0_log a1_log S0 S1)) 0 0 (m_X1_hasSamePulses_2 S0 S1 s2) [(nt_W G u0 a0_log S0), (nt_W G u1 a1_log S1)] [some (.ref (u0 0)), some (.ref (u1 0)), some (.int s2), none, none, none] 2 [] := by
    intro s2
    unfold m_X1_hasSamePulses_2
    refine sk_loop (bsf := fun s2 => [(nt_W G u0 a0_log S0), (nt_W G u1 a1_log S1)]) (lvf := fun s2 => [some (.ref (u0 0)), some (.ref (u1 0)), some (.int s2), none, none, none]) ?_ sk_fuel s2
    intro k2 s2 ih2
    have h32 : ∀ s32 : Int32 × Int32 × Int32 × Int32, sk_S Γ (sk_Φ Γ o_X1_hasSamePulses (w_X1_hasSamePulses G u0 u1 a0_log a1_log S0 S1)) 0 0 (m_X1_hasSamePulses_32 S0 S1 k2 s32) [(nt_W G u0 a0_log S0), (nt_W G u1 a1_log S1)] [some (.ref (u0 0)), some (.ref (u1 0)), some (.int s32.1), some (.int s32.2.1), some (.int s32.2.2.1), some (.int s32.2.2.2)] 32 [] := by
      intro s32
      unfold m_X1_hasSamePulses_32
      refine sk_loop (bsf := fun s32 => [(nt_W G u0 a0_log S0), (nt_W G u1 a1_log S1)]) (lvf := fun s32 => [some (.ref (u0 0)), some (.ref (u1 0)), some (.int s32.1), some (.int s32.2.1), some (.int s32.2.2.1), some (.int s32.2.2.2)]) ?_ sk_fuel s32
      intro k32 s32 ih32
      unfold m_X1_hasSamePulses_32_step
      refine sk_iload (pc' := 34) X rfl dX1_hasSamePulses_32 rfl ?_
      refine sk_aload_n (pc' := 35) X rfl dX1_hasSamePulses_34 rfl ?_
      refine sk_getf (pc' := 38) X 0 0 0 in_RX1 rfl rfl rfl (Nat.le_of_ble_eq_true rfl) fl_RX1_47 rfl dX1_hasSamePulses_35 rfl ?_
      refine sk_icmp_ge (tgt := 71) (pc' := 41) X dX1_hasSamePulses_38 rfl rfl ?_ ?_
      · refine sk_iinc (lv' := [some (.ref (u0 0)), some (.ref (u1 0)), some (.int (s32.1 + (1 : Int32))), some (.int s32.2.1), some (.int s32.2.2.1), some (.int s32.2.2.2)]) (pc' := 74) X rfl ic_1 (Nat.le_of_ble_eq_true rfl) rfl rfl dX1_hasSamePulses_71 rfl ?_
        refine sk_goto (tgt := 2) X dX1_hasSamePulses_74 rfl ?_
        exact (sk_kill 5 (sk_kill 4 (sk_kill 3 (ih2 (s32.1 + (1 : Int32))))))
      · refine sk_aload_n (pc' := 42) X rfl dX1_hasSamePulses_41 rfl ?_
        refine sk_getf (pc' := 45) X 0 0 11 in_RX1 rfl rfl rfl (Nat.le_of_ble_eq_true rfl) fl_RX1_41 rfl dX1_hasSamePulses_42 rfl ?_
        refine sk_iload_n (pc' := 46) X rfl dX1_hasSamePulses_45 rfl ?_
        refine sk_iload (pc' := 48) X rfl dX1_hasSamePulses_46 rfl ?_
        refine sk_iadd (pc' := 49) X dX1_hasSamePulses_48 rfl ?_
        refine sk_iald (pc' := 50) X 0 7 rfl rfl dX1_hasSamePulses_49 rfl ?_
        refine sk_aload_n (pc' := 51) X rfl dX1_hasSamePulses_50 rfl ?_
        refine sk_getf (pc' := 54) X 1 0 11 in_RX1 rfl rfl rfl (Nat.le_of_ble_eq_true rfl) fl_RX1_41 rfl dX1_hasSamePulses_51 rfl ?_
        refine sk_iload (pc' := 56) X rfl dX1_hasSamePulses_54 rfl ?_
        refine sk_iload (pc' := 58) X rfl dX1_hasSamePulses_56 rfl ?_
        refine sk_iadd (pc' := 59) X dX1_hasSamePulses_58 rfl ?_
        refine sk_iald (pc' := 60) X 1 7 rfl rfl dX1_hasSamePulses_59 rfl ?_
        refine sk_icmp_eq (tgt := 65) (pc' := 63) X dX1_hasSamePulses_60 rfl rfl ?_ ?_
        · refine sk_iinc (lv' := [some (.ref (u0 0)), some (.ref (u1 0)), some (.int s32.1), some (.int s32.2.1), some (.int s32.2.2.1), some (.int (s32.2.2.2 + (1 : Int32)))]) (pc' := 68) X rfl ic_1 (Nat.le_of_ble_eq_true rfl) rfl rfl dX1_hasSamePulses_65 rfl ?_
          refine sk_goto (tgt := 32) X dX1_hasSamePulses_68 rfl ?_
          exact (ih32 (s32.1, s32.2.1, s32.2.2.1, (s32.2.2.2 + (1 : Int32))))
        · refine sk_iconst (pc' := 64) X ic_0 dX1_hasSamePulses_63 rfl ?_
          exact sk_zret X (by decide) rfl rfl dX1_hasSamePulses_64
    unfold m_X1_hasSamePulses_2_step
    refine sk_iload_n (pc' := 3) X rfl dX1_hasSamePulses_2 rfl ?_
    refine sk_bipush (pc' := 5) X bp_9 dX1_hasSamePulses_3 rfl ?_
    refine sk_icmp_gt (tgt := 77) (pc' := 8) X dX1_hasSamePulses_5 rfl rfl ?_ ?_
    · refine sk_iconst (pc' := 78) X ic_1 dX1_hasSamePulses_77 rfl ?_
      exact sk_zret X (by decide) rfl rfl dX1_hasSamePulses_78
    · refine sk_aload_n (pc' := 9) X rfl dX1_hasSamePulses_8 rfl ?_
      refine sk_getf (pc' := 12) X 0 0 3 in_RX1 rfl rfl rfl (Nat.le_of_ble_eq_true rfl) fl_RX1_56 rfl dX1_hasSamePulses_9 rfl ?_
      refine sk_iload_n (pc' := 13) X rfl dX1_hasSamePulses_12 rfl ?_
      refine sk_iadd (pc' := 14) X dX1_hasSamePulses_13 rfl ?_
      refine sk_callS (bs2 := fun r14 => [(nt_W G u0 a0_log S0), (nt_W G u1 a1_log S1)]) (st := []) (st2 := fun r14 => [.int r14]) (As := [.int ((S0 0 3) + s2)]) (pc' := 17) X (c_X1_slotOf l G ((S0 0 3) + s2)) lk_RX1_124 [] rfl (by decide) (fun _ => rfl) ⟨(Nat.le_of_ble_eq_true rfl), (Nat.le_of_ble_eq_true rfl)⟩ ⟨rfl, rfl⟩ ⟨(Nat.le_of_ble_eq_true rfl), (Nat.le_of_ble_eq_true rfl)⟩ rfl (Nat.le_of_ble_eq_true rfl) rfl dX1_hasSamePulses_14 rfl (fun _ => rfl) (fun _ => rfl) (fun r14 => ?_)
      refine sk_istore_n (lv' := [some (.ref (u0 0)), some (.ref (u1 0)), some (.int s2), some (.int r14), none, none]) (pc' := 18) X (Nat.le_of_ble_eq_true rfl) rfl rfl dX1_hasSamePulses_17 rfl ?_
      refine sk_aload_n (pc' := 19) X rfl dX1_hasSamePulses_18 rfl ?_
      refine sk_getf (pc' := 22) X 1 0 3 in_RX1 rfl rfl rfl (Nat.le_of_ble_eq_true rfl) fl_RX1_56 rfl dX1_hasSamePulses_19 rfl ?_
      refine sk_iload_n (pc' := 23) X rfl dX1_hasSamePulses_22 rfl ?_
      refine sk_iadd (pc' := 24) X dX1_hasSamePulses_23 rfl ?_
      refine sk_callS (bs2 := fun r24 => [(nt_W G u0 a0_log S0), (nt_W G u1 a1_log S1)]) (st := []) (st2 := fun r24 => [.int r24]) (As := [.int ((S1 0 3) + s2)]) (pc' := 27) X (c_X1_slotOf l G ((S1 0 3) + s2)) lk_RX1_124 [] rfl (by decide) (fun _ => rfl) ⟨(Nat.le_of_ble_eq_true rfl), (Nat.le_of_ble_eq_true rfl)⟩ ⟨rfl, rfl⟩ ⟨(Nat.le_of_ble_eq_true rfl), (Nat.le_of_ble_eq_true rfl)⟩ rfl (Nat.le_of_ble_eq_true rfl) rfl dX1_hasSamePulses_24 rfl (fun _ => rfl) (fun _ => rfl) (fun r24 => ?_)
      refine sk_istore (lv' := [some (.ref (u0 0)), some (.ref (u1 0)), some (.int s2), some (.int r14), some (.int r24), none]) (pc' := 29) X (Nat.le_of_ble_eq_true rfl) rfl rfl dX1_hasSamePulses_27 rfl ?_
      refine sk_iconst (pc' := 30) X ic_0 dX1_hasSamePulses_29 rfl ?_
      refine sk_istore (lv' := [some (.ref (u0 0)), some (.ref (u1 0)), some (.int s2), some (.int r14), some (.int r24), some (.int (0 : Int32))]) (pc' := 32) X (Nat.le_of_ble_eq_true rfl) rfl rfl dX1_hasSamePulses_30 rfl ?_
      exact (h32 (s2, r14, r24, (0 : Int32)))
  unfold m_X1_hasSamePulses
  refine sk_iconst (pc' := 1) X ic_1 dX1_hasSamePulses_0 rfl ?_
  refine sk_istore_n (lv' := [some (.ref (u0 0)), some (.ref (u1 0)), some (.int (1 : Int32)), none, none, none]) (pc' := 2) X (Nat.le_of_ble_eq_true rfl) rfl rfl dX1_hasSamePulses_1 rfl ?_
  exact (h2 (1 : Int32))
def rm_X1_isAlike : Room := { frames := 2, cells := 0, slots := 0, locals := 45 }
def o_X1_isAlike : (Int32) → Option Value := fun r => some (.int r)
def w_X1_isAlike (G : sk_G) (u0 u1 : Nat → Nat) (a0_log a1_log : Nat) (S0 : sk_N) (S1 : sk_N) : (Int32) → sk_B := fun r => [(nt_W G u0 a0_log S0), (nt_W G u1 a1_log S1)]
set_option maxHeartbeats 4000000 in
set_option maxRecDepth 100000 in
theorem c_X1_isAlike (l : Launch) (G : sk_G) (u0 u1 : Nat → Nat) (a0_log a1_log : Nat) (S0 : sk_N) (S1 : sk_N) : sk_ctr l G yX1_isAlike cX1_isAlike 5 (some .boolean) rm_X1_isAlike [.ref (u0 0), .ref (u1 0)] [(nt_W G u0 a0_log S0), (nt_W G u1 a1_log S1)] (m_X1_isAlike S0 S1) o_X1_isAlike (w_X1_isAlike G u0 u1 a0_log a1_log S0 S1) := by
  refine sk_entry (own := RX1) (by decide) rfl (lv0 := [some (.ref (u0 0)), some (.ref (u1 0)), none, none, none]) rfl (Nat.le_of_ble_eq_true rfl) ?_
  intro Γ X
  have h12 : ∀ s12 : Int32 × Int32, sk_S Γ (sk_Φ Γ o_X1_isAlike (w_X1_isAlike G u0 u1 a0_log a1_log S0 S1)) 0 0 (m_X1_isAlike_12 S0 S1 s12) [(nt_W G u0 a0_log S0), (nt_W G u1 a1_log S1)] [some (.ref (u0 0)), some (.ref (u1 0)), some (.int s12.1), some (.int s12.2), none] 12 [] := by
    intro s12
    unfold m_X1_isAlike_12
    refine sk_loop (bsf := fun s12 => [(nt_W G u0 a0_log S0), (nt_W G u1 a1_log S1)]) (lvf := fun s12 => [some (.ref (u0 0)), some (.ref (u1 0)), some (.int s12.1), some (.int s12.2), none]) ?_ sk_fuel s12
    intro k12 s12 ih12
    have h43 : ∀ s43 : Int32 × Int32 × Int32, sk_S Γ (sk_Φ Γ o_X1_isAlike (w_X1_isAlike G u0 u1 a0_log a1_log S0 S1)) 0 0 (m_X1_isAlike_43 S0 S1 k12 s43) [(nt_W G u0 a0_log S0), (nt_W G u1 a1_log S1)] [some (.ref (u0 0)), some (.ref (u1 0)), some (.int s43.1), some (.int s43.2.1), none] 43 [.int s43.2.2] := by
      intro s43
      unfold m_X1_isAlike_43
      refine sk_istore (lv' := [some (.ref (u0 0)), some (.ref (u1 0)), some (.int s43.1), some (.int s43.2.1), some (.int s43.2.2)]) (pc' := 45) X (Nat.le_of_ble_eq_true rfl) rfl rfl dX1_isAlike_43 rfl ?_
      refine sk_aload_n (pc' := 46) X rfl dX1_isAlike_45 rfl ?_
      refine sk_getf (pc' := 49) X 0 0 6 in_RX1 rfl rfl rfl (Nat.le_of_ble_eq_true rfl) fl_RX1_26 rfl dX1_isAlike_46 rfl ?_
      refine sk_iload_n (pc' := 50) X rfl dX1_isAlike_49 rfl ?_
      refine sk_iald (pc' := 51) X 0 2 rfl rfl dX1_isAlike_50 rfl ?_
      refine sk_aload_n (pc' := 52) X rfl dX1_isAlike_51 rfl ?_
      refine sk_getf (pc' := 55) X 1 0 6 in_RX1 rfl rfl rfl (Nat.le_of_ble_eq_true rfl) fl_RX1_26 rfl dX1_isAlike_52 rfl ?_
      refine sk_iload_n (pc' := 56) X rfl dX1_isAlike_55 rfl ?_
      refine sk_iald (pc' := 57) X 1 2 rfl rfl dX1_isAlike_56 rfl ?_
      refine sk_icmp_ne (tgt := 72) (pc' := 60) X dX1_isAlike_57 rfl rfl ?_ ?_
      · refine sk_iconst (pc' := 73) X ic_0 dX1_isAlike_72 rfl ?_
        exact sk_zret X (by decide) rfl rfl dX1_isAlike_73
      · refine sk_iload (pc' := 62) X rfl dX1_isAlike_60 rfl ?_
        refine sk_if_eq (tgt := 74) (pc' := 65) X dX1_isAlike_62 rfl rfl ?_ ?_
        · refine sk_iinc (lv' := [some (.ref (u0 0)), some (.ref (u1 0)), some (.int s43.1), some (.int (s43.2.1 + (1 : Int32))), some (.int s43.2.2)]) (pc' := 77) X rfl ic_1 (Nat.le_of_ble_eq_true rfl) rfl rfl dX1_isAlike_74 rfl ?_
          refine sk_goto (tgt := 12) X dX1_isAlike_77 rfl ?_
          exact (sk_kill 4 (ih12 (s43.1, (s43.2.1 + (1 : Int32)))))
        · refine sk_iload_n (pc' := 66) X rfl dX1_isAlike_65 rfl ?_
          refine sk_iload (pc' := 68) X rfl dX1_isAlike_66 rfl ?_
          refine sk_irem (pc' := 69) X dX1_isAlike_68 rfl ?_
          refine sk_if_eq (tgt := 74) (pc' := 72) X dX1_isAlike_69 rfl rfl ?_ ?_
          · refine sk_iinc (lv' := [some (.ref (u0 0)), some (.ref (u1 0)), some (.int s43.1), some (.int (s43.2.1 + (1 : Int32))), some (.int s43.2.2)]) (pc' := 77) X rfl ic_1 (Nat.le_of_ble_eq_true rfl) rfl rfl dX1_isAlike_74 rfl ?_
            refine sk_goto (tgt := 12) X dX1_isAlike_77 rfl ?_
            exact (sk_kill 4 (ih12 (s43.1, (s43.2.1 + (1 : Int32)))))
          · refine sk_iconst (pc' := 73) X ic_0 dX1_isAlike_72 rfl ?_
            exact sk_zret X (by decide) rfl rfl dX1_isAlike_73
    unfold m_X1_isAlike_12_step
    refine sk_iload_n (pc' := 13) X rfl dX1_isAlike_12 rfl ?_
    refine sk_aload_n (pc' := 14) X rfl dX1_isAlike_13 rfl ?_
    refine sk_getf (pc' := 17) X 0 0 0 in_RX1 rfl rfl rfl (Nat.le_of_ble_eq_true rfl) fl_RX1_47 rfl dX1_isAlike_14 rfl ?_
    refine sk_icmp_ge (tgt := 80) (pc' := 20) X dX1_isAlike_17 rfl rfl ?_ ?_
    · refine sk_aload_n (pc' := 81) X rfl dX1_isAlike_80 rfl ?_
      refine sk_aload_n (pc' := 82) X rfl dX1_isAlike_81 rfl ?_
      refine sk_callV (bs2 := fun r82 => [(nt_W G u0 a0_log S0), (nt_W G u1 a1_log S1)]) (st := []) (st2 := fun r82 => [.int r82]) (As := [.ref (u1 0)]) (pc' := 85) X (c_X1_hasSamePulses l G u0 u1 a0_log a1_log S0 S1) lk_RX1_162 [0, 1] rfl (by decide) (fun _ => rfl) rfl rfl rfl ⟨(Nat.le_of_ble_eq_true rfl), (Nat.le_of_ble_eq_true rfl)⟩ ⟨rfl, rfl⟩ ⟨(Nat.le_of_ble_eq_true rfl), (Nat.le_of_ble_eq_true rfl)⟩ rfl (Nat.le_of_ble_eq_true rfl) rfl dX1_isAlike_82 rfl (fun _ => rfl) (fun _ => rfl) (fun r82 => ?_)
      exact sk_zretb X rfl rfl dX1_isAlike_85
    · refine sk_aload_n (pc' := 21) X rfl dX1_isAlike_20 rfl ?_
      refine sk_iload_n (pc' := 22) X rfl dX1_isAlike_21 rfl ?_
      refine sk_callV (bs2 := fun r22 => [(nt_W G u0 a0_log S0), (nt_W G u1 a1_log S1)]) (st := []) (st2 := fun r22 => [.int r22]) (As := [.int s12.2]) (pc' := 25) X (c_X1_isGood l G u0 a0_log S0 s12.2) lk_RX1_66 [0] rfl (by decide) (fun _ => rfl) rfl rfl rfl ⟨(Nat.le_of_ble_eq_true rfl), (Nat.le_of_ble_eq_true rfl)⟩ ⟨rfl, rfl⟩ ⟨(Nat.le_of_ble_eq_true rfl), (Nat.le_of_ble_eq_true rfl)⟩ rfl (Nat.le_of_ble_eq_true rfl) rfl dX1_isAlike_22 rfl (fun _ => rfl) (fun _ => rfl) (fun r22 => ?_)
      refine sk_if_eq (tgt := 37) (pc' := 28) X dX1_isAlike_25 rfl rfl ?_ ?_
      · refine sk_aload_n (pc' := 38) X rfl dX1_isAlike_37 rfl ?_
        refine sk_getf (pc' := 41) X 0 0 8 in_RX1 rfl rfl rfl (Nat.le_of_ble_eq_true rfl) fl_RX1_32 rfl dX1_isAlike_38 rfl ?_
        refine sk_iload_n (pc' := 42) X rfl dX1_isAlike_41 rfl ?_
        refine sk_iald (pc' := 43) X 0 4 rfl rfl dX1_isAlike_42 rfl ?_
        exact (h43 (s12.1, s12.2, ((S0 4) (s12.2).toNatClampNeg)))
      · refine sk_aload_n (pc' := 29) X rfl dX1_isAlike_28 rfl ?_
        refine sk_getf (pc' := 32) X 0 0 7 in_RX1 rfl rfl rfl (Nat.le_of_ble_eq_true rfl) fl_RX1_29 rfl dX1_isAlike_29 rfl ?_
        refine sk_iload_n (pc' := 33) X rfl dX1_isAlike_32 rfl ?_
        refine sk_iald (pc' := 34) X 0 3 rfl rfl dX1_isAlike_33 rfl ?_
        refine sk_goto (tgt := 43) X dX1_isAlike_34 rfl ?_
        exact (h43 (s12.1, s12.2, ((S0 3) (s12.2).toNatClampNeg)))
  unfold m_X1_isAlike
  refine sk_aload_n (pc' := 1) X rfl dX1_isAlike_0 rfl ?_
  refine sk_getf (pc' := 4) X 0 0 3 in_RX1 rfl rfl rfl (Nat.le_of_ble_eq_true rfl) fl_RX1_56 rfl dX1_isAlike_1 rfl ?_
  refine sk_aload_n (pc' := 5) X rfl dX1_isAlike_4 rfl ?_
  refine sk_getf (pc' := 8) X 1 0 3 in_RX1 rfl rfl rfl (Nat.le_of_ble_eq_true rfl) fl_RX1_56 rfl dX1_isAlike_5 rfl ?_
  refine sk_isub (pc' := 9) X dX1_isAlike_8 rfl ?_
  refine sk_istore_n (lv' := [some (.ref (u0 0)), some (.ref (u1 0)), some (.int ((S0 0 3) - (S1 0 3))), none, none]) (pc' := 10) X (Nat.le_of_ble_eq_true rfl) rfl rfl dX1_isAlike_9 rfl ?_
  refine sk_lt (bsf := fun _ => [(nt_W G u0 a0_log S0), (nt_W G u1 a1_log S1)]) (lvf := fun z => [some (.ref (u0 0)), some (.ref (u1 0)), some (.int z), none, none]) (stf := fun _ => []) (fun x9 => ?_)
  refine sk_iconst (pc' := 11) X ic_0 dX1_isAlike_10 rfl ?_
  refine sk_istore_n (lv' := [some (.ref (u0 0)), some (.ref (u1 0)), some (.int x9), some (.int (0 : Int32)), none]) (pc' := 12) X (Nat.le_of_ble_eq_true rfl) rfl rfl dX1_isAlike_11 rfl ?_
  exact (h12 (x9, (0 : Int32)))
def rm_X3_here : Room := { frames := 0, cells := 0, slots := 0, locals := 0 }
def o_X3_here : (Int32) → Option Value := fun r => some (.int r)
def w_X3_here (G : sk_G) (u0 : Nat → Nat) (S0 : sk_N) : (Int32) → sk_B := fun r => [(sc_W G u0 S0)]
set_option maxHeartbeats 4000000 in
set_option maxRecDepth 100000 in
theorem c_X3_here (l : Launch) (G : sk_G) (u0 : Nat → Nat) (S0 : sk_N) : sk_ctr l G yX3_here cX3_here 1 (some .int) rm_X3_here [.ref (u0 0)] [(sc_W G u0 S0)] (m_X3_here S0) o_X3_here (w_X3_here G u0 S0) := by
  refine sk_entry (own := RX3) (by decide) rfl (lv0 := [some (.ref (u0 0))]) rfl (Nat.le_of_ble_eq_true rfl) ?_
  intro Γ X
  unfold m_X3_here
  refine sk_aload_n (pc' := 1) X rfl dX3_here_0 rfl ?_
  refine sk_getf (pc' := 4) X 0 0 1 in_RX3 rfl rfl rfl (Nat.le_of_ble_eq_true rfl) fl_RX3_26 rfl dX3_here_1 rfl ?_
  refine sk_aload_n (pc' := 5) X rfl dX3_here_4 rfl ?_
  refine sk_getf (pc' := 8) X 0 0 0 in_RX3 rfl rfl rfl (Nat.le_of_ble_eq_true rfl) fl_RX3_22 rfl dX3_here_5 rfl ?_
  refine sk_icmp_ge (tgt := 23) (pc' := 11) X dX3_here_8 rfl rfl ?_ ?_
  · refine sk_iconst (pc' := 24) X ic_m1 dX3_here_23 rfl ?_
    exact sk_iret X rfl rfl dX3_here_24
  · refine sk_aload_n (pc' := 12) X rfl dX3_here_11 rfl ?_
    refine sk_getf (pc' := 15) X 0 0 3 in_RX3 rfl rfl rfl (Nat.le_of_ble_eq_true rfl) fl_RX3_9 rfl dX3_here_12 rfl ?_
    refine sk_aload_n (pc' := 16) X rfl dX3_here_15 rfl ?_
    refine sk_getf (pc' := 19) X 0 0 1 in_RX3 rfl rfl rfl (Nat.le_of_ble_eq_true rfl) fl_RX3_26 rfl dX3_here_16 rfl ?_
    refine sk_bald (pc' := 20) X 0 1 rfl rfl dX3_here_19 rfl ?_
    refine sk_goto (tgt := 24) X dX3_here_20 rfl ?_
    exact sk_iret X rfl rfl dX3_here_24
def rm_X3_numbersBehind : Room := { frames := 0, cells := 0, slots := 0, locals := 0 }
def o_X3_numbersBehind : (Int32) → Option Value := fun r => some (.int r)
def w_X3_numbersBehind (G : sk_G) : (Int32) → sk_B := fun r => []
set_option maxHeartbeats 4000000 in
set_option maxRecDepth 100000 in
theorem c_X3_numbersBehind (l : Launch) (G : sk_G) (p1 : Int32) : sk_ctr l G yX3_numbersBehind cX3_numbersBehind 1 (some .int) rm_X3_numbersBehind [.int p1] [] (m_X3_numbersBehind p1) o_X3_numbersBehind (w_X3_numbersBehind G) := by
  refine sk_entry (own := RX3) (by decide) rfl (lv0 := [some (.int p1)]) rfl (Nat.le_of_ble_eq_true rfl) ?_
  intro Γ X
  unfold m_X3_numbersBehind
  refine sk_iload_n (pc' := 1) X rfl dX3_numbersBehind_0 rfl ?_
  refine sk_ite (fun hs1_0 => ?_) (fun hs1_0 => ?_)
  · refine sk_lookup (tgt := 52) X dX3_numbersBehind_1 rfl (by rw [hs1_0]; try rfl) rfl ?_
    refine sk_iconst (pc' := 53) X ic_1 dX3_numbersBehind_52 rfl ?_
    exact sk_iret X rfl rfl dX3_numbersBehind_53
  ·
    refine sk_ite (fun hs1_1 => ?_) (fun hs1_1 => ?_)
    · refine sk_lookup (tgt := 56) X dX3_numbersBehind_1 rfl (by rw [hs1_1]; try rfl) rfl ?_
      refine sk_iconst (pc' := 57) X ic_3 dX3_numbersBehind_56 rfl ?_
      exact sk_iret X rfl rfl dX3_numbersBehind_57
    ·
      refine sk_ite (fun hs1_2 => ?_) (fun hs1_2 => ?_)
      · refine sk_lookup (tgt := 56) X dX3_numbersBehind_1 rfl (by rw [hs1_2]; try rfl) rfl ?_
        refine sk_iconst (pc' := 57) X ic_3 dX3_numbersBehind_56 rfl ?_
        exact sk_iret X rfl rfl dX3_numbersBehind_57
      ·
        refine sk_ite (fun hs1_3 => ?_) (fun hs1_3 => ?_)
        · refine sk_lookup (tgt := 54) X dX3_numbersBehind_1 rfl (by rw [hs1_3]; try rfl) rfl ?_
          refine sk_iconst (pc' := 55) X ic_2 dX3_numbersBehind_54 rfl ?_
          exact sk_iret X rfl rfl dX3_numbersBehind_55
        ·
          refine sk_ite (fun hs1_4 => ?_) (fun hs1_4 => ?_)
          · refine sk_lookup (tgt := 52) X dX3_numbersBehind_1 rfl (by rw [hs1_4]; try rfl) rfl ?_
            refine sk_iconst (pc' := 53) X ic_1 dX3_numbersBehind_52 rfl ?_
            exact sk_iret X rfl rfl dX3_numbersBehind_53
          ·
            refine sk_lookup (tgt := 58) X dX3_numbersBehind_1 rfl ((lv_osw hs1_0 (by decide)).trans ((lv_osw hs1_1 (by decide)).trans ((lv_osw hs1_2 (by decide)).trans ((lv_osw hs1_3 (by decide)).trans ((lv_osw hs1_4 (by decide)).trans (rfl)))))) rfl ?_
            refine sk_iconst (pc' := 59) X ic_0 dX3_numbersBehind_58 rfl ?_
            exact sk_iret X rfl rfl dX3_numbersBehind_59
def rm_X3_isDigit : Room := { frames := 0, cells := 0, slots := 0, locals := 0 }
def o_X3_isDigit : (Int32) → Option Value := fun r => some (.int r)
def w_X3_isDigit (G : sk_G) : (Int32) → sk_B := fun r => []
set_option maxHeartbeats 4000000 in
set_option maxRecDepth 100000 in
theorem c_X3_isDigit (l : Launch) (G : sk_G) (p1 : Int32) : sk_ctr l G yX3_isDigit cX3_isDigit 1 (some .boolean) rm_X3_isDigit [.int p1] [] (m_X3_isDigit p1) o_X3_isDigit (w_X3_isDigit G) := by
  refine sk_entry (own := RX3) (by decide) rfl (lv0 := [some (.int p1)]) rfl (Nat.le_of_ble_eq_true rfl) ?_
  intro Γ X
  unfold m_X3_isDigit
  refine sk_iload_n (pc' := 1) X rfl dX3_isDigit_0 rfl ?_
  refine sk_bipush (pc' := 3) X bp_48 dX3_isDigit_1 rfl ?_
  refine sk_icmp_lt (tgt := 16) (pc' := 6) X dX3_isDigit_3 rfl rfl ?_ ?_
  · refine sk_iconst (pc' := 17) X ic_0 dX3_isDigit_16 rfl ?_
    exact sk_zret X (by decide) rfl rfl dX3_isDigit_17
  · refine sk_iload_n (pc' := 7) X rfl dX3_isDigit_6 rfl ?_
    refine sk_bipush (pc' := 9) X bp_57 dX3_isDigit_7 rfl ?_
    refine sk_icmp_gt (tgt := 16) (pc' := 12) X dX3_isDigit_9 rfl rfl ?_ ?_
    · refine sk_iconst (pc' := 17) X ic_0 dX3_isDigit_16 rfl ?_
      exact sk_zret X (by decide) rfl rfl dX3_isDigit_17
    · refine sk_iconst (pc' := 13) X ic_1 dX3_isDigit_12 rfl ?_
      refine sk_goto (tgt := 17) X dX3_isDigit_13 rfl ?_
      exact sk_zret X (by decide) rfl rfl dX3_isDigit_17
def rm_X3_readNumber : Room := { frames := 1, cells := 0, slots := 0, locals := 20 }
def o_X3_readNumber : (Int32 × sk_N) → Option Value := fun r => some (.int r.1)
def w_X3_readNumber (G : sk_G) (u0 : Nat → Nat) : (Int32 × sk_N) → sk_B := fun r => [(sc_W G u0 r.2)]
set_option maxHeartbeats 4000000 in
set_option maxRecDepth 100000 in
theorem c_X3_readNumber (l : Launch) (G : sk_G) (u0 : Nat → Nat) (S0 : sk_N) (p1 : Int32) : sk_ctr l G yX3_readNumber cX3_readNumber 3 (some .boolean) rm_X3_readNumber [.ref (u0 0), .int p1] [(sc_W G u0 S0)] (m_X3_readNumber S0 p1) o_X3_readNumber (w_X3_readNumber G u0) := by
  refine sk_entry (own := RX3) (by decide) rfl (lv0 := [some (.ref (u0 0)), some (.int p1), none]) rfl (Nat.le_of_ble_eq_true rfl) ?_
  intro Γ X
  have h63 : ∀ s63 : sk_N × Int32, sk_S Γ (sk_Φ Γ o_X3_readNumber (w_X3_readNumber G u0)) 0 0 (m_X3_readNumber_63 p1 s63) [(sc_W G u0 s63.1)] [some (.ref (u0 0)), some (.int p1), some (.int s63.2)] 63 [] := by
    intro s63
    unfold m_X3_readNumber_63
    refine sk_aload_n (pc' := 64) X rfl dX3_readNumber_63 rfl ?_
    refine sk_getf (pc' := 67) X 0 0 5 in_RX3 rfl rfl rfl (Nat.le_of_ble_eq_true rfl) fl_RX3_19 rfl dX3_readNumber_64 rfl ?_
    refine sk_aload_n (pc' := 68) X rfl dX3_readNumber_67 rfl ?_
    refine sk_getf (pc' := 71) X 0 0 2 in_RX3 rfl rfl rfl (Nat.le_of_ble_eq_true rfl) fl_RX3_29 rfl dX3_readNumber_68 rfl ?_
    refine sk_iconst (pc' := 72) X ic_3 dX3_readNumber_71 rfl ?_
    refine sk_imul (pc' := 73) X dX3_readNumber_72 rfl ?_
    refine sk_iload_n (pc' := 74) X rfl dX3_readNumber_73 rfl ?_
    refine sk_iadd (pc' := 75) X dX3_readNumber_74 rfl ?_
    refine sk_iload_n (pc' := 76) X rfl dX3_readNumber_75 rfl ?_
    refine sk_iast (bs' := [(sc_W G u0 (sk_up s63.1 3 ((((s63.1 0 2) * (3 : Int32)) + p1)).toNatClampNeg s63.2))]) (pc' := 77) X 0 3 rfl rfl (sk_st 0 (sc_st_3 ..) rfl) dX3_readNumber_76 rfl ?_
    refine sk_lt (bsf := fun z => [(sc_W G u0 z)]) (lvf := fun _ => [some (.ref (u0 0)), some (.int p1), some (.int s63.2)]) (stf := fun _ => []) (fun N76 => ?_)
    refine sk_iconst (pc' := 78) X ic_1 dX3_readNumber_77 rfl ?_
    exact sk_zret X (by decide) rfl rfl dX3_readNumber_78
  unfold m_X3_readNumber
  refine sk_aload_n (pc' := 1) X rfl dX3_readNumber_0 rfl ?_
  refine sk_callV (bs2 := fun r1 => [(sc_W G u0 S0)]) (st := []) (st2 := fun r1 => [.int r1]) (As := []) (pc' := 4) X (c_X3_here l G u0 S0) lk_RX3_36 [0] rfl (by decide) (fun _ => rfl) rfl rfl rfl ⟨(Nat.le_of_ble_eq_true rfl), (Nat.le_of_ble_eq_true rfl)⟩ ⟨rfl, rfl⟩ ⟨(Nat.le_of_ble_eq_true rfl), (Nat.le_of_ble_eq_true rfl)⟩ rfl (Nat.le_of_ble_eq_true rfl) rfl dX3_readNumber_1 rfl (fun _ => rfl) (fun _ => rfl) (fun r1 => ?_)
  refine sk_callS (bs2 := fun r4 => [(sc_W G u0 S0)]) (st := []) (st2 := fun r4 => [.int r4]) (As := [.int r1]) (pc' := 7) X (c_X3_isDigit l G r1) lk_RX3_51 [] rfl (by decide) (fun _ => rfl) ⟨(Nat.le_of_ble_eq_true rfl), (Nat.le_of_ble_eq_true rfl)⟩ ⟨rfl, rfl⟩ ⟨(Nat.le_of_ble_eq_true rfl), (Nat.le_of_ble_eq_true rfl)⟩ rfl (Nat.le_of_ble_eq_true rfl) rfl dX3_readNumber_4 rfl (fun _ => rfl) (fun _ => rfl) (fun r4 => ?_)
  refine sk_if_ne (tgt := 12) (pc' := 10) X dX3_readNumber_7 rfl rfl ?_ ?_
  · refine sk_aload_n (pc' := 13) X rfl dX3_readNumber_12 rfl ?_
    refine sk_callV (bs2 := fun r13 => [(sc_W G u0 S0)]) (st := []) (st2 := fun r13 => [.int r13]) (As := []) (pc' := 16) X (c_X3_here l G u0 S0) lk_RX3_36 [0] rfl (by decide) (fun _ => rfl) rfl rfl rfl ⟨(Nat.le_of_ble_eq_true rfl), (Nat.le_of_ble_eq_true rfl)⟩ ⟨rfl, rfl⟩ ⟨(Nat.le_of_ble_eq_true rfl), (Nat.le_of_ble_eq_true rfl)⟩ rfl (Nat.le_of_ble_eq_true rfl) rfl dX3_readNumber_13 rfl (fun _ => rfl) (fun _ => rfl) (fun r13 => ?_)
    refine sk_bipush (pc' := 18) X bp_48 dX3_readNumber_16 rfl ?_
    refine sk_isub (pc' := 19) X dX3_readNumber_18 rfl ?_
    refine sk_istore_n (lv' := [some (.ref (u0 0)), some (.int p1), some (.int (r13 - (48 : Int32)))]) (pc' := 20) X (Nat.le_of_ble_eq_true rfl) rfl rfl dX3_readNumber_19 rfl ?_
    refine sk_lt (bsf := fun _ => [(sc_W G u0 S0)]) (lvf := fun z => [some (.ref (u0 0)), some (.int p1), some (.int z)]) (stf := fun _ => []) (fun x19 => ?_)
    refine sk_aload_n (pc' := 21) X rfl dX3_readNumber_20 rfl ?_
    refine sk_dup (pc' := 22) X rfl dX3_readNumber_21 rfl ?_
    refine sk_getf (pc' := 25) X 0 0 1 in_RX3 rfl rfl rfl (Nat.le_of_ble_eq_true rfl) fl_RX3_26 rfl dX3_readNumber_22 rfl ?_
    refine sk_iconst (pc' := 26) X ic_1 dX3_readNumber_25 rfl ?_
    refine sk_iadd (pc' := 27) X dX3_readNumber_26 rfl ?_
    refine sk_putf (bs' := [(sc_W G u0 (sk_up S0 0 1 ((S0 0 1) + (1 : Int32))))]) (pc' := 30) X 0 0 1 in_RX3 tyX3 tyX3_ok nmX3 rfl rfl rfl (Nat.le_of_ble_eq_true rfl) fl_RX3_26 rfl (tyX3_ok 1 (Nat.le_of_ble_eq_true rfl)) rfl rfl (Nat.le_of_ble_eq_true rfl) (sk_st 0 (sc_pf_1 ..) rfl) dX3_readNumber_27 rfl ?_
    refine sk_lt (bsf := fun z => [(sc_W G u0 z)]) (lvf := fun _ => [some (.ref (u0 0)), some (.int p1), some (.int x19)]) (stf := fun _ => []) (fun N27 => ?_)
    refine sk_aload_n (pc' := 31) X rfl dX3_readNumber_30 rfl ?_
    refine sk_callV (bs2 := fun r31 => [(sc_W G u0 N27)]) (st := []) (st2 := fun r31 => [.int r31]) (As := []) (pc' := 34) X (c_X3_here l G u0 N27) lk_RX3_36 [0] rfl (by decide) (fun _ => rfl) rfl rfl rfl ⟨(Nat.le_of_ble_eq_true rfl), (Nat.le_of_ble_eq_true rfl)⟩ ⟨rfl, rfl⟩ ⟨(Nat.le_of_ble_eq_true rfl), (Nat.le_of_ble_eq_true rfl)⟩ rfl (Nat.le_of_ble_eq_true rfl) rfl dX3_readNumber_31 rfl (fun _ => rfl) (fun _ => rfl) (fun r31 => ?_)
    refine sk_callS (bs2 := fun r34 => [(sc_W G u0 N27)]) (st := []) (st2 := fun r34 => [.int r34]) (As := [.int r31]) (pc' := 37) X (c_X3_isDigit l G r31) lk_RX3_51 [] rfl (by decide) (fun _ => rfl) ⟨(Nat.le_of_ble_eq_true rfl), (Nat.le_of_ble_eq_true rfl)⟩ ⟨rfl, rfl⟩ ⟨(Nat.le_of_ble_eq_true rfl), (Nat.le_of_ble_eq_true rfl)⟩ rfl (Nat.le_of_ble_eq_true rfl) rfl dX3_readNumber_34 rfl (fun _ => rfl) (fun _ => rfl) (fun r34 => ?_)
    refine sk_if_eq (tgt := 63) (pc' := 40) X dX3_readNumber_37 rfl rfl ?_ ?_
    · exact (h63 (N27, x19))
    · refine sk_bipush (pc' := 42) X bp_10 dX3_readNumber_40 rfl ?_
      refine sk_iload_n (pc' := 43) X rfl dX3_readNumber_42 rfl ?_
      refine sk_imul (pc' := 44) X dX3_readNumber_43 rfl ?_
      refine sk_aload_n (pc' := 45) X rfl dX3_readNumber_44 rfl ?_
      refine sk_callV (bs2 := fun r45 => [(sc_W G u0 N27)]) (st := [.int ((10 : Int32) * x19)]) (st2 := fun r45 => [.int r45, .int ((10 : Int32) * x19)]) (As := []) (pc' := 48) X (c_X3_here l G u0 N27) lk_RX3_36 [0] rfl (by decide) (fun _ => rfl) rfl rfl rfl ⟨(Nat.le_of_ble_eq_true rfl), (Nat.le_of_ble_eq_true rfl)⟩ ⟨rfl, rfl⟩ ⟨(Nat.le_of_ble_eq_true rfl), (Nat.le_of_ble_eq_true rfl)⟩ rfl (Nat.le_of_ble_eq_true rfl) rfl dX3_readNumber_45 rfl (fun _ => rfl) (fun _ => rfl) (fun r45 => ?_)
      refine sk_iadd (pc' := 49) X dX3_readNumber_48 rfl ?_
      refine sk_bipush (pc' := 51) X bp_48 dX3_readNumber_49 rfl ?_
      refine sk_isub (pc' := 52) X dX3_readNumber_51 rfl ?_
      refine sk_istore_n (lv' := [some (.ref (u0 0)), some (.int p1), some (.int ((((10 : Int32) * x19) + r45) - (48 : Int32)))]) (pc' := 53) X (Nat.le_of_ble_eq_true rfl) rfl rfl dX3_readNumber_52 rfl ?_
      refine sk_lt (bsf := fun _ => [(sc_W G u0 N27)]) (lvf := fun z => [some (.ref (u0 0)), some (.int p1), some (.int z)]) (stf := fun _ => []) (fun x52 => ?_)
      refine sk_aload_n (pc' := 54) X rfl dX3_readNumber_53 rfl ?_
      refine sk_dup (pc' := 55) X rfl dX3_readNumber_54 rfl ?_
      refine sk_getf (pc' := 58) X 0 0 1 in_RX3 rfl rfl rfl (Nat.le_of_ble_eq_true rfl) fl_RX3_26 rfl dX3_readNumber_55 rfl ?_
      refine sk_iconst (pc' := 59) X ic_1 dX3_readNumber_58 rfl ?_
      refine sk_iadd (pc' := 60) X dX3_readNumber_59 rfl ?_
      refine sk_putf (bs' := [(sc_W G u0 (sk_up N27 0 1 ((N27 0 1) + (1 : Int32))))]) (pc' := 63) X 0 0 1 in_RX3 tyX3 tyX3_ok nmX3 rfl rfl rfl (Nat.le_of_ble_eq_true rfl) fl_RX3_26 rfl (tyX3_ok 1 (Nat.le_of_ble_eq_true rfl)) rfl rfl (Nat.le_of_ble_eq_true rfl) (sk_st 0 (sc_pf_1 ..) rfl) dX3_readNumber_60 rfl ?_
      refine sk_lt (bsf := fun z => [(sc_W G u0 z)]) (lvf := fun _ => [some (.ref (u0 0)), some (.int p1), some (.int x52)]) (stf := fun _ => []) (fun N60 => ?_)
      exact (h63 (N60, x52))
  · refine sk_iconst (pc' := 11) X ic_0 dX3_readNumber_10 rfl ?_
    exact sk_zret X (by decide) rfl rfl dX3_readNumber_11
def rm_X3_readSign : Room := { frames := 1, cells := 0, slots := 0, locals := 20 }
def o_X3_readSign : (Int32 × sk_N) → Option Value := fun r => some (.int r.1)
def w_X3_readSign (G : sk_G) (u0 : Nat → Nat) : (Int32 × sk_N) → sk_B := fun r => [(sc_W G u0 r.2)]
set_option maxHeartbeats 4000000 in
set_option maxRecDepth 100000 in
theorem c_X3_readSign (l : Launch) (G : sk_G) (u0 : Nat → Nat) (S0 : sk_N) (p1 : Int32) : sk_ctr l G yX3_readSign cX3_readSign 2 (some .boolean) rm_X3_readSign [.ref (u0 0), .int p1] [(sc_W G u0 S0)] (m_X3_readSign S0 p1) o_X3_readSign (w_X3_readSign G u0) := by
  refine sk_entry (own := RX3) (by decide) rfl (lv0 := [some (.ref (u0 0)), some (.int p1)]) rfl (Nat.le_of_ble_eq_true rfl) ?_
  intro Γ X
  unfold m_X3_readSign
  refine sk_aload_n (pc' := 1) X rfl dX3_readSign_0 rfl ?_
  refine sk_callV (bs2 := fun r1 => [(sc_W G u0 S0)]) (st := []) (st2 := fun r1 => [.int r1]) (As := []) (pc' := 4) X (c_X3_here l G u0 S0) lk_RX3_36 [0] rfl (by decide) (fun _ => rfl) rfl rfl rfl ⟨(Nat.le_of_ble_eq_true rfl), (Nat.le_of_ble_eq_true rfl)⟩ ⟨rfl, rfl⟩ ⟨(Nat.le_of_ble_eq_true rfl), (Nat.le_of_ble_eq_true rfl)⟩ rfl (Nat.le_of_ble_eq_true rfl) rfl dX3_readSign_1 rfl (fun _ => rfl) (fun _ => rfl) (fun r1 => ?_)
  refine sk_iload_n (pc' := 5) X rfl dX3_readSign_4 rfl ?_
  refine sk_icmp_eq (tgt := 10) (pc' := 8) X dX3_readSign_5 rfl rfl ?_ ?_
  · refine sk_aload_n (pc' := 11) X rfl dX3_readSign_10 rfl ?_
    refine sk_dup (pc' := 12) X rfl dX3_readSign_11 rfl ?_
    refine sk_getf (pc' := 15) X 0 0 1 in_RX3 rfl rfl rfl (Nat.le_of_ble_eq_true rfl) fl_RX3_26 rfl dX3_readSign_12 rfl ?_
    refine sk_iconst (pc' := 16) X ic_1 dX3_readSign_15 rfl ?_
    refine sk_iadd (pc' := 17) X dX3_readSign_16 rfl ?_
    refine sk_putf (bs' := [(sc_W G u0 (sk_up S0 0 1 ((S0 0 1) + (1 : Int32))))]) (pc' := 20) X 0 0 1 in_RX3 tyX3 tyX3_ok nmX3 rfl rfl rfl (Nat.le_of_ble_eq_true rfl) fl_RX3_26 rfl (tyX3_ok 1 (Nat.le_of_ble_eq_true rfl)) rfl rfl (Nat.le_of_ble_eq_true rfl) (sk_st 0 (sc_pf_1 ..) rfl) dX3_readSign_17 rfl ?_
    refine sk_lt (bsf := fun z => [(sc_W G u0 z)]) (lvf := fun _ => [some (.ref (u0 0)), some (.int p1)]) (stf := fun _ => []) (fun N17 => ?_)
    refine sk_iconst (pc' := 21) X ic_1 dX3_readSign_20 rfl ?_
    exact sk_zret X (by decide) rfl rfl dX3_readSign_21
  · refine sk_iconst (pc' := 9) X ic_0 dX3_readSign_8 rfl ?_
    exact sk_zret X (by decide) rfl rfl dX3_readSign_9
def rm_X3_readCommand : Room := { frames := 2, cells := 0, slots := 0, locals := 42 }
def o_X3_readCommand : (Int32 × sk_N) → Option Value := fun r => some (.int r.1)
def w_X3_readCommand (G : sk_G) (u0 : Nat → Nat) : (Int32 × sk_N) → sk_B := fun r => [(sc_W G u0 r.2)]
set_option maxHeartbeats 4000000 in
set_option maxRecDepth 100000 in
theorem c_X3_readCommand (l : Launch) (G : sk_G) (u0 : Nat → Nat) (S0 : sk_N) : sk_ctr l G yX3_readCommand cX3_readCommand 4 (some .boolean) rm_X3_readCommand [.ref (u0 0)] [(sc_W G u0 S0)] (m_X3_readCommand S0) o_X3_readCommand (w_X3_readCommand G u0) := by
  refine sk_entry (own := RX3) (by decide) rfl (lv0 := [some (.ref (u0 0)), none, none, none]) rfl (Nat.le_of_ble_eq_true rfl) ?_
  intro Γ X
  have h38 : ∀ s38 : sk_N × Int32 × Int32, sk_S Γ (sk_Φ Γ o_X3_readCommand (w_X3_readCommand G u0)) 0 0 (m_X3_readCommand_38 s38) [(sc_W G u0 s38.1)] [some (.ref (u0 0)), none, some (.int s38.2.1), some (.int s38.2.2)] 38 [] := by
    intro s38
    unfold m_X3_readCommand_38
    refine sk_loop (bsf := fun s38 => [(sc_W G u0 s38.1)]) (lvf := fun s38 => [some (.ref (u0 0)), none, some (.int s38.2.1), some (.int s38.2.2)]) ?_ sk_fuel s38
    intro k38 s38 ih38
    have h66 : ∀ s66 : sk_N × Int32 × Int32 × Int32, sk_S Γ (sk_Φ Γ o_X3_readCommand (w_X3_readCommand G u0)) 0 0 (m_X3_readCommand_66 k38 s66) [(sc_W G u0 s66.1)] [some (.ref (u0 0)), none, some (.int s66.2.1), some (.int s66.2.2.1)] 66 [.int s66.2.2.2, .ref (u0 0)] := by
      intro s66
      unfold m_X3_readCommand_66
      refine sk_callV (bs2 := fun r66 => [(sc_W G u0 r66.2)]) (st := []) (st2 := fun r66 => [.int r66.1]) (As := [.int s66.2.2.2]) (pc' := 69) X (c_X3_readSign l G u0 s66.1 s66.2.2.2) lk_RX3_48 [0] rfl (by decide) (fun _ => rfl) rfl rfl rfl ⟨(Nat.le_of_ble_eq_true rfl), (Nat.le_of_ble_eq_true rfl)⟩ ⟨rfl, rfl⟩ ⟨(Nat.le_of_ble_eq_true rfl), (Nat.le_of_ble_eq_true rfl)⟩ rfl (Nat.le_of_ble_eq_true rfl) rfl dX3_readCommand_66 rfl (fun _ => rfl) (fun _ => rfl) (fun r66 => ?_)
      refine sk_if_ne (tgt := 74) (pc' := 72) X dX3_readCommand_69 rfl rfl ?_ ?_
      · refine sk_iinc (lv' := [some (.ref (u0 0)), none, some (.int s66.2.1), some (.int (s66.2.2.1 + (1 : Int32)))]) (pc' := 77) X rfl ic_1 (Nat.le_of_ble_eq_true rfl) rfl rfl dX3_readCommand_74 rfl ?_
        refine sk_goto (tgt := 38) X dX3_readCommand_77 rfl ?_
        exact (ih38 (r66.2, s66.2.1, (s66.2.2.1 + (1 : Int32))))
      · refine sk_iconst (pc' := 73) X ic_0 dX3_readCommand_72 rfl ?_
        exact sk_zret X (by decide) rfl rfl dX3_readCommand_73
    unfold m_X3_readCommand_38_step
    refine sk_iload_n (pc' := 39) X rfl dX3_readCommand_38 rfl ?_
    refine sk_iload_n (pc' := 40) X rfl dX3_readCommand_39 rfl ?_
    refine sk_icmp_ge (tgt := 80) (pc' := 43) X dX3_readCommand_40 rfl rfl ?_ ?_
    · refine sk_aload_n (pc' := 81) X rfl dX3_readCommand_80 rfl ?_
      refine sk_dup (pc' := 82) X rfl dX3_readCommand_81 rfl ?_
      refine sk_getf (pc' := 85) X 0 0 2 in_RX3 rfl rfl rfl (Nat.le_of_ble_eq_true rfl) fl_RX3_29 rfl dX3_readCommand_82 rfl ?_
      refine sk_iconst (pc' := 86) X ic_1 dX3_readCommand_85 rfl ?_
      refine sk_iadd (pc' := 87) X dX3_readCommand_86 rfl ?_
      refine sk_putf (bs' := [(sc_W G u0 (sk_up s38.1 0 2 ((s38.1 0 2) + (1 : Int32))))]) (pc' := 90) X 0 0 2 in_RX3 tyX3 tyX3_ok nmX3 rfl rfl rfl (Nat.le_of_ble_eq_true rfl) fl_RX3_29 rfl (tyX3_ok 2 (Nat.le_of_ble_eq_true rfl)) rfl rfl (Nat.le_of_ble_eq_true rfl) (sk_st 0 (sc_pf_2 ..) rfl) dX3_readCommand_87 rfl ?_
      refine sk_lt (bsf := fun z => [(sc_W G u0 z)]) (lvf := fun _ => [some (.ref (u0 0)), none, some (.int s38.2.1), some (.int s38.2.2)]) (stf := fun _ => []) (fun N87 => ?_)
      refine sk_iconst (pc' := 91) X ic_1 dX3_readCommand_90 rfl ?_
      exact sk_zret X (by decide) rfl rfl dX3_readCommand_91
    · refine sk_aload_n (pc' := 44) X rfl dX3_readCommand_43 rfl ?_
      refine sk_iload_n (pc' := 45) X rfl dX3_readCommand_44 rfl ?_
      refine sk_callV (bs2 := fun r45 => [(sc_W G u0 r45.2)]) (st := []) (st2 := fun r45 => [.int r45.1]) (As := [.int s38.2.2]) (pc' := 48) X (c_X3_readNumber l G u0 s38.1 s38.2.2) lk_RX3_44 [0] rfl (by decide) (fun _ => rfl) rfl rfl rfl ⟨(Nat.le_of_ble_eq_true rfl), (Nat.le_of_ble_eq_true rfl)⟩ ⟨rfl, rfl⟩ ⟨(Nat.le_of_ble_eq_true rfl), (Nat.le_of_ble_eq_true rfl)⟩ rfl (Nat.le_of_ble_eq_true rfl) rfl dX3_readCommand_45 rfl (fun _ => rfl) (fun _ => rfl) (fun r45 => ?_)
      refine sk_if_eq (tgt := 72) (pc' := 51) X dX3_readCommand_48 rfl rfl ?_ ?_
      · refine sk_iconst (pc' := 73) X ic_0 dX3_readCommand_72 rfl ?_
        exact sk_zret X (by decide) rfl rfl dX3_readCommand_73
      · refine sk_aload_n (pc' := 52) X rfl dX3_readCommand_51 rfl ?_
        refine sk_iload_n (pc' := 53) X rfl dX3_readCommand_52 rfl ?_
        refine sk_iconst (pc' := 54) X ic_1 dX3_readCommand_53 rfl ?_
        refine sk_iadd (pc' := 55) X dX3_readCommand_54 rfl ?_
        refine sk_iload_n (pc' := 56) X rfl dX3_readCommand_55 rfl ?_
        refine sk_icmp_ge (tgt := 64) (pc' := 59) X dX3_readCommand_56 rfl rfl ?_ ?_
        · refine sk_bipush (pc' := 66) X bp_59 dX3_readCommand_64 rfl ?_
          exact (h66 (r45.2, s38.2.1, s38.2.2, (59 : Int32)))
        · refine sk_bipush (pc' := 61) X bp_44 dX3_readCommand_59 rfl ?_
          refine sk_goto (tgt := 66) X dX3_readCommand_61 rfl ?_
          exact (h66 (r45.2, s38.2.1, s38.2.2, (44 : Int32)))
  unfold m_X3_readCommand
  refine sk_aload_n (pc' := 1) X rfl dX3_readCommand_0 rfl ?_
  refine sk_callV (bs2 := fun r1 => [(sc_W G u0 S0)]) (st := []) (st2 := fun r1 => [.int r1]) (As := []) (pc' := 4) X (c_X3_here l G u0 S0) lk_RX3_36 [0] rfl (by decide) (fun _ => rfl) rfl rfl rfl ⟨(Nat.le_of_ble_eq_true rfl), (Nat.le_of_ble_eq_true rfl)⟩ ⟨rfl, rfl⟩ ⟨(Nat.le_of_ble_eq_true rfl), (Nat.le_of_ble_eq_true rfl)⟩ rfl (Nat.le_of_ble_eq_true rfl) rfl dX3_readCommand_1 rfl (fun _ => rfl) (fun _ => rfl) (fun r1 => ?_)
  refine sk_istore_n (lv' := [some (.ref (u0 0)), some (.int r1), none, none]) (pc' := 5) X (Nat.le_of_ble_eq_true rfl) rfl rfl dX3_readCommand_4 rfl ?_
  refine sk_iload_n (pc' := 6) X rfl dX3_readCommand_5 rfl ?_
  refine sk_callS (bs2 := fun r6 => [(sc_W G u0 S0)]) (st := []) (st2 := fun r6 => [.int r6]) (As := [.int r1]) (pc' := 9) X (c_X3_numbersBehind l G r1) lk_RX3_40 [] rfl (by decide) (fun _ => rfl) ⟨(Nat.le_of_ble_eq_true rfl), (Nat.le_of_ble_eq_true rfl)⟩ ⟨rfl, rfl⟩ ⟨(Nat.le_of_ble_eq_true rfl), (Nat.le_of_ble_eq_true rfl)⟩ rfl (Nat.le_of_ble_eq_true rfl) rfl dX3_readCommand_6 rfl (fun _ => rfl) (fun _ => rfl) (fun r6 => ?_)
  refine sk_istore_n (lv' := [some (.ref (u0 0)), some (.int r1), some (.int r6), none]) (pc' := 10) X (Nat.le_of_ble_eq_true rfl) rfl rfl dX3_readCommand_9 rfl ?_
  refine sk_iload_n (pc' := 11) X rfl dX3_readCommand_10 rfl ?_
  refine sk_if_ne (tgt := 16) (pc' := 14) X dX3_readCommand_11 rfl rfl ?_ ?_
  · refine sk_aload_n (pc' := 17) X rfl dX3_readCommand_16 rfl ?_
    refine sk_dup (pc' := 18) X rfl dX3_readCommand_17 rfl ?_
    refine sk_getf (pc' := 21) X 0 0 1 in_RX3 rfl rfl rfl (Nat.le_of_ble_eq_true rfl) fl_RX3_26 rfl dX3_readCommand_18 rfl ?_
    refine sk_iconst (pc' := 22) X ic_1 dX3_readCommand_21 rfl ?_
    refine sk_iadd (pc' := 23) X dX3_readCommand_22 rfl ?_
    refine sk_putf (bs' := [(sc_W G u0 (sk_up S0 0 1 ((S0 0 1) + (1 : Int32))))]) (pc' := 26) X 0 0 1 in_RX3 tyX3 tyX3_ok nmX3 rfl rfl rfl (Nat.le_of_ble_eq_true rfl) fl_RX3_26 rfl (tyX3_ok 1 (Nat.le_of_ble_eq_true rfl)) rfl rfl (Nat.le_of_ble_eq_true rfl) (sk_st 0 (sc_pf_1 ..) rfl) dX3_readCommand_23 rfl ?_
    refine sk_lt (bsf := fun z => [(sc_W G u0 z)]) (lvf := fun _ => [some (.ref (u0 0)), some (.int r1), some (.int r6), none]) (stf := fun _ => []) (fun N23 => ?_)
    refine sk_aload_n (pc' := 27) X rfl dX3_readCommand_26 rfl ?_
    refine sk_getf (pc' := 30) X 0 0 4 in_RX3 rfl rfl rfl (Nat.le_of_ble_eq_true rfl) fl_RX3_15 rfl dX3_readCommand_27 rfl ?_
    refine sk_aload_n (pc' := 31) X rfl dX3_readCommand_30 rfl ?_
    refine sk_getf (pc' := 34) X 0 0 2 in_RX3 rfl rfl rfl (Nat.le_of_ble_eq_true rfl) fl_RX3_29 rfl dX3_readCommand_31 rfl ?_
    refine sk_iload_n (pc' := 35) X rfl dX3_readCommand_34 rfl ?_
    refine sk_iast (bs' := [(sc_W G u0 (sk_up N23 2 ((N23 0 2)).toNatClampNeg r1))]) (pc' := 36) X 0 2 rfl rfl (sk_st 0 (sc_st_2 ..) rfl) dX3_readCommand_35 rfl ?_
    refine sk_lt (bsf := fun z => [(sc_W G u0 z)]) (lvf := fun _ => [some (.ref (u0 0)), some (.int r1), some (.int r6), none]) (stf := fun _ => []) (fun N35 => ?_)
    refine sk_iconst (pc' := 37) X ic_0 dX3_readCommand_36 rfl ?_
    refine sk_istore_n (lv' := [some (.ref (u0 0)), some (.int r1), some (.int r6), some (.int (0 : Int32))]) (pc' := 38) X (Nat.le_of_ble_eq_true rfl) rfl rfl dX3_readCommand_37 rfl ?_
    exact (sk_kill 1 (h38 (N35, r6, (0 : Int32))))
  · refine sk_iconst (pc' := 15) X ic_0 dX3_readCommand_14 rfl ?_
    exact sk_zret X (by decide) rfl rfl dX3_readCommand_15
def rm_X3_parse : Room := { frames := 3, cells := 0, slots := 0, locals := 65 }
def o_X3_parse : (Int32 × sk_N) → Option Value := fun r => some (.int r.1)
def w_X3_parse (G : sk_G) (u0 : Nat → Nat) : (Int32 × sk_N) → sk_B := fun r => [(sc_W G u0 r.2)]
set_option maxHeartbeats 4000000 in
set_option maxRecDepth 100000 in
theorem c_X3_parse (l : Launch) (G : sk_G) (u0 : Nat → Nat) (S0 : sk_N) : sk_ctr l G yX3_parse cX3_parse 2 (some .boolean) rm_X3_parse [.ref (u0 0)] [(sc_W G u0 S0)] (m_X3_parse S0) o_X3_parse (w_X3_parse G u0) := by
  refine sk_entry (own := RX3) (by decide) rfl (lv0 := [some (.ref (u0 0)), none]) rfl (Nat.le_of_ble_eq_true rfl) ?_
  intro Γ X
  have h12 : ∀ s12 : sk_N × Int32, sk_S Γ (sk_Φ Γ o_X3_parse (w_X3_parse G u0)) 0 0 (m_X3_parse_12 s12) [(sc_W G u0 s12.1)] [some (.ref (u0 0)), some (.int s12.2)] 12 [] := by
    intro s12
    unfold m_X3_parse_12
    refine sk_loop (bsf := fun s12 => [(sc_W G u0 s12.1)]) (lvf := fun s12 => [some (.ref (u0 0)), some (.int s12.2)]) ?_ sk_fuel s12
    intro k12 s12 ih12
    unfold m_X3_parse_12_step
    refine sk_iload_n (pc' := 13) X rfl dX3_parse_12 rfl ?_
    refine sk_bipush (pc' := 15) X bp_34 dX3_parse_13 rfl ?_
    refine sk_icmp_ge (tgt := 44) (pc' := 18) X dX3_parse_15 rfl rfl ?_ ?_
    · refine sk_iconst (pc' := 45) X ic_1 dX3_parse_44 rfl ?_
      exact sk_zret X (by decide) rfl rfl dX3_parse_45
    · refine sk_aload_n (pc' := 19) X rfl dX3_parse_18 rfl ?_
      refine sk_getf (pc' := 22) X 0 0 1 in_RX3 rfl rfl rfl (Nat.le_of_ble_eq_true rfl) fl_RX3_26 rfl dX3_parse_19 rfl ?_
      refine sk_aload_n (pc' := 23) X rfl dX3_parse_22 rfl ?_
      refine sk_getf (pc' := 26) X 0 0 0 in_RX3 rfl rfl rfl (Nat.le_of_ble_eq_true rfl) fl_RX3_22 rfl dX3_parse_23 rfl ?_
      refine sk_icmp_ge (tgt := 44) (pc' := 29) X dX3_parse_26 rfl rfl ?_ ?_
      · refine sk_iconst (pc' := 45) X ic_1 dX3_parse_44 rfl ?_
        exact sk_zret X (by decide) rfl rfl dX3_parse_45
      · refine sk_aload_n (pc' := 30) X rfl dX3_parse_29 rfl ?_
        refine sk_callV (bs2 := fun r30 => [(sc_W G u0 r30.2)]) (st := []) (st2 := fun r30 => [.int r30.1]) (As := []) (pc' := 33) X (c_X3_readCommand l G u0 s12.1) lk_RX3_32 [0] rfl (by decide) (fun _ => rfl) rfl rfl rfl ⟨(Nat.le_of_ble_eq_true rfl), (Nat.le_of_ble_eq_true rfl)⟩ ⟨rfl, rfl⟩ ⟨(Nat.le_of_ble_eq_true rfl), (Nat.le_of_ble_eq_true rfl)⟩ rfl (Nat.le_of_ble_eq_true rfl) rfl dX3_parse_30 rfl (fun _ => rfl) (fun _ => rfl) (fun r30 => ?_)
        refine sk_if_ne (tgt := 38) (pc' := 36) X dX3_parse_33 rfl rfl ?_ ?_
        · refine sk_iinc (lv' := [some (.ref (u0 0)), some (.int (s12.2 + (1 : Int32)))]) (pc' := 41) X rfl ic_1 (Nat.le_of_ble_eq_true rfl) rfl rfl dX3_parse_38 rfl ?_
          refine sk_goto (tgt := 12) X dX3_parse_41 rfl ?_
          exact (ih12 (r30.2, (s12.2 + (1 : Int32))))
        · refine sk_iconst (pc' := 37) X ic_0 dX3_parse_36 rfl ?_
          exact sk_zret X (by decide) rfl rfl dX3_parse_37
  unfold m_X3_parse
  refine sk_aload_n (pc' := 1) X rfl dX3_parse_0 rfl ?_
  refine sk_iconst (pc' := 2) X ic_0 dX3_parse_1 rfl ?_
  refine sk_putf (bs' := [(sc_W G u0 (sk_up S0 0 1 (0 : Int32)))]) (pc' := 5) X 0 0 1 in_RX3 tyX3 tyX3_ok nmX3 rfl rfl rfl (Nat.le_of_ble_eq_true rfl) fl_RX3_26 rfl (tyX3_ok 1 (Nat.le_of_ble_eq_true rfl)) rfl rfl (Nat.le_of_ble_eq_true rfl) (sk_st 0 (sc_pf_1 ..) rfl) dX3_parse_2 rfl ?_
  refine sk_lt (bsf := fun z => [(sc_W G u0 z)]) (lvf := fun _ => [some (.ref (u0 0)), none]) (stf := fun _ => []) (fun N2 => ?_)
  refine sk_aload_n (pc' := 6) X rfl dX3_parse_5 rfl ?_
  refine sk_iconst (pc' := 7) X ic_0 dX3_parse_6 rfl ?_
  refine sk_putf (bs' := [(sc_W G u0 (sk_up N2 0 2 (0 : Int32)))]) (pc' := 10) X 0 0 2 in_RX3 tyX3 tyX3_ok nmX3 rfl rfl rfl (Nat.le_of_ble_eq_true rfl) fl_RX3_29 rfl (tyX3_ok 2 (Nat.le_of_ble_eq_true rfl)) rfl rfl (Nat.le_of_ble_eq_true rfl) (sk_st 0 (sc_pf_2 ..) rfl) dX3_parse_7 rfl ?_
  refine sk_lt (bsf := fun z => [(sc_W G u0 z)]) (lvf := fun _ => [some (.ref (u0 0)), none]) (stf := fun _ => []) (fun N7 => ?_)
  refine sk_iconst (pc' := 11) X ic_0 dX3_parse_10 rfl ?_
  refine sk_istore_n (lv' := [some (.ref (u0 0)), some (.int (0 : Int32))]) (pc' := 12) X (Nat.le_of_ble_eq_true rfl) rfl rfl dX3_parse_11 rfl ?_
  exact (h12 (N7, (0 : Int32)))
def rm_X3_numberOf : Room := { frames := 0, cells := 0, slots := 0, locals := 0 }
def o_X3_numberOf : (Int32) → Option Value := fun r => some (.int r)
def w_X3_numberOf (G : sk_G) (u0 : Nat → Nat) (S0 : sk_N) : (Int32) → sk_B := fun r => [(sc_W G u0 S0)]
set_option maxHeartbeats 4000000 in
set_option maxRecDepth 100000 in
theorem c_X3_numberOf (l : Launch) (G : sk_G) (u0 : Nat → Nat) (S0 : sk_N) (p1 : Int32) (p2 : Int32) : sk_ctr l G yX3_numberOf cX3_numberOf 3 (some .int) rm_X3_numberOf [.ref (u0 0), .int p1, .int p2] [(sc_W G u0 S0)] (m_X3_numberOf S0 p1 p2) o_X3_numberOf (w_X3_numberOf G u0 S0) := by
  refine sk_entry (own := RX3) (by decide) rfl (lv0 := [some (.ref (u0 0)), some (.int p1), some (.int p2)]) rfl (Nat.le_of_ble_eq_true rfl) ?_
  intro Γ X
  unfold m_X3_numberOf
  refine sk_aload_n (pc' := 1) X rfl dX3_numberOf_0 rfl ?_
  refine sk_getf (pc' := 4) X 0 0 5 in_RX3 rfl rfl rfl (Nat.le_of_ble_eq_true rfl) fl_RX3_19 rfl dX3_numberOf_1 rfl ?_
  refine sk_iload_n (pc' := 5) X rfl dX3_numberOf_4 rfl ?_
  refine sk_iconst (pc' := 6) X ic_3 dX3_numberOf_5 rfl ?_
  refine sk_imul (pc' := 7) X dX3_numberOf_6 rfl ?_
  refine sk_iload_n (pc' := 8) X rfl dX3_numberOf_7 rfl ?_
  refine sk_iadd (pc' := 9) X dX3_numberOf_8 rfl ?_
  refine sk_iald (pc' := 10) X 0 3 rfl rfl dX3_numberOf_9 rfl ?_
  exact sk_iret X rfl rfl dX3_numberOf_10
def rm_X3_letterOf : Room := { frames := 0, cells := 0, slots := 0, locals := 0 }
def o_X3_letterOf : (Int32) → Option Value := fun r => some (.int r)
def w_X3_letterOf (G : sk_G) (u0 : Nat → Nat) (S0 : sk_N) : (Int32) → sk_B := fun r => [(sc_W G u0 S0)]
set_option maxHeartbeats 4000000 in
set_option maxRecDepth 100000 in
theorem c_X3_letterOf (l : Launch) (G : sk_G) (u0 : Nat → Nat) (S0 : sk_N) (p1 : Int32) : sk_ctr l G yX3_letterOf cX3_letterOf 2 (some .int) rm_X3_letterOf [.ref (u0 0), .int p1] [(sc_W G u0 S0)] (m_X3_letterOf S0 p1) o_X3_letterOf (w_X3_letterOf G u0 S0) := by
  refine sk_entry (own := RX3) (by decide) rfl (lv0 := [some (.ref (u0 0)), some (.int p1)]) rfl (Nat.le_of_ble_eq_true rfl) ?_
  intro Γ X
  unfold m_X3_letterOf
  refine sk_aload_n (pc' := 1) X rfl dX3_letterOf_0 rfl ?_
  refine sk_getf (pc' := 4) X 0 0 4 in_RX3 rfl rfl rfl (Nat.le_of_ble_eq_true rfl) fl_RX3_15 rfl dX3_letterOf_1 rfl ?_
  refine sk_iload_n (pc' := 5) X rfl dX3_letterOf_4 rfl ?_
  refine sk_iald (pc' := 6) X 0 2 rfl rfl dX3_letterOf_5 rfl ?_
  exact sk_iret X rfl rfl dX3_letterOf_6
def rm_X3_isFull : Room := { frames := 0, cells := 0, slots := 0, locals := 0 }
def o_X3_isFull : (Int32) → Option Value := fun r => some (.int r)
def w_X3_isFull (G : sk_G) (u0 : Nat → Nat) (S0 : sk_N) : (Int32) → sk_B := fun r => [(sc_W G u0 S0)]
set_option maxHeartbeats 4000000 in
set_option maxRecDepth 100000 in
theorem c_X3_isFull (l : Launch) (G : sk_G) (u0 : Nat → Nat) (S0 : sk_N) : sk_ctr l G yX3_isFull cX3_isFull 1 (some .boolean) rm_X3_isFull [.ref (u0 0)] [(sc_W G u0 S0)] (m_X3_isFull S0) o_X3_isFull (w_X3_isFull G u0 S0) := by
  refine sk_entry (own := RX3) (by decide) rfl (lv0 := [some (.ref (u0 0))]) rfl (Nat.le_of_ble_eq_true rfl) ?_
  intro Γ X
  unfold m_X3_isFull
  refine sk_aload_n (pc' := 1) X rfl dX3_isFull_0 rfl ?_
  refine sk_getf (pc' := 4) X 0 0 0 in_RX3 rfl rfl rfl (Nat.le_of_ble_eq_true rfl) fl_RX3_22 rfl dX3_isFull_1 rfl ?_
  refine sk_bipush (pc' := 6) X bp_100 dX3_isFull_4 rfl ?_
  refine sk_icmp_lt (tgt := 13) (pc' := 9) X dX3_isFull_6 rfl rfl ?_ ?_
  · refine sk_iconst (pc' := 14) X ic_0 dX3_isFull_13 rfl ?_
    exact sk_zret X (by decide) rfl rfl dX3_isFull_14
  · refine sk_iconst (pc' := 10) X ic_1 dX3_isFull_9 rfl ?_
    refine sk_goto (tgt := 14) X dX3_isFull_10 rfl ?_
    exact sk_zret X (by decide) rfl rfl dX3_isFull_14
def rm_X3_put : Room := { frames := 0, cells := 0, slots := 0, locals := 0 }
def o_X3_put : (sk_N) → Option Value := fun r => none
def w_X3_put (G : sk_G) (u0 : Nat → Nat) : (sk_N) → sk_B := fun r => [(sc_W G u0 r)]
set_option maxHeartbeats 4000000 in
set_option maxRecDepth 100000 in
theorem c_X3_put (l : Launch) (G : sk_G) (u0 : Nat → Nat) (S0 : sk_N) (p1 : Int32) : sk_ctr l G yX3_put cX3_put 2 none rm_X3_put [.ref (u0 0), .int p1] [(sc_W G u0 S0)] (m_X3_put S0 p1) o_X3_put (w_X3_put G u0) := by
  refine sk_entry (own := RX3) (by decide) rfl (lv0 := [some (.ref (u0 0)), some (.int p1)]) rfl (Nat.le_of_ble_eq_true rfl) ?_
  intro Γ X
  unfold m_X3_put
  refine sk_aload_n (pc' := 1) X rfl dX3_put_0 rfl ?_
  refine sk_getf (pc' := 4) X 0 0 3 in_RX3 rfl rfl rfl (Nat.le_of_ble_eq_true rfl) fl_RX3_9 rfl dX3_put_1 rfl ?_
  refine sk_aload_n (pc' := 5) X rfl dX3_put_4 rfl ?_
  refine sk_getf (pc' := 8) X 0 0 0 in_RX3 rfl rfl rfl (Nat.le_of_ble_eq_true rfl) fl_RX3_22 rfl dX3_put_5 rfl ?_
  refine sk_iload_n (pc' := 9) X rfl dX3_put_8 rfl ?_
  refine sk_i2b (pc' := 10) X dX3_put_9 rfl ?_
  refine sk_bast (bs' := [(sc_W G u0 (sk_up S0 1 ((S0 0 0)).toNatClampNeg (vp_nar .byte (p1).toInt8.toInt32)))]) (pc' := 11) X 0 1 rfl rfl (sk_st 0 (sc_st_1 ..) rfl) dX3_put_10 rfl ?_
  refine sk_lt (bsf := fun z => [(sc_W G u0 z)]) (lvf := fun _ => [some (.ref (u0 0)), some (.int p1)]) (stf := fun _ => []) (fun N10 => ?_)
  refine sk_aload_n (pc' := 12) X rfl dX3_put_11 rfl ?_
  refine sk_dup (pc' := 13) X rfl dX3_put_12 rfl ?_
  refine sk_getf (pc' := 16) X 0 0 0 in_RX3 rfl rfl rfl (Nat.le_of_ble_eq_true rfl) fl_RX3_22 rfl dX3_put_13 rfl ?_
  refine sk_iconst (pc' := 17) X ic_1 dX3_put_16 rfl ?_
  refine sk_iadd (pc' := 18) X dX3_put_17 rfl ?_
  refine sk_putf (bs' := [(sc_W G u0 (sk_up N10 0 0 ((N10 0 0) + (1 : Int32))))]) (pc' := 21) X 0 0 0 in_RX3 tyX3 tyX3_ok nmX3 rfl rfl rfl (Nat.le_of_ble_eq_true rfl) fl_RX3_22 rfl (tyX3_ok 0 (Nat.le_of_ble_eq_true rfl)) rfl rfl (Nat.le_of_ble_eq_true rfl) (sk_st 0 (sc_pf_0 ..) rfl) dX3_put_18 rfl ?_
  refine sk_lt (bsf := fun z => [(sc_W G u0 z)]) (lvf := fun _ => [some (.ref (u0 0)), some (.int p1)]) (stf := fun _ => []) (fun N18 => ?_)
  exact sk_vret X rfl rfl dX3_put_21
