def rm_X2_save : Room := { frames := 3, cells := 0, slots := 0, locals := 82 }
def o_X2_save : (sk_N × sk_N × sk_N × sk_N × sk_N × sk_N × sk_N × sk_N × sk_N) → Option Value := fun r => none
def w_X2_save (G : sk_G) (u0 u1 u2 u3 u4 u5 u6 u7 u8 u9 u10 : Nat → Nat) (S9 : sk_N) (S10 : sk_N) : (sk_N × sk_N × sk_N × sk_N × sk_N × sk_N × sk_N × sk_N × sk_N) → sk_B := fun r => [(sv_W G u0 (u1 0) (u3 0) (u5 0) (u7 0) r.1), (nt_W G u1 (u2 0) r.2.1), (lg_W G u2 r.2.2.1), (nt_W G u3 (u4 0) r.2.2.2.1), (lg_W G u4 r.2.2.2.2.1), (nt_W G u5 (u6 0) r.2.2.2.2.2.1), (lg_W G u6 r.2.2.2.2.2.2.1), (nt_W G u7 (u8 0) r.2.2.2.2.2.2.2.1), (lg_W G u8 r.2.2.2.2.2.2.2.2), (nt_W G u9 (u10 0) S9), (lg_W G u10 S10)]
set_option maxHeartbeats 4000000 in
set_option maxRecDepth 100000 in
theorem c_X2_save (l : Launch) (G : sk_G) (u0 u1 u2 u3 u4 u5 u6 u7 u8 u9 u10 : Nat → Nat) (S0 : sk_N) (S1 : sk_N) (S2 : sk_N) (S3 : sk_N) (S4 : sk_N) (S5 : sk_N) (S6 : sk_N) (S7 : sk_N) (S8 : sk_N) (S9 : sk_N) (S10 : sk_N) : sk_ctr l G yX2_save cX2_save 2 none rm_X2_save [.ref (u0 0), .ref (u9 0)] [(sv_W G u0 (u1 0) (u3 0) (u5 0) (u7 0) S0), (nt_W G u1 (u2 0) S1), (lg_W G u2 S2), (nt_W G u3 (u4 0) S3), (lg_W G u4 S4), (nt_W G u5 (u6 0) S5), (lg_W G u6 S6), (nt_W G u7 (u8 0) S7), (lg_W G u8 S8), (nt_W G u9 (u10 0) S9), (lg_W G u10 S10)] (m_X2_save S0 S1 S2 S3 S4 S5 S6 S7 S8 S9 S10) o_X2_save (w_X2_save G u0 u1 u2 u3 u4 u5 u6 u7 u8 u9 u10 S9 S10) := by
  refine sk_entry (own := RX2) (by decide) rfl (lv0 := [some (.ref (u0 0)), some (.ref (u9 0))]) rfl (Nat.le_of_ble_eq_true rfl) ?_
  intro Γ X
  have h34 : ∀ s34 : sk_N × sk_N × sk_N × sk_N × sk_N × sk_N × sk_N × sk_N × sk_N × Int32, sk_S Γ (sk_Φ Γ o_X2_save (w_X2_save G u0 u1 u2 u3 u4 u5 u6 u7 u8 u9 u10 S9 S10)) 0 0 (m_X2_save_34 S9 S10 s34) [(sv_W G u0 (u1 0) (u3 0) (u5 0) (u7 0) s34.1), (nt_W G u1 (u2 0) s34.2.1), (lg_W G u2 s34.2.2.1), (nt_W G u3 (u4 0) s34.2.2.2.1), (lg_W G u4 s34.2.2.2.2.1), (nt_W G u5 (u6 0) s34.2.2.2.2.2.1), (lg_W G u6 s34.2.2.2.2.2.2.1), (nt_W G u7 (u8 0) s34.2.2.2.2.2.2.2.1), (lg_W G u8 s34.2.2.2.2.2.2.2.2.1), (nt_W G u9 (u10 0) S9), (lg_W G u10 S10)] [some (.ref (u0 0)), none] 34 [.int s34.2.2.2.2.2.2.2.2.2, .ref (u0 0)] := by
    intro s34
    unfold m_X2_save_34
    refine sk_putf (bs' := [(sv_W G u0 (u1 0) (u3 0) (u5 0) (u7 0) (sk_up s34.1 0 1 s34.2.2.2.2.2.2.2.2.2)), (nt_W G u1 (u2 0) s34.2.1), (lg_W G u2 s34.2.2.1), (nt_W G u3 (u4 0) s34.2.2.2.1), (lg_W G u4 s34.2.2.2.2.1), (nt_W G u5 (u6 0) s34.2.2.2.2.2.1), (lg_W G u6 s34.2.2.2.2.2.2.1), (nt_W G u7 (u8 0) s34.2.2.2.2.2.2.2.1), (lg_W G u8 s34.2.2.2.2.2.2.2.2.1), (nt_W G u9 (u10 0) S9), (lg_W G u10 S10)]) (pc' := 37) X 0 0 1 in_RX2 tyX2 tyX2_ok nmX2 rfl rfl rfl (Nat.le_of_ble_eq_true rfl) fl_RX2_18 rfl (tyX2_ok 1 (Nat.le_of_ble_eq_true rfl)) rfl rfl (Nat.le_of_ble_eq_true rfl) (sk_st 0 (sv_pf_1 ..) rfl) dX2_save_34 rfl ?_
    refine sk_lt (bsf := fun z => [(sv_W G u0 (u1 0) (u3 0) (u5 0) (u7 0) z), (nt_W G u1 (u2 0) s34.2.1), (lg_W G u2 s34.2.2.1), (nt_W G u3 (u4 0) s34.2.2.2.1), (lg_W G u4 s34.2.2.2.2.1), (nt_W G u5 (u6 0) s34.2.2.2.2.2.1), (lg_W G u6 s34.2.2.2.2.2.2.1), (nt_W G u7 (u8 0) s34.2.2.2.2.2.2.2.1), (lg_W G u8 s34.2.2.2.2.2.2.2.2.1), (nt_W G u9 (u10 0) S9), (lg_W G u10 S10)]) (lvf := fun _ => [some (.ref (u0 0)), none]) (stf := fun _ => []) (fun N34 => ?_)
    refine sk_aload_n (pc' := 38) X rfl dX2_save_37 rfl ?_
    refine sk_getf (pc' := 41) X 0 0 2 in_RX2 rfl rfl rfl (Nat.le_of_ble_eq_true rfl) fl_RX2_26 rfl dX2_save_38 rfl ?_
    refine sk_iconst (pc' := 42) X ic_4 dX2_save_41 rfl ?_
    refine sk_icmp_ge (tgt := 55) (pc' := 45) X dX2_save_42 rfl rfl ?_ ?_
    · exact sk_vret X rfl rfl dX2_save_55
    · refine sk_aload_n (pc' := 46) X rfl dX2_save_45 rfl ?_
      refine sk_dup (pc' := 47) X rfl dX2_save_46 rfl ?_
      refine sk_getf (pc' := 50) X 0 0 2 in_RX2 rfl rfl rfl (Nat.le_of_ble_eq_true rfl) fl_RX2_26 rfl dX2_save_47 rfl ?_
      refine sk_iconst (pc' := 51) X ic_1 dX2_save_50 rfl ?_
      refine sk_iadd (pc' := 52) X dX2_save_51 rfl ?_
      refine sk_putf (bs' := [(sv_W G u0 (u1 0) (u3 0) (u5 0) (u7 0) (sk_up N34 0 2 ((N34 0 2) + (1 : Int32)))), (nt_W G u1 (u2 0) s34.2.1), (lg_W G u2 s34.2.2.1), (nt_W G u3 (u4 0) s34.2.2.2.1), (lg_W G u4 s34.2.2.2.2.1), (nt_W G u5 (u6 0) s34.2.2.2.2.2.1), (lg_W G u6 s34.2.2.2.2.2.2.1), (nt_W G u7 (u8 0) s34.2.2.2.2.2.2.2.1), (lg_W G u8 s34.2.2.2.2.2.2.2.2.1), (nt_W G u9 (u10 0) S9), (lg_W G u10 S10)]) (pc' := 55) X 0 0 2 in_RX2 tyX2 tyX2_ok nmX2 rfl rfl rfl (Nat.le_of_ble_eq_true rfl) fl_RX2_26 rfl (tyX2_ok 2 (Nat.le_of_ble_eq_true rfl)) rfl rfl (Nat.le_of_ble_eq_true rfl) (sk_st 0 (sv_pf_2 ..) rfl) dX2_save_52 rfl ?_
      refine sk_lt (bsf := fun z => [(sv_W G u0 (u1 0) (u3 0) (u5 0) (u7 0) z), (nt_W G u1 (u2 0) s34.2.1), (lg_W G u2 s34.2.2.1), (nt_W G u3 (u4 0) s34.2.2.2.1), (lg_W G u4 s34.2.2.2.2.1), (nt_W G u5 (u6 0) s34.2.2.2.2.2.1), (lg_W G u6 s34.2.2.2.2.2.2.1), (nt_W G u7 (u8 0) s34.2.2.2.2.2.2.2.1), (lg_W G u8 s34.2.2.2.2.2.2.2.2.1), (nt_W G u9 (u10 0) S9), (lg_W G u10 S10)]) (lvf := fun _ => [some (.ref (u0 0)), none]) (stf := fun _ => []) (fun N52 => ?_)
      exact sk_vret X rfl rfl dX2_save_55
  unfold m_X2_save
  refine sk_aload_n (pc' := 1) X rfl dX2_save_0 rfl ?_
  refine sk_getf (pc' := 4) X 0 0 0 in_RX2 rfl rfl rfl (Nat.le_of_ble_eq_true rfl) fl_RX2_11 rfl dX2_save_1 rfl ?_
  refine sk_aload_n (pc' := 5) X rfl dX2_save_4 rfl ?_
  refine sk_getf (pc' := 8) X 0 0 1 in_RX2 rfl rfl rfl (Nat.le_of_ble_eq_true rfl) fl_RX2_18 rfl dX2_save_5 rfl ?_
  refine sk_aald (pc' := 9) X 0 1 rfl rfl dX2_save_8 rfl ?_ ?_ ?_ ?_
  · refine sk_aload_n (pc' := 10) X rfl dX2_save_9 rfl ?_
    refine sk_callV (bs2 := fun r10 => [(sv_W G u0 (u1 0) (u3 0) (u5 0) (u7 0) S0), (nt_W G u1 (u2 0) r10.1), (lg_W G u2 r10.2), (nt_W G u3 (u4 0) S3), (lg_W G u4 S4), (nt_W G u5 (u6 0) S5), (lg_W G u6 S6), (nt_W G u7 (u8 0) S7), (lg_W G u8 S8), (nt_W G u9 (u10 0) S9), (lg_W G u10 S10)]) (st := []) (st2 := fun r10 => []) (As := [.ref (u9 0)]) (pc' := 13) X (c_X1_copyFrom l G u1 u2 u9 u10 S1 S2 S9 S10) lk_RX2_22 [1, 2, 9, 10] rfl (by decide) (fun _ => rfl) rfl rfl rfl ⟨(Nat.le_of_ble_eq_true rfl), (Nat.le_of_ble_eq_true rfl)⟩ ⟨rfl, rfl⟩ ⟨(Nat.le_of_ble_eq_true rfl), (Nat.le_of_ble_eq_true rfl)⟩ rfl (Nat.le_of_ble_eq_true rfl) rfl dX2_save_10 rfl (fun _ => rfl) (fun _ => rfl) (fun r10 => ?_)
    refine sk_aload_n (pc' := 14) X rfl dX2_save_13 rfl ?_
    refine sk_aload_n (pc' := 15) X rfl dX2_save_14 rfl ?_
    refine sk_getf (pc' := 18) X 0 0 1 in_RX2 rfl rfl rfl (Nat.le_of_ble_eq_true rfl) fl_RX2_18 rfl dX2_save_15 rfl ?_
    refine sk_iconst (pc' := 19) X ic_1 dX2_save_18 rfl ?_
    refine sk_iadd (pc' := 20) X dX2_save_19 rfl ?_
    refine sk_iconst (pc' := 21) X ic_4 dX2_save_20 rfl ?_
    refine sk_icmp_ge (tgt := 33) (pc' := 24) X dX2_save_21 rfl rfl ?_ ?_
    · refine sk_iconst (pc' := 34) X ic_0 dX2_save_33 rfl ?_
      exact (sk_kill 1 (h34 (S0, r10.1, r10.2, S3, S4, S5, S6, S7, S8, (0 : Int32))))
    · refine sk_aload_n (pc' := 25) X rfl dX2_save_24 rfl ?_
      refine sk_getf (pc' := 28) X 0 0 1 in_RX2 rfl rfl rfl (Nat.le_of_ble_eq_true rfl) fl_RX2_18 rfl dX2_save_25 rfl ?_
      refine sk_iconst (pc' := 29) X ic_1 dX2_save_28 rfl ?_
      refine sk_iadd (pc' := 30) X dX2_save_29 rfl ?_
      refine sk_goto (tgt := 34) X dX2_save_30 rfl ?_
      exact (sk_kill 1 (h34 (S0, r10.1, r10.2, S3, S4, S5, S6, S7, S8, ((S0 0 1) + (1 : Int32)))))
  · refine sk_aload_n (pc' := 10) X rfl dX2_save_9 rfl ?_
    refine sk_callV (bs2 := fun r10 => [(sv_W G u0 (u1 0) (u3 0) (u5 0) (u7 0) S0), (nt_W G u1 (u2 0) S1), (lg_W G u2 S2), (nt_W G u3 (u4 0) r10.1), (lg_W G u4 r10.2), (nt_W G u5 (u6 0) S5), (lg_W G u6 S6), (nt_W G u7 (u8 0) S7), (lg_W G u8 S8), (nt_W G u9 (u10 0) S9), (lg_W G u10 S10)]) (st := []) (st2 := fun r10 => []) (As := [.ref (u9 0)]) (pc' := 13) X (c_X1_copyFrom l G u3 u4 u9 u10 S3 S4 S9 S10) lk_RX2_22 [3, 4, 9, 10] rfl (by decide) (fun _ => rfl) rfl rfl rfl ⟨(Nat.le_of_ble_eq_true rfl), (Nat.le_of_ble_eq_true rfl)⟩ ⟨rfl, rfl⟩ ⟨(Nat.le_of_ble_eq_true rfl), (Nat.le_of_ble_eq_true rfl)⟩ rfl (Nat.le_of_ble_eq_true rfl) rfl dX2_save_10 rfl (fun _ => rfl) (fun _ => rfl) (fun r10 => ?_)
    refine sk_aload_n (pc' := 14) X rfl dX2_save_13 rfl ?_
    refine sk_aload_n (pc' := 15) X rfl dX2_save_14 rfl ?_
    refine sk_getf (pc' := 18) X 0 0 1 in_RX2 rfl rfl rfl (Nat.le_of_ble_eq_true rfl) fl_RX2_18 rfl dX2_save_15 rfl ?_
    refine sk_iconst (pc' := 19) X ic_1 dX2_save_18 rfl ?_
    refine sk_iadd (pc' := 20) X dX2_save_19 rfl ?_
    refine sk_iconst (pc' := 21) X ic_4 dX2_save_20 rfl ?_
    refine sk_icmp_ge (tgt := 33) (pc' := 24) X dX2_save_21 rfl rfl ?_ ?_
    · refine sk_iconst (pc' := 34) X ic_0 dX2_save_33 rfl ?_
      exact (sk_kill 1 (h34 (S0, S1, S2, r10.1, r10.2, S5, S6, S7, S8, (0 : Int32))))
    · refine sk_aload_n (pc' := 25) X rfl dX2_save_24 rfl ?_
      refine sk_getf (pc' := 28) X 0 0 1 in_RX2 rfl rfl rfl (Nat.le_of_ble_eq_true rfl) fl_RX2_18 rfl dX2_save_25 rfl ?_
      refine sk_iconst (pc' := 29) X ic_1 dX2_save_28 rfl ?_
      refine sk_iadd (pc' := 30) X dX2_save_29 rfl ?_
      refine sk_goto (tgt := 34) X dX2_save_30 rfl ?_
      exact (sk_kill 1 (h34 (S0, S1, S2, r10.1, r10.2, S5, S6, S7, S8, ((S0 0 1) + (1 : Int32)))))
  · refine sk_aload_n (pc' := 10) X rfl dX2_save_9 rfl ?_
    refine sk_callV (bs2 := fun r10 => [(sv_W G u0 (u1 0) (u3 0) (u5 0) (u7 0) S0), (nt_W G u1 (u2 0) S1), (lg_W G u2 S2), (nt_W G u3 (u4 0) S3), (lg_W G u4 S4), (nt_W G u5 (u6 0) r10.1), (lg_W G u6 r10.2), (nt_W G u7 (u8 0) S7), (lg_W G u8 S8), (nt_W G u9 (u10 0) S9), (lg_W G u10 S10)]) (st := []) (st2 := fun r10 => []) (As := [.ref (u9 0)]) (pc' := 13) X (c_X1_copyFrom l G u5 u6 u9 u10 S5 S6 S9 S10) lk_RX2_22 [5, 6, 9, 10] rfl (by decide) (fun _ => rfl) rfl rfl rfl ⟨(Nat.le_of_ble_eq_true rfl), (Nat.le_of_ble_eq_true rfl)⟩ ⟨rfl, rfl⟩ ⟨(Nat.le_of_ble_eq_true rfl), (Nat.le_of_ble_eq_true rfl)⟩ rfl (Nat.le_of_ble_eq_true rfl) rfl dX2_save_10 rfl (fun _ => rfl) (fun _ => rfl) (fun r10 => ?_)
    refine sk_aload_n (pc' := 14) X rfl dX2_save_13 rfl ?_
    refine sk_aload_n (pc' := 15) X rfl dX2_save_14 rfl ?_
    refine sk_getf (pc' := 18) X 0 0 1 in_RX2 rfl rfl rfl (Nat.le_of_ble_eq_true rfl) fl_RX2_18 rfl dX2_save_15 rfl ?_
    refine sk_iconst (pc' := 19) X ic_1 dX2_save_18 rfl ?_
    refine sk_iadd (pc' := 20) X dX2_save_19 rfl ?_
    refine sk_iconst (pc' := 21) X ic_4 dX2_save_20 rfl ?_
    refine sk_icmp_ge (tgt := 33) (pc' := 24) X dX2_save_21 rfl rfl ?_ ?_
    · refine sk_iconst (pc' := 34) X ic_0 dX2_save_33 rfl ?_
      exact (sk_kill 1 (h34 (S0, S1, S2, S3, S4, r10.1, r10.2, S7, S8, (0 : Int32))))
    · refine sk_aload_n (pc' := 25) X rfl dX2_save_24 rfl ?_
      refine sk_getf (pc' := 28) X 0 0 1 in_RX2 rfl rfl rfl (Nat.le_of_ble_eq_true rfl) fl_RX2_18 rfl dX2_save_25 rfl ?_
      refine sk_iconst (pc' := 29) X ic_1 dX2_save_28 rfl ?_
      refine sk_iadd (pc' := 30) X dX2_save_29 rfl ?_
      refine sk_goto (tgt := 34) X dX2_save_30 rfl ?_
      exact (sk_kill 1 (h34 (S0, S1, S2, S3, S4, r10.1, r10.2, S7, S8, ((S0 0 1) + (1 : Int32)))))
  · refine sk_aload_n (pc' := 10) X rfl dX2_save_9 rfl ?_
    refine sk_callV (bs2 := fun r10 => [(sv_W G u0 (u1 0) (u3 0) (u5 0) (u7 0) S0), (nt_W G u1 (u2 0) S1), (lg_W G u2 S2), (nt_W G u3 (u4 0) S3), (lg_W G u4 S4), (nt_W G u5 (u6 0) S5), (lg_W G u6 S6), (nt_W G u7 (u8 0) r10.1), (lg_W G u8 r10.2), (nt_W G u9 (u10 0) S9), (lg_W G u10 S10)]) (st := []) (st2 := fun r10 => []) (As := [.ref (u9 0)]) (pc' := 13) X (c_X1_copyFrom l G u7 u8 u9 u10 S7 S8 S9 S10) lk_RX2_22 [7, 8, 9, 10] rfl (by decide) (fun _ => rfl) rfl rfl rfl ⟨(Nat.le_of_ble_eq_true rfl), (Nat.le_of_ble_eq_true rfl)⟩ ⟨rfl, rfl⟩ ⟨(Nat.le_of_ble_eq_true rfl), (Nat.le_of_ble_eq_true rfl)⟩ rfl (Nat.le_of_ble_eq_true rfl) rfl dX2_save_10 rfl (fun _ => rfl) (fun _ => rfl) (fun r10 => ?_)
    refine sk_aload_n (pc' := 14) X rfl dX2_save_13 rfl ?_
    refine sk_aload_n (pc' := 15) X rfl dX2_save_14 rfl ?_
    refine sk_getf (pc' := 18) X 0 0 1 in_RX2 rfl rfl rfl (Nat.le_of_ble_eq_true rfl) fl_RX2_18 rfl dX2_save_15 rfl ?_
    refine sk_iconst (pc' := 19) X ic_1 dX2_save_18 rfl ?_
    refine sk_iadd (pc' := 20) X dX2_save_19 rfl ?_
    refine sk_iconst (pc' := 21) X ic_4 dX2_save_20 rfl ?_
    refine sk_icmp_ge (tgt := 33) (pc' := 24) X dX2_save_21 rfl rfl ?_ ?_
    · refine sk_iconst (pc' := 34) X ic_0 dX2_save_33 rfl ?_
      exact (sk_kill 1 (h34 (S0, S1, S2, S3, S4, S5, S6, r10.1, r10.2, (0 : Int32))))
    · refine sk_aload_n (pc' := 25) X rfl dX2_save_24 rfl ?_
      refine sk_getf (pc' := 28) X 0 0 1 in_RX2 rfl rfl rfl (Nat.le_of_ble_eq_true rfl) fl_RX2_18 rfl dX2_save_25 rfl ?_
      refine sk_iconst (pc' := 29) X ic_1 dX2_save_28 rfl ?_
      refine sk_iadd (pc' := 30) X dX2_save_29 rfl ?_
      refine sk_goto (tgt := 34) X dX2_save_30 rfl ?_
      exact (sk_kill 1 (h34 (S0, S1, S2, S3, S4, S5, S6, r10.1, r10.2, ((S0 0 1) + (1 : Int32)))))
def rm_X2_restore : Room := { frames := 3, cells := 0, slots := 0, locals := 82 }
def o_X2_restore : (sk_N × sk_N × sk_N) → Option Value := fun r => none
def w_X2_restore (G : sk_G) (u0 u1 u2 u3 u4 u5 u6 u7 u8 u9 u10 : Nat → Nat) (S1 : sk_N) (S2 : sk_N) (S3 : sk_N) (S4 : sk_N) (S5 : sk_N) (S6 : sk_N) (S7 : sk_N) (S8 : sk_N) : (sk_N × sk_N × sk_N) → sk_B := fun r => [(sv_W G u0 (u1 0) (u3 0) (u5 0) (u7 0) r.1), (nt_W G u1 (u2 0) S1), (lg_W G u2 S2), (nt_W G u3 (u4 0) S3), (lg_W G u4 S4), (nt_W G u5 (u6 0) S5), (lg_W G u6 S6), (nt_W G u7 (u8 0) S7), (lg_W G u8 S8), (nt_W G u9 (u10 0) r.2.1), (lg_W G u10 r.2.2)]
set_option maxHeartbeats 4000000 in
set_option maxRecDepth 100000 in
theorem c_X2_restore (l : Launch) (G : sk_G) (u0 u1 u2 u3 u4 u5 u6 u7 u8 u9 u10 : Nat → Nat) (S0 : sk_N) (S1 : sk_N) (S2 : sk_N) (S3 : sk_N) (S4 : sk_N) (S5 : sk_N) (S6 : sk_N) (S7 : sk_N) (S8 : sk_N) (S9 : sk_N) (S10 : sk_N) : sk_ctr l G yX2_restore cX2_restore 2 none rm_X2_restore [.ref (u0 0), .ref (u9 0)] [(sv_W G u0 (u1 0) (u3 0) (u5 0) (u7 0) S0), (nt_W G u1 (u2 0) S1), (lg_W G u2 S2), (nt_W G u3 (u4 0) S3), (lg_W G u4 S4), (nt_W G u5 (u6 0) S5), (lg_W G u6 S6), (nt_W G u7 (u8 0) S7), (lg_W G u8 S8), (nt_W G u9 (u10 0) S9), (lg_W G u10 S10)] (m_X2_restore S0 S1 S2 S3 S4 S5 S6 S7 S8 S9 S10) o_X2_restore (w_X2_restore G u0 u1 u2 u3 u4 u5 u6 u7 u8 u9 u10 S1 S2 S3 S4 S5 S6 S7 S8) := by
  refine sk_entry (own := RX2) (by decide) rfl (lv0 := [some (.ref (u0 0)), some (.ref (u9 0))]) rfl (Nat.le_of_ble_eq_true rfl) ?_
  intro Γ X
  have h18 : ∀ s18 : sk_N × sk_N × sk_N × Int32, sk_S Γ (sk_Φ Γ o_X2_restore (w_X2_restore G u0 u1 u2 u3 u4 u5 u6 u7 u8 u9 u10 S1 S2 S3 S4 S5 S6 S7 S8)) 0 0 (m_X2_restore_18 S1 S2 S3 S4 S5 S6 S7 S8 s18) [(sv_W G u0 (u1 0) (u3 0) (u5 0) (u7 0) s18.1), (nt_W G u1 (u2 0) S1), (lg_W G u2 S2), (nt_W G u3 (u4 0) S3), (lg_W G u4 S4), (nt_W G u5 (u6 0) S5), (lg_W G u6 S6), (nt_W G u7 (u8 0) S7), (lg_W G u8 S8), (nt_W G u9 (u10 0) s18.2.1), (lg_W G u10 s18.2.2.1)] [some (.ref (u0 0)), some (.ref (u9 0))] 18 [.int s18.2.2.2, .ref (u0 0)] := by
    intro s18
    unfold m_X2_restore_18
    refine sk_putf (bs' := [(sv_W G u0 (u1 0) (u3 0) (u5 0) (u7 0) (sk_up s18.1 0 1 s18.2.2.2)), (nt_W G u1 (u2 0) S1), (lg_W G u2 S2), (nt_W G u3 (u4 0) S3), (lg_W G u4 S4), (nt_W G u5 (u6 0) S5), (lg_W G u6 S6), (nt_W G u7 (u8 0) S7), (lg_W G u8 S8), (nt_W G u9 (u10 0) s18.2.1), (lg_W G u10 s18.2.2.1)]) (pc' := 21) X 0 0 1 in_RX2 tyX2 tyX2_ok nmX2 rfl rfl rfl (Nat.le_of_ble_eq_true rfl) fl_RX2_18 rfl (tyX2_ok 1 (Nat.le_of_ble_eq_true rfl)) rfl rfl (Nat.le_of_ble_eq_true rfl) (sk_st 0 (sv_pf_1 ..) rfl) dX2_restore_18 rfl ?_
    refine sk_lt (bsf := fun z => [(sv_W G u0 (u1 0) (u3 0) (u5 0) (u7 0) z), (nt_W G u1 (u2 0) S1), (lg_W G u2 S2), (nt_W G u3 (u4 0) S3), (lg_W G u4 S4), (nt_W G u5 (u6 0) S5), (lg_W G u6 S6), (nt_W G u7 (u8 0) S7), (lg_W G u8 S8), (nt_W G u9 (u10 0) s18.2.1), (lg_W G u10 s18.2.2.1)]) (lvf := fun _ => [some (.ref (u0 0)), some (.ref (u9 0))]) (stf := fun _ => []) (fun N18 => ?_)
    refine sk_aload_n (pc' := 22) X rfl dX2_restore_21 rfl ?_
    refine sk_aload_n (pc' := 23) X rfl dX2_restore_22 rfl ?_
    refine sk_getf (pc' := 26) X 0 0 0 in_RX2 rfl rfl rfl (Nat.le_of_ble_eq_true rfl) fl_RX2_11 rfl dX2_restore_23 rfl ?_
    refine sk_aload_n (pc' := 27) X rfl dX2_restore_26 rfl ?_
    refine sk_getf (pc' := 30) X 0 0 1 in_RX2 rfl rfl rfl (Nat.le_of_ble_eq_true rfl) fl_RX2_18 rfl dX2_restore_27 rfl ?_
    refine sk_aald (pc' := 31) X 0 1 rfl rfl dX2_restore_30 rfl ?_ ?_ ?_ ?_
    · refine sk_callV (bs2 := fun r31 => [(sv_W G u0 (u1 0) (u3 0) (u5 0) (u7 0) N18), (nt_W G u1 (u2 0) S1), (lg_W G u2 S2), (nt_W G u3 (u4 0) S3), (lg_W G u4 S4), (nt_W G u5 (u6 0) S5), (lg_W G u6 S6), (nt_W G u7 (u8 0) S7), (lg_W G u8 S8), (nt_W G u9 (u10 0) r31.1), (lg_W G u10 r31.2)]) (st := []) (st2 := fun r31 => []) (As := [.ref (u1 0)]) (pc' := 34) X (c_X1_copyFrom l G u9 u10 u1 u2 s18.2.1 s18.2.2.1 S1 S2) lk_RX2_22 [9, 10, 1, 2] rfl (by decide) (fun _ => rfl) rfl rfl rfl ⟨(Nat.le_of_ble_eq_true rfl), (Nat.le_of_ble_eq_true rfl)⟩ ⟨rfl, rfl⟩ ⟨(Nat.le_of_ble_eq_true rfl), (Nat.le_of_ble_eq_true rfl)⟩ rfl (Nat.le_of_ble_eq_true rfl) rfl dX2_restore_31 rfl (fun _ => rfl) (fun _ => rfl) (fun r31 => ?_)
      refine sk_aload_n (pc' := 35) X rfl dX2_restore_34 rfl ?_
      refine sk_dup (pc' := 36) X rfl dX2_restore_35 rfl ?_
      refine sk_getf (pc' := 39) X 0 0 2 in_RX2 rfl rfl rfl (Nat.le_of_ble_eq_true rfl) fl_RX2_26 rfl dX2_restore_36 rfl ?_
      refine sk_iconst (pc' := 40) X ic_1 dX2_restore_39 rfl ?_
      refine sk_isub (pc' := 41) X dX2_restore_40 rfl ?_
      refine sk_putf (bs' := [(sv_W G u0 (u1 0) (u3 0) (u5 0) (u7 0) (sk_up N18 0 2 ((N18 0 2) - (1 : Int32)))), (nt_W G u1 (u2 0) S1), (lg_W G u2 S2), (nt_W G u3 (u4 0) S3), (lg_W G u4 S4), (nt_W G u5 (u6 0) S5), (lg_W G u6 S6), (nt_W G u7 (u8 0) S7), (lg_W G u8 S8), (nt_W G u9 (u10 0) r31.1), (lg_W G u10 r31.2)]) (pc' := 44) X 0 0 2 in_RX2 tyX2 tyX2_ok nmX2 rfl rfl rfl (Nat.le_of_ble_eq_true rfl) fl_RX2_26 rfl (tyX2_ok 2 (Nat.le_of_ble_eq_true rfl)) rfl rfl (Nat.le_of_ble_eq_true rfl) (sk_st 0 (sv_pf_2 ..) rfl) dX2_restore_41 rfl ?_
      refine sk_lt (bsf := fun z => [(sv_W G u0 (u1 0) (u3 0) (u5 0) (u7 0) z), (nt_W G u1 (u2 0) S1), (lg_W G u2 S2), (nt_W G u3 (u4 0) S3), (lg_W G u4 S4), (nt_W G u5 (u6 0) S5), (lg_W G u6 S6), (nt_W G u7 (u8 0) S7), (lg_W G u8 S8), (nt_W G u9 (u10 0) r31.1), (lg_W G u10 r31.2)]) (lvf := fun _ => [some (.ref (u0 0)), some (.ref (u9 0))]) (stf := fun _ => []) (fun N41 => ?_)
      exact sk_vret X rfl rfl dX2_restore_44
    · refine sk_callV (bs2 := fun r31 => [(sv_W G u0 (u1 0) (u3 0) (u5 0) (u7 0) N18), (nt_W G u1 (u2 0) S1), (lg_W G u2 S2), (nt_W G u3 (u4 0) S3), (lg_W G u4 S4), (nt_W G u5 (u6 0) S5), (lg_W G u6 S6), (nt_W G u7 (u8 0) S7), (lg_W G u8 S8), (nt_W G u9 (u10 0) r31.1), (lg_W G u10 r31.2)]) (st := []) (st2 := fun r31 => []) (As := [.ref (u3 0)]) (pc' := 34) X (c_X1_copyFrom l G u9 u10 u3 u4 s18.2.1 s18.2.2.1 S3 S4) lk_RX2_22 [9, 10, 3, 4] rfl (by decide) (fun _ => rfl) rfl rfl rfl ⟨(Nat.le_of_ble_eq_true rfl), (Nat.le_of_ble_eq_true rfl)⟩ ⟨rfl, rfl⟩ ⟨(Nat.le_of_ble_eq_true rfl), (Nat.le_of_ble_eq_true rfl)⟩ rfl (Nat.le_of_ble_eq_true rfl) rfl dX2_restore_31 rfl (fun _ => rfl) (fun _ => rfl) (fun r31 => ?_)
      refine sk_aload_n (pc' := 35) X rfl dX2_restore_34 rfl ?_
      refine sk_dup (pc' := 36) X rfl dX2_restore_35 rfl ?_
      refine sk_getf (pc' := 39) X 0 0 2 in_RX2 rfl rfl rfl (Nat.le_of_ble_eq_true rfl) fl_RX2_26 rfl dX2_restore_36 rfl ?_
      refine sk_iconst (pc' := 40) X ic_1 dX2_restore_39 rfl ?_
      refine sk_isub (pc' := 41) X dX2_restore_40 rfl ?_
      refine sk_putf (bs' := [(sv_W G u0 (u1 0) (u3 0) (u5 0) (u7 0) (sk_up N18 0 2 ((N18 0 2) - (1 : Int32)))), (nt_W G u1 (u2 0) S1), (lg_W G u2 S2), (nt_W G u3 (u4 0) S3), (lg_W G u4 S4), (nt_W G u5 (u6 0) S5), (lg_W G u6 S6), (nt_W G u7 (u8 0) S7), (lg_W G u8 S8), (nt_W G u9 (u10 0) r31.1), (lg_W G u10 r31.2)]) (pc' := 44) X 0 0 2 in_RX2 tyX2 tyX2_ok nmX2 rfl rfl rfl (Nat.le_of_ble_eq_true rfl) fl_RX2_26 rfl (tyX2_ok 2 (Nat.le_of_ble_eq_true rfl)) rfl rfl (Nat.le_of_ble_eq_true rfl) (sk_st 0 (sv_pf_2 ..) rfl) dX2_restore_41 rfl ?_
      refine sk_lt (bsf := fun z => [(sv_W G u0 (u1 0) (u3 0) (u5 0) (u7 0) z), (nt_W G u1 (u2 0) S1), (lg_W G u2 S2), (nt_W G u3 (u4 0) S3), (lg_W G u4 S4), (nt_W G u5 (u6 0) S5), (lg_W G u6 S6), (nt_W G u7 (u8 0) S7), (lg_W G u8 S8), (nt_W G u9 (u10 0) r31.1), (lg_W G u10 r31.2)]) (lvf := fun _ => [some (.ref (u0 0)), some (.ref (u9 0))]) (stf := fun _ => []) (fun N41 => ?_)
      exact sk_vret X rfl rfl dX2_restore_44
    · refine sk_callV (bs2 := fun r31 => [(sv_W G u0 (u1 0) (u3 0) (u5 0) (u7 0) N18), (nt_W G u1 (u2 0) S1), (lg_W G u2 S2), (nt_W G u3 (u4 0) S3), (lg_W G u4 S4), (nt_W G u5 (u6 0) S5), (lg_W G u6 S6), (nt_W G u7 (u8 0) S7), (lg_W G u8 S8), (nt_W G u9 (u10 0) r31.1), (lg_W G u10 r31.2)]) (st := []) (st2 := fun r31 => []) (As := [.ref (u5 0)]) (pc' := 34) X (c_X1_copyFrom l G u9 u10 u5 u6 s18.2.1 s18.2.2.1 S5 S6) lk_RX2_22 [9, 10, 5, 6] rfl (by decide) (fun _ => rfl) rfl rfl rfl ⟨(Nat.le_of_ble_eq_true rfl), (Nat.le_of_ble_eq_true rfl)⟩ ⟨rfl, rfl⟩ ⟨(Nat.le_of_ble_eq_true rfl), (Nat.le_of_ble_eq_true rfl)⟩ rfl (Nat.le_of_ble_eq_true rfl) rfl dX2_restore_31 rfl (fun _ => rfl) (fun _ => rfl) (fun r31 => ?_)
      refine sk_aload_n (pc' := 35) X rfl dX2_restore_34 rfl ?_
      refine sk_dup (pc' := 36) X rfl dX2_restore_35 rfl ?_
      refine sk_getf (pc' := 39) X 0 0 2 in_RX2 rfl rfl rfl (Nat.le_of_ble_eq_true rfl) fl_RX2_26 rfl dX2_restore_36 rfl ?_
      refine sk_iconst (pc' := 40) X ic_1 dX2_restore_39 rfl ?_
      refine sk_isub (pc' := 41) X dX2_restore_40 rfl ?_
      refine sk_putf (bs' := [(sv_W G u0 (u1 0) (u3 0) (u5 0) (u7 0) (sk_up N18 0 2 ((N18 0 2) - (1 : Int32)))), (nt_W G u1 (u2 0) S1), (lg_W G u2 S2), (nt_W G u3 (u4 0) S3), (lg_W G u4 S4), (nt_W G u5 (u6 0) S5), (lg_W G u6 S6), (nt_W G u7 (u8 0) S7), (lg_W G u8 S8), (nt_W G u9 (u10 0) r31.1), (lg_W G u10 r31.2)]) (pc' := 44) X 0 0 2 in_RX2 tyX2 tyX2_ok nmX2 rfl rfl rfl (Nat.le_of_ble_eq_true rfl) fl_RX2_26 rfl (tyX2_ok 2 (Nat.le_of_ble_eq_true rfl)) rfl rfl (Nat.le_of_ble_eq_true rfl) (sk_st 0 (sv_pf_2 ..) rfl) dX2_restore_41 rfl ?_
      refine sk_lt (bsf := fun z => [(sv_W G u0 (u1 0) (u3 0) (u5 0) (u7 0) z), (nt_W G u1 (u2 0) S1), (lg_W G u2 S2), (nt_W G u3 (u4 0) S3), (lg_W G u4 S4), (nt_W G u5 (u6 0) S5), (lg_W G u6 S6), (nt_W G u7 (u8 0) S7), (lg_W G u8 S8), (nt_W G u9 (u10 0) r31.1), (lg_W G u10 r31.2)]) (lvf := fun _ => [some (.ref (u0 0)), some (.ref (u9 0))]) (stf := fun _ => []) (fun N41 => ?_)
      exact sk_vret X rfl rfl dX2_restore_44
    · refine sk_callV (bs2 := fun r31 => [(sv_W G u0 (u1 0) (u3 0) (u5 0) (u7 0) N18), (nt_W G u1 (u2 0) S1), (lg_W G u2 S2), (nt_W G u3 (u4 0) S3), (lg_W G u4 S4), (nt_W G u5 (u6 0) S5), (lg_W G u6 S6), (nt_W G u7 (u8 0) S7), (lg_W G u8 S8), (nt_W G u9 (u10 0) r31.1), (lg_W G u10 r31.2)]) (st := []) (st2 := fun r31 => []) (As := [.ref (u7 0)]) (pc' := 34) X (c_X1_copyFrom l G u9 u10 u7 u8 s18.2.1 s18.2.2.1 S7 S8) lk_RX2_22 [9, 10, 7, 8] rfl (by decide) (fun _ => rfl) rfl rfl rfl ⟨(Nat.le_of_ble_eq_true rfl), (Nat.le_of_ble_eq_true rfl)⟩ ⟨rfl, rfl⟩ ⟨(Nat.le_of_ble_eq_true rfl), (Nat.le_of_ble_eq_true rfl)⟩ rfl (Nat.le_of_ble_eq_true rfl) rfl dX2_restore_31 rfl (fun _ => rfl) (fun _ => rfl) (fun r31 => ?_)
      refine sk_aload_n (pc' := 35) X rfl dX2_restore_34 rfl ?_
      refine sk_dup (pc' := 36) X rfl dX2_restore_35 rfl ?_
      refine sk_getf (pc' := 39) X 0 0 2 in_RX2 rfl rfl rfl (Nat.le_of_ble_eq_true rfl) fl_RX2_26 rfl dX2_restore_36 rfl ?_
      refine sk_iconst (pc' := 40) X ic_1 dX2_restore_39 rfl ?_
      refine sk_isub (pc' := 41) X dX2_restore_40 rfl ?_
      refine sk_putf (bs' := [(sv_W G u0 (u1 0) (u3 0) (u5 0) (u7 0) (sk_up N18 0 2 ((N18 0 2) - (1 : Int32)))), (nt_W G u1 (u2 0) S1), (lg_W G u2 S2), (nt_W G u3 (u4 0) S3), (lg_W G u4 S4), (nt_W G u5 (u6 0) S5), (lg_W G u6 S6), (nt_W G u7 (u8 0) S7), (lg_W G u8 S8), (nt_W G u9 (u10 0) r31.1), (lg_W G u10 r31.2)]) (pc' := 44) X 0 0 2 in_RX2 tyX2 tyX2_ok nmX2 rfl rfl rfl (Nat.le_of_ble_eq_true rfl) fl_RX2_26 rfl (tyX2_ok 2 (Nat.le_of_ble_eq_true rfl)) rfl rfl (Nat.le_of_ble_eq_true rfl) (sk_st 0 (sv_pf_2 ..) rfl) dX2_restore_41 rfl ?_
      refine sk_lt (bsf := fun z => [(sv_W G u0 (u1 0) (u3 0) (u5 0) (u7 0) z), (nt_W G u1 (u2 0) S1), (lg_W G u2 S2), (nt_W G u3 (u4 0) S3), (lg_W G u4 S4), (nt_W G u5 (u6 0) S5), (lg_W G u6 S6), (nt_W G u7 (u8 0) S7), (lg_W G u8 S8), (nt_W G u9 (u10 0) r31.1), (lg_W G u10 r31.2)]) (lvf := fun _ => [some (.ref (u0 0)), some (.ref (u9 0))]) (stf := fun _ => []) (fun N41 => ?_)
      exact sk_vret X rfl rfl dX2_restore_44
  unfold m_X2_restore
  refine sk_aload_n (pc' := 1) X rfl dX2_restore_0 rfl ?_
  refine sk_aload_n (pc' := 2) X rfl dX2_restore_1 rfl ?_
  refine sk_getf (pc' := 5) X 0 0 1 in_RX2 rfl rfl rfl (Nat.le_of_ble_eq_true rfl) fl_RX2_18 rfl dX2_restore_2 rfl ?_
  refine sk_if_le (tgt := 17) (pc' := 8) X dX2_restore_5 rfl rfl ?_ ?_
  · refine sk_iconst (pc' := 18) X ic_3 dX2_restore_17 rfl ?_
    exact (h18 (S0, S9, S10, (3 : Int32)))
  · refine sk_aload_n (pc' := 9) X rfl dX2_restore_8 rfl ?_
    refine sk_getf (pc' := 12) X 0 0 1 in_RX2 rfl rfl rfl (Nat.le_of_ble_eq_true rfl) fl_RX2_18 rfl dX2_restore_9 rfl ?_
    refine sk_iconst (pc' := 13) X ic_1 dX2_restore_12 rfl ?_
    refine sk_isub (pc' := 14) X dX2_restore_13 rfl ?_
    refine sk_goto (tgt := 18) X dX2_restore_14 rfl ?_
    exact (h18 (S0, S9, S10, ((S0 0 1) - (1 : Int32))))
def rm_X4_clocks : Room := { frames := 0, cells := 0, slots := 0, locals := 0 }
def o_X4_clocks : (Int32) → Option Value := fun r => some (.int r)
def w_X4_clocks (G : sk_G) (u0 u1 : Nat → Nat) (a0_thought a0_ahead a0_savings a0_script a1_log : Nat) (S1 : sk_N) : (Int32) → sk_B := fun r => [(pc_W u0 (u1 0) a0_thought a0_ahead a0_savings a0_script), (nt_W G u1 a1_log S1)]
set_option maxHeartbeats 4000000 in
set_option maxRecDepth 100000 in
theorem c_X4_clocks (l : Launch) (G : sk_G) (u0 u1 : Nat → Nat) (a0_thought a0_ahead a0_savings a0_script a1_log : Nat) (S1 : sk_N) : sk_ctr l G yX4_clocks cX4_clocks 1 (some .int) rm_X4_clocks [.ref (u0 0)] [(pc_W u0 (u1 0) a0_thought a0_ahead a0_savings a0_script), (nt_W G u1 a1_log S1)] (m_X4_clocks S1) o_X4_clocks (w_X4_clocks G u0 u1 a0_thought a0_ahead a0_savings a0_script a1_log S1) := by
  refine sk_entry (own := RX4) (by decide) rfl (lv0 := [some (.ref (u0 0))]) rfl (Nat.le_of_ble_eq_true rfl) ?_
  intro Γ X
  unfold m_X4_clocks
  refine sk_aload_n (pc' := 1) X rfl dX4_clocks_0 rfl ?_
  refine sk_getf (pc' := 4) X 0 0 0 in_RX4 rfl rfl rfl (Nat.le_of_ble_eq_true rfl) fl_RX4_10 rfl dX4_clocks_1 rfl ?_
  refine sk_getf (pc' := 7) X 1 0 0 in_RX1 rfl rfl rfl (Nat.le_of_ble_eq_true rfl) fl_RX4_128 rfl dX4_clocks_4 rfl ?_
  exact sk_iret X rfl rfl dX4_clocks_7
def rm_X4_components : Room := { frames := 5, cells := 0, slots := 0, locals := 116 }
def o_X4_components : (Int32) → Option Value := fun r => some (.int r)
def w_X4_components (G : sk_G) (u0 u1 : Nat → Nat) (a0_thought a0_ahead a0_savings a0_script a1_log : Nat) (S1 : sk_N) : (Int32) → sk_B := fun r => [(pc_W u0 (u1 0) a0_thought a0_ahead a0_savings a0_script), (nt_W G u1 a1_log S1)]
set_option maxHeartbeats 4000000 in
set_option maxRecDepth 100000 in
theorem c_X4_components (l : Launch) (G : sk_G) (u0 u1 : Nat → Nat) (a0_thought a0_ahead a0_savings a0_script a1_log : Nat) (S1 : sk_N) : sk_ctr l G yX4_components cX4_components 1 (some .int) rm_X4_components [.ref (u0 0)] [(pc_W u0 (u1 0) a0_thought a0_ahead a0_savings a0_script), (nt_W G u1 a1_log S1)] (m_X4_components S1) o_X4_components (w_X4_components G u0 u1 a0_thought a0_ahead a0_savings a0_script a1_log S1) := by
  refine sk_entry (own := RX4) (by decide) rfl (lv0 := [some (.ref (u0 0))]) rfl (Nat.le_of_ble_eq_true rfl) ?_
  intro Γ X
  unfold m_X4_components
  refine sk_aload_n (pc' := 1) X rfl dX4_components_0 rfl ?_
  refine sk_getf (pc' := 4) X 0 0 0 in_RX4 rfl rfl rfl (Nat.le_of_ble_eq_true rfl) fl_RX4_10 rfl dX4_components_1 rfl ?_
  refine sk_aload_n (pc' := 5) X rfl dX4_components_4 rfl ?_
  refine sk_getf (pc' := 8) X 0 0 0 in_RX4 rfl rfl rfl (Nat.le_of_ble_eq_true rfl) fl_RX4_10 rfl dX4_components_5 rfl ?_
  refine sk_callV (bs2 := fun r8 => [(pc_W u0 (u1 0) a0_thought a0_ahead a0_savings a0_script), (nt_W G u1 a1_log S1)]) (st := [.ref (u1 0)]) (st2 := fun r8 => [.int r8, .ref (u1 0)]) (As := []) (pc' := 11) X (c_X1_allClocks l G u1 a1_log S1) lk_RX4_140 [1] rfl (by decide) (fun _ => rfl) rfl rfl rfl ⟨(Nat.le_of_ble_eq_true rfl), (Nat.le_of_ble_eq_true rfl)⟩ ⟨rfl, rfl⟩ ⟨(Nat.le_of_ble_eq_true rfl), (Nat.le_of_ble_eq_true rfl)⟩ rfl (Nat.le_of_ble_eq_true rfl) rfl dX4_components_8 rfl (fun _ => rfl) (fun _ => rfl) (fun r8 => ?_)
  refine sk_callV (bs2 := fun r11 => [(pc_W u0 (u1 0) a0_thought a0_ahead a0_savings a0_script), (nt_W G u1 a1_log S1)]) (st := []) (st2 := fun r11 => [.int r11]) (As := [.int r8]) (pc' := 14) X (c_X1_partsWithin l G u1 a1_log S1 r8) lk_RX4_143 [1] rfl (by decide) (fun _ => rfl) rfl rfl rfl ⟨(Nat.le_of_ble_eq_true rfl), (Nat.le_of_ble_eq_true rfl)⟩ ⟨rfl, rfl⟩ ⟨(Nat.le_of_ble_eq_true rfl), (Nat.le_of_ble_eq_true rfl)⟩ rfl (Nat.le_of_ble_eq_true rfl) rfl dX4_components_11 rfl (fun _ => rfl) (fun _ => rfl) (fun r11 => ?_)
  exact sk_iret X rfl rfl dX4_components_14
def rm_X4_now : Room := { frames := 0, cells := 0, slots := 0, locals := 0 }
def o_X4_now : (Int32) → Option Value := fun r => some (.int r)
def w_X4_now (G : sk_G) (u0 u1 : Nat → Nat) (a0_thought a0_ahead a0_savings a0_script a1_log : Nat) (S1 : sk_N) : (Int32) → sk_B := fun r => [(pc_W u0 (u1 0) a0_thought a0_ahead a0_savings a0_script), (nt_W G u1 a1_log S1)]
set_option maxHeartbeats 4000000 in
set_option maxRecDepth 100000 in
theorem c_X4_now (l : Launch) (G : sk_G) (u0 u1 : Nat → Nat) (a0_thought a0_ahead a0_savings a0_script a1_log : Nat) (S1 : sk_N) : sk_ctr l G yX4_now cX4_now 1 (some .int) rm_X4_now [.ref (u0 0)] [(pc_W u0 (u1 0) a0_thought a0_ahead a0_savings a0_script), (nt_W G u1 a1_log S1)] (m_X4_now S1) o_X4_now (w_X4_now G u0 u1 a0_thought a0_ahead a0_savings a0_script a1_log S1) := by
  refine sk_entry (own := RX4) (by decide) rfl (lv0 := [some (.ref (u0 0))]) rfl (Nat.le_of_ble_eq_true rfl) ?_
  intro Γ X
  unfold m_X4_now
  refine sk_aload_n (pc' := 1) X rfl dX4_now_0 rfl ?_
  refine sk_getf (pc' := 4) X 0 0 0 in_RX4 rfl rfl rfl (Nat.le_of_ble_eq_true rfl) fl_RX4_10 rfl dX4_now_1 rfl ?_
  refine sk_getf (pc' := 7) X 1 0 3 in_RX1 rfl rfl rfl (Nat.le_of_ble_eq_true rfl) fl_RX4_154 rfl dX4_now_4 rfl ?_
  exact sk_iret X rfl rfl dX4_now_7
def rm_X4_noted : Room := { frames := 1, cells := 0, slots := 0, locals := 22 }
def o_X4_noted : (Int32) → Option Value := fun r => some (.int r)
def w_X4_noted (G : sk_G) (u0 u1 u2 : Nat → Nat) (a0_thought a0_ahead a0_savings a0_script : Nat) (S1 : sk_N) (S2 : sk_N) : (Int32) → sk_B := fun r => [(pc_W u0 (u1 0) a0_thought a0_ahead a0_savings a0_script), (nt_W G u1 (u2 0) S1), (lg_W G u2 S2)]
set_option maxHeartbeats 4000000 in
set_option maxRecDepth 100000 in
theorem c_X4_noted (l : Launch) (G : sk_G) (u0 u1 u2 : Nat → Nat) (a0_thought a0_ahead a0_savings a0_script : Nat) (S1 : sk_N) (S2 : sk_N) (p1 : Int32) (p2 : Int32) : sk_ctr l G yX4_noted cX4_noted 4 (some .int) rm_X4_noted [.ref (u0 0), .int p1, .int p2] [(pc_W u0 (u1 0) a0_thought a0_ahead a0_savings a0_script), (nt_W G u1 (u2 0) S1), (lg_W G u2 S2)] (m_X4_noted S1 S2 p1 p2) o_X4_noted (w_X4_noted G u0 u1 u2 a0_thought a0_ahead a0_savings a0_script S1 S2) := by
  refine sk_entry (own := RX4) (by decide) rfl (lv0 := [some (.ref (u0 0)), some (.int p1), some (.int p2), none]) rfl (Nat.le_of_ble_eq_true rfl) ?_
  intro Γ X
  unfold m_X4_noted
  refine sk_aload_n (pc' := 1) X rfl dX4_noted_0 rfl ?_
  refine sk_getf (pc' := 4) X 0 0 0 in_RX4 rfl rfl rfl (Nat.le_of_ble_eq_true rfl) fl_RX4_10 rfl dX4_noted_1 rfl ?_
  refine sk_getf (pc' := 7) X 1 0 5 in_RX1 rfl rfl rfl (Nat.le_of_ble_eq_true rfl) fl_RX4_157 rfl dX4_noted_4 rfl ?_
  refine sk_iload_n (pc' := 8) X rfl dX4_noted_7 rfl ?_
  refine sk_callV (bs2 := fun r8 => [(pc_W u0 (u1 0) a0_thought a0_ahead a0_savings a0_script), (nt_W G u1 (u2 0) S1), (lg_W G u2 S2)]) (st := []) (st2 := fun r8 => [.int r8]) (As := [.int p1]) (pc' := 11) X (c_X0_placeOf l G u2 S2 p1) lk_RX4_161 [2] rfl (by decide) (fun _ => rfl) rfl rfl rfl ⟨(Nat.le_of_ble_eq_true rfl), (Nat.le_of_ble_eq_true rfl)⟩ ⟨rfl, rfl⟩ ⟨(Nat.le_of_ble_eq_true rfl), (Nat.le_of_ble_eq_true rfl)⟩ rfl (Nat.le_of_ble_eq_true rfl) rfl dX4_noted_8 rfl (fun _ => rfl) (fun _ => rfl) (fun r8 => ?_)
  refine sk_istore_n (lv' := [some (.ref (u0 0)), some (.int p1), some (.int p2), some (.int r8)]) (pc' := 12) X (Nat.le_of_ble_eq_true rfl) rfl rfl dX4_noted_11 rfl ?_
  refine sk_iload_n (pc' := 13) X rfl dX4_noted_12 rfl ?_
  refine sk_iconst (pc' := 14) X ic_m1 dX4_noted_13 rfl ?_
  refine sk_icmp_ne (tgt := 19) (pc' := 17) X dX4_noted_14 rfl rfl ?_ ?_
  · refine sk_iload_n (pc' := 20) X rfl dX4_noted_19 rfl ?_
    refine sk_if_eq (tgt := 38) (pc' := 23) X dX4_noted_20 rfl rfl ?_ ?_
    · refine sk_aload_n (pc' := 39) X rfl dX4_noted_38 rfl ?_
      refine sk_getf (pc' := 42) X 0 0 0 in_RX4 rfl rfl rfl (Nat.le_of_ble_eq_true rfl) fl_RX4_10 rfl dX4_noted_39 rfl ?_
      refine sk_getf (pc' := 45) X 1 0 5 in_RX1 rfl rfl rfl (Nat.le_of_ble_eq_true rfl) fl_RX4_157 rfl dX4_noted_42 rfl ?_
      refine sk_getf (pc' := 48) X 2 0 1 in_RX0 rfl rfl rfl (Nat.le_of_ble_eq_true rfl) fl_RX4_169 rfl dX4_noted_45 rfl ?_
      refine sk_iload_n (pc' := 49) X rfl dX4_noted_48 rfl ?_
      refine sk_iald (pc' := 50) X 2 2 rfl rfl dX4_noted_49 rfl ?_
      exact sk_iret X rfl rfl dX4_noted_50
    · refine sk_aload_n (pc' := 24) X rfl dX4_noted_23 rfl ?_
      refine sk_getf (pc' := 27) X 0 0 0 in_RX4 rfl rfl rfl (Nat.le_of_ble_eq_true rfl) fl_RX4_10 rfl dX4_noted_24 rfl ?_
      refine sk_getf (pc' := 30) X 1 0 5 in_RX1 rfl rfl rfl (Nat.le_of_ble_eq_true rfl) fl_RX4_157 rfl dX4_noted_27 rfl ?_
      refine sk_getf (pc' := 33) X 2 0 0 in_RX0 rfl rfl rfl (Nat.le_of_ble_eq_true rfl) fl_RX4_166 rfl dX4_noted_30 rfl ?_
      refine sk_iload_n (pc' := 34) X rfl dX4_noted_33 rfl ?_
      refine sk_iald (pc' := 35) X 2 1 rfl rfl dX4_noted_34 rfl ?_
      refine sk_goto (tgt := 50) X dX4_noted_35 rfl ?_
      exact sk_iret X rfl rfl dX4_noted_50
  · refine sk_iconst (pc' := 18) X ic_m1 dX4_noted_17 rfl ?_
    exact sk_iret X rfl rfl dX4_noted_18
def rm_X4_fired : Room := { frames := 0, cells := 0, slots := 0, locals := 0 }
def o_X4_fired : (Int32) → Option Value := fun r => some (.int r)
def w_X4_fired (G : sk_G) (u0 u1 : Nat → Nat) (a0_thought a0_ahead a0_savings a0_script a1_log : Nat) (S1 : sk_N) : (Int32) → sk_B := fun r => [(pc_W u0 (u1 0) a0_thought a0_ahead a0_savings a0_script), (nt_W G u1 a1_log S1)]
set_option maxHeartbeats 4000000 in
set_option maxRecDepth 100000 in
theorem c_X4_fired (l : Launch) (G : sk_G) (u0 u1 : Nat → Nat) (a0_thought a0_ahead a0_savings a0_script a1_log : Nat) (S1 : sk_N) : sk_ctr l G yX4_fired cX4_fired 1 (some .int) rm_X4_fired [.ref (u0 0)] [(pc_W u0 (u1 0) a0_thought a0_ahead a0_savings a0_script), (nt_W G u1 a1_log S1)] (m_X4_fired S1) o_X4_fired (w_X4_fired G u0 u1 a0_thought a0_ahead a0_savings a0_script a1_log S1) := by
  refine sk_entry (own := RX4) (by decide) rfl (lv0 := [some (.ref (u0 0))]) rfl (Nat.le_of_ble_eq_true rfl) ?_
  intro Γ X
  unfold m_X4_fired
  refine sk_aload_n (pc' := 1) X rfl dX4_fired_0 rfl ?_
  refine sk_getf (pc' := 4) X 0 0 0 in_RX4 rfl rfl rfl (Nat.le_of_ble_eq_true rfl) fl_RX4_10 rfl dX4_fired_1 rfl ?_
  refine sk_getf (pc' := 7) X 1 0 4 in_RX1 rfl rfl rfl (Nat.le_of_ble_eq_true rfl) fl_RX4_172 rfl dX4_fired_4 rfl ?_
  exact sk_iret X rfl rfl dX4_fired_7
def rm_X4_underWay : Room := { frames := 3, cells := 0, slots := 0, locals := 65 }
def o_X4_underWay : (Int32) → Option Value := fun r => some (.int r)
def w_X4_underWay (G : sk_G) (u0 u1 : Nat → Nat) (a0_thought a0_ahead a0_savings a0_script a1_log : Nat) (S1 : sk_N) : (Int32) → sk_B := fun r => [(pc_W u0 (u1 0) a0_thought a0_ahead a0_savings a0_script), (nt_W G u1 a1_log S1)]
set_option maxHeartbeats 4000000 in
set_option maxRecDepth 100000 in
theorem c_X4_underWay (l : Launch) (G : sk_G) (u0 u1 : Nat → Nat) (a0_thought a0_ahead a0_savings a0_script a1_log : Nat) (S1 : sk_N) : sk_ctr l G yX4_underWay cX4_underWay 1 (some .int) rm_X4_underWay [.ref (u0 0)] [(pc_W u0 (u1 0) a0_thought a0_ahead a0_savings a0_script), (nt_W G u1 a1_log S1)] (m_X4_underWay S1) o_X4_underWay (w_X4_underWay G u0 u1 a0_thought a0_ahead a0_savings a0_script a1_log S1) := by
  refine sk_entry (own := RX4) (by decide) rfl (lv0 := [some (.ref (u0 0))]) rfl (Nat.le_of_ble_eq_true rfl) ?_
  intro Γ X
  unfold m_X4_underWay
  refine sk_aload_n (pc' := 1) X rfl dX4_underWay_0 rfl ?_
  refine sk_getf (pc' := 4) X 0 0 0 in_RX4 rfl rfl rfl (Nat.le_of_ble_eq_true rfl) fl_RX4_10 rfl dX4_underWay_1 rfl ?_
  refine sk_callV (bs2 := fun r4 => [(pc_W u0 (u1 0) a0_thought a0_ahead a0_savings a0_script), (nt_W G u1 a1_log S1)]) (st := []) (st2 := fun r4 => [.int r4]) (As := []) (pc' := 7) X (c_X1_pulseCount l G u1 a1_log S1) lk_RX4_175 [1] rfl (by decide) (fun _ => rfl) rfl rfl rfl ⟨(Nat.le_of_ble_eq_true rfl), (Nat.le_of_ble_eq_true rfl)⟩ ⟨rfl, rfl⟩ ⟨(Nat.le_of_ble_eq_true rfl), (Nat.le_of_ble_eq_true rfl)⟩ rfl (Nat.le_of_ble_eq_true rfl) rfl dX4_underWay_4 rfl (fun _ => rfl) (fun _ => rfl) (fun r4 => ?_)
  exact sk_iret X rfl rfl dX4_underWay_7
def rm_X4_groups : Room := { frames := 3, cells := 0, slots := 0, locals := 66 }
def o_X4_groups : (Int32) → Option Value := fun r => some (.int r)
def w_X4_groups (G : sk_G) (u0 u1 : Nat → Nat) (a0_thought a0_ahead a0_savings a0_script a1_log : Nat) (S1 : sk_N) : (Int32) → sk_B := fun r => [(pc_W u0 (u1 0) a0_thought a0_ahead a0_savings a0_script), (nt_W G u1 a1_log S1)]
set_option maxHeartbeats 4000000 in
set_option maxRecDepth 100000 in
theorem c_X4_groups (l : Launch) (G : sk_G) (u0 u1 : Nat → Nat) (a0_thought a0_ahead a0_savings a0_script a1_log : Nat) (S1 : sk_N) : sk_ctr l G yX4_groups cX4_groups 1 (some .int) rm_X4_groups [.ref (u0 0)] [(pc_W u0 (u1 0) a0_thought a0_ahead a0_savings a0_script), (nt_W G u1 a1_log S1)] (m_X4_groups S1) o_X4_groups (w_X4_groups G u0 u1 a0_thought a0_ahead a0_savings a0_script a1_log S1) := by
  refine sk_entry (own := RX4) (by decide) rfl (lv0 := [some (.ref (u0 0))]) rfl (Nat.le_of_ble_eq_true rfl) ?_
  intro Γ X
  unfold m_X4_groups
  refine sk_aload_n (pc' := 1) X rfl dX4_groups_0 rfl ?_
  refine sk_getf (pc' := 4) X 0 0 0 in_RX4 rfl rfl rfl (Nat.le_of_ble_eq_true rfl) fl_RX4_10 rfl dX4_groups_1 rfl ?_
  refine sk_bipush (pc' := 6) X bp_10 dX4_groups_4 rfl ?_
  refine sk_callV (bs2 := fun r6 => [(pc_W u0 (u1 0) a0_thought a0_ahead a0_savings a0_script), (nt_W G u1 a1_log S1)]) (st := []) (st2 := fun r6 => [.int r6]) (As := [.int (10 : Int32)]) (pc' := 9) X (c_X1_groupCount l G u1 a1_log S1 (10 : Int32)) lk_RX4_178 [1] rfl (by decide) (fun _ => rfl) rfl rfl rfl ⟨(Nat.le_of_ble_eq_true rfl), (Nat.le_of_ble_eq_true rfl)⟩ ⟨rfl, rfl⟩ ⟨(Nat.le_of_ble_eq_true rfl), (Nat.le_of_ble_eq_true rfl)⟩ rfl (Nat.le_of_ble_eq_true rfl) rfl dX4_groups_6 rfl (fun _ => rfl) (fun _ => rfl) (fun r6 => ?_)
  exact sk_iret X rfl rfl dX4_groups_9
def rm_X4_spread : Room := { frames := 3, cells := 0, slots := 0, locals := 87 }
def o_X4_spread : (Int32) → Option Value := fun r => some (.int r)
def w_X4_spread (G : sk_G) (u0 u1 : Nat → Nat) (a0_thought a0_ahead a0_savings a0_script a1_log : Nat) (S1 : sk_N) : (Int32) → sk_B := fun r => [(pc_W u0 (u1 0) a0_thought a0_ahead a0_savings a0_script), (nt_W G u1 a1_log S1)]
set_option maxHeartbeats 4000000 in
set_option maxRecDepth 100000 in
theorem c_X4_spread (l : Launch) (G : sk_G) (u0 u1 : Nat → Nat) (a0_thought a0_ahead a0_savings a0_script a1_log : Nat) (S1 : sk_N) : sk_ctr l G yX4_spread cX4_spread 1 (some .int) rm_X4_spread [.ref (u0 0)] [(pc_W u0 (u1 0) a0_thought a0_ahead a0_savings a0_script), (nt_W G u1 a1_log S1)] (m_X4_spread S1) o_X4_spread (w_X4_spread G u0 u1 a0_thought a0_ahead a0_savings a0_script a1_log S1) := by
  refine sk_entry (own := RX4) (by decide) rfl (lv0 := [some (.ref (u0 0))]) rfl (Nat.le_of_ble_eq_true rfl) ?_
  intro Γ X
  unfold m_X4_spread
  refine sk_aload_n (pc' := 1) X rfl dX4_spread_0 rfl ?_
  refine sk_getf (pc' := 4) X 0 0 0 in_RX4 rfl rfl rfl (Nat.le_of_ble_eq_true rfl) fl_RX4_10 rfl dX4_spread_1 rfl ?_
  refine sk_callV (bs2 := fun r4 => [(pc_W u0 (u1 0) a0_thought a0_ahead a0_savings a0_script), (nt_W G u1 a1_log S1)]) (st := []) (st2 := fun r4 => [.int r4]) (As := []) (pc' := 7) X (c_X1_spreadOfGood l G u1 a1_log S1) lk_RX4_195 [1] rfl (by decide) (fun _ => rfl) rfl rfl rfl ⟨(Nat.le_of_ble_eq_true rfl), (Nat.le_of_ble_eq_true rfl)⟩ ⟨rfl, rfl⟩ ⟨(Nat.le_of_ble_eq_true rfl), (Nat.le_of_ble_eq_true rfl)⟩ rfl (Nat.le_of_ble_eq_true rfl) rfl dX4_spread_4 rfl (fun _ => rfl) (fun _ => rfl) (fun r4 => ?_)
  exact sk_iret X rfl rfl dX4_spread_7
def rm_X4_clearText : Room := { frames := 0, cells := 0, slots := 0, locals := 0 }
def o_X4_clearText : (Int32 × sk_N) → Option Value := fun r => some (.int r.1)
def w_X4_clearText (G : sk_G) (u0 u1 : Nat → Nat) (a0_network a0_thought a0_ahead a0_savings : Nat) : (Int32 × sk_N) → sk_B := fun r => [(pc_W u0 a0_network a0_thought a0_ahead a0_savings (u1 0)), (sc_W G u1 r.2)]
set_option maxHeartbeats 4000000 in
set_option maxRecDepth 100000 in
theorem c_X4_clearText (l : Launch) (G : sk_G) (u0 u1 : Nat → Nat) (a0_network a0_thought a0_ahead a0_savings : Nat) (S1 : sk_N) : sk_ctr l G yX4_clearText cX4_clearText 2 (some .int) rm_X4_clearText [.ref (u0 0)] [(pc_W u0 a0_network a0_thought a0_ahead a0_savings (u1 0)), (sc_W G u1 S1)] (m_X4_clearText S1) o_X4_clearText (w_X4_clearText G u0 u1 a0_network a0_thought a0_ahead a0_savings) := by
  refine sk_entry (own := RX4) (by decide) rfl (lv0 := [some (.ref (u0 0)), none]) rfl (Nat.le_of_ble_eq_true rfl) ?_
  intro Γ X
  unfold m_X4_clearText
  refine sk_aload_n (pc' := 1) X rfl dX4_clearText_0 rfl ?_
  refine sk_getf (pc' := 4) X 0 0 4 in_RX4 rfl rfl rfl (Nat.le_of_ble_eq_true rfl) fl_RX4_32 rfl dX4_clearText_1 rfl ?_
  refine sk_getf (pc' := 7) X 1 0 0 in_RX3 rfl rfl rfl (Nat.le_of_ble_eq_true rfl) fl_RX4_233 rfl dX4_clearText_4 rfl ?_
  refine sk_istore_n (lv' := [some (.ref (u0 0)), some (.int (S1 0 0))]) (pc' := 8) X (Nat.le_of_ble_eq_true rfl) rfl rfl dX4_clearText_7 rfl ?_
  refine sk_lt (bsf := fun _ => [(pc_W u0 a0_network a0_thought a0_ahead a0_savings (u1 0)), (sc_W G u1 S1)]) (lvf := fun z => [some (.ref (u0 0)), some (.int z)]) (stf := fun _ => []) (fun x7 => ?_)
  refine sk_aload_n (pc' := 9) X rfl dX4_clearText_8 rfl ?_
  refine sk_getf (pc' := 12) X 0 0 4 in_RX4 rfl rfl rfl (Nat.le_of_ble_eq_true rfl) fl_RX4_32 rfl dX4_clearText_9 rfl ?_
  refine sk_iconst (pc' := 13) X ic_0 dX4_clearText_12 rfl ?_
  refine sk_putf (bs' := [(pc_W u0 a0_network a0_thought a0_ahead a0_savings (u1 0)), (sc_W G u1 (sk_up S1 0 0 (0 : Int32)))]) (pc' := 16) X 1 0 0 in_RX3 tyX3 tyX3_ok nmX3 rfl rfl rfl (Nat.le_of_ble_eq_true rfl) fl_RX4_233 rfl (tyX3_ok 0 (Nat.le_of_ble_eq_true rfl)) rfl rfl (Nat.le_of_ble_eq_true rfl) (sk_st 1 (sc_pf_0 ..) rfl) dX4_clearText_13 rfl ?_
  refine sk_lt (bsf := fun z => [(pc_W u0 a0_network a0_thought a0_ahead a0_savings (u1 0)), (sc_W G u1 z)]) (lvf := fun _ => [some (.ref (u0 0)), some (.int x7)]) (stf := fun _ => []) (fun N13 => ?_)
  refine sk_iload_n (pc' := 17) X rfl dX4_clearText_16 rfl ?_
  exact sk_iret X rfl rfl dX4_clearText_17
def rm_X4_isTickNumber : Room := { frames := 0, cells := 0, slots := 0, locals := 0 }
def o_X4_isTickNumber : (Int32) → Option Value := fun r => some (.int r)
def w_X4_isTickNumber (G : sk_G) : (Int32) → sk_B := fun r => []
set_option maxHeartbeats 4000000 in
set_option maxRecDepth 100000 in
theorem c_X4_isTickNumber (l : Launch) (G : sk_G) (p1 : Int32) : sk_ctr l G yX4_isTickNumber cX4_isTickNumber 1 (some .boolean) rm_X4_isTickNumber [.int p1] [] (m_X4_isTickNumber p1) o_X4_isTickNumber (w_X4_isTickNumber G) := by
  refine sk_entry (own := RX4) (by decide) rfl (lv0 := [some (.int p1)]) rfl (Nat.le_of_ble_eq_true rfl) ?_
  intro Γ X
  unfold m_X4_isTickNumber
  refine sk_iload_n (pc' := 1) X rfl dX4_isTickNumber_0 rfl ?_
  refine sk_iconst (pc' := 2) X ic_1 dX4_isTickNumber_1 rfl ?_
  refine sk_icmp_lt (tgt := 15) (pc' := 5) X dX4_isTickNumber_2 rfl rfl ?_ ?_
  · refine sk_iconst (pc' := 16) X ic_0 dX4_isTickNumber_15 rfl ?_
    exact sk_zret X (by decide) rfl rfl dX4_isTickNumber_16
  · refine sk_iload_n (pc' := 6) X rfl dX4_isTickNumber_5 rfl ?_
    refine sk_bipush (pc' := 8) X bp_99 dX4_isTickNumber_6 rfl ?_
    refine sk_icmp_gt (tgt := 15) (pc' := 11) X dX4_isTickNumber_8 rfl rfl ?_ ?_
    · refine sk_iconst (pc' := 16) X ic_0 dX4_isTickNumber_15 rfl ?_
      exact sk_zret X (by decide) rfl rfl dX4_isTickNumber_16
    · refine sk_iconst (pc' := 12) X ic_1 dX4_isTickNumber_11 rfl ?_
      refine sk_goto (tgt := 16) X dX4_isTickNumber_12 rfl ?_
      exact sk_zret X (by decide) rfl rfl dX4_isTickNumber_16
def rm_X4_setPhaseInThought : Room := { frames := 1, cells := 0, slots := 0, locals := 23 }
def o_X4_setPhaseInThought : (Int32 × sk_N) → Option Value := fun r => some (.int r.1)
def w_X4_setPhaseInThought (G : sk_G) (u0 u1 : Nat → Nat) (a0_network a0_ahead a0_savings a0_script a1_log : Nat) : (Int32 × sk_N) → sk_B := fun r => [(pc_W u0 a0_network (u1 0) a0_ahead a0_savings a0_script), (nt_W G u1 a1_log r.2)]
set_option maxHeartbeats 4000000 in
set_option maxRecDepth 100000 in
theorem c_X4_setPhaseInThought (l : Launch) (G : sk_G) (u0 u1 : Nat → Nat) (a0_network a0_ahead a0_savings a0_script a1_log : Nat) (S1 : sk_N) (p1 : Int32) (p2 : Int32) : sk_ctr l G yX4_setPhaseInThought cX4_setPhaseInThought 3 (some .boolean) rm_X4_setPhaseInThought [.ref (u0 0), .int p1, .int p2] [(pc_W u0 a0_network (u1 0) a0_ahead a0_savings a0_script), (nt_W G u1 a1_log S1)] (m_X4_setPhaseInThought S1 p1 p2) o_X4_setPhaseInThought (w_X4_setPhaseInThought G u0 u1 a0_network a0_ahead a0_savings a0_script a1_log) := by
  refine sk_entry (own := RX4) (by decide) rfl (lv0 := [some (.ref (u0 0)), some (.int p1), some (.int p2)]) rfl (Nat.le_of_ble_eq_true rfl) ?_
  intro Γ X
  unfold m_X4_setPhaseInThought
  refine sk_aload_n (pc' := 1) X rfl dX4_setPhaseInThought_0 rfl ?_
  refine sk_getf (pc' := 4) X 0 0 1 in_RX4 rfl rfl rfl (Nat.le_of_ble_eq_true rfl) fl_RX4_16 rfl dX4_setPhaseInThought_1 rfl ?_
  refine sk_iload_n (pc' := 5) X rfl dX4_setPhaseInThought_4 rfl ?_
  refine sk_callV (bs2 := fun r5 => [(pc_W u0 a0_network (u1 0) a0_ahead a0_savings a0_script), (nt_W G u1 a1_log S1)]) (st := []) (st2 := fun r5 => [.int r5]) (As := [.int p1]) (pc' := 8) X (c_X1_hasClock l G u1 a1_log S1 p1) lk_RX4_275 [1] rfl (by decide) (fun _ => rfl) rfl rfl rfl ⟨(Nat.le_of_ble_eq_true rfl), (Nat.le_of_ble_eq_true rfl)⟩ ⟨rfl, rfl⟩ ⟨(Nat.le_of_ble_eq_true rfl), (Nat.le_of_ble_eq_true rfl)⟩ rfl (Nat.le_of_ble_eq_true rfl) rfl dX4_setPhaseInThought_5 rfl (fun _ => rfl) (fun _ => rfl) (fun r5 => ?_)
  refine sk_if_eq (tgt := 22) (pc' := 11) X dX4_setPhaseInThought_8 rfl rfl ?_ ?_
  · refine sk_iconst (pc' := 23) X ic_0 dX4_setPhaseInThought_22 rfl ?_
    exact sk_zret X (by decide) rfl rfl dX4_setPhaseInThought_23
  · refine sk_aload_n (pc' := 12) X rfl dX4_setPhaseInThought_11 rfl ?_
    refine sk_getf (pc' := 15) X 0 0 1 in_RX4 rfl rfl rfl (Nat.le_of_ble_eq_true rfl) fl_RX4_16 rfl dX4_setPhaseInThought_12 rfl ?_
    refine sk_iload_n (pc' := 16) X rfl dX4_setPhaseInThought_15 rfl ?_
    refine sk_callV (bs2 := fun r16 => [(pc_W u0 a0_network (u1 0) a0_ahead a0_savings a0_script), (nt_W G u1 a1_log S1)]) (st := []) (st2 := fun r16 => [.int r16]) (As := [.int p2]) (pc' := 19) X (c_X1_isPhase l G u1 a1_log S1 p2) lk_RX4_280 [1] rfl (by decide) (fun _ => rfl) rfl rfl rfl ⟨(Nat.le_of_ble_eq_true rfl), (Nat.le_of_ble_eq_true rfl)⟩ ⟨rfl, rfl⟩ ⟨(Nat.le_of_ble_eq_true rfl), (Nat.le_of_ble_eq_true rfl)⟩ rfl (Nat.le_of_ble_eq_true rfl) rfl dX4_setPhaseInThought_16 rfl (fun _ => rfl) (fun _ => rfl) (fun r16 => ?_)
    refine sk_if_ne (tgt := 24) (pc' := 22) X dX4_setPhaseInThought_19 rfl rfl ?_ ?_
    · refine sk_aload_n (pc' := 25) X rfl dX4_setPhaseInThought_24 rfl ?_
      refine sk_getf (pc' := 28) X 0 0 1 in_RX4 rfl rfl rfl (Nat.le_of_ble_eq_true rfl) fl_RX4_16 rfl dX4_setPhaseInThought_25 rfl ?_
      refine sk_iload_n (pc' := 29) X rfl dX4_setPhaseInThought_28 rfl ?_
      refine sk_iload_n (pc' := 30) X rfl dX4_setPhaseInThought_29 rfl ?_
      refine sk_callV (bs2 := fun r30 => [(pc_W u0 a0_network (u1 0) a0_ahead a0_savings a0_script), (nt_W G u1 a1_log r30.2)]) (st := []) (st2 := fun r30 => [.int r30.1]) (As := [.int p1, .int p2]) (pc' := 33) X (c_X1_changePhase l G u1 a1_log S1 p1 p2) lk_RX4_62 [1] rfl (by decide) (fun _ => rfl) rfl rfl rfl ⟨(Nat.le_of_ble_eq_true rfl), (Nat.le_of_ble_eq_true rfl)⟩ ⟨rfl, rfl⟩ ⟨(Nat.le_of_ble_eq_true rfl), (Nat.le_of_ble_eq_true rfl)⟩ rfl (Nat.le_of_ble_eq_true rfl) rfl dX4_setPhaseInThought_30 rfl (fun _ => rfl) (fun _ => rfl) (fun r30 => ?_)
      refine sk_pop (pc' := 34) X rfl dX4_setPhaseInThought_33 rfl ?_
      refine sk_iconst (pc' := 35) X ic_1 dX4_setPhaseInThought_34 rfl ?_
      exact sk_zret X (by decide) rfl rfl dX4_setPhaseInThought_35
    · refine sk_iconst (pc' := 23) X ic_0 dX4_setPhaseInThought_22 rfl ?_
      exact sk_zret X (by decide) rfl rfl dX4_setPhaseInThought_23
def rm_X4_isDelay : Room := { frames := 0, cells := 0, slots := 0, locals := 0 }
def o_X4_isDelay : (Int32) → Option Value := fun r => some (.int r)
def w_X4_isDelay (G : sk_G) : (Int32) → sk_B := fun r => []
set_option maxHeartbeats 4000000 in
set_option maxRecDepth 100000 in
theorem c_X4_isDelay (l : Launch) (G : sk_G) (p1 : Int32) : sk_ctr l G yX4_isDelay cX4_isDelay 1 (some .boolean) rm_X4_isDelay [.int p1] [] (m_X4_isDelay p1) o_X4_isDelay (w_X4_isDelay G) := by
  refine sk_entry (own := RX4) (by decide) rfl (lv0 := [some (.int p1)]) rfl (Nat.le_of_ble_eq_true rfl) ?_
  intro Γ X
  unfold m_X4_isDelay
  refine sk_iload_n (pc' := 1) X rfl dX4_isDelay_0 rfl ?_
  refine sk_if_lt (tgt := 14) (pc' := 4) X dX4_isDelay_1 rfl rfl ?_ ?_
  · refine sk_iconst (pc' := 15) X ic_0 dX4_isDelay_14 rfl ?_
    exact sk_zret X (by decide) rfl rfl dX4_isDelay_15
  · refine sk_iload_n (pc' := 5) X rfl dX4_isDelay_4 rfl ?_
    refine sk_bipush (pc' := 7) X bp_9 dX4_isDelay_5 rfl ?_
    refine sk_icmp_gt (tgt := 14) (pc' := 10) X dX4_isDelay_7 rfl rfl ?_ ?_
    · refine sk_iconst (pc' := 15) X ic_0 dX4_isDelay_14 rfl ?_
      exact sk_zret X (by decide) rfl rfl dX4_isDelay_15
    · refine sk_iconst (pc' := 11) X ic_1 dX4_isDelay_10 rfl ?_
      refine sk_goto (tgt := 15) X dX4_isDelay_11 rfl ?_
      exact sk_zret X (by decide) rfl rfl dX4_isDelay_15
def rm_X4_linkInThought : Room := { frames := 2, cells := 0, slots := 0, locals := 47 }
def o_X4_linkInThought : (Int32 × sk_N) → Option Value := fun r => some (.int r.1)
def w_X4_linkInThought (G : sk_G) (u0 u1 : Nat → Nat) (a0_network a0_ahead a0_savings a0_script a1_log : Nat) : (Int32 × sk_N) → sk_B := fun r => [(pc_W u0 a0_network (u1 0) a0_ahead a0_savings a0_script), (nt_W G u1 a1_log r.2)]
set_option maxHeartbeats 4000000 in
set_option maxRecDepth 100000 in
theorem c_X4_linkInThought (l : Launch) (G : sk_G) (u0 u1 : Nat → Nat) (a0_network a0_ahead a0_savings a0_script a1_log : Nat) (S1 : sk_N) (p1 : Int32) (p2 : Int32) (p3 : Int32) : sk_ctr l G yX4_linkInThought cX4_linkInThought 4 (some .boolean) rm_X4_linkInThought [.ref (u0 0), .int p1, .int p2, .int p3] [(pc_W u0 a0_network (u1 0) a0_ahead a0_savings a0_script), (nt_W G u1 a1_log S1)] (m_X4_linkInThought S1 p1 p2 p3) o_X4_linkInThought (w_X4_linkInThought G u0 u1 a0_network a0_ahead a0_savings a0_script a1_log) := by
  refine sk_entry (own := RX4) (by decide) rfl (lv0 := [some (.ref (u0 0)), some (.int p1), some (.int p2), some (.int p3)]) rfl (Nat.le_of_ble_eq_true rfl) ?_
  intro Γ X
  unfold m_X4_linkInThought
  refine sk_aload_n (pc' := 1) X rfl dX4_linkInThought_0 rfl ?_
  refine sk_getf (pc' := 4) X 0 0 1 in_RX4 rfl rfl rfl (Nat.le_of_ble_eq_true rfl) fl_RX4_16 rfl dX4_linkInThought_1 rfl ?_
  refine sk_iload_n (pc' := 5) X rfl dX4_linkInThought_4 rfl ?_
  refine sk_callV (bs2 := fun r5 => [(pc_W u0 a0_network (u1 0) a0_ahead a0_savings a0_script), (nt_W G u1 a1_log S1)]) (st := []) (st2 := fun r5 => [.int r5]) (As := [.int p1]) (pc' := 8) X (c_X1_hasClock l G u1 a1_log S1 p1) lk_RX4_275 [1] rfl (by decide) (fun _ => rfl) rfl rfl rfl ⟨(Nat.le_of_ble_eq_true rfl), (Nat.le_of_ble_eq_true rfl)⟩ ⟨rfl, rfl⟩ ⟨(Nat.le_of_ble_eq_true rfl), (Nat.le_of_ble_eq_true rfl)⟩ rfl (Nat.le_of_ble_eq_true rfl) rfl dX4_linkInThought_5 rfl (fun _ => rfl) (fun _ => rfl) (fun r5 => ?_)
  refine sk_if_eq (tgt := 34) (pc' := 11) X dX4_linkInThought_8 rfl rfl ?_ ?_
  · refine sk_iconst (pc' := 35) X ic_0 dX4_linkInThought_34 rfl ?_
    exact sk_zret X (by decide) rfl rfl dX4_linkInThought_35
  · refine sk_aload_n (pc' := 12) X rfl dX4_linkInThought_11 rfl ?_
    refine sk_getf (pc' := 15) X 0 0 1 in_RX4 rfl rfl rfl (Nat.le_of_ble_eq_true rfl) fl_RX4_16 rfl dX4_linkInThought_12 rfl ?_
    refine sk_iload_n (pc' := 16) X rfl dX4_linkInThought_15 rfl ?_
    refine sk_callV (bs2 := fun r16 => [(pc_W u0 a0_network (u1 0) a0_ahead a0_savings a0_script), (nt_W G u1 a1_log S1)]) (st := []) (st2 := fun r16 => [.int r16]) (As := [.int p2]) (pc' := 19) X (c_X1_hasClock l G u1 a1_log S1 p2) lk_RX4_275 [1] rfl (by decide) (fun _ => rfl) rfl rfl rfl ⟨(Nat.le_of_ble_eq_true rfl), (Nat.le_of_ble_eq_true rfl)⟩ ⟨rfl, rfl⟩ ⟨(Nat.le_of_ble_eq_true rfl), (Nat.le_of_ble_eq_true rfl)⟩ rfl (Nat.le_of_ble_eq_true rfl) rfl dX4_linkInThought_16 rfl (fun _ => rfl) (fun _ => rfl) (fun r16 => ?_)
    refine sk_if_eq (tgt := 34) (pc' := 22) X dX4_linkInThought_19 rfl rfl ?_ ?_
    · refine sk_iconst (pc' := 35) X ic_0 dX4_linkInThought_34 rfl ?_
      exact sk_zret X (by decide) rfl rfl dX4_linkInThought_35
    · refine sk_iload_n (pc' := 23) X rfl dX4_linkInThought_22 rfl ?_
      refine sk_iload_n (pc' := 24) X rfl dX4_linkInThought_23 rfl ?_
      refine sk_icmp_eq (tgt := 34) (pc' := 27) X dX4_linkInThought_24 rfl rfl ?_ ?_
      · refine sk_iconst (pc' := 35) X ic_0 dX4_linkInThought_34 rfl ?_
        exact sk_zret X (by decide) rfl rfl dX4_linkInThought_35
      · refine sk_iload_n (pc' := 28) X rfl dX4_linkInThought_27 rfl ?_
        refine sk_callS (bs2 := fun r28 => [(pc_W u0 a0_network (u1 0) a0_ahead a0_savings a0_script), (nt_W G u1 a1_log S1)]) (st := []) (st2 := fun r28 => [.int r28]) (As := [.int p3]) (pc' := 31) X (c_X4_isDelay l G p3) lk_RX4_97 [] rfl (by decide) (fun _ => rfl) ⟨(Nat.le_of_ble_eq_true rfl), (Nat.le_of_ble_eq_true rfl)⟩ ⟨rfl, rfl⟩ ⟨(Nat.le_of_ble_eq_true rfl), (Nat.le_of_ble_eq_true rfl)⟩ rfl (Nat.le_of_ble_eq_true rfl) rfl dX4_linkInThought_28 rfl (fun _ => rfl) (fun _ => rfl) (fun r28 => ?_)
        refine sk_if_ne (tgt := 36) (pc' := 34) X dX4_linkInThought_31 rfl rfl ?_ ?_
        · refine sk_aload_n (pc' := 37) X rfl dX4_linkInThought_36 rfl ?_
          refine sk_getf (pc' := 40) X 0 0 1 in_RX4 rfl rfl rfl (Nat.le_of_ble_eq_true rfl) fl_RX4_16 rfl dX4_linkInThought_37 rfl ?_
          refine sk_iload_n (pc' := 41) X rfl dX4_linkInThought_40 rfl ?_
          refine sk_iload_n (pc' := 42) X rfl dX4_linkInThought_41 rfl ?_
          refine sk_iload_n (pc' := 43) X rfl dX4_linkInThought_42 rfl ?_
          refine sk_callV (bs2 := fun r43 => [(pc_W u0 a0_network (u1 0) a0_ahead a0_savings a0_script), (nt_W G u1 a1_log r43.2)]) (st := []) (st2 := fun r43 => [.int r43.1]) (As := [.int p1, .int p2, .int p3]) (pc' := 46) X (c_X1_changeLink l G u1 a1_log S1 p1 p2 p3) lk_RX4_102 [1] rfl (by decide) (fun _ => rfl) rfl rfl rfl ⟨(Nat.le_of_ble_eq_true rfl), (Nat.le_of_ble_eq_true rfl)⟩ ⟨rfl, rfl⟩ ⟨(Nat.le_of_ble_eq_true rfl), (Nat.le_of_ble_eq_true rfl)⟩ rfl (Nat.le_of_ble_eq_true rfl) rfl dX4_linkInThought_43 rfl (fun _ => rfl) (fun _ => rfl) (fun r43 => ?_)
          refine sk_pop (pc' := 47) X rfl dX4_linkInThought_46 rfl ?_
          refine sk_iconst (pc' := 48) X ic_1 dX4_linkInThought_47 rfl ?_
          exact sk_zret X (by decide) rfl rfl dX4_linkInThought_48
        · refine sk_iconst (pc' := 35) X ic_0 dX4_linkInThought_34 rfl ?_
          exact sk_zret X (by decide) rfl rfl dX4_linkInThought_35
def rm_X4_isBlinking : Room := { frames := 0, cells := 0, slots := 0, locals := 0 }
def o_X4_isBlinking : (Int32) → Option Value := fun r => some (.int r)
def w_X4_isBlinking (G : sk_G) : (Int32) → sk_B := fun r => []
set_option maxHeartbeats 4000000 in
set_option maxRecDepth 100000 in
theorem c_X4_isBlinking (l : Launch) (G : sk_G) (p1 : Int32) (p2 : Int32) : sk_ctr l G yX4_isBlinking cX4_isBlinking 2 (some .boolean) rm_X4_isBlinking [.int p1, .int p2] [] (m_X4_isBlinking p1 p2) o_X4_isBlinking (w_X4_isBlinking G) := by
  refine sk_entry (own := RX4) (by decide) rfl (lv0 := [some (.int p1), some (.int p2)]) rfl (Nat.le_of_ble_eq_true rfl) ?_
  intro Γ X
  unfold m_X4_isBlinking
  refine sk_iload_n (pc' := 1) X rfl dX4_isBlinking_0 rfl ?_
  refine sk_iconst (pc' := 2) X ic_1 dX4_isBlinking_1 rfl ?_
  refine sk_icmp_lt (tgt := 25) (pc' := 5) X dX4_isBlinking_2 rfl rfl ?_ ?_
  · refine sk_iconst (pc' := 26) X ic_0 dX4_isBlinking_25 rfl ?_
    exact sk_zret X (by decide) rfl rfl dX4_isBlinking_26
  · refine sk_iload_n (pc' := 6) X rfl dX4_isBlinking_5 rfl ?_
    refine sk_bipush (pc' := 8) X bp_99 dX4_isBlinking_6 rfl ?_
    refine sk_icmp_gt (tgt := 25) (pc' := 11) X dX4_isBlinking_8 rfl rfl ?_ ?_
    · refine sk_iconst (pc' := 26) X ic_0 dX4_isBlinking_25 rfl ?_
      exact sk_zret X (by decide) rfl rfl dX4_isBlinking_26
    · refine sk_iload_n (pc' := 12) X rfl dX4_isBlinking_11 rfl ?_
      refine sk_if_lt (tgt := 25) (pc' := 15) X dX4_isBlinking_12 rfl rfl ?_ ?_
      · refine sk_iconst (pc' := 26) X ic_0 dX4_isBlinking_25 rfl ?_
        exact sk_zret X (by decide) rfl rfl dX4_isBlinking_26
      · refine sk_iload_n (pc' := 16) X rfl dX4_isBlinking_15 rfl ?_
        refine sk_bipush (pc' := 18) X bp_98 dX4_isBlinking_16 rfl ?_
        refine sk_icmp_gt (tgt := 25) (pc' := 21) X dX4_isBlinking_18 rfl rfl ?_ ?_
        · refine sk_iconst (pc' := 26) X ic_0 dX4_isBlinking_25 rfl ?_
          exact sk_zret X (by decide) rfl rfl dX4_isBlinking_26
        · refine sk_iconst (pc' := 22) X ic_1 dX4_isBlinking_21 rfl ?_
          refine sk_goto (tgt := 26) X dX4_isBlinking_22 rfl ?_
          exact sk_zret X (by decide) rfl rfl dX4_isBlinking_26
def rm_X4_blinkInThought : Room := { frames := 1, cells := 0, slots := 0, locals := 23 }
def o_X4_blinkInThought : (Int32 × sk_N) → Option Value := fun r => some (.int r.1)
def w_X4_blinkInThought (G : sk_G) (u0 u1 : Nat → Nat) (a0_network a0_ahead a0_savings a0_script a1_log : Nat) : (Int32 × sk_N) → sk_B := fun r => [(pc_W u0 a0_network (u1 0) a0_ahead a0_savings a0_script), (nt_W G u1 a1_log r.2)]
set_option maxHeartbeats 4000000 in
set_option maxRecDepth 100000 in
theorem c_X4_blinkInThought (l : Launch) (G : sk_G) (u0 u1 : Nat → Nat) (a0_network a0_ahead a0_savings a0_script a1_log : Nat) (S1 : sk_N) (p1 : Int32) (p2 : Int32) (p3 : Int32) : sk_ctr l G yX4_blinkInThought cX4_blinkInThought 4 (some .boolean) rm_X4_blinkInThought [.ref (u0 0), .int p1, .int p2, .int p3] [(pc_W u0 a0_network (u1 0) a0_ahead a0_savings a0_script), (nt_W G u1 a1_log S1)] (m_X4_blinkInThought S1 p1 p2 p3) o_X4_blinkInThought (w_X4_blinkInThought G u0 u1 a0_network a0_ahead a0_savings a0_script a1_log) := by
  refine sk_entry (own := RX4) (by decide) rfl (lv0 := [some (.ref (u0 0)), some (.int p1), some (.int p2), some (.int p3)]) rfl (Nat.le_of_ble_eq_true rfl) ?_
  intro Γ X
  unfold m_X4_blinkInThought
  refine sk_aload_n (pc' := 1) X rfl dX4_blinkInThought_0 rfl ?_
  refine sk_getf (pc' := 4) X 0 0 1 in_RX4 rfl rfl rfl (Nat.le_of_ble_eq_true rfl) fl_RX4_16 rfl dX4_blinkInThought_1 rfl ?_
  refine sk_iload_n (pc' := 5) X rfl dX4_blinkInThought_4 rfl ?_
  refine sk_callV (bs2 := fun r5 => [(pc_W u0 a0_network (u1 0) a0_ahead a0_savings a0_script), (nt_W G u1 a1_log S1)]) (st := []) (st2 := fun r5 => [.int r5]) (As := [.int p1]) (pc' := 8) X (c_X1_hasClock l G u1 a1_log S1 p1) lk_RX4_275 [1] rfl (by decide) (fun _ => rfl) rfl rfl rfl ⟨(Nat.le_of_ble_eq_true rfl), (Nat.le_of_ble_eq_true rfl)⟩ ⟨rfl, rfl⟩ ⟨(Nat.le_of_ble_eq_true rfl), (Nat.le_of_ble_eq_true rfl)⟩ rfl (Nat.le_of_ble_eq_true rfl) rfl dX4_blinkInThought_5 rfl (fun _ => rfl) (fun _ => rfl) (fun r5 => ?_)
  refine sk_if_eq (tgt := 19) (pc' := 11) X dX4_blinkInThought_8 rfl rfl ?_ ?_
  · refine sk_iconst (pc' := 20) X ic_0 dX4_blinkInThought_19 rfl ?_
    exact sk_zret X (by decide) rfl rfl dX4_blinkInThought_20
  · refine sk_iload_n (pc' := 12) X rfl dX4_blinkInThought_11 rfl ?_
    refine sk_iload_n (pc' := 13) X rfl dX4_blinkInThought_12 rfl ?_
    refine sk_callS (bs2 := fun r13 => [(pc_W u0 a0_network (u1 0) a0_ahead a0_savings a0_script), (nt_W G u1 a1_log S1)]) (st := []) (st2 := fun r13 => [.int r13]) (As := [.int p2, .int p3]) (pc' := 16) X (c_X4_isBlinking l G p2 p3) lk_RX4_74 [] rfl (by decide) (fun _ => rfl) ⟨(Nat.le_of_ble_eq_true rfl), (Nat.le_of_ble_eq_true rfl)⟩ ⟨rfl, rfl⟩ ⟨(Nat.le_of_ble_eq_true rfl), (Nat.le_of_ble_eq_true rfl)⟩ rfl (Nat.le_of_ble_eq_true rfl) rfl dX4_blinkInThought_13 rfl (fun _ => rfl) (fun _ => rfl) (fun r13 => ?_)
    refine sk_if_ne (tgt := 21) (pc' := 19) X dX4_blinkInThought_16 rfl rfl ?_ ?_
    · refine sk_aload_n (pc' := 22) X rfl dX4_blinkInThought_21 rfl ?_
      refine sk_getf (pc' := 25) X 0 0 1 in_RX4 rfl rfl rfl (Nat.le_of_ble_eq_true rfl) fl_RX4_16 rfl dX4_blinkInThought_22 rfl ?_
      refine sk_iload_n (pc' := 26) X rfl dX4_blinkInThought_25 rfl ?_
      refine sk_iload_n (pc' := 27) X rfl dX4_blinkInThought_26 rfl ?_
      refine sk_iload_n (pc' := 28) X rfl dX4_blinkInThought_27 rfl ?_
      refine sk_callV (bs2 := fun r28 => [(pc_W u0 a0_network (u1 0) a0_ahead a0_savings a0_script), (nt_W G u1 a1_log r28)]) (st := []) (st2 := fun r28 => []) (As := [.int p1, .int p2, .int p3]) (pc' := 31) X (c_X1_makeBlinker l G u1 a1_log S1 p1 p2 p3) lk_RX4_80 [1] rfl (by decide) (fun _ => rfl) rfl rfl rfl ⟨(Nat.le_of_ble_eq_true rfl), (Nat.le_of_ble_eq_true rfl)⟩ ⟨rfl, rfl⟩ ⟨(Nat.le_of_ble_eq_true rfl), (Nat.le_of_ble_eq_true rfl)⟩ rfl (Nat.le_of_ble_eq_true rfl) rfl dX4_blinkInThought_28 rfl (fun _ => rfl) (fun _ => rfl) (fun r28 => ?_)
      refine sk_iconst (pc' := 32) X ic_1 dX4_blinkInThought_31 rfl ?_
      exact sk_zret X (by decide) rfl rfl dX4_blinkInThought_32
    · refine sk_iconst (pc' := 20) X ic_0 dX4_blinkInThought_19 rfl ?_
      exact sk_zret X (by decide) rfl rfl dX4_blinkInThought_20
def rm_X4_addInThought : Room := { frames := 1, cells := 0, slots := 0, locals := 22 }
def o_X4_addInThought : (Int32 × sk_N) → Option Value := fun r => some (.int r.1)
def w_X4_addInThought (G : sk_G) (u0 u1 : Nat → Nat) (a0_network a0_ahead a0_savings a0_script a1_log : Nat) : (Int32 × sk_N) → sk_B := fun r => [(pc_W u0 a0_network (u1 0) a0_ahead a0_savings a0_script), (nt_W G u1 a1_log r.2)]
set_option maxHeartbeats 4000000 in
set_option maxRecDepth 100000 in
theorem c_X4_addInThought (l : Launch) (G : sk_G) (u0 u1 : Nat → Nat) (a0_network a0_ahead a0_savings a0_script a1_log : Nat) (S1 : sk_N) (p1 : Int32) : sk_ctr l G yX4_addInThought cX4_addInThought 2 (some .boolean) rm_X4_addInThought [.ref (u0 0), .int p1] [(pc_W u0 a0_network (u1 0) a0_ahead a0_savings a0_script), (nt_W G u1 a1_log S1)] (m_X4_addInThought S1 p1) o_X4_addInThought (w_X4_addInThought G u0 u1 a0_network a0_ahead a0_savings a0_script a1_log) := by
  refine sk_entry (own := RX4) (by decide) rfl (lv0 := [some (.ref (u0 0)), some (.int p1)]) rfl (Nat.le_of_ble_eq_true rfl) ?_
  intro Γ X
  unfold m_X4_addInThought
  refine sk_aload_n (pc' := 1) X rfl dX4_addInThought_0 rfl ?_
  refine sk_getf (pc' := 4) X 0 0 1 in_RX4 rfl rfl rfl (Nat.le_of_ble_eq_true rfl) fl_RX4_16 rfl dX4_addInThought_1 rfl ?_
  refine sk_iload_n (pc' := 5) X rfl dX4_addInThought_4 rfl ?_
  refine sk_callV (bs2 := fun r5 => [(pc_W u0 a0_network (u1 0) a0_ahead a0_savings a0_script), (nt_W G u1 a1_log S1)]) (st := []) (st2 := fun r5 => [.int r5]) (As := [.int p1]) (pc' := 8) X (c_X1_isPhase l G u1 a1_log S1 p1) lk_RX4_280 [1] rfl (by decide) (fun _ => rfl) rfl rfl rfl ⟨(Nat.le_of_ble_eq_true rfl), (Nat.le_of_ble_eq_true rfl)⟩ ⟨rfl, rfl⟩ ⟨(Nat.le_of_ble_eq_true rfl), (Nat.le_of_ble_eq_true rfl)⟩ rfl (Nat.le_of_ble_eq_true rfl) rfl dX4_addInThought_5 rfl (fun _ => rfl) (fun _ => rfl) (fun r5 => ?_)
  refine sk_if_eq (tgt := 21) (pc' := 11) X dX4_addInThought_8 rfl rfl ?_ ?_
  · refine sk_iconst (pc' := 22) X ic_0 dX4_addInThought_21 rfl ?_
    exact sk_zret X (by decide) rfl rfl dX4_addInThought_22
  · refine sk_aload_n (pc' := 12) X rfl dX4_addInThought_11 rfl ?_
    refine sk_getf (pc' := 15) X 0 0 1 in_RX4 rfl rfl rfl (Nat.le_of_ble_eq_true rfl) fl_RX4_16 rfl dX4_addInThought_12 rfl ?_
    refine sk_callV (bs2 := fun r15 => [(pc_W u0 a0_network (u1 0) a0_ahead a0_savings a0_script), (nt_W G u1 a1_log S1)]) (st := []) (st2 := fun r15 => [.int r15]) (As := []) (pc' := 18) X (c_X1_isFull l G u1 a1_log S1) lk_RX4_40 [1] rfl (by decide) (fun _ => rfl) rfl rfl rfl ⟨(Nat.le_of_ble_eq_true rfl), (Nat.le_of_ble_eq_true rfl)⟩ ⟨rfl, rfl⟩ ⟨(Nat.le_of_ble_eq_true rfl), (Nat.le_of_ble_eq_true rfl)⟩ rfl (Nat.le_of_ble_eq_true rfl) rfl dX4_addInThought_15 rfl (fun _ => rfl) (fun _ => rfl) (fun r15 => ?_)
    refine sk_if_eq (tgt := 23) (pc' := 21) X dX4_addInThought_18 rfl rfl ?_ ?_
    · refine sk_aload_n (pc' := 24) X rfl dX4_addInThought_23 rfl ?_
      refine sk_getf (pc' := 27) X 0 0 1 in_RX4 rfl rfl rfl (Nat.le_of_ble_eq_true rfl) fl_RX4_16 rfl dX4_addInThought_24 rfl ?_
      refine sk_iload_n (pc' := 28) X rfl dX4_addInThought_27 rfl ?_
      refine sk_callV (bs2 := fun r28 => [(pc_W u0 a0_network (u1 0) a0_ahead a0_savings a0_script), (nt_W G u1 a1_log r28.2)]) (st := []) (st2 := fun r28 => [.int r28.1]) (As := [.int p1]) (pc' := 31) X (c_X1_addClock l G u1 a1_log S1 p1) lk_RX4_55 [1] rfl (by decide) (fun _ => rfl) rfl rfl rfl ⟨(Nat.le_of_ble_eq_true rfl), (Nat.le_of_ble_eq_true rfl)⟩ ⟨rfl, rfl⟩ ⟨(Nat.le_of_ble_eq_true rfl), (Nat.le_of_ble_eq_true rfl)⟩ rfl (Nat.le_of_ble_eq_true rfl) rfl dX4_addInThought_28 rfl (fun _ => rfl) (fun _ => rfl) (fun r28 => ?_)
      refine sk_pop (pc' := 32) X rfl dX4_addInThought_31 rfl ?_
      refine sk_iconst (pc' := 33) X ic_1 dX4_addInThought_32 rfl ?_
      exact sk_zret X (by decide) rfl rfl dX4_addInThought_33
    · refine sk_iconst (pc' := 22) X ic_0 dX4_addInThought_21 rfl ?_
      exact sk_zret X (by decide) rfl rfl dX4_addInThought_22
def rm_X4_runInThought : Room := { frames := 5, cells := 0, slots := 0, locals := 113 }
def o_X4_runInThought : (Int32 × sk_N × sk_N) → Option Value := fun r => some (.int r.1)
def w_X4_runInThought (G : sk_G) (u0 u1 u2 u3 : Nat → Nat) (a0_network a0_ahead a0_savings : Nat) (S1 : sk_N) : (Int32 × sk_N × sk_N) → sk_B := fun r => [(pc_W u0 a0_network (u2 0) a0_ahead a0_savings (u1 0)), (sc_W G u1 S1), (nt_W G u2 (u3 0) r.2.1), (lg_W G u3 r.2.2)]
set_option maxHeartbeats 4000000 in
set_option maxRecDepth 100000 in
theorem c_X4_runInThought (l : Launch) (G : sk_G) (u0 u1 u2 u3 : Nat → Nat) (a0_network a0_ahead a0_savings : Nat) (S1 : sk_N) (S2 : sk_N) (S3 : sk_N) (p1 : Int32) : sk_ctr l G yX4_runInThought cX4_runInThought 5 (some .boolean) rm_X4_runInThought [.ref (u0 0), .int p1] [(pc_W u0 a0_network (u2 0) a0_ahead a0_savings (u1 0)), (sc_W G u1 S1), (nt_W G u2 (u3 0) S2), (lg_W G u3 S3)] (m_X4_runInThought S1 S2 S3 p1) o_X4_runInThought (w_X4_runInThought G u0 u1 u2 u3 a0_network a0_ahead a0_savings S1) := by
  refine sk_entry (own := RX4) (by decide) rfl (lv0 := [some (.ref (u0 0)), some (.int p1), none, none, none]) rfl (Nat.le_of_ble_eq_true rfl) ?_
  intro Γ X
  unfold m_X4_runInThought
  refine sk_aload_n (pc' := 1) X rfl dX4_runInThought_0 rfl ?_
  refine sk_getf (pc' := 4) X 0 0 4 in_RX4 rfl rfl rfl (Nat.le_of_ble_eq_true rfl) fl_RX4_32 rfl dX4_runInThought_1 rfl ?_
  refine sk_iload_n (pc' := 5) X rfl dX4_runInThought_4 rfl ?_
  refine sk_iconst (pc' := 6) X ic_0 dX4_runInThought_5 rfl ?_
  refine sk_callV (bs2 := fun r6 => [(pc_W u0 a0_network (u2 0) a0_ahead a0_savings (u1 0)), (sc_W G u1 S1), (nt_W G u2 (u3 0) S2), (lg_W G u3 S3)]) (st := []) (st2 := fun r6 => [.int r6]) (As := [.int p1, .int (0 : Int32)]) (pc' := 9) X (c_X3_numberOf l G u1 S1 p1 (0 : Int32)) lk_RX4_291 [1] rfl (by decide) (fun _ => rfl) rfl rfl rfl ⟨(Nat.le_of_ble_eq_true rfl), (Nat.le_of_ble_eq_true rfl)⟩ ⟨rfl, rfl⟩ ⟨(Nat.le_of_ble_eq_true rfl), (Nat.le_of_ble_eq_true rfl)⟩ rfl (Nat.le_of_ble_eq_true rfl) rfl dX4_runInThought_6 rfl (fun _ => rfl) (fun _ => rfl) (fun r6 => ?_)
  refine sk_istore_n (lv' := [some (.ref (u0 0)), some (.int p1), some (.int r6), none, none]) (pc' := 10) X (Nat.le_of_ble_eq_true rfl) rfl rfl dX4_runInThought_9 rfl ?_
  refine sk_aload_n (pc' := 11) X rfl dX4_runInThought_10 rfl ?_
  refine sk_getf (pc' := 14) X 0 0 4 in_RX4 rfl rfl rfl (Nat.le_of_ble_eq_true rfl) fl_RX4_32 rfl dX4_runInThought_11 rfl ?_
  refine sk_iload_n (pc' := 15) X rfl dX4_runInThought_14 rfl ?_
  refine sk_iconst (pc' := 16) X ic_1 dX4_runInThought_15 rfl ?_
  refine sk_callV (bs2 := fun r16 => [(pc_W u0 a0_network (u2 0) a0_ahead a0_savings (u1 0)), (sc_W G u1 S1), (nt_W G u2 (u3 0) S2), (lg_W G u3 S3)]) (st := []) (st2 := fun r16 => [.int r16]) (As := [.int p1, .int (1 : Int32)]) (pc' := 19) X (c_X3_numberOf l G u1 S1 p1 (1 : Int32)) lk_RX4_291 [1] rfl (by decide) (fun _ => rfl) rfl rfl rfl ⟨(Nat.le_of_ble_eq_true rfl), (Nat.le_of_ble_eq_true rfl)⟩ ⟨rfl, rfl⟩ ⟨(Nat.le_of_ble_eq_true rfl), (Nat.le_of_ble_eq_true rfl)⟩ rfl (Nat.le_of_ble_eq_true rfl) rfl dX4_runInThought_16 rfl (fun _ => rfl) (fun _ => rfl) (fun r16 => ?_)
  refine sk_istore_n (lv' := [some (.ref (u0 0)), some (.int p1), some (.int r6), some (.int r16), none]) (pc' := 20) X (Nat.le_of_ble_eq_true rfl) rfl rfl dX4_runInThought_19 rfl ?_
  refine sk_aload_n (pc' := 21) X rfl dX4_runInThought_20 rfl ?_
  refine sk_getf (pc' := 24) X 0 0 4 in_RX4 rfl rfl rfl (Nat.le_of_ble_eq_true rfl) fl_RX4_32 rfl dX4_runInThought_21 rfl ?_
  refine sk_iload_n (pc' := 25) X rfl dX4_runInThought_24 rfl ?_
  refine sk_iconst (pc' := 26) X ic_2 dX4_runInThought_25 rfl ?_
  refine sk_callV (bs2 := fun r26 => [(pc_W u0 a0_network (u2 0) a0_ahead a0_savings (u1 0)), (sc_W G u1 S1), (nt_W G u2 (u3 0) S2), (lg_W G u3 S3)]) (st := []) (st2 := fun r26 => [.int r26]) (As := [.int p1, .int (2 : Int32)]) (pc' := 29) X (c_X3_numberOf l G u1 S1 p1 (2 : Int32)) lk_RX4_291 [1] rfl (by decide) (fun _ => rfl) rfl rfl rfl ⟨(Nat.le_of_ble_eq_true rfl), (Nat.le_of_ble_eq_true rfl)⟩ ⟨rfl, rfl⟩ ⟨(Nat.le_of_ble_eq_true rfl), (Nat.le_of_ble_eq_true rfl)⟩ rfl (Nat.le_of_ble_eq_true rfl) rfl dX4_runInThought_26 rfl (fun _ => rfl) (fun _ => rfl) (fun r26 => ?_)
  refine sk_istore (lv' := [some (.ref (u0 0)), some (.int p1), some (.int r6), some (.int r16), some (.int r26)]) (pc' := 31) X (Nat.le_of_ble_eq_true rfl) rfl rfl dX4_runInThought_29 rfl ?_
  refine sk_aload_n (pc' := 32) X rfl dX4_runInThought_31 rfl ?_
  refine sk_getf (pc' := 35) X 0 0 4 in_RX4 rfl rfl rfl (Nat.le_of_ble_eq_true rfl) fl_RX4_32 rfl dX4_runInThought_32 rfl ?_
  refine sk_iload_n (pc' := 36) X rfl dX4_runInThought_35 rfl ?_
  refine sk_callV (bs2 := fun r36 => [(pc_W u0 a0_network (u2 0) a0_ahead a0_savings (u1 0)), (sc_W G u1 S1), (nt_W G u2 (u3 0) S2), (lg_W G u3 S3)]) (st := []) (st2 := fun r36 => [.int r36]) (As := [.int p1]) (pc' := 39) X (c_X3_letterOf l G u1 S1 p1) lk_RX4_294 [1] rfl (by decide) (fun _ => rfl) rfl rfl rfl ⟨(Nat.le_of_ble_eq_true rfl), (Nat.le_of_ble_eq_true rfl)⟩ ⟨rfl, rfl⟩ ⟨(Nat.le_of_ble_eq_true rfl), (Nat.le_of_ble_eq_true rfl)⟩ rfl (Nat.le_of_ble_eq_true rfl) rfl dX4_runInThought_36 rfl (fun _ => rfl) (fun _ => rfl) (fun r36 => ?_)
  refine sk_ite (fun hs39_0 => ?_) (fun hs39_0 => ?_)
  · refine sk_lookup (tgt := 88) X dX4_runInThought_39 rfl (by rw [hs39_0]; try rfl) rfl ?_
    refine sk_aload_n (pc' := 89) X rfl dX4_runInThought_88 rfl ?_
    refine sk_iload_n (pc' := 90) X rfl dX4_runInThought_89 rfl ?_
    refine sk_callV (bs2 := fun r90 => [(pc_W u0 a0_network (u2 0) a0_ahead a0_savings (u1 0)), (sc_W G u1 S1), (nt_W G u2 (u3 0) r90.2), (lg_W G u3 S3)]) (st := []) (st2 := fun r90 => [.int r90.1]) (As := [.int r6]) (pc' := 93) X (c_X4_addInThought l G u0 u2 a0_network a0_ahead a0_savings (u1 0) (u3 0) S2 r6) lk_RX4_297 [0, 2] rfl (by decide) (fun _ => rfl) rfl rfl rfl ⟨(Nat.le_of_ble_eq_true rfl), (Nat.le_of_ble_eq_true rfl)⟩ ⟨rfl, rfl⟩ ⟨(Nat.le_of_ble_eq_true rfl), (Nat.le_of_ble_eq_true rfl)⟩ rfl (Nat.le_of_ble_eq_true rfl) rfl dX4_runInThought_90 rfl (fun _ => rfl) (fun _ => rfl) (fun r90 => ?_)
    exact sk_zretb X rfl rfl dX4_runInThought_93
  ·
    refine sk_ite (fun hs39_1 => ?_) (fun hs39_1 => ?_)
    · refine sk_lookup (tgt := 110) X dX4_runInThought_39 rfl (by rw [hs39_1]; try rfl) rfl ?_
      refine sk_aload_n (pc' := 111) X rfl dX4_runInThought_110 rfl ?_
      refine sk_iload_n (pc' := 112) X rfl dX4_runInThought_111 rfl ?_
      refine sk_iload_n (pc' := 113) X rfl dX4_runInThought_112 rfl ?_
      refine sk_iload (pc' := 115) X rfl dX4_runInThought_113 rfl ?_
      refine sk_callV (bs2 := fun r115 => [(pc_W u0 a0_network (u2 0) a0_ahead a0_savings (u1 0)), (sc_W G u1 S1), (nt_W G u2 (u3 0) r115.2), (lg_W G u3 S3)]) (st := []) (st2 := fun r115 => [.int r115.1]) (As := [.int r6, .int r16, .int r26]) (pc' := 118) X (c_X4_blinkInThought l G u0 u2 a0_network a0_ahead a0_savings (u1 0) (u3 0) S2 r6 r16 r26) lk_RX4_307 [0, 2] rfl (by decide) (fun _ => rfl) rfl rfl rfl ⟨(Nat.le_of_ble_eq_true rfl), (Nat.le_of_ble_eq_true rfl)⟩ ⟨rfl, rfl⟩ ⟨(Nat.le_of_ble_eq_true rfl), (Nat.le_of_ble_eq_true rfl)⟩ rfl (Nat.le_of_ble_eq_true rfl) rfl dX4_runInThought_115 rfl (fun _ => rfl) (fun _ => rfl) (fun r115 => ?_)
      exact sk_zretb X rfl rfl dX4_runInThought_118
    ·
      refine sk_ite (fun hs39_2 => ?_) (fun hs39_2 => ?_)
      · refine sk_lookup (tgt := 101) X dX4_runInThought_39 rfl (by rw [hs39_2]; try rfl) rfl ?_
        refine sk_aload_n (pc' := 102) X rfl dX4_runInThought_101 rfl ?_
        refine sk_iload_n (pc' := 103) X rfl dX4_runInThought_102 rfl ?_
        refine sk_iload_n (pc' := 104) X rfl dX4_runInThought_103 rfl ?_
        refine sk_iload (pc' := 106) X rfl dX4_runInThought_104 rfl ?_
        refine sk_callV (bs2 := fun r106 => [(pc_W u0 a0_network (u2 0) a0_ahead a0_savings (u1 0)), (sc_W G u1 S1), (nt_W G u2 (u3 0) r106.2), (lg_W G u3 S3)]) (st := []) (st2 := fun r106 => [.int r106.1]) (As := [.int r6, .int r16, .int r26]) (pc' := 109) X (c_X4_linkInThought l G u0 u2 a0_network a0_ahead a0_savings (u1 0) (u3 0) S2 r6 r16 r26) lk_RX4_303 [0, 2] rfl (by decide) (fun _ => rfl) rfl rfl rfl ⟨(Nat.le_of_ble_eq_true rfl), (Nat.le_of_ble_eq_true rfl)⟩ ⟨rfl, rfl⟩ ⟨(Nat.le_of_ble_eq_true rfl), (Nat.le_of_ble_eq_true rfl)⟩ rfl (Nat.le_of_ble_eq_true rfl) rfl dX4_runInThought_106 rfl (fun _ => rfl) (fun _ => rfl) (fun r106 => ?_)
        exact sk_zretb X rfl rfl dX4_runInThought_109
      ·
        refine sk_ite (fun hs39_3 => ?_) (fun hs39_3 => ?_)
        · refine sk_lookup (tgt := 94) X dX4_runInThought_39 rfl (by rw [hs39_3]; try rfl) rfl ?_
          refine sk_aload_n (pc' := 95) X rfl dX4_runInThought_94 rfl ?_
          refine sk_iload_n (pc' := 96) X rfl dX4_runInThought_95 rfl ?_
          refine sk_iload_n (pc' := 97) X rfl dX4_runInThought_96 rfl ?_
          refine sk_callV (bs2 := fun r97 => [(pc_W u0 a0_network (u2 0) a0_ahead a0_savings (u1 0)), (sc_W G u1 S1), (nt_W G u2 (u3 0) r97.2), (lg_W G u3 S3)]) (st := []) (st2 := fun r97 => [.int r97.1]) (As := [.int r6, .int r16]) (pc' := 100) X (c_X4_setPhaseInThought l G u0 u2 a0_network a0_ahead a0_savings (u1 0) (u3 0) S2 r6 r16) lk_RX4_300 [0, 2] rfl (by decide) (fun _ => rfl) rfl rfl rfl ⟨(Nat.le_of_ble_eq_true rfl), (Nat.le_of_ble_eq_true rfl)⟩ ⟨rfl, rfl⟩ ⟨(Nat.le_of_ble_eq_true rfl), (Nat.le_of_ble_eq_true rfl)⟩ rfl (Nat.le_of_ble_eq_true rfl) rfl dX4_runInThought_97 rfl (fun _ => rfl) (fun _ => rfl) (fun r97 => ?_)
          exact sk_zretb X rfl rfl dX4_runInThought_100
        ·
          refine sk_ite (fun hs39_4 => ?_) (fun hs39_4 => ?_)
          · refine sk_lookup (tgt := 119) X dX4_runInThought_39 rfl (by rw [hs39_4]; try rfl) rfl ?_
            refine sk_iload_n (pc' := 120) X rfl dX4_runInThought_119 rfl ?_
            refine sk_callS (bs2 := fun r120 => [(pc_W u0 a0_network (u2 0) a0_ahead a0_savings (u1 0)), (sc_W G u1 S1), (nt_W G u2 (u3 0) S2), (lg_W G u3 S3)]) (st := []) (st2 := fun r120 => [.int r120]) (As := [.int r6]) (pc' := 123) X (c_X4_isTickNumber l G r6) lk_RX4_146 [] rfl (by decide) (fun _ => rfl) ⟨(Nat.le_of_ble_eq_true rfl), (Nat.le_of_ble_eq_true rfl)⟩ ⟨rfl, rfl⟩ ⟨(Nat.le_of_ble_eq_true rfl), (Nat.le_of_ble_eq_true rfl)⟩ rfl (Nat.le_of_ble_eq_true rfl) rfl dX4_runInThought_120 rfl (fun _ => rfl) (fun _ => rfl) (fun r120 => ?_)
            refine sk_if_ne (tgt := 128) (pc' := 126) X dX4_runInThought_123 rfl rfl ?_ ?_
            · refine sk_aload_n (pc' := 129) X rfl dX4_runInThought_128 rfl ?_
              refine sk_getf (pc' := 132) X 0 0 1 in_RX4 rfl rfl rfl (Nat.le_of_ble_eq_true rfl) fl_RX4_16 rfl dX4_runInThought_129 rfl ?_
              refine sk_iload_n (pc' := 133) X rfl dX4_runInThought_132 rfl ?_
              refine sk_callV (bs2 := fun r133 => [(pc_W u0 a0_network (u2 0) a0_ahead a0_savings (u1 0)), (sc_W G u1 S1), (nt_W G u2 (u3 0) r133.2.1), (lg_W G u3 r133.2.2)]) (st := []) (st2 := fun r133 => [.int r133.1]) (As := [.int r6]) (pc' := 136) X (c_X1_passTicks l G u2 u3 S2 S3 r6) lk_RX4_151 [2, 3] rfl (by decide) (fun _ => rfl) rfl rfl rfl ⟨(Nat.le_of_ble_eq_true rfl), (Nat.le_of_ble_eq_true rfl)⟩ ⟨rfl, rfl⟩ ⟨(Nat.le_of_ble_eq_true rfl), (Nat.le_of_ble_eq_true rfl)⟩ rfl (Nat.le_of_ble_eq_true rfl) rfl dX4_runInThought_133 rfl (fun _ => rfl) (fun _ => rfl) (fun r133 => ?_)
              refine sk_pop (pc' := 137) X rfl dX4_runInThought_136 rfl ?_
              refine sk_iconst (pc' := 138) X ic_1 dX4_runInThought_137 rfl ?_
              exact sk_zret X (by decide) rfl rfl dX4_runInThought_138
            · refine sk_iconst (pc' := 127) X ic_0 dX4_runInThought_126 rfl ?_
              exact sk_zret X (by decide) rfl rfl dX4_runInThought_127
          ·
            refine sk_lookup (tgt := 139) X dX4_runInThought_39 rfl ((lv_osw hs39_0 (by decide)).trans ((lv_osw hs39_1 (by decide)).trans ((lv_osw hs39_2 (by decide)).trans ((lv_osw hs39_3 (by decide)).trans ((lv_osw hs39_4 (by decide)).trans (rfl)))))) rfl ?_
            refine sk_iconst (pc' := 140) X ic_0 dX4_runInThought_139 rfl ?_
            exact sk_zret X (by decide) rfl rfl dX4_runInThought_140
def rm_X4_execute : Room := { frames := 6, cells := 0, slots := 0, locals := 137 }
def o_X4_execute : (Int32 × sk_N × sk_N × sk_N × sk_N × sk_N × sk_N × sk_N × sk_N × sk_N × sk_N × sk_N × sk_N × sk_N × sk_N) → Option Value := fun r => some (.int r.1)
def w_X4_execute (G : sk_G) (u0 u1 u2 u3 u4 u5 u6 u7 u8 u9 u10 u11 u12 u13 u14 : Nat → Nat) (a0_ahead : Nat) : (Int32 × sk_N × sk_N × sk_N × sk_N × sk_N × sk_N × sk_N × sk_N × sk_N × sk_N × sk_N × sk_N × sk_N × sk_N) → sk_B := fun r => [(pc_W u0 (u1 0) (u13 0) a0_ahead (u3 0) (u12 0)), (nt_W G u1 (u2 0) r.2.1), (lg_W G u2 r.2.2.1), (sv_W G u3 (u4 0) (u6 0) (u8 0) (u10 0) r.2.2.2.1), (nt_W G u4 (u5 0) r.2.2.2.2.1), (lg_W G u5 r.2.2.2.2.2.1), (nt_W G u6 (u7 0) r.2.2.2.2.2.2.1), (lg_W G u7 r.2.2.2.2.2.2.2.1), (nt_W G u8 (u9 0) r.2.2.2.2.2.2.2.2.1), (lg_W G u9 r.2.2.2.2.2.2.2.2.2.1), (nt_W G u10 (u11 0) r.2.2.2.2.2.2.2.2.2.2.1), (lg_W G u11 r.2.2.2.2.2.2.2.2.2.2.2.1), (sc_W G u12 r.2.2.2.2.2.2.2.2.2.2.2.2.1), (nt_W G u13 (u14 0) r.2.2.2.2.2.2.2.2.2.2.2.2.2.1), (lg_W G u14 r.2.2.2.2.2.2.2.2.2.2.2.2.2.2)]
set_option maxHeartbeats 4000000 in
set_option maxRecDepth 100000 in
theorem c_X4_execute (l : Launch) (G : sk_G) (u0 u1 u2 u3 u4 u5 u6 u7 u8 u9 u10 u11 u12 u13 u14 : Nat → Nat) (a0_ahead : Nat) (S1 : sk_N) (S2 : sk_N) (S3 : sk_N) (S4 : sk_N) (S5 : sk_N) (S6 : sk_N) (S7 : sk_N) (S8 : sk_N) (S9 : sk_N) (S10 : sk_N) (S11 : sk_N) (S12 : sk_N) (S13 : sk_N) (S14 : sk_N) : sk_ctr l G yX4_execute cX4_execute 2 (some .int) rm_X4_execute [.ref (u0 0)] [(pc_W u0 (u1 0) (u13 0) a0_ahead (u3 0) (u12 0)), (nt_W G u1 (u2 0) S1), (lg_W G u2 S2), (sv_W G u3 (u4 0) (u6 0) (u8 0) (u10 0) S3), (nt_W G u4 (u5 0) S4), (lg_W G u5 S5), (nt_W G u6 (u7 0) S6), (lg_W G u7 S7), (nt_W G u8 (u9 0) S8), (lg_W G u9 S9), (nt_W G u10 (u11 0) S10), (lg_W G u11 S11), (sc_W G u12 S12), (nt_W G u13 (u14 0) S13), (lg_W G u14 S14)] (m_X4_execute S1 S2 S3 S4 S5 S6 S7 S8 S9 S10 S11 S12 S13 S14) o_X4_execute (w_X4_execute G u0 u1 u2 u3 u4 u5 u6 u7 u8 u9 u10 u11 u12 u13 u14 a0_ahead) := by
  refine sk_entry (own := RX4) (by decide) rfl (lv0 := [some (.ref (u0 0)), none]) rfl (Nat.le_of_ble_eq_true rfl) ?_
  intro Γ X
  have h34 : ∀ s34 : sk_N × sk_N × sk_N × sk_N × sk_N × sk_N × sk_N × sk_N × sk_N × sk_N × sk_N × sk_N × sk_N × sk_N × Int32, sk_S Γ (sk_Φ Γ o_X4_execute (w_X4_execute G u0 u1 u2 u3 u4 u5 u6 u7 u8 u9 u10 u11 u12 u13 u14 a0_ahead)) 0 0 (m_X4_execute_34 s34) [(pc_W u0 (u1 0) (u13 0) a0_ahead (u3 0) (u12 0)), (nt_W G u1 (u2 0) s34.1), (lg_W G u2 s34.2.1), (sv_W G u3 (u4 0) (u6 0) (u8 0) (u10 0) s34.2.2.1), (nt_W G u4 (u5 0) s34.2.2.2.1), (lg_W G u5 s34.2.2.2.2.1), (nt_W G u6 (u7 0) s34.2.2.2.2.2.1), (lg_W G u7 s34.2.2.2.2.2.2.1), (nt_W G u8 (u9 0) s34.2.2.2.2.2.2.2.1), (lg_W G u9 s34.2.2.2.2.2.2.2.2.1), (nt_W G u10 (u11 0) s34.2.2.2.2.2.2.2.2.2.1), (lg_W G u11 s34.2.2.2.2.2.2.2.2.2.2.1), (sc_W G u12 s34.2.2.2.2.2.2.2.2.2.2.2.1), (nt_W G u13 (u14 0) s34.2.2.2.2.2.2.2.2.2.2.2.2.1), (lg_W G u14 s34.2.2.2.2.2.2.2.2.2.2.2.2.2.1)] [some (.ref (u0 0)), some (.int s34.2.2.2.2.2.2.2.2.2.2.2.2.2.2)] 34 [] := by
    intro s34
    unfold m_X4_execute_34
    refine sk_loop (bsf := fun s34 => [(pc_W u0 (u1 0) (u13 0) a0_ahead (u3 0) (u12 0)), (nt_W G u1 (u2 0) s34.1), (lg_W G u2 s34.2.1), (sv_W G u3 (u4 0) (u6 0) (u8 0) (u10 0) s34.2.2.1), (nt_W G u4 (u5 0) s34.2.2.2.1), (lg_W G u5 s34.2.2.2.2.1), (nt_W G u6 (u7 0) s34.2.2.2.2.2.1), (lg_W G u7 s34.2.2.2.2.2.2.1), (nt_W G u8 (u9 0) s34.2.2.2.2.2.2.2.1), (lg_W G u9 s34.2.2.2.2.2.2.2.2.1), (nt_W G u10 (u11 0) s34.2.2.2.2.2.2.2.2.2.1), (lg_W G u11 s34.2.2.2.2.2.2.2.2.2.2.1), (sc_W G u12 s34.2.2.2.2.2.2.2.2.2.2.2.1), (nt_W G u13 (u14 0) s34.2.2.2.2.2.2.2.2.2.2.2.2.1), (lg_W G u14 s34.2.2.2.2.2.2.2.2.2.2.2.2.2.1)]) (lvf := fun s34 => [some (.ref (u0 0)), some (.int s34.2.2.2.2.2.2.2.2.2.2.2.2.2.2)]) ?_ sk_fuel s34
    intro k34 s34 ih34
    unfold m_X4_execute_34_step
    refine sk_iload_n (pc' := 35) X rfl dX4_execute_34 rfl ?_
    refine sk_aload_n (pc' := 36) X rfl dX4_execute_35 rfl ?_
    refine sk_getf (pc' := 39) X 0 0 4 in_RX4 rfl rfl rfl (Nat.le_of_ble_eq_true rfl) fl_RX4_32 rfl dX4_execute_36 rfl ?_
    refine sk_getf (pc' := 42) X 12 0 2 in_RX3 rfl rfl rfl (Nat.le_of_ble_eq_true rfl) fl_RX4_242 rfl dX4_execute_39 rfl ?_
    refine sk_icmp_ge (tgt := 65) (pc' := 45) X dX4_execute_42 rfl rfl ?_ ?_
    · refine sk_aload_n (pc' := 66) X rfl dX4_execute_65 rfl ?_
      refine sk_getf (pc' := 69) X 0 0 3 in_RX4 rfl rfl rfl (Nat.le_of_ble_eq_true rfl) fl_RX4_25 rfl dX4_execute_66 rfl ?_
      refine sk_aload_n (pc' := 70) X rfl dX4_execute_69 rfl ?_
      refine sk_getf (pc' := 73) X 0 0 0 in_RX4 rfl rfl rfl (Nat.le_of_ble_eq_true rfl) fl_RX4_10 rfl dX4_execute_70 rfl ?_
      refine sk_callV (bs2 := fun r73 => [(pc_W u0 (u1 0) (u13 0) a0_ahead (u3 0) (u12 0)), (nt_W G u1 (u2 0) s34.1), (lg_W G u2 s34.2.1), (sv_W G u3 (u4 0) (u6 0) (u8 0) (u10 0) r73.1), (nt_W G u4 (u5 0) r73.2.1), (lg_W G u5 r73.2.2.1), (nt_W G u6 (u7 0) r73.2.2.2.1), (lg_W G u7 r73.2.2.2.2.1), (nt_W G u8 (u9 0) r73.2.2.2.2.2.1), (lg_W G u9 r73.2.2.2.2.2.2.1), (nt_W G u10 (u11 0) r73.2.2.2.2.2.2.2.1), (lg_W G u11 r73.2.2.2.2.2.2.2.2), (sc_W G u12 s34.2.2.2.2.2.2.2.2.2.2.2.1), (nt_W G u13 (u14 0) s34.2.2.2.2.2.2.2.2.2.2.2.2.1), (lg_W G u14 s34.2.2.2.2.2.2.2.2.2.2.2.2.2.1)]) (st := []) (st2 := fun r73 => []) (As := [.ref (u1 0)]) (pc' := 76) X (c_X2_save l G u3 u4 u5 u6 u7 u8 u9 u10 u11 u1 u2 s34.2.2.1 s34.2.2.2.1 s34.2.2.2.2.1 s34.2.2.2.2.2.1 s34.2.2.2.2.2.2.1 s34.2.2.2.2.2.2.2.1 s34.2.2.2.2.2.2.2.2.1 s34.2.2.2.2.2.2.2.2.2.1 s34.2.2.2.2.2.2.2.2.2.2.1 s34.1 s34.2.1) lk_RX4_51 [3, 4, 5, 6, 7, 8, 9, 10, 11, 1, 2] rfl (by decide) (fun _ => rfl) rfl rfl rfl ⟨(Nat.le_of_ble_eq_true rfl), (Nat.le_of_ble_eq_true rfl)⟩ ⟨rfl, rfl⟩ ⟨(Nat.le_of_ble_eq_true rfl), (Nat.le_of_ble_eq_true rfl)⟩ rfl (Nat.le_of_ble_eq_true rfl) rfl dX4_execute_73 rfl (fun _ => rfl) (fun _ => rfl) (fun r73 => ?_)
      refine sk_aload_n (pc' := 77) X rfl dX4_execute_76 rfl ?_
      refine sk_getf (pc' := 80) X 0 0 0 in_RX4 rfl rfl rfl (Nat.le_of_ble_eq_true rfl) fl_RX4_10 rfl dX4_execute_77 rfl ?_
      refine sk_aload_n (pc' := 81) X rfl dX4_execute_80 rfl ?_
      refine sk_getf (pc' := 84) X 0 0 1 in_RX4 rfl rfl rfl (Nat.le_of_ble_eq_true rfl) fl_RX4_16 rfl dX4_execute_81 rfl ?_
      refine sk_callV (bs2 := fun r84 => [(pc_W u0 (u1 0) (u13 0) a0_ahead (u3 0) (u12 0)), (nt_W G u1 (u2 0) r84.1), (lg_W G u2 r84.2), (sv_W G u3 (u4 0) (u6 0) (u8 0) (u10 0) r73.1), (nt_W G u4 (u5 0) r73.2.1), (lg_W G u5 r73.2.2.1), (nt_W G u6 (u7 0) r73.2.2.2.1), (lg_W G u7 r73.2.2.2.2.1), (nt_W G u8 (u9 0) r73.2.2.2.2.2.1), (lg_W G u9 r73.2.2.2.2.2.2.1), (nt_W G u10 (u11 0) r73.2.2.2.2.2.2.2.1), (lg_W G u11 r73.2.2.2.2.2.2.2.2), (sc_W G u12 s34.2.2.2.2.2.2.2.2.2.2.2.1), (nt_W G u13 (u14 0) s34.2.2.2.2.2.2.2.2.2.2.2.2.1), (lg_W G u14 s34.2.2.2.2.2.2.2.2.2.2.2.2.2.1)]) (st := []) (st2 := fun r84 => []) (As := [.ref (u13 0)]) (pc' := 87) X (c_X1_copyFrom l G u1 u2 u13 u14 s34.1 s34.2.1 s34.2.2.2.2.2.2.2.2.2.2.2.2.1 s34.2.2.2.2.2.2.2.2.2.2.2.2.2.1) lk_RX4_203 [1, 2, 13, 14] rfl (by decide) (fun _ => rfl) rfl rfl rfl ⟨(Nat.le_of_ble_eq_true rfl), (Nat.le_of_ble_eq_true rfl)⟩ ⟨rfl, rfl⟩ ⟨(Nat.le_of_ble_eq_true rfl), (Nat.le_of_ble_eq_true rfl)⟩ rfl (Nat.le_of_ble_eq_true rfl) rfl dX4_execute_84 rfl (fun _ => rfl) (fun _ => rfl) (fun r84 => ?_)
      refine sk_aload_n (pc' := 88) X rfl dX4_execute_87 rfl ?_
      refine sk_getf (pc' := 91) X 0 0 4 in_RX4 rfl rfl rfl (Nat.le_of_ble_eq_true rfl) fl_RX4_32 rfl dX4_execute_88 rfl ?_
      refine sk_getf (pc' := 94) X 12 0 2 in_RX3 rfl rfl rfl (Nat.le_of_ble_eq_true rfl) fl_RX4_242 rfl dX4_execute_91 rfl ?_
      exact sk_iret X rfl rfl dX4_execute_94
    · refine sk_aload_n (pc' := 46) X rfl dX4_execute_45 rfl ?_
      refine sk_iload_n (pc' := 47) X rfl dX4_execute_46 rfl ?_
      refine sk_callV (bs2 := fun r47 => [(pc_W u0 (u1 0) (u13 0) a0_ahead (u3 0) (u12 0)), (nt_W G u1 (u2 0) s34.1), (lg_W G u2 s34.2.1), (sv_W G u3 (u4 0) (u6 0) (u8 0) (u10 0) s34.2.2.1), (nt_W G u4 (u5 0) s34.2.2.2.1), (lg_W G u5 s34.2.2.2.2.1), (nt_W G u6 (u7 0) s34.2.2.2.2.2.1), (lg_W G u7 s34.2.2.2.2.2.2.1), (nt_W G u8 (u9 0) s34.2.2.2.2.2.2.2.1), (lg_W G u9 s34.2.2.2.2.2.2.2.2.1), (nt_W G u10 (u11 0) s34.2.2.2.2.2.2.2.2.2.1), (lg_W G u11 s34.2.2.2.2.2.2.2.2.2.2.1), (sc_W G u12 s34.2.2.2.2.2.2.2.2.2.2.2.1), (nt_W G u13 (u14 0) r47.2.1), (lg_W G u14 r47.2.2)]) (st := []) (st2 := fun r47 => [.int r47.1]) (As := [.int s34.2.2.2.2.2.2.2.2.2.2.2.2.2.2]) (pc' := 50) X (c_X4_runInThought l G u0 u12 u13 u14 (u1 0) a0_ahead (u3 0) s34.2.2.2.2.2.2.2.2.2.2.2.1 s34.2.2.2.2.2.2.2.2.2.2.2.2.1 s34.2.2.2.2.2.2.2.2.2.2.2.2.2.1 s34.2.2.2.2.2.2.2.2.2.2.2.2.2.2) lk_RX4_245 [0, 12, 13, 14] rfl (by decide) (fun _ => rfl) rfl rfl rfl ⟨(Nat.le_of_ble_eq_true rfl), (Nat.le_of_ble_eq_true rfl)⟩ ⟨rfl, rfl⟩ ⟨(Nat.le_of_ble_eq_true rfl), (Nat.le_of_ble_eq_true rfl)⟩ rfl (Nat.le_of_ble_eq_true rfl) rfl dX4_execute_47 rfl (fun _ => rfl) (fun _ => rfl) (fun r47 => ?_)
      refine sk_if_ne (tgt := 59) (pc' := 53) X dX4_execute_50 rfl rfl ?_ ?_
      · refine sk_iinc (lv' := [some (.ref (u0 0)), some (.int (s34.2.2.2.2.2.2.2.2.2.2.2.2.2.2 + (1 : Int32)))]) (pc' := 62) X rfl ic_1 (Nat.le_of_ble_eq_true rfl) rfl rfl dX4_execute_59 rfl ?_
        refine sk_goto (tgt := 34) X dX4_execute_62 rfl ?_
        exact (ih34 (s34.1, s34.2.1, s34.2.2.1, s34.2.2.2.1, s34.2.2.2.2.1, s34.2.2.2.2.2.1, s34.2.2.2.2.2.2.1, s34.2.2.2.2.2.2.2.1, s34.2.2.2.2.2.2.2.2.1, s34.2.2.2.2.2.2.2.2.2.1, s34.2.2.2.2.2.2.2.2.2.2.1, s34.2.2.2.2.2.2.2.2.2.2.2.1, r47.2.1, r47.2.2, (s34.2.2.2.2.2.2.2.2.2.2.2.2.2.2 + (1 : Int32))))
      · refine sk_sipush (pc' := 56) X sp_m1000 dX4_execute_53 rfl ?_
        refine sk_iload_n (pc' := 57) X rfl dX4_execute_56 rfl ?_
        refine sk_isub (pc' := 58) X dX4_execute_57 rfl ?_
        exact sk_iret X rfl rfl dX4_execute_58
  unfold m_X4_execute
  refine sk_aload_n (pc' := 1) X rfl dX4_execute_0 rfl ?_
  refine sk_getf (pc' := 4) X 0 0 4 in_RX4 rfl rfl rfl (Nat.le_of_ble_eq_true rfl) fl_RX4_32 rfl dX4_execute_1 rfl ?_
  refine sk_callV (bs2 := fun r4 => [(pc_W u0 (u1 0) (u13 0) a0_ahead (u3 0) (u12 0)), (nt_W G u1 (u2 0) S1), (lg_W G u2 S2), (sv_W G u3 (u4 0) (u6 0) (u8 0) (u10 0) S3), (nt_W G u4 (u5 0) S4), (lg_W G u5 S5), (nt_W G u6 (u7 0) S6), (lg_W G u7 S7), (nt_W G u8 (u9 0) S8), (lg_W G u9 S9), (nt_W G u10 (u11 0) S10), (lg_W G u11 S11), (sc_W G u12 r4.2), (nt_W G u13 (u14 0) S13), (lg_W G u14 S14)]) (st := []) (st2 := fun r4 => [.int r4.1]) (As := []) (pc' := 7) X (c_X3_parse l G u12 S12) lk_RX4_236 [12] rfl (by decide) (fun _ => rfl) rfl rfl rfl ⟨(Nat.le_of_ble_eq_true rfl), (Nat.le_of_ble_eq_true rfl)⟩ ⟨rfl, rfl⟩ ⟨(Nat.le_of_ble_eq_true rfl), (Nat.le_of_ble_eq_true rfl)⟩ rfl (Nat.le_of_ble_eq_true rfl) rfl dX4_execute_4 rfl (fun _ => rfl) (fun _ => rfl) (fun r4 => ?_)
  refine sk_if_ne (tgt := 21) (pc' := 10) X dX4_execute_7 rfl rfl ?_ ?_
  · refine sk_aload_n (pc' := 22) X rfl dX4_execute_21 rfl ?_
    refine sk_getf (pc' := 25) X 0 0 1 in_RX4 rfl rfl rfl (Nat.le_of_ble_eq_true rfl) fl_RX4_16 rfl dX4_execute_22 rfl ?_
    refine sk_aload_n (pc' := 26) X rfl dX4_execute_25 rfl ?_
    refine sk_getf (pc' := 29) X 0 0 0 in_RX4 rfl rfl rfl (Nat.le_of_ble_eq_true rfl) fl_RX4_10 rfl dX4_execute_26 rfl ?_
    refine sk_callV (bs2 := fun r29 => [(pc_W u0 (u1 0) (u13 0) a0_ahead (u3 0) (u12 0)), (nt_W G u1 (u2 0) S1), (lg_W G u2 S2), (sv_W G u3 (u4 0) (u6 0) (u8 0) (u10 0) S3), (nt_W G u4 (u5 0) S4), (lg_W G u5 S5), (nt_W G u6 (u7 0) S6), (lg_W G u7 S7), (nt_W G u8 (u9 0) S8), (lg_W G u9 S9), (nt_W G u10 (u11 0) S10), (lg_W G u11 S11), (sc_W G u12 r4.2), (nt_W G u13 (u14 0) r29.1), (lg_W G u14 r29.2)]) (st := []) (st2 := fun r29 => []) (As := [.ref (u1 0)]) (pc' := 32) X (c_X1_copyFrom l G u13 u14 u1 u2 S13 S14 S1 S2) lk_RX4_203 [13, 14, 1, 2] rfl (by decide) (fun _ => rfl) rfl rfl rfl ⟨(Nat.le_of_ble_eq_true rfl), (Nat.le_of_ble_eq_true rfl)⟩ ⟨rfl, rfl⟩ ⟨(Nat.le_of_ble_eq_true rfl), (Nat.le_of_ble_eq_true rfl)⟩ rfl (Nat.le_of_ble_eq_true rfl) rfl dX4_execute_29 rfl (fun _ => rfl) (fun _ => rfl) (fun r29 => ?_)
    refine sk_iconst (pc' := 33) X ic_0 dX4_execute_32 rfl ?_
    refine sk_istore_n (lv' := [some (.ref (u0 0)), some (.int (0 : Int32))]) (pc' := 34) X (Nat.le_of_ble_eq_true rfl) rfl rfl dX4_execute_33 rfl ?_
    exact (h34 (S1, S2, S3, S4, S5, S6, S7, S8, S9, S10, S11, r4.2, r29.1, r29.2, (0 : Int32)))
  · refine sk_bipush (pc' := 12) X bp_m10 dX4_execute_10 rfl ?_
    refine sk_aload_n (pc' := 13) X rfl dX4_execute_12 rfl ?_
    refine sk_getf (pc' := 16) X 0 0 4 in_RX4 rfl rfl rfl (Nat.le_of_ble_eq_true rfl) fl_RX4_32 rfl dX4_execute_13 rfl ?_
    refine sk_getf (pc' := 19) X 12 0 1 in_RX3 rfl rfl rfl (Nat.le_of_ble_eq_true rfl) fl_RX4_239 rfl dX4_execute_16 rfl ?_
    refine sk_isub (pc' := 20) X dX4_execute_19 rfl ?_
    exact sk_iret X rfl rfl dX4_execute_20
def rm_X4_mix : Room := { frames := 0, cells := 0, slots := 0, locals := 0 }
def o_X4_mix : (Int64) → Option Value := fun r => some (.long r)
def w_X4_mix (G : sk_G) : (Int64) → sk_B := fun r => []
set_option maxHeartbeats 4000000 in
set_option maxRecDepth 100000 in
theorem c_X4_mix (l : Launch) (G : sk_G) (p1 : Int64) (p2 : Int32) : sk_ctr l G yX4_mix cX4_mix 3 (some .long) rm_X4_mix [.long p1, .int p2] [] (m_X4_mix p1 p2) o_X4_mix (w_X4_mix G) := by
  refine sk_entry (own := RX4) (by decide) rfl (lv0 := [some (.long p1), none, some (.int p2)]) rfl (Nat.le_of_ble_eq_true rfl) ?_
  intro Γ X
  unfold m_X4_mix
  refine sk_ldc2 (pc' := 3) X q_527 dX4_mix_0 rfl ?_
  refine sk_lload_n (pc' := 4) X rfl dX4_mix_3 rfl ?_
  refine sk_lmul (pc' := 5) X dX4_mix_4 rfl ?_
  refine sk_iload_n (pc' := 6) X rfl dX4_mix_5 rfl ?_
  refine sk_i2l (pc' := 7) X dX4_mix_6 rfl ?_
  refine sk_ladd (pc' := 8) X dX4_mix_7 rfl ?_
  exact sk_lret X rfl rfl dX4_mix_8
def rm_X4_mixClocks : Room := { frames := 3, cells := 0, slots := 0, locals := 67 }
def o_X4_mixClocks : (Int64) → Option Value := fun r => some (.long r)
def w_X4_mixClocks (G : sk_G) (u0 u1 : Nat → Nat) (a0_thought a0_ahead a0_savings a0_script a1_log : Nat) (S1 : sk_N) : (Int64) → sk_B := fun r => [(pc_W u0 (u1 0) a0_thought a0_ahead a0_savings a0_script), (nt_W G u1 a1_log S1)]
set_option maxHeartbeats 4000000 in
set_option maxRecDepth 100000 in
theorem c_X4_mixClocks (l : Launch) (G : sk_G) (u0 u1 : Nat → Nat) (a0_thought a0_ahead a0_savings a0_script a1_log : Nat) (S1 : sk_N) (p1 : Int64) : sk_ctr l G yX4_mixClocks cX4_mixClocks 8 (some .long) rm_X4_mixClocks [.ref (u0 0), .long p1] [(pc_W u0 (u1 0) a0_thought a0_ahead a0_savings a0_script), (nt_W G u1 a1_log S1)] (m_X4_mixClocks S1 p1) o_X4_mixClocks (w_X4_mixClocks G u0 u1 a0_thought a0_ahead a0_savings a0_script a1_log S1) := by
  refine sk_entry (own := RX4) (by decide) rfl (lv0 := [some (.ref (u0 0)), some (.long p1), none, none, none, none, none, none]) rfl (Nat.le_of_ble_eq_true rfl) ?_
  intro Γ X
  have h18 : ∀ s18 : Int32 × Int64 × Int32, sk_S Γ (sk_Φ Γ o_X4_mixClocks (w_X4_mixClocks G u0 u1 a0_thought a0_ahead a0_savings a0_script a1_log S1)) 0 0 (m_X4_mixClocks_18 S1 p1 s18) [(pc_W u0 (u1 0) a0_thought a0_ahead a0_savings a0_script), (nt_W G u1 a1_log S1)] [some (.ref (u0 0)), none, none, some (.int s18.1), some (.long s18.2.1), none, some (.int s18.2.2), none] 18 [] := by
    intro s18
    unfold m_X4_mixClocks_18
    refine sk_loop (bsf := fun s18 => [(pc_W u0 (u1 0) a0_thought a0_ahead a0_savings a0_script), (nt_W G u1 a1_log S1)]) (lvf := fun s18 => [some (.ref (u0 0)), none, none, some (.int s18.1), some (.long s18.2.1), none, some (.int s18.2.2), none]) ?_ sk_fuel s18
    intro k18 s18 ih18
    have h61 : ∀ s61 : Int32 × Int64 × Int32 × Int32, sk_S Γ (sk_Φ Γ o_X4_mixClocks (w_X4_mixClocks G u0 u1 a0_thought a0_ahead a0_savings a0_script a1_log S1)) 0 0 (m_X4_mixClocks_61 S1 p1 k18 s61) [(pc_W u0 (u1 0) a0_thought a0_ahead a0_savings a0_script), (nt_W G u1 a1_log S1)] [some (.ref (u0 0)), none, none, some (.int s61.1), some (.long s61.2.1), none, some (.int s61.2.2.1), some (.int s61.2.2.2)] 61 [] := by
      intro s61
      unfold m_X4_mixClocks_61
      refine sk_loop (bsf := fun s61 => [(pc_W u0 (u1 0) a0_thought a0_ahead a0_savings a0_script), (nt_W G u1 a1_log S1)]) (lvf := fun s61 => [some (.ref (u0 0)), none, none, some (.int s61.1), some (.long s61.2.1), none, some (.int s61.2.2.1), some (.int s61.2.2.2)]) ?_ sk_fuel s61
      intro k61 s61 ih61
      unfold m_X4_mixClocks_61_step
      refine sk_iload (pc' := 63) X rfl dX4_mixClocks_61 rfl ?_
      refine sk_iload_n (pc' := 64) X rfl dX4_mixClocks_63 rfl ?_
      refine sk_icmp_ge (tgt := 91) (pc' := 67) X dX4_mixClocks_64 rfl rfl ?_ ?_
      · refine sk_iinc (lv' := [some (.ref (u0 0)), none, none, some (.int s61.1), some (.long s61.2.1), none, some (.int (s61.2.2.1 + (1 : Int32))), some (.int s61.2.2.2)]) (pc' := 94) X rfl ic_1 (Nat.le_of_ble_eq_true rfl) rfl rfl dX4_mixClocks_91 rfl ?_
        refine sk_goto (tgt := 18) X dX4_mixClocks_94 rfl ?_
        exact (sk_kill 7 (ih18 (s61.1, s61.2.1, (s61.2.2.1 + (1 : Int32)))))
      · refine sk_lload (pc' := 69) X rfl dX4_mixClocks_67 rfl ?_
        refine sk_aload_n (pc' := 70) X rfl dX4_mixClocks_69 rfl ?_
        refine sk_getf (pc' := 73) X 0 0 0 in_RX4 rfl rfl rfl (Nat.le_of_ble_eq_true rfl) fl_RX4_10 rfl dX4_mixClocks_70 rfl ?_
        refine sk_iload (pc' := 75) X rfl dX4_mixClocks_73 rfl ?_
        refine sk_iload (pc' := 77) X rfl dX4_mixClocks_75 rfl ?_
        refine sk_callV (bs2 := fun r77 => [(pc_W u0 (u1 0) a0_thought a0_ahead a0_savings a0_script), (nt_W G u1 a1_log S1)]) (st := [.long s61.2.1]) (st2 := fun r77 => [.int r77, .long s61.2.1]) (As := [.int s61.2.2.1, .int s61.2.2.2]) (pc' := 80) X (c_X1_delayBetween l G u1 a1_log S1 s61.2.2.1 s61.2.2.2) lk_RX4_106 [1] rfl (by decide) (fun _ => rfl) rfl rfl rfl ⟨(Nat.le_of_ble_eq_true rfl), (Nat.le_of_ble_eq_true rfl)⟩ ⟨rfl, rfl⟩ ⟨(Nat.le_of_ble_eq_true rfl), (Nat.le_of_ble_eq_true rfl)⟩ rfl (Nat.le_of_ble_eq_true rfl) rfl dX4_mixClocks_77 rfl (fun _ => rfl) (fun _ => rfl) (fun r77 => ?_)
        refine sk_callS (bs2 := fun r80 => [(pc_W u0 (u1 0) a0_thought a0_ahead a0_savings a0_script), (nt_W G u1 a1_log S1)]) (st := []) (st2 := fun r80 => [.long r80]) (As := [.long s61.2.1, .int r77]) (pc' := 83) X (c_X4_mix l G s61.2.1 r77) lk_RX4_258 [] rfl (by decide) (fun _ => rfl) ⟨(Nat.le_of_ble_eq_true rfl), (Nat.le_of_ble_eq_true rfl)⟩ ⟨rfl, rfl⟩ ⟨(Nat.le_of_ble_eq_true rfl), (Nat.le_of_ble_eq_true rfl)⟩ rfl (Nat.le_of_ble_eq_true rfl) rfl dX4_mixClocks_80 rfl (fun _ => rfl) (fun _ => rfl) (fun r80 => ?_)
        refine sk_lstore (lv' := [some (.ref (u0 0)), none, none, some (.int s61.1), some (.long r80), none, some (.int s61.2.2.1), some (.int s61.2.2.2)]) (pc' := 85) X (Nat.le_of_ble_eq_true rfl) rfl rfl dX4_mixClocks_83 rfl ?_
        refine sk_iinc (lv' := [some (.ref (u0 0)), none, none, some (.int s61.1), some (.long r80), none, some (.int s61.2.2.1), some (.int (s61.2.2.2 + (1 : Int32)))]) (pc' := 88) X rfl ic_1 (Nat.le_of_ble_eq_true rfl) rfl rfl dX4_mixClocks_85 rfl ?_
        refine sk_goto (tgt := 61) X dX4_mixClocks_88 rfl ?_
        exact (ih61 (s61.1, r80, s61.2.2.1, (s61.2.2.2 + (1 : Int32))))
    have h27 : ∀ s27 : Int32 × Int64 × Int32 × Int32, sk_S Γ (sk_Φ Γ o_X4_mixClocks (w_X4_mixClocks G u0 u1 a0_thought a0_ahead a0_savings a0_script a1_log S1)) 0 0 (m_X4_mixClocks_27 S1 p1 k18 s27) [(pc_W u0 (u1 0) a0_thought a0_ahead a0_savings a0_script), (nt_W G u1 a1_log S1)] [some (.ref (u0 0)), none, none, some (.int s27.1), some (.long s27.2.1), none, some (.int s27.2.2.1), some (.int s27.2.2.2)] 27 [] := by
      intro s27
      unfold m_X4_mixClocks_27
      refine sk_loop (bsf := fun s27 => [(pc_W u0 (u1 0) a0_thought a0_ahead a0_savings a0_script), (nt_W G u1 a1_log S1)]) (lvf := fun s27 => [some (.ref (u0 0)), none, none, some (.int s27.1), some (.long s27.2.1), none, some (.int s27.2.2.1), some (.int s27.2.2.2)]) ?_ sk_fuel s27
      intro k27 s27 ih27
      unfold m_X4_mixClocks_27_step
      refine sk_iload (pc' := 29) X rfl dX4_mixClocks_27 rfl ?_
      refine sk_bipush (pc' := 31) X bp_6 dX4_mixClocks_29 rfl ?_
      refine sk_icmp_gt (tgt := 58) (pc' := 34) X dX4_mixClocks_31 rfl rfl ?_ ?_
      · refine sk_iconst (pc' := 59) X ic_0 dX4_mixClocks_58 rfl ?_
        refine sk_istore (lv' := [some (.ref (u0 0)), none, none, some (.int s27.1), some (.long s27.2.1), none, some (.int s27.2.2.1), some (.int (0 : Int32))]) (pc' := 61) X (Nat.le_of_ble_eq_true rfl) rfl rfl dX4_mixClocks_59 rfl ?_
        exact (h61 (s27.1, s27.2.1, s27.2.2.1, (0 : Int32)))
      · refine sk_lload (pc' := 36) X rfl dX4_mixClocks_34 rfl ?_
        refine sk_aload_n (pc' := 37) X rfl dX4_mixClocks_36 rfl ?_
        refine sk_getf (pc' := 40) X 0 0 0 in_RX4 rfl rfl rfl (Nat.le_of_ble_eq_true rfl) fl_RX4_10 rfl dX4_mixClocks_37 rfl ?_
        refine sk_iload (pc' := 42) X rfl dX4_mixClocks_40 rfl ?_
        refine sk_iload (pc' := 44) X rfl dX4_mixClocks_42 rfl ?_
        refine sk_callV (bs2 := fun r44 => [(pc_W u0 (u1 0) a0_thought a0_ahead a0_savings a0_script), (nt_W G u1 a1_log S1)]) (st := [.long s27.2.1]) (st2 := fun r44 => [.int r44, .long s27.2.1]) (As := [.int s27.2.2.1, .int s27.2.2.2]) (pc' := 47) X (c_X1_about l G u1 a1_log S1 s27.2.2.1 s27.2.2.2) lk_RX4_134 [1] rfl (by decide) (fun _ => rfl) rfl rfl rfl ⟨(Nat.le_of_ble_eq_true rfl), (Nat.le_of_ble_eq_true rfl)⟩ ⟨rfl, rfl⟩ ⟨(Nat.le_of_ble_eq_true rfl), (Nat.le_of_ble_eq_true rfl)⟩ rfl (Nat.le_of_ble_eq_true rfl) rfl dX4_mixClocks_44 rfl (fun _ => rfl) (fun _ => rfl) (fun r44 => ?_)
        refine sk_callS (bs2 := fun r47 => [(pc_W u0 (u1 0) a0_thought a0_ahead a0_savings a0_script), (nt_W G u1 a1_log S1)]) (st := []) (st2 := fun r47 => [.long r47]) (As := [.long s27.2.1, .int r44]) (pc' := 50) X (c_X4_mix l G s27.2.1 r44) lk_RX4_258 [] rfl (by decide) (fun _ => rfl) ⟨(Nat.le_of_ble_eq_true rfl), (Nat.le_of_ble_eq_true rfl)⟩ ⟨rfl, rfl⟩ ⟨(Nat.le_of_ble_eq_true rfl), (Nat.le_of_ble_eq_true rfl)⟩ rfl (Nat.le_of_ble_eq_true rfl) rfl dX4_mixClocks_47 rfl (fun _ => rfl) (fun _ => rfl) (fun r47 => ?_)
        refine sk_lstore (lv' := [some (.ref (u0 0)), none, none, some (.int s27.1), some (.long r47), none, some (.int s27.2.2.1), some (.int s27.2.2.2)]) (pc' := 52) X (Nat.le_of_ble_eq_true rfl) rfl rfl dX4_mixClocks_50 rfl ?_
        refine sk_iinc (lv' := [some (.ref (u0 0)), none, none, some (.int s27.1), some (.long r47), none, some (.int s27.2.2.1), some (.int (s27.2.2.2 + (1 : Int32)))]) (pc' := 55) X rfl ic_1 (Nat.le_of_ble_eq_true rfl) rfl rfl dX4_mixClocks_52 rfl ?_
        refine sk_goto (tgt := 27) X dX4_mixClocks_55 rfl ?_
        exact (ih27 (s27.1, r47, s27.2.2.1, (s27.2.2.2 + (1 : Int32))))
    unfold m_X4_mixClocks_18_step
    refine sk_iload (pc' := 20) X rfl dX4_mixClocks_18 rfl ?_
    refine sk_iload_n (pc' := 21) X rfl dX4_mixClocks_20 rfl ?_
    refine sk_icmp_ge (tgt := 97) (pc' := 24) X dX4_mixClocks_21 rfl rfl ?_ ?_
    · refine sk_lload (pc' := 99) X rfl dX4_mixClocks_97 rfl ?_
      exact sk_lret X rfl rfl dX4_mixClocks_99
    · refine sk_iconst (pc' := 25) X ic_0 dX4_mixClocks_24 rfl ?_
      refine sk_istore (lv' := [some (.ref (u0 0)), none, none, some (.int s18.1), some (.long s18.2.1), none, some (.int s18.2.2), some (.int (0 : Int32))]) (pc' := 27) X (Nat.le_of_ble_eq_true rfl) rfl rfl dX4_mixClocks_25 rfl ?_
      exact (h27 (s18.1, s18.2.1, s18.2.2, (0 : Int32)))
  unfold m_X4_mixClocks
  refine sk_aload_n (pc' := 1) X rfl dX4_mixClocks_0 rfl ?_
  refine sk_getf (pc' := 4) X 0 0 0 in_RX4 rfl rfl rfl (Nat.le_of_ble_eq_true rfl) fl_RX4_10 rfl dX4_mixClocks_1 rfl ?_
  refine sk_getf (pc' := 7) X 1 0 0 in_RX1 rfl rfl rfl (Nat.le_of_ble_eq_true rfl) fl_RX4_128 rfl dX4_mixClocks_4 rfl ?_
  refine sk_istore_n (lv' := [some (.ref (u0 0)), some (.long p1), none, some (.int (S1 0 0)), none, none, none, none]) (pc' := 8) X (Nat.le_of_ble_eq_true rfl) rfl rfl dX4_mixClocks_7 rfl ?_
  refine sk_lt (bsf := fun _ => [(pc_W u0 (u1 0) a0_thought a0_ahead a0_savings a0_script), (nt_W G u1 a1_log S1)]) (lvf := fun z => [some (.ref (u0 0)), some (.long p1), none, some (.int z), none, none, none, none]) (stf := fun _ => []) (fun x7 => ?_)
  refine sk_lload_n (pc' := 9) X rfl dX4_mixClocks_8 rfl ?_
  refine sk_iload_n (pc' := 10) X rfl dX4_mixClocks_9 rfl ?_
  refine sk_callS (bs2 := fun r10 => [(pc_W u0 (u1 0) a0_thought a0_ahead a0_savings a0_script), (nt_W G u1 a1_log S1)]) (st := []) (st2 := fun r10 => [.long r10]) (As := [.long p1, .int x7]) (pc' := 13) X (c_X4_mix l G p1 x7) lk_RX4_258 [] rfl (by decide) (fun _ => rfl) ⟨(Nat.le_of_ble_eq_true rfl), (Nat.le_of_ble_eq_true rfl)⟩ ⟨rfl, rfl⟩ ⟨(Nat.le_of_ble_eq_true rfl), (Nat.le_of_ble_eq_true rfl)⟩ rfl (Nat.le_of_ble_eq_true rfl) rfl dX4_mixClocks_10 rfl (fun _ => rfl) (fun _ => rfl) (fun r10 => ?_)
  refine sk_lstore (lv' := [some (.ref (u0 0)), some (.long p1), none, some (.int x7), some (.long r10), none, none, none]) (pc' := 15) X (Nat.le_of_ble_eq_true rfl) rfl rfl dX4_mixClocks_13 rfl ?_
  refine sk_iconst (pc' := 16) X ic_0 dX4_mixClocks_15 rfl ?_
  refine sk_istore (lv' := [some (.ref (u0 0)), some (.long p1), none, some (.int x7), some (.long r10), none, some (.int (0 : Int32)), none]) (pc' := 18) X (Nat.le_of_ble_eq_true rfl) rfl rfl dX4_mixClocks_16 rfl ?_
  exact (sk_kill 1 (h18 (x7, r10, (0 : Int32))))
def rm_X4_mixGroups : Room := { frames := 3, cells := 0, slots := 0, locals := 66 }
def o_X4_mixGroups : (Int64) → Option Value := fun r => some (.long r)
def w_X4_mixGroups (G : sk_G) (u0 u1 : Nat → Nat) (a0_thought a0_ahead a0_savings a0_script a1_log : Nat) (S1 : sk_N) : (Int64) → sk_B := fun r => [(pc_W u0 (u1 0) a0_thought a0_ahead a0_savings a0_script), (nt_W G u1 a1_log S1)]
set_option maxHeartbeats 4000000 in
set_option maxRecDepth 100000 in
theorem c_X4_mixGroups (l : Launch) (G : sk_G) (u0 u1 : Nat → Nat) (a0_thought a0_ahead a0_savings a0_script a1_log : Nat) (S1 : sk_N) (p1 : Int64) : sk_ctr l G yX4_mixGroups cX4_mixGroups 7 (some .long) rm_X4_mixGroups [.ref (u0 0), .long p1] [(pc_W u0 (u1 0) a0_thought a0_ahead a0_savings a0_script), (nt_W G u1 a1_log S1)] (m_X4_mixGroups S1 p1) o_X4_mixGroups (w_X4_mixGroups G u0 u1 a0_thought a0_ahead a0_savings a0_script a1_log S1) := by
  refine sk_entry (own := RX4) (by decide) rfl (lv0 := [some (.ref (u0 0)), some (.long p1), none, none, none, none, none]) rfl (Nat.le_of_ble_eq_true rfl) ?_
  intro Γ X
  have h17 : ∀ s17 : Int64 × Int32, sk_S Γ (sk_Φ Γ o_X4_mixGroups (w_X4_mixGroups G u0 u1 a0_thought a0_ahead a0_savings a0_script a1_log S1)) 0 0 (m_X4_mixGroups_17 S1 p1 s17) [(pc_W u0 (u1 0) a0_thought a0_ahead a0_savings a0_script), (nt_W G u1 a1_log S1)] [some (.ref (u0 0)), none, none, some (.long s17.1), none, some (.int s17.2), none] 17 [] := by
    intro s17
    unfold m_X4_mixGroups_17
    refine sk_loop (bsf := fun s17 => [(pc_W u0 (u1 0) a0_thought a0_ahead a0_savings a0_script), (nt_W G u1 a1_log S1)]) (lvf := fun s17 => [some (.ref (u0 0)), none, none, some (.long s17.1), none, some (.int s17.2), none]) ?_ sk_fuel s17
    intro k17 s17 ih17
    unfold m_X4_mixGroups_17_step
    refine sk_iload (pc' := 19) X rfl dX4_mixGroups_17 rfl ?_
    refine sk_aload_n (pc' := 20) X rfl dX4_mixGroups_19 rfl ?_
    refine sk_getf (pc' := 23) X 0 0 0 in_RX4 rfl rfl rfl (Nat.le_of_ble_eq_true rfl) fl_RX4_10 rfl dX4_mixGroups_20 rfl ?_
    refine sk_getf (pc' := 26) X 1 0 1 in_RX1 rfl rfl rfl (Nat.le_of_ble_eq_true rfl) fl_RX4_215 rfl dX4_mixGroups_23 rfl ?_
    refine sk_icmp_ge (tgt := 65) (pc' := 29) X dX4_mixGroups_26 rfl rfl ?_ ?_
    · refine sk_lload_n (pc' := 66) X rfl dX4_mixGroups_65 rfl ?_
      exact sk_lret X rfl rfl dX4_mixGroups_66
    · refine sk_aload_n (pc' := 30) X rfl dX4_mixGroups_29 rfl ?_
      refine sk_getf (pc' := 33) X 0 0 0 in_RX4 rfl rfl rfl (Nat.le_of_ble_eq_true rfl) fl_RX4_10 rfl dX4_mixGroups_30 rfl ?_
      refine sk_iload (pc' := 35) X rfl dX4_mixGroups_33 rfl ?_
      refine sk_callV (bs2 := fun r35 => [(pc_W u0 (u1 0) a0_thought a0_ahead a0_savings a0_script), (nt_W G u1 a1_log S1)]) (st := []) (st2 := fun r35 => [.int r35]) (As := [.int s17.2]) (pc' := 38) X (c_X1_goodClocksAt l G u1 a1_log S1 s17.2) lk_RX4_189 [1] rfl (by decide) (fun _ => rfl) rfl rfl rfl ⟨(Nat.le_of_ble_eq_true rfl), (Nat.le_of_ble_eq_true rfl)⟩ ⟨rfl, rfl⟩ ⟨(Nat.le_of_ble_eq_true rfl), (Nat.le_of_ble_eq_true rfl)⟩ rfl (Nat.le_of_ble_eq_true rfl) rfl dX4_mixGroups_35 rfl (fun _ => rfl) (fun _ => rfl) (fun r35 => ?_)
      refine sk_istore (lv' := [some (.ref (u0 0)), none, none, some (.long s17.1), none, some (.int s17.2), some (.int r35)]) (pc' := 40) X (Nat.le_of_ble_eq_true rfl) rfl rfl dX4_mixGroups_38 rfl ?_
      refine sk_iload (pc' := 42) X rfl dX4_mixGroups_40 rfl ?_
      refine sk_if_eq (tgt := 59) (pc' := 45) X dX4_mixGroups_42 rfl rfl ?_ ?_
      · refine sk_iinc (lv' := [some (.ref (u0 0)), none, none, some (.long s17.1), none, some (.int (s17.2 + (1 : Int32))), some (.int r35)]) (pc' := 62) X rfl ic_1 (Nat.le_of_ble_eq_true rfl) rfl rfl dX4_mixGroups_59 rfl ?_
        refine sk_goto (tgt := 17) X dX4_mixGroups_62 rfl ?_
        exact (sk_kill 6 (ih17 (s17.1, (s17.2 + (1 : Int32)))))
      · refine sk_lload_n (pc' := 46) X rfl dX4_mixGroups_45 rfl ?_
        refine sk_iload (pc' := 48) X rfl dX4_mixGroups_46 rfl ?_
        refine sk_callS (bs2 := fun r48 => [(pc_W u0 (u1 0) a0_thought a0_ahead a0_savings a0_script), (nt_W G u1 a1_log S1)]) (st := []) (st2 := fun r48 => [.long r48]) (As := [.long s17.1, .int s17.2]) (pc' := 51) X (c_X4_mix l G s17.1 s17.2) lk_RX4_258 [] rfl (by decide) (fun _ => rfl) ⟨(Nat.le_of_ble_eq_true rfl), (Nat.le_of_ble_eq_true rfl)⟩ ⟨rfl, rfl⟩ ⟨(Nat.le_of_ble_eq_true rfl), (Nat.le_of_ble_eq_true rfl)⟩ rfl (Nat.le_of_ble_eq_true rfl) rfl dX4_mixGroups_48 rfl (fun _ => rfl) (fun _ => rfl) (fun r48 => ?_)
        refine sk_lstore_n (lv' := [some (.ref (u0 0)), none, none, some (.long r48), none, some (.int s17.2), some (.int r35)]) (pc' := 52) X (Nat.le_of_ble_eq_true rfl) rfl rfl dX4_mixGroups_51 rfl ?_
        refine sk_lload_n (pc' := 53) X rfl dX4_mixGroups_52 rfl ?_
        refine sk_iload (pc' := 55) X rfl dX4_mixGroups_53 rfl ?_
        refine sk_callS (bs2 := fun r55 => [(pc_W u0 (u1 0) a0_thought a0_ahead a0_savings a0_script), (nt_W G u1 a1_log S1)]) (st := []) (st2 := fun r55 => [.long r55]) (As := [.long r48, .int r35]) (pc' := 58) X (c_X4_mix l G r48 r35) lk_RX4_258 [] rfl (by decide) (fun _ => rfl) ⟨(Nat.le_of_ble_eq_true rfl), (Nat.le_of_ble_eq_true rfl)⟩ ⟨rfl, rfl⟩ ⟨(Nat.le_of_ble_eq_true rfl), (Nat.le_of_ble_eq_true rfl)⟩ rfl (Nat.le_of_ble_eq_true rfl) rfl dX4_mixGroups_55 rfl (fun _ => rfl) (fun _ => rfl) (fun r55 => ?_)
        refine sk_lstore_n (lv' := [some (.ref (u0 0)), none, none, some (.long r55), none, some (.int s17.2), some (.int r35)]) (pc' := 59) X (Nat.le_of_ble_eq_true rfl) rfl rfl dX4_mixGroups_58 rfl ?_
        refine sk_iinc (lv' := [some (.ref (u0 0)), none, none, some (.long r55), none, some (.int (s17.2 + (1 : Int32))), some (.int r35)]) (pc' := 62) X rfl ic_1 (Nat.le_of_ble_eq_true rfl) rfl rfl dX4_mixGroups_59 rfl ?_
        refine sk_goto (tgt := 17) X dX4_mixGroups_62 rfl ?_
        exact (sk_kill 6 (ih17 (r55, (s17.2 + (1 : Int32)))))
  unfold m_X4_mixGroups
  refine sk_lload_n (pc' := 1) X rfl dX4_mixGroups_0 rfl ?_
  refine sk_aload_n (pc' := 2) X rfl dX4_mixGroups_1 rfl ?_
  refine sk_getf (pc' := 5) X 0 0 0 in_RX4 rfl rfl rfl (Nat.le_of_ble_eq_true rfl) fl_RX4_10 rfl dX4_mixGroups_2 rfl ?_
  refine sk_bipush (pc' := 7) X bp_10 dX4_mixGroups_5 rfl ?_
  refine sk_callV (bs2 := fun r7 => [(pc_W u0 (u1 0) a0_thought a0_ahead a0_savings a0_script), (nt_W G u1 a1_log S1)]) (st := [.long p1]) (st2 := fun r7 => [.int r7, .long p1]) (As := [.int (10 : Int32)]) (pc' := 10) X (c_X1_groupCount l G u1 a1_log S1 (10 : Int32)) lk_RX4_178 [1] rfl (by decide) (fun _ => rfl) rfl rfl rfl ⟨(Nat.le_of_ble_eq_true rfl), (Nat.le_of_ble_eq_true rfl)⟩ ⟨rfl, rfl⟩ ⟨(Nat.le_of_ble_eq_true rfl), (Nat.le_of_ble_eq_true rfl)⟩ rfl (Nat.le_of_ble_eq_true rfl) rfl dX4_mixGroups_7 rfl (fun _ => rfl) (fun _ => rfl) (fun r7 => ?_)
  refine sk_callS (bs2 := fun r10 => [(pc_W u0 (u1 0) a0_thought a0_ahead a0_savings a0_script), (nt_W G u1 a1_log S1)]) (st := []) (st2 := fun r10 => [.long r10]) (As := [.long p1, .int r7]) (pc' := 13) X (c_X4_mix l G p1 r7) lk_RX4_258 [] rfl (by decide) (fun _ => rfl) ⟨(Nat.le_of_ble_eq_true rfl), (Nat.le_of_ble_eq_true rfl)⟩ ⟨rfl, rfl⟩ ⟨(Nat.le_of_ble_eq_true rfl), (Nat.le_of_ble_eq_true rfl)⟩ rfl (Nat.le_of_ble_eq_true rfl) rfl dX4_mixGroups_10 rfl (fun _ => rfl) (fun _ => rfl) (fun r10 => ?_)
  refine sk_lstore_n (lv' := [some (.ref (u0 0)), some (.long p1), none, some (.long r10), none, none, none]) (pc' := 14) X (Nat.le_of_ble_eq_true rfl) rfl rfl dX4_mixGroups_13 rfl ?_
  refine sk_iconst (pc' := 15) X ic_0 dX4_mixGroups_14 rfl ?_
  refine sk_istore (lv' := [some (.ref (u0 0)), some (.long p1), none, some (.long r10), none, some (.int (0 : Int32)), none]) (pc' := 17) X (Nat.le_of_ble_eq_true rfl) rfl rfl dX4_mixGroups_15 rfl ?_
  exact (sk_kill 1 (h17 (r10, (0 : Int32))))
def rm_X4_mixNotes : Room := { frames := 1, cells := 0, slots := 0, locals := 22 }
def o_X4_mixNotes : (Int64) → Option Value := fun r => some (.long r)
def w_X4_mixNotes (G : sk_G) (u0 u1 u2 : Nat → Nat) (a0_thought a0_ahead a0_savings a0_script : Nat) (S1 : sk_N) (S2 : sk_N) : (Int64) → sk_B := fun r => [(pc_W u0 (u1 0) a0_thought a0_ahead a0_savings a0_script), (nt_W G u1 (u2 0) S1), (lg_W G u2 S2)]
set_option maxHeartbeats 4000000 in
set_option maxRecDepth 100000 in
theorem c_X4_mixNotes (l : Launch) (G : sk_G) (u0 u1 u2 : Nat → Nat) (a0_thought a0_ahead a0_savings a0_script : Nat) (S1 : sk_N) (S2 : sk_N) (p1 : Int64) : sk_ctr l G yX4_mixNotes cX4_mixNotes 7 (some .long) rm_X4_mixNotes [.ref (u0 0), .long p1] [(pc_W u0 (u1 0) a0_thought a0_ahead a0_savings a0_script), (nt_W G u1 (u2 0) S1), (lg_W G u2 S2)] (m_X4_mixNotes S1 S2 p1) o_X4_mixNotes (w_X4_mixNotes G u0 u1 u2 a0_thought a0_ahead a0_savings a0_script S1 S2) := by
  refine sk_entry (own := RX4) (by decide) rfl (lv0 := [some (.ref (u0 0)), some (.long p1), none, none, none, none, none]) rfl (Nat.le_of_ble_eq_true rfl) ?_
  intro Γ X
  have h5 : ∀ s5 : Int64 × Int32, sk_S Γ (sk_Φ Γ o_X4_mixNotes (w_X4_mixNotes G u0 u1 u2 a0_thought a0_ahead a0_savings a0_script S1 S2)) 0 0 (m_X4_mixNotes_5 S1 S2 p1 s5) [(pc_W u0 (u1 0) a0_thought a0_ahead a0_savings a0_script), (nt_W G u1 (u2 0) S1), (lg_W G u2 S2)] [some (.ref (u0 0)), none, none, some (.long s5.1), none, some (.int s5.2), none] 5 [] := by
    intro s5
    unfold m_X4_mixNotes_5
    refine sk_loop (bsf := fun s5 => [(pc_W u0 (u1 0) a0_thought a0_ahead a0_savings a0_script), (nt_W G u1 (u2 0) S1), (lg_W G u2 S2)]) (lvf := fun s5 => [some (.ref (u0 0)), none, none, some (.long s5.1), none, some (.int s5.2), none]) ?_ sk_fuel s5
    intro k5 s5 ih5
    unfold m_X4_mixNotes_5_step
    refine sk_iload (pc' := 7) X rfl dX4_mixNotes_5 rfl ?_
    refine sk_aload_n (pc' := 8) X rfl dX4_mixNotes_7 rfl ?_
    refine sk_getf (pc' := 11) X 0 0 0 in_RX4 rfl rfl rfl (Nat.le_of_ble_eq_true rfl) fl_RX4_10 rfl dX4_mixNotes_8 rfl ?_
    refine sk_getf (pc' := 14) X 1 0 5 in_RX1 rfl rfl rfl (Nat.le_of_ble_eq_true rfl) fl_RX4_157 rfl dX4_mixNotes_11 rfl ?_
    refine sk_getf (pc' := 17) X 2 0 3 in_RX0 rfl rfl rfl (Nat.le_of_ble_eq_true rfl) fl_RX4_312 rfl dX4_mixNotes_14 rfl ?_
    refine sk_icmp_ge (tgt := 82) (pc' := 20) X dX4_mixNotes_17 rfl rfl ?_ ?_
    · refine sk_lload_n (pc' := 83) X rfl dX4_mixNotes_82 rfl ?_
      exact sk_lret X rfl rfl dX4_mixNotes_83
    · refine sk_aload_n (pc' := 21) X rfl dX4_mixNotes_20 rfl ?_
      refine sk_getf (pc' := 24) X 0 0 0 in_RX4 rfl rfl rfl (Nat.le_of_ble_eq_true rfl) fl_RX4_10 rfl dX4_mixNotes_21 rfl ?_
      refine sk_getf (pc' := 27) X 1 0 5 in_RX1 rfl rfl rfl (Nat.le_of_ble_eq_true rfl) fl_RX4_157 rfl dX4_mixNotes_24 rfl ?_
      refine sk_iload (pc' := 29) X rfl dX4_mixNotes_27 rfl ?_
      refine sk_callV (bs2 := fun r29 => [(pc_W u0 (u1 0) a0_thought a0_ahead a0_savings a0_script), (nt_W G u1 (u2 0) S1), (lg_W G u2 S2)]) (st := []) (st2 := fun r29 => [.int r29]) (As := [.int s5.2]) (pc' := 32) X (c_X0_placeOf l G u2 S2 s5.2) lk_RX4_161 [2] rfl (by decide) (fun _ => rfl) rfl rfl rfl ⟨(Nat.le_of_ble_eq_true rfl), (Nat.le_of_ble_eq_true rfl)⟩ ⟨rfl, rfl⟩ ⟨(Nat.le_of_ble_eq_true rfl), (Nat.le_of_ble_eq_true rfl)⟩ rfl (Nat.le_of_ble_eq_true rfl) rfl dX4_mixNotes_29 rfl (fun _ => rfl) (fun _ => rfl) (fun r29 => ?_)
      refine sk_istore (lv' := [some (.ref (u0 0)), none, none, some (.long s5.1), none, some (.int s5.2), some (.int r29)]) (pc' := 34) X (Nat.le_of_ble_eq_true rfl) rfl rfl dX4_mixNotes_32 rfl ?_
      refine sk_iload (pc' := 36) X rfl dX4_mixNotes_34 rfl ?_
      refine sk_iconst (pc' := 37) X ic_m1 dX4_mixNotes_36 rfl ?_
      refine sk_icmp_eq (tgt := 76) (pc' := 40) X dX4_mixNotes_37 rfl rfl ?_ ?_
      · refine sk_iinc (lv' := [some (.ref (u0 0)), none, none, some (.long s5.1), none, some (.int (s5.2 + (1 : Int32))), some (.int r29)]) (pc' := 79) X rfl ic_1 (Nat.le_of_ble_eq_true rfl) rfl rfl dX4_mixNotes_76 rfl ?_
        refine sk_goto (tgt := 5) X dX4_mixNotes_79 rfl ?_
        exact (sk_kill 6 (ih5 (s5.1, (s5.2 + (1 : Int32)))))
      · refine sk_lload_n (pc' := 41) X rfl dX4_mixNotes_40 rfl ?_
        refine sk_aload_n (pc' := 42) X rfl dX4_mixNotes_41 rfl ?_
        refine sk_getf (pc' := 45) X 0 0 0 in_RX4 rfl rfl rfl (Nat.le_of_ble_eq_true rfl) fl_RX4_10 rfl dX4_mixNotes_42 rfl ?_
        refine sk_getf (pc' := 48) X 1 0 5 in_RX1 rfl rfl rfl (Nat.le_of_ble_eq_true rfl) fl_RX4_157 rfl dX4_mixNotes_45 rfl ?_
        refine sk_getf (pc' := 51) X 2 0 0 in_RX0 rfl rfl rfl (Nat.le_of_ble_eq_true rfl) fl_RX4_166 rfl dX4_mixNotes_48 rfl ?_
        refine sk_iload (pc' := 53) X rfl dX4_mixNotes_51 rfl ?_
        refine sk_iald (pc' := 54) X 2 1 rfl rfl dX4_mixNotes_53 rfl ?_
        refine sk_callS (bs2 := fun r54 => [(pc_W u0 (u1 0) a0_thought a0_ahead a0_savings a0_script), (nt_W G u1 (u2 0) S1), (lg_W G u2 S2)]) (st := []) (st2 := fun r54 => [.long r54]) (As := [.long s5.1, .int ((S2 1) (r29).toNatClampNeg)]) (pc' := 57) X (c_X4_mix l G s5.1 ((S2 1) (r29).toNatClampNeg)) lk_RX4_258 [] rfl (by decide) (fun _ => rfl) ⟨(Nat.le_of_ble_eq_true rfl), (Nat.le_of_ble_eq_true rfl)⟩ ⟨rfl, rfl⟩ ⟨(Nat.le_of_ble_eq_true rfl), (Nat.le_of_ble_eq_true rfl)⟩ rfl (Nat.le_of_ble_eq_true rfl) rfl dX4_mixNotes_54 rfl (fun _ => rfl) (fun _ => rfl) (fun r54 => ?_)
        refine sk_lstore_n (lv' := [some (.ref (u0 0)), none, none, some (.long r54), none, some (.int s5.2), some (.int r29)]) (pc' := 58) X (Nat.le_of_ble_eq_true rfl) rfl rfl dX4_mixNotes_57 rfl ?_
        refine sk_lload_n (pc' := 59) X rfl dX4_mixNotes_58 rfl ?_
        refine sk_aload_n (pc' := 60) X rfl dX4_mixNotes_59 rfl ?_
        refine sk_getf (pc' := 63) X 0 0 0 in_RX4 rfl rfl rfl (Nat.le_of_ble_eq_true rfl) fl_RX4_10 rfl dX4_mixNotes_60 rfl ?_
        refine sk_getf (pc' := 66) X 1 0 5 in_RX1 rfl rfl rfl (Nat.le_of_ble_eq_true rfl) fl_RX4_157 rfl dX4_mixNotes_63 rfl ?_
        refine sk_getf (pc' := 69) X 2 0 1 in_RX0 rfl rfl rfl (Nat.le_of_ble_eq_true rfl) fl_RX4_169 rfl dX4_mixNotes_66 rfl ?_
        refine sk_iload (pc' := 71) X rfl dX4_mixNotes_69 rfl ?_
        refine sk_iald (pc' := 72) X 2 2 rfl rfl dX4_mixNotes_71 rfl ?_
        refine sk_callS (bs2 := fun r72 => [(pc_W u0 (u1 0) a0_thought a0_ahead a0_savings a0_script), (nt_W G u1 (u2 0) S1), (lg_W G u2 S2)]) (st := []) (st2 := fun r72 => [.long r72]) (As := [.long r54, .int ((S2 2) (r29).toNatClampNeg)]) (pc' := 75) X (c_X4_mix l G r54 ((S2 2) (r29).toNatClampNeg)) lk_RX4_258 [] rfl (by decide) (fun _ => rfl) ⟨(Nat.le_of_ble_eq_true rfl), (Nat.le_of_ble_eq_true rfl)⟩ ⟨rfl, rfl⟩ ⟨(Nat.le_of_ble_eq_true rfl), (Nat.le_of_ble_eq_true rfl)⟩ rfl (Nat.le_of_ble_eq_true rfl) rfl dX4_mixNotes_72 rfl (fun _ => rfl) (fun _ => rfl) (fun r72 => ?_)
        refine sk_lstore_n (lv' := [some (.ref (u0 0)), none, none, some (.long r72), none, some (.int s5.2), some (.int r29)]) (pc' := 76) X (Nat.le_of_ble_eq_true rfl) rfl rfl dX4_mixNotes_75 rfl ?_
        refine sk_iinc (lv' := [some (.ref (u0 0)), none, none, some (.long r72), none, some (.int (s5.2 + (1 : Int32))), some (.int r29)]) (pc' := 79) X rfl ic_1 (Nat.le_of_ble_eq_true rfl) rfl rfl dX4_mixNotes_76 rfl ?_
        refine sk_goto (tgt := 5) X dX4_mixNotes_79 rfl ?_
        exact (sk_kill 6 (ih5 (r72, (s5.2 + (1 : Int32)))))
  unfold m_X4_mixNotes
  refine sk_lload_n (pc' := 1) X rfl dX4_mixNotes_0 rfl ?_
  refine sk_lstore_n (lv' := [some (.ref (u0 0)), some (.long p1), none, some (.long p1), none, none, none]) (pc' := 2) X (Nat.le_of_ble_eq_true rfl) rfl rfl dX4_mixNotes_1 rfl ?_
  refine sk_iconst (pc' := 3) X ic_0 dX4_mixNotes_2 rfl ?_
  refine sk_istore (lv' := [some (.ref (u0 0)), some (.long p1), none, some (.long p1), none, some (.int (0 : Int32)), none]) (pc' := 5) X (Nat.le_of_ble_eq_true rfl) rfl rfl dX4_mixNotes_3 rfl ?_
  exact (sk_kill 1 (h5 (p1, (0 : Int32))))
def rm_X4_digest : Room := { frames := 4, cells := 0, slots := 0, locals := 94 }
def o_X4_digest : (Int64) → Option Value := fun r => some (.long r)
def w_X4_digest (G : sk_G) (u0 u1 u2 u3 u4 : Nat → Nat) (a0_thought a0_ahead a3_st0 a3_st1 a3_st2 a3_st3 : Nat) (S1 : sk_N) (S2 : sk_N) (S3 : sk_N) (S4 : sk_N) : (Int64) → sk_B := fun r => [(pc_W u0 (u1 0) a0_thought a0_ahead (u3 0) (u4 0)), (nt_W G u1 (u2 0) S1), (lg_W G u2 S2), (sv_W G u3 a3_st0 a3_st1 a3_st2 a3_st3 S3), (sc_W G u4 S4)]
set_option maxHeartbeats 4000000 in
set_option maxRecDepth 100000 in
theorem c_X4_digest (l : Launch) (G : sk_G) (u0 u1 u2 u3 u4 : Nat → Nat) (a0_thought a0_ahead a3_st0 a3_st1 a3_st2 a3_st3 : Nat) (S1 : sk_N) (S2 : sk_N) (S3 : sk_N) (S4 : sk_N) : sk_ctr l G yX4_digest cX4_digest 3 (some .long) rm_X4_digest [.ref (u0 0)] [(pc_W u0 (u1 0) a0_thought a0_ahead (u3 0) (u4 0)), (nt_W G u1 (u2 0) S1), (lg_W G u2 S2), (sv_W G u3 a3_st0 a3_st1 a3_st2 a3_st3 S3), (sc_W G u4 S4)] (m_X4_digest S1 S2 S3 S4) o_X4_digest (w_X4_digest G u0 u1 u2 u3 u4 a0_thought a0_ahead a3_st0 a3_st1 a3_st2 a3_st3 S1 S2 S3 S4) := by
  refine sk_entry (own := RX4) (by decide) rfl (lv0 := [some (.ref (u0 0)), none, none]) rfl (Nat.le_of_ble_eq_true rfl) ?_
  intro Γ X
  unfold m_X4_digest
  refine sk_ldc2 (pc' := 3) X q_523 dX4_digest_0 rfl ?_
  refine sk_lstore_n (lv' := [some (.ref (u0 0)), some (.long (1858 : Int64)), none]) (pc' := 4) X (Nat.le_of_ble_eq_true rfl) rfl rfl dX4_digest_3 rfl ?_
  refine sk_lt (bsf := fun _ => [(pc_W u0 (u1 0) a0_thought a0_ahead (u3 0) (u4 0)), (nt_W G u1 (u2 0) S1), (lg_W G u2 S2), (sv_W G u3 a3_st0 a3_st1 a3_st2 a3_st3 S3), (sc_W G u4 S4)]) (lvf := fun z => [some (.ref (u0 0)), some (.long z), none]) (stf := fun _ => []) (fun x3 => ?_)
  refine sk_lload_n (pc' := 5) X rfl dX4_digest_4 rfl ?_
  refine sk_aload_n (pc' := 6) X rfl dX4_digest_5 rfl ?_
  refine sk_getf (pc' := 9) X 0 0 0 in_RX4 rfl rfl rfl (Nat.le_of_ble_eq_true rfl) fl_RX4_10 rfl dX4_digest_6 rfl ?_
  refine sk_getf (pc' := 12) X 1 0 1 in_RX1 rfl rfl rfl (Nat.le_of_ble_eq_true rfl) fl_RX4_215 rfl dX4_digest_9 rfl ?_
  refine sk_callS (bs2 := fun r12 => [(pc_W u0 (u1 0) a0_thought a0_ahead (u3 0) (u4 0)), (nt_W G u1 (u2 0) S1), (lg_W G u2 S2), (sv_W G u3 a3_st0 a3_st1 a3_st2 a3_st3 S3), (sc_W G u4 S4)]) (st := []) (st2 := fun r12 => [.long r12]) (As := [.long x3, .int (S1 0 1)]) (pc' := 15) X (c_X4_mix l G x3 (S1 0 1)) lk_RX4_258 [] rfl (by decide) (fun _ => rfl) ⟨(Nat.le_of_ble_eq_true rfl), (Nat.le_of_ble_eq_true rfl)⟩ ⟨rfl, rfl⟩ ⟨(Nat.le_of_ble_eq_true rfl), (Nat.le_of_ble_eq_true rfl)⟩ rfl (Nat.le_of_ble_eq_true rfl) rfl dX4_digest_12 rfl (fun _ => rfl) (fun _ => rfl) (fun r12 => ?_)
  refine sk_lstore_n (lv' := [some (.ref (u0 0)), some (.long r12), none]) (pc' := 16) X (Nat.le_of_ble_eq_true rfl) rfl rfl dX4_digest_15 rfl ?_
  refine sk_lload_n (pc' := 17) X rfl dX4_digest_16 rfl ?_
  refine sk_aload_n (pc' := 18) X rfl dX4_digest_17 rfl ?_
  refine sk_getf (pc' := 21) X 0 0 0 in_RX4 rfl rfl rfl (Nat.le_of_ble_eq_true rfl) fl_RX4_10 rfl dX4_digest_18 rfl ?_
  refine sk_getf (pc' := 24) X 1 0 2 in_RX1 rfl rfl rfl (Nat.le_of_ble_eq_true rfl) fl_RX4_262 rfl dX4_digest_21 rfl ?_
  refine sk_iconst (pc' := 25) X ic_0 dX4_digest_24 rfl ?_
  refine sk_iald (pc' := 26) X 1 1 rfl rfl dX4_digest_25 rfl ?_
  refine sk_callS (bs2 := fun r26 => [(pc_W u0 (u1 0) a0_thought a0_ahead (u3 0) (u4 0)), (nt_W G u1 (u2 0) S1), (lg_W G u2 S2), (sv_W G u3 a3_st0 a3_st1 a3_st2 a3_st3 S3), (sc_W G u4 S4)]) (st := []) (st2 := fun r26 => [.long r26]) (As := [.long r12, .int ((S1 1) ((0 : Int32)).toNatClampNeg)]) (pc' := 29) X (c_X4_mix l G r12 ((S1 1) ((0 : Int32)).toNatClampNeg)) lk_RX4_258 [] rfl (by decide) (fun _ => rfl) ⟨(Nat.le_of_ble_eq_true rfl), (Nat.le_of_ble_eq_true rfl)⟩ ⟨rfl, rfl⟩ ⟨(Nat.le_of_ble_eq_true rfl), (Nat.le_of_ble_eq_true rfl)⟩ rfl (Nat.le_of_ble_eq_true rfl) rfl dX4_digest_26 rfl (fun _ => rfl) (fun _ => rfl) (fun r26 => ?_)
  refine sk_lstore_n (lv' := [some (.ref (u0 0)), some (.long r26), none]) (pc' := 30) X (Nat.le_of_ble_eq_true rfl) rfl rfl dX4_digest_29 rfl ?_
  refine sk_lload_n (pc' := 31) X rfl dX4_digest_30 rfl ?_
  refine sk_aload_n (pc' := 32) X rfl dX4_digest_31 rfl ?_
  refine sk_getf (pc' := 35) X 0 0 0 in_RX4 rfl rfl rfl (Nat.le_of_ble_eq_true rfl) fl_RX4_10 rfl dX4_digest_32 rfl ?_
  refine sk_getf (pc' := 38) X 1 0 2 in_RX1 rfl rfl rfl (Nat.le_of_ble_eq_true rfl) fl_RX4_262 rfl dX4_digest_35 rfl ?_
  refine sk_iconst (pc' := 39) X ic_1 dX4_digest_38 rfl ?_
  refine sk_iald (pc' := 40) X 1 1 rfl rfl dX4_digest_39 rfl ?_
  refine sk_callS (bs2 := fun r40 => [(pc_W u0 (u1 0) a0_thought a0_ahead (u3 0) (u4 0)), (nt_W G u1 (u2 0) S1), (lg_W G u2 S2), (sv_W G u3 a3_st0 a3_st1 a3_st2 a3_st3 S3), (sc_W G u4 S4)]) (st := []) (st2 := fun r40 => [.long r40]) (As := [.long r26, .int ((S1 1) ((1 : Int32)).toNatClampNeg)]) (pc' := 43) X (c_X4_mix l G r26 ((S1 1) ((1 : Int32)).toNatClampNeg)) lk_RX4_258 [] rfl (by decide) (fun _ => rfl) ⟨(Nat.le_of_ble_eq_true rfl), (Nat.le_of_ble_eq_true rfl)⟩ ⟨rfl, rfl⟩ ⟨(Nat.le_of_ble_eq_true rfl), (Nat.le_of_ble_eq_true rfl)⟩ rfl (Nat.le_of_ble_eq_true rfl) rfl dX4_digest_40 rfl (fun _ => rfl) (fun _ => rfl) (fun r40 => ?_)
  refine sk_lstore_n (lv' := [some (.ref (u0 0)), some (.long r40), none]) (pc' := 44) X (Nat.le_of_ble_eq_true rfl) rfl rfl dX4_digest_43 rfl ?_
  refine sk_lload_n (pc' := 45) X rfl dX4_digest_44 rfl ?_
  refine sk_aload_n (pc' := 46) X rfl dX4_digest_45 rfl ?_
  refine sk_getf (pc' := 49) X 0 0 0 in_RX4 rfl rfl rfl (Nat.le_of_ble_eq_true rfl) fl_RX4_10 rfl dX4_digest_46 rfl ?_
  refine sk_getf (pc' := 52) X 1 0 2 in_RX1 rfl rfl rfl (Nat.le_of_ble_eq_true rfl) fl_RX4_262 rfl dX4_digest_49 rfl ?_
  refine sk_iconst (pc' := 53) X ic_2 dX4_digest_52 rfl ?_
  refine sk_iald (pc' := 54) X 1 1 rfl rfl dX4_digest_53 rfl ?_
  refine sk_callS (bs2 := fun r54 => [(pc_W u0 (u1 0) a0_thought a0_ahead (u3 0) (u4 0)), (nt_W G u1 (u2 0) S1), (lg_W G u2 S2), (sv_W G u3 a3_st0 a3_st1 a3_st2 a3_st3 S3), (sc_W G u4 S4)]) (st := []) (st2 := fun r54 => [.long r54]) (As := [.long r40, .int ((S1 1) ((2 : Int32)).toNatClampNeg)]) (pc' := 57) X (c_X4_mix l G r40 ((S1 1) ((2 : Int32)).toNatClampNeg)) lk_RX4_258 [] rfl (by decide) (fun _ => rfl) ⟨(Nat.le_of_ble_eq_true rfl), (Nat.le_of_ble_eq_true rfl)⟩ ⟨rfl, rfl⟩ ⟨(Nat.le_of_ble_eq_true rfl), (Nat.le_of_ble_eq_true rfl)⟩ rfl (Nat.le_of_ble_eq_true rfl) rfl dX4_digest_54 rfl (fun _ => rfl) (fun _ => rfl) (fun r54 => ?_)
  refine sk_lstore_n (lv' := [some (.ref (u0 0)), some (.long r54), none]) (pc' := 58) X (Nat.le_of_ble_eq_true rfl) rfl rfl dX4_digest_57 rfl ?_
  refine sk_lload_n (pc' := 59) X rfl dX4_digest_58 rfl ?_
  refine sk_aload_n (pc' := 60) X rfl dX4_digest_59 rfl ?_
  refine sk_getf (pc' := 63) X 0 0 0 in_RX4 rfl rfl rfl (Nat.le_of_ble_eq_true rfl) fl_RX4_10 rfl dX4_digest_60 rfl ?_
  refine sk_getf (pc' := 66) X 1 0 3 in_RX1 rfl rfl rfl (Nat.le_of_ble_eq_true rfl) fl_RX4_154 rfl dX4_digest_63 rfl ?_
  refine sk_callS (bs2 := fun r66 => [(pc_W u0 (u1 0) a0_thought a0_ahead (u3 0) (u4 0)), (nt_W G u1 (u2 0) S1), (lg_W G u2 S2), (sv_W G u3 a3_st0 a3_st1 a3_st2 a3_st3 S3), (sc_W G u4 S4)]) (st := []) (st2 := fun r66 => [.long r66]) (As := [.long r54, .int (S1 0 3)]) (pc' := 69) X (c_X4_mix l G r54 (S1 0 3)) lk_RX4_258 [] rfl (by decide) (fun _ => rfl) ⟨(Nat.le_of_ble_eq_true rfl), (Nat.le_of_ble_eq_true rfl)⟩ ⟨rfl, rfl⟩ ⟨(Nat.le_of_ble_eq_true rfl), (Nat.le_of_ble_eq_true rfl)⟩ rfl (Nat.le_of_ble_eq_true rfl) rfl dX4_digest_66 rfl (fun _ => rfl) (fun _ => rfl) (fun r66 => ?_)
  refine sk_lstore_n (lv' := [some (.ref (u0 0)), some (.long r66), none]) (pc' := 70) X (Nat.le_of_ble_eq_true rfl) rfl rfl dX4_digest_69 rfl ?_
  refine sk_aload_n (pc' := 71) X rfl dX4_digest_70 rfl ?_
  refine sk_lload_n (pc' := 72) X rfl dX4_digest_71 rfl ?_
  refine sk_callV (bs2 := fun r72 => [(pc_W u0 (u1 0) a0_thought a0_ahead (u3 0) (u4 0)), (nt_W G u1 (u2 0) S1), (lg_W G u2 S2), (sv_W G u3 a3_st0 a3_st1 a3_st2 a3_st3 S3), (sc_W G u4 S4)]) (st := []) (st2 := fun r72 => [.long r72]) (As := [.long r66]) (pc' := 75) X (c_X4_mixClocks l G u0 u1 a0_thought a0_ahead (u3 0) (u4 0) (u2 0) S1 r66) lk_RX4_265 [0, 1] rfl (by decide) (fun _ => rfl) rfl rfl rfl ⟨(Nat.le_of_ble_eq_true rfl), (Nat.le_of_ble_eq_true rfl)⟩ ⟨rfl, rfl⟩ ⟨(Nat.le_of_ble_eq_true rfl), (Nat.le_of_ble_eq_true rfl)⟩ rfl (Nat.le_of_ble_eq_true rfl) rfl dX4_digest_72 rfl (fun _ => rfl) (fun _ => rfl) (fun r72 => ?_)
  refine sk_lstore_n (lv' := [some (.ref (u0 0)), some (.long r72), none]) (pc' := 76) X (Nat.le_of_ble_eq_true rfl) rfl rfl dX4_digest_75 rfl ?_
  refine sk_lload_n (pc' := 77) X rfl dX4_digest_76 rfl ?_
  refine sk_aload_n (pc' := 78) X rfl dX4_digest_77 rfl ?_
  refine sk_getf (pc' := 81) X 0 0 0 in_RX4 rfl rfl rfl (Nat.le_of_ble_eq_true rfl) fl_RX4_10 rfl dX4_digest_78 rfl ?_
  refine sk_getf (pc' := 84) X 1 0 4 in_RX1 rfl rfl rfl (Nat.le_of_ble_eq_true rfl) fl_RX4_172 rfl dX4_digest_81 rfl ?_
  refine sk_callS (bs2 := fun r84 => [(pc_W u0 (u1 0) a0_thought a0_ahead (u3 0) (u4 0)), (nt_W G u1 (u2 0) S1), (lg_W G u2 S2), (sv_W G u3 a3_st0 a3_st1 a3_st2 a3_st3 S3), (sc_W G u4 S4)]) (st := []) (st2 := fun r84 => [.long r84]) (As := [.long r72, .int (S1 0 4)]) (pc' := 87) X (c_X4_mix l G r72 (S1 0 4)) lk_RX4_258 [] rfl (by decide) (fun _ => rfl) ⟨(Nat.le_of_ble_eq_true rfl), (Nat.le_of_ble_eq_true rfl)⟩ ⟨rfl, rfl⟩ ⟨(Nat.le_of_ble_eq_true rfl), (Nat.le_of_ble_eq_true rfl)⟩ rfl (Nat.le_of_ble_eq_true rfl) rfl dX4_digest_84 rfl (fun _ => rfl) (fun _ => rfl) (fun r84 => ?_)
  refine sk_lstore_n (lv' := [some (.ref (u0 0)), some (.long r84), none]) (pc' := 88) X (Nat.le_of_ble_eq_true rfl) rfl rfl dX4_digest_87 rfl ?_
  refine sk_lload_n (pc' := 89) X rfl dX4_digest_88 rfl ?_
  refine sk_aload_n (pc' := 90) X rfl dX4_digest_89 rfl ?_
  refine sk_getf (pc' := 93) X 0 0 0 in_RX4 rfl rfl rfl (Nat.le_of_ble_eq_true rfl) fl_RX4_10 rfl dX4_digest_90 rfl ?_
  refine sk_callV (bs2 := fun r93 => [(pc_W u0 (u1 0) a0_thought a0_ahead (u3 0) (u4 0)), (nt_W G u1 (u2 0) S1), (lg_W G u2 S2), (sv_W G u3 a3_st0 a3_st1 a3_st2 a3_st3 S3), (sc_W G u4 S4)]) (st := [.long r84]) (st2 := fun r93 => [.int r93, .long r84]) (As := []) (pc' := 96) X (c_X1_pulseCount l G u1 (u2 0) S1) lk_RX4_175 [1] rfl (by decide) (fun _ => rfl) rfl rfl rfl ⟨(Nat.le_of_ble_eq_true rfl), (Nat.le_of_ble_eq_true rfl)⟩ ⟨rfl, rfl⟩ ⟨(Nat.le_of_ble_eq_true rfl), (Nat.le_of_ble_eq_true rfl)⟩ rfl (Nat.le_of_ble_eq_true rfl) rfl dX4_digest_93 rfl (fun _ => rfl) (fun _ => rfl) (fun r93 => ?_)
  refine sk_callS (bs2 := fun r96 => [(pc_W u0 (u1 0) a0_thought a0_ahead (u3 0) (u4 0)), (nt_W G u1 (u2 0) S1), (lg_W G u2 S2), (sv_W G u3 a3_st0 a3_st1 a3_st2 a3_st3 S3), (sc_W G u4 S4)]) (st := []) (st2 := fun r96 => [.long r96]) (As := [.long r84, .int r93]) (pc' := 99) X (c_X4_mix l G r84 r93) lk_RX4_258 [] rfl (by decide) (fun _ => rfl) ⟨(Nat.le_of_ble_eq_true rfl), (Nat.le_of_ble_eq_true rfl)⟩ ⟨rfl, rfl⟩ ⟨(Nat.le_of_ble_eq_true rfl), (Nat.le_of_ble_eq_true rfl)⟩ rfl (Nat.le_of_ble_eq_true rfl) rfl dX4_digest_96 rfl (fun _ => rfl) (fun _ => rfl) (fun r96 => ?_)
  refine sk_lstore_n (lv' := [some (.ref (u0 0)), some (.long r96), none]) (pc' := 100) X (Nat.le_of_ble_eq_true rfl) rfl rfl dX4_digest_99 rfl ?_
  refine sk_aload_n (pc' := 101) X rfl dX4_digest_100 rfl ?_
  refine sk_lload_n (pc' := 102) X rfl dX4_digest_101 rfl ?_
  refine sk_callV (bs2 := fun r102 => [(pc_W u0 (u1 0) a0_thought a0_ahead (u3 0) (u4 0)), (nt_W G u1 (u2 0) S1), (lg_W G u2 S2), (sv_W G u3 a3_st0 a3_st1 a3_st2 a3_st3 S3), (sc_W G u4 S4)]) (st := []) (st2 := fun r102 => [.long r102]) (As := [.long r96]) (pc' := 105) X (c_X4_mixGroups l G u0 u1 a0_thought a0_ahead (u3 0) (u4 0) (u2 0) S1 r96) lk_RX4_269 [0, 1] rfl (by decide) (fun _ => rfl) rfl rfl rfl ⟨(Nat.le_of_ble_eq_true rfl), (Nat.le_of_ble_eq_true rfl)⟩ ⟨rfl, rfl⟩ ⟨(Nat.le_of_ble_eq_true rfl), (Nat.le_of_ble_eq_true rfl)⟩ rfl (Nat.le_of_ble_eq_true rfl) rfl dX4_digest_102 rfl (fun _ => rfl) (fun _ => rfl) (fun r102 => ?_)
  refine sk_lstore_n (lv' := [some (.ref (u0 0)), some (.long r102), none]) (pc' := 106) X (Nat.le_of_ble_eq_true rfl) rfl rfl dX4_digest_105 rfl ?_
  refine sk_lload_n (pc' := 107) X rfl dX4_digest_106 rfl ?_
  refine sk_aload_n (pc' := 108) X rfl dX4_digest_107 rfl ?_
  refine sk_getf (pc' := 111) X 0 0 0 in_RX4 rfl rfl rfl (Nat.le_of_ble_eq_true rfl) fl_RX4_10 rfl dX4_digest_108 rfl ?_
  refine sk_callV (bs2 := fun r111 => [(pc_W u0 (u1 0) a0_thought a0_ahead (u3 0) (u4 0)), (nt_W G u1 (u2 0) S1), (lg_W G u2 S2), (sv_W G u3 a3_st0 a3_st1 a3_st2 a3_st3 S3), (sc_W G u4 S4)]) (st := [.long r102]) (st2 := fun r111 => [.int r111, .long r102]) (As := []) (pc' := 114) X (c_X1_spreadOfGood l G u1 (u2 0) S1) lk_RX4_195 [1] rfl (by decide) (fun _ => rfl) rfl rfl rfl ⟨(Nat.le_of_ble_eq_true rfl), (Nat.le_of_ble_eq_true rfl)⟩ ⟨rfl, rfl⟩ ⟨(Nat.le_of_ble_eq_true rfl), (Nat.le_of_ble_eq_true rfl)⟩ rfl (Nat.le_of_ble_eq_true rfl) rfl dX4_digest_111 rfl (fun _ => rfl) (fun _ => rfl) (fun r111 => ?_)
  refine sk_callS (bs2 := fun r114 => [(pc_W u0 (u1 0) a0_thought a0_ahead (u3 0) (u4 0)), (nt_W G u1 (u2 0) S1), (lg_W G u2 S2), (sv_W G u3 a3_st0 a3_st1 a3_st2 a3_st3 S3), (sc_W G u4 S4)]) (st := []) (st2 := fun r114 => [.long r114]) (As := [.long r102, .int r111]) (pc' := 117) X (c_X4_mix l G r102 r111) lk_RX4_258 [] rfl (by decide) (fun _ => rfl) ⟨(Nat.le_of_ble_eq_true rfl), (Nat.le_of_ble_eq_true rfl)⟩ ⟨rfl, rfl⟩ ⟨(Nat.le_of_ble_eq_true rfl), (Nat.le_of_ble_eq_true rfl)⟩ rfl (Nat.le_of_ble_eq_true rfl) rfl dX4_digest_114 rfl (fun _ => rfl) (fun _ => rfl) (fun r114 => ?_)
  refine sk_lstore_n (lv' := [some (.ref (u0 0)), some (.long r114), none]) (pc' := 118) X (Nat.le_of_ble_eq_true rfl) rfl rfl dX4_digest_117 rfl ?_
  refine sk_aload_n (pc' := 119) X rfl dX4_digest_118 rfl ?_
  refine sk_lload_n (pc' := 120) X rfl dX4_digest_119 rfl ?_
  refine sk_callV (bs2 := fun r120 => [(pc_W u0 (u1 0) a0_thought a0_ahead (u3 0) (u4 0)), (nt_W G u1 (u2 0) S1), (lg_W G u2 S2), (sv_W G u3 a3_st0 a3_st1 a3_st2 a3_st3 S3), (sc_W G u4 S4)]) (st := []) (st2 := fun r120 => [.long r120]) (As := [.long r114]) (pc' := 123) X (c_X4_mixNotes l G u0 u1 u2 a0_thought a0_ahead (u3 0) (u4 0) S1 S2 r114) lk_RX4_272 [0, 1, 2] rfl (by decide) (fun _ => rfl) rfl rfl rfl ⟨(Nat.le_of_ble_eq_true rfl), (Nat.le_of_ble_eq_true rfl)⟩ ⟨rfl, rfl⟩ ⟨(Nat.le_of_ble_eq_true rfl), (Nat.le_of_ble_eq_true rfl)⟩ rfl (Nat.le_of_ble_eq_true rfl) rfl dX4_digest_120 rfl (fun _ => rfl) (fun _ => rfl) (fun r120 => ?_)
  refine sk_lstore_n (lv' := [some (.ref (u0 0)), some (.long r120), none]) (pc' := 124) X (Nat.le_of_ble_eq_true rfl) rfl rfl dX4_digest_123 rfl ?_
  refine sk_lload_n (pc' := 125) X rfl dX4_digest_124 rfl ?_
  refine sk_aload_n (pc' := 126) X rfl dX4_digest_125 rfl ?_
  refine sk_getf (pc' := 129) X 0 0 4 in_RX4 rfl rfl rfl (Nat.le_of_ble_eq_true rfl) fl_RX4_32 rfl dX4_digest_126 rfl ?_
  refine sk_getf (pc' := 132) X 4 0 0 in_RX3 rfl rfl rfl (Nat.le_of_ble_eq_true rfl) fl_RX4_233 rfl dX4_digest_129 rfl ?_
  refine sk_callS (bs2 := fun r132 => [(pc_W u0 (u1 0) a0_thought a0_ahead (u3 0) (u4 0)), (nt_W G u1 (u2 0) S1), (lg_W G u2 S2), (sv_W G u3 a3_st0 a3_st1 a3_st2 a3_st3 S3), (sc_W G u4 S4)]) (st := []) (st2 := fun r132 => [.long r132]) (As := [.long r120, .int (S4 0 0)]) (pc' := 135) X (c_X4_mix l G r120 (S4 0 0)) lk_RX4_258 [] rfl (by decide) (fun _ => rfl) ⟨(Nat.le_of_ble_eq_true rfl), (Nat.le_of_ble_eq_true rfl)⟩ ⟨rfl, rfl⟩ ⟨(Nat.le_of_ble_eq_true rfl), (Nat.le_of_ble_eq_true rfl)⟩ rfl (Nat.le_of_ble_eq_true rfl) rfl dX4_digest_132 rfl (fun _ => rfl) (fun _ => rfl) (fun r132 => ?_)
  refine sk_lstore_n (lv' := [some (.ref (u0 0)), some (.long r132), none]) (pc' := 136) X (Nat.le_of_ble_eq_true rfl) rfl rfl dX4_digest_135 rfl ?_
  refine sk_lload_n (pc' := 137) X rfl dX4_digest_136 rfl ?_
  refine sk_aload_n (pc' := 138) X rfl dX4_digest_137 rfl ?_
  refine sk_getf (pc' := 141) X 0 0 3 in_RX4 rfl rfl rfl (Nat.le_of_ble_eq_true rfl) fl_RX4_25 rfl dX4_digest_138 rfl ?_
  refine sk_getf (pc' := 144) X 3 0 2 in_RX2 rfl rfl rfl (Nat.le_of_ble_eq_true rfl) fl_RX4_248 rfl dX4_digest_141 rfl ?_
  refine sk_callS (bs2 := fun r144 => [(pc_W u0 (u1 0) a0_thought a0_ahead (u3 0) (u4 0)), (nt_W G u1 (u2 0) S1), (lg_W G u2 S2), (sv_W G u3 a3_st0 a3_st1 a3_st2 a3_st3 S3), (sc_W G u4 S4)]) (st := []) (st2 := fun r144 => [.long r144]) (As := [.long r132, .int (S3 0 2)]) (pc' := 147) X (c_X4_mix l G r132 (S3 0 2)) lk_RX4_258 [] rfl (by decide) (fun _ => rfl) ⟨(Nat.le_of_ble_eq_true rfl), (Nat.le_of_ble_eq_true rfl)⟩ ⟨rfl, rfl⟩ ⟨(Nat.le_of_ble_eq_true rfl), (Nat.le_of_ble_eq_true rfl)⟩ rfl (Nat.le_of_ble_eq_true rfl) rfl dX4_digest_144 rfl (fun _ => rfl) (fun _ => rfl) (fun r144 => ?_)
  exact sk_lret X rfl rfl dX4_digest_147
