set_option maxHeartbeats 4000000 in
set_option maxRecDepth 100000 in
theorem lc_8 {Γ : sk_K} {l : Launch} (hl0 : l.stackTraces = false) {G : sk_G} {t b L : Nat} {xs : Nat → Int32} (X : sk_X Γ l G room_1 7 RL code ret) (E : sk_EL Γ t b L xs) (u0 u1 u2 u3 u4 u5 u6 u7 u8 u9 u10 u11 u12 u13 u14 u15 u16 u17 u18 : Nat → Nat) (k23 : lw_σ → Option Int32) (ih23 : ∀ s2 : lw_σ, sk_S Γ (lw_Φ Γ b) (kl s2.2.2.2.2.2.2.2.2.2.2.2.2.2.2.2.2.2.2) (nl s2.2.2.2.2.2.2.2.2.2.2.2.2.2.2.2.2.2.2) (k23 s2) (lw_bs G u0 u1 u2 u3 u4 u5 u6 u7 u8 u9 u10 u11 u12 u13 u14 u15 u16 u17 u18 s2) (lw_lv b u0 u1 u2 u3 u4 u5 u6 u7 u8 u9 u10 u11 u12 u13 u14 u15 u16 u17 u18 s2) 23 []) (S1 : sk_N) (S2 : sk_N) (S3 : sk_N) (S4 : sk_N) (S5 : sk_N) (S6 : sk_N) (S7 : sk_N) (S8 : sk_N) (S9 : sk_N) (S10 : sk_N) (S11 : sk_N) (S12 : sk_N) (S13 : sk_N) (S14 : sk_N) (S15 : sk_N) (S16 : sk_N) (S17 : sk_M) (S18 : sk_O) (x4 : Int32) (hg : sk_in x4 2049 = true) : sk_S Γ (lw_Φ Γ b) (kl x4) (nl x4) (m_L_c8 L xs k23 S1 S2 S3 S4 S5 S6 S7 S8 S9 S10 S11 S12 S13 S14 S15 S16 S17 S18 x4) [(pc_W u0 (u1 0) (u3 0) (u5 0) (u7 0) (u16 0)), (nt_W G u1 (u2 0) S1), (lg_W G u2 S2), (nt_W G u3 (u4 0) S3), (lg_W G u4 S4), (nt_W G u5 (u6 0) S5), (lg_W G u6 S6), (sv_W G u7 (u8 0) (u10 0) (u12 0) (u14 0) S7), (nt_W G u8 (u9 0) S8), (lg_W G u9 S9), (nt_W G u10 (u11 0) S10), (lg_W G u11 S11), (nt_W G u12 (u13 0) S12), (lg_W G u13 S13), (nt_W G u14 (u15 0) S14), (lg_W G u15 S15), (sc_W G u16 S16), (md_W G u17 S17), (ot_W G u18 S18)] [some (.ref b), some (.ref (u0 0)), some (.ref (u17 0)), some (.ref (u18 0)), some (.int x4), none, none] 732 [] := by
  have hk0 := lw_hk hg
  have hn0 := lw_hn hg
  unfold m_L_c8
  refine sk_aload_n (pc' := 733) X rfl dL_law_732 rfl ?_
  refine sk_aload_n (pc' := 734) X rfl dL_law_733 rfl ?_
  refine sk_iload (pc' := 736) X rfl dL_law_734 rfl ?_
  refine sk_iconst (pc' := 737) X ic_1 dL_law_736 rfl ?_
  refine sk_iadd (pc' := 738) X dL_law_737 rfl ?_
  refine sk_scd (pc' := 739) X E dL_law_738 rfl ?_
  refine sk_aload_n (pc' := 740) X rfl dL_law_739 rfl ?_
  refine sk_iload (pc' := 742) X rfl dL_law_740 rfl ?_
  refine sk_iconst (pc' := 743) X ic_2 dL_law_742 rfl ?_
  refine sk_iadd (pc' := 744) X dL_law_743 rfl ?_
  refine sk_scd (pc' := 745) X E dL_law_744 rfl ?_
  refine sk_aload_n (pc' := 746) X rfl dL_law_745 rfl ?_
  refine sk_callSH (bs2 := fun r746 => [(pc_W u0 (u1 0) (u3 0) (u5 0) (u7 0) (u16 0)), (nt_W G u1 (u2 0) r746.2.1), (lg_W G u2 S2), (nt_W G u3 (u4 0) S3), (lg_W G u4 S4), (nt_W G u5 (u6 0) S5), (lg_W G u6 S6), (sv_W G u7 (u8 0) (u10 0) (u12 0) (u14 0) r746.2.2.1), (nt_W G u8 (u9 0) r746.2.2.2.1), (lg_W G u9 r746.2.2.2.2.1), (nt_W G u10 (u11 0) r746.2.2.2.2.2.1), (lg_W G u11 r746.2.2.2.2.2.2.1), (nt_W G u12 (u13 0) r746.2.2.2.2.2.2.2.1), (lg_W G u13 r746.2.2.2.2.2.2.2.2.1), (nt_W G u14 (u15 0) r746.2.2.2.2.2.2.2.2.2.1), (lg_W G u15 r746.2.2.2.2.2.2.2.2.2.2.1), (sc_W G u16 S16), (md_W G u17 S17), (ot_W G u18 r746.2.2.2.2.2.2.2.2.2.2.2)]) (st := []) (st2 := fun r746 => [.int r746.1]) (As := [.ref (u0 0), .int (xs ((x4 + (1 : Int32))).toNatClampNeg), .int (xs ((x4 + (2 : Int32))).toNatClampNeg), .ref (u18 0)]) (pc' := 749) X E (c_L_setResponse l hl0 t G u0 u1 u2 u7 u8 u9 u10 u11 u12 u13 u14 u15 u18 (u3 0) (u5 0) (u16 0) S1 S2 S7 S8 S9 S10 S11 S12 S13 S14 S15 S18 (xs ((x4 + (1 : Int32))).toNatClampNeg) (xs ((x4 + (2 : Int32))).toNatClampNeg)) lkh_RL_135 [0, 1, 2, 7, 8, 9, 10, 11, 12, 13, 14, 15, 18] rfl (by decide) (fun _ => rfl) ⟨(Nat.le_of_ble_eq_true rfl), (Nat.le_of_ble_eq_true rfl)⟩ ⟨rfl, rfl⟩ ⟨by omega, by omega⟩ rfl (Nat.le_of_ble_eq_true rfl) rfl dL_law_746 rfl (fun _ => rfl) (fun _ => rfl) (fun r746 => ?_)
  refine sk_istore (lv' := [some (.ref b), some (.ref (u0 0)), some (.ref (u17 0)), some (.ref (u18 0)), some (.int x4), some (.int r746.1), none]) (pc' := 751) X (Nat.le_of_ble_eq_true rfl) rfl rfl dL_law_749 rfl ?_
  refine sk_aload_n (pc' := 752) X rfl dL_law_751 rfl ?_
  refine sk_aload_n (pc' := 753) X rfl dL_law_752 rfl ?_
  refine sk_iload (pc' := 755) X rfl dL_law_753 rfl ?_
  refine sk_iconst (pc' := 756) X ic_1 dL_law_755 rfl ?_
  refine sk_iadd (pc' := 757) X dL_law_756 rfl ?_
  refine sk_scd (pc' := 758) X E dL_law_757 rfl ?_
  refine sk_aload_n (pc' := 759) X rfl dL_law_758 rfl ?_
  refine sk_iload (pc' := 761) X rfl dL_law_759 rfl ?_
  refine sk_iconst (pc' := 762) X ic_2 dL_law_761 rfl ?_
  refine sk_iadd (pc' := 763) X dL_law_762 rfl ?_
  refine sk_scd (pc' := 764) X E dL_law_763 rfl ?_
  refine sk_callV (bs2 := fun r764 => [(pc_W u0 (u1 0) (u3 0) (u5 0) (u7 0) (u16 0)), (nt_W G u1 (u2 0) r746.2.1), (lg_W G u2 S2), (nt_W G u3 (u4 0) S3), (lg_W G u4 S4), (nt_W G u5 (u6 0) S5), (lg_W G u6 S6), (sv_W G u7 (u8 0) (u10 0) (u12 0) (u14 0) r746.2.2.1), (nt_W G u8 (u9 0) r746.2.2.2.1), (lg_W G u9 r746.2.2.2.2.1), (nt_W G u10 (u11 0) r746.2.2.2.2.2.1), (lg_W G u11 r746.2.2.2.2.2.2.1), (nt_W G u12 (u13 0) r746.2.2.2.2.2.2.2.1), (lg_W G u13 r746.2.2.2.2.2.2.2.2.1), (nt_W G u14 (u15 0) r746.2.2.2.2.2.2.2.2.2.1), (lg_W G u15 r746.2.2.2.2.2.2.2.2.2.2.1), (sc_W G u16 S16), (md_W G u17 r764.2), (ot_W G u18 r746.2.2.2.2.2.2.2.2.2.2.2)]) (st := []) (st2 := fun r764 => [.int r764.1]) (As := [.int (xs ((x4 + (1 : Int32))).toNatClampNeg), .int (xs ((x4 + (2 : Int32))).toNatClampNeg)]) (pc' := 767) X (c_X5_setResponse l G u17 S17 (xs ((x4 + (1 : Int32))).toNatClampNeg) (xs ((x4 + (2 : Int32))).toNatClampNeg)) lk_RL_137 [17] rfl (by decide) (fun _ => rfl) rfl rfl rfl ⟨(Nat.le_of_ble_eq_true rfl), (Nat.le_of_ble_eq_true rfl)⟩ ⟨rfl, rfl⟩ ⟨by omega, by omega⟩ rfl (Nat.le_of_ble_eq_true rfl) rfl dL_law_764 rfl (fun _ => rfl) (fun _ => rfl) (fun r764 => ?_)
  refine sk_istore (lv' := [some (.ref b), some (.ref (u0 0)), some (.ref (u17 0)), some (.ref (u18 0)), some (.int x4), some (.int r746.1), some (.int r764.1)]) (pc' := 769) X (Nat.le_of_ble_eq_true rfl) rfl rfl dL_law_767 rfl ?_
  refine sk_aload_n (pc' := 770) X rfl dL_law_769 rfl ?_
  refine sk_callV (bs2 := fun r770 => [(pc_W u0 (u1 0) (u3 0) (u5 0) (u7 0) (u16 0)), (nt_W G u1 (u2 0) r746.2.1), (lg_W G u2 S2), (nt_W G u3 (u4 0) S3), (lg_W G u4 S4), (nt_W G u5 (u6 0) S5), (lg_W G u6 S6), (sv_W G u7 (u8 0) (u10 0) (u12 0) (u14 0) r746.2.2.1), (nt_W G u8 (u9 0) r746.2.2.2.1), (lg_W G u9 r746.2.2.2.2.1), (nt_W G u10 (u11 0) r746.2.2.2.2.2.1), (lg_W G u11 r746.2.2.2.2.2.2.1), (nt_W G u12 (u13 0) r746.2.2.2.2.2.2.2.1), (lg_W G u13 r746.2.2.2.2.2.2.2.2.1), (nt_W G u14 (u15 0) r746.2.2.2.2.2.2.2.2.2.1), (lg_W G u15 r746.2.2.2.2.2.2.2.2.2.2.1), (sc_W G u16 S16), (md_W G u17 r764.2), (ot_W G u18 r746.2.2.2.2.2.2.2.2.2.2.2)]) (st := []) (st2 := fun r770 => [.int r770]) (As := []) (pc' := 773) X (c_X5_thrown l G u17 r764.2) lk_RL_109 [17] rfl (by decide) (fun _ => rfl) rfl rfl rfl ⟨(Nat.le_of_ble_eq_true rfl), (Nat.le_of_ble_eq_true rfl)⟩ ⟨rfl, rfl⟩ ⟨by omega, by omega⟩ rfl (Nat.le_of_ble_eq_true rfl) rfl dL_law_770 rfl (fun _ => rfl) (fun _ => rfl) (fun r770 => ?_)
  refine sk_iload (pc' := 775) X rfl dL_law_773 rfl ?_
  refine sk_icmp_eq (tgt := 780) (pc' := 778) X dL_law_775 rfl rfl ?_ ?_
  · refine sk_iload (pc' := 782) X rfl dL_law_780 rfl ?_
    refine sk_if_ne (tgt := 797) (pc' := 785) X dL_law_782 rfl rfl ?_ ?_
    · refine sk_goto (tgt := 2071) X dL_law_797 rfl ?_
      refine sk_iinc (lv' := [some (.ref b), some (.ref (u0 0)), some (.ref (u17 0)), some (.ref (u18 0)), some (.int (x4 + (4 : Int32))), some (.int r746.1), some (.int r764.1)]) (pc' := 2074) X rfl ic_4 (Nat.le_of_ble_eq_true rfl) rfl rfl dL_law_2071 rfl ?_
      refine sk_goto (tgt := 23) X dL_law_2074 rfl ?_
      first | exact sk_widen (lw_k (lw_i4 hg) (Nat.le_of_ble_eq_true rfl)) (lw_n (lw_i4 hg) (Nat.le_of_ble_eq_true rfl)) (sk_kill 6 (sk_kill 5 (ih23 (r746.2.1, S2, S3, S4, S5, S6, r746.2.2.1, r746.2.2.2.1, r746.2.2.2.2.1, r746.2.2.2.2.2.1, r746.2.2.2.2.2.2.1, r746.2.2.2.2.2.2.2.1, r746.2.2.2.2.2.2.2.2.1, r746.2.2.2.2.2.2.2.2.2.1, r746.2.2.2.2.2.2.2.2.2.2.1, S16, r764.2, r746.2.2.2.2.2.2.2.2.2.2.2, (x4 + (4 : Int32)))))) | exact sk_widen (lw_k0 (lw_i4 hg)) (lw_n0 (lw_i4 hg)) (sk_kill 6 (sk_kill 5 (ih23 (r746.2.1, S2, S3, S4, S5, S6, r746.2.2.1, r746.2.2.2.1, r746.2.2.2.2.1, r746.2.2.2.2.2.1, r746.2.2.2.2.2.2.1, r746.2.2.2.2.2.2.2.1, r746.2.2.2.2.2.2.2.2.1, r746.2.2.2.2.2.2.2.2.2.1, r746.2.2.2.2.2.2.2.2.2.2.1, S16, r764.2, r746.2.2.2.2.2.2.2.2.2.2.2, (x4 + (4 : Int32))))))
    · refine sk_aload_n (pc' := 786) X rfl dL_law_785 rfl ?_
      refine sk_iconst (pc' := 787) X ic_0 dL_law_786 rfl ?_
      refine sk_lald (pc' := 788) X 18 0 rfl rfl dL_law_787 rfl ?_
      refine sk_iload (pc' := 790) X rfl dL_law_788 rfl ?_
      refine sk_i2l (pc' := 791) X dL_law_790 rfl ?_
      refine sk_lcmp (pc' := 792) X dL_law_791 rfl ?_
      refine sk_if_eq (tgt := 797) (pc' := 795) X dL_law_792 rfl rfl ?_ ?_
      · refine sk_goto (tgt := 2071) X dL_law_797 rfl ?_
        refine sk_iinc (lv' := [some (.ref b), some (.ref (u0 0)), some (.ref (u17 0)), some (.ref (u18 0)), some (.int (x4 + (4 : Int32))), some (.int r746.1), some (.int r764.1)]) (pc' := 2074) X rfl ic_4 (Nat.le_of_ble_eq_true rfl) rfl rfl dL_law_2071 rfl ?_
        refine sk_goto (tgt := 23) X dL_law_2074 rfl ?_
        first | exact sk_widen (lw_k (lw_i4 hg) (Nat.le_of_ble_eq_true rfl)) (lw_n (lw_i4 hg) (Nat.le_of_ble_eq_true rfl)) (sk_kill 6 (sk_kill 5 (ih23 (r746.2.1, S2, S3, S4, S5, S6, r746.2.2.1, r746.2.2.2.1, r746.2.2.2.2.1, r746.2.2.2.2.2.1, r746.2.2.2.2.2.2.1, r746.2.2.2.2.2.2.2.1, r746.2.2.2.2.2.2.2.2.1, r746.2.2.2.2.2.2.2.2.2.1, r746.2.2.2.2.2.2.2.2.2.2.1, S16, r764.2, r746.2.2.2.2.2.2.2.2.2.2.2, (x4 + (4 : Int32)))))) | exact sk_widen (lw_k0 (lw_i4 hg)) (lw_n0 (lw_i4 hg)) (sk_kill 6 (sk_kill 5 (ih23 (r746.2.1, S2, S3, S4, S5, S6, r746.2.2.1, r746.2.2.2.1, r746.2.2.2.2.1, r746.2.2.2.2.2.1, r746.2.2.2.2.2.2.1, r746.2.2.2.2.2.2.2.1, r746.2.2.2.2.2.2.2.2.1, r746.2.2.2.2.2.2.2.2.2.1, r746.2.2.2.2.2.2.2.2.2.2.1, S16, r764.2, r746.2.2.2.2.2.2.2.2.2.2.2, (x4 + (4 : Int32))))))
      · refine sk_iconst (pc' := 796) X ic_0 dL_law_795 rfl ?_
        exact sk_lfalse
  · refine sk_iconst (pc' := 779) X ic_0 dL_law_778 rfl ?_
    exact sk_lfalse
set_option maxHeartbeats 4000000 in
set_option maxRecDepth 100000 in
theorem lc_9 {Γ : sk_K} {l : Launch} (hl0 : l.stackTraces = false) {G : sk_G} {t b L : Nat} {xs : Nat → Int32} (X : sk_X Γ l G room_1 7 RL code ret) (E : sk_EL Γ t b L xs) (u0 u1 u2 u3 u4 u5 u6 u7 u8 u9 u10 u11 u12 u13 u14 u15 u16 u17 u18 : Nat → Nat) (k23 : lw_σ → Option Int32) (ih23 : ∀ s2 : lw_σ, sk_S Γ (lw_Φ Γ b) (kl s2.2.2.2.2.2.2.2.2.2.2.2.2.2.2.2.2.2.2) (nl s2.2.2.2.2.2.2.2.2.2.2.2.2.2.2.2.2.2.2) (k23 s2) (lw_bs G u0 u1 u2 u3 u4 u5 u6 u7 u8 u9 u10 u11 u12 u13 u14 u15 u16 u17 u18 s2) (lw_lv b u0 u1 u2 u3 u4 u5 u6 u7 u8 u9 u10 u11 u12 u13 u14 u15 u16 u17 u18 s2) 23 []) (S1 : sk_N) (S2 : sk_N) (S3 : sk_N) (S4 : sk_N) (S5 : sk_N) (S6 : sk_N) (S7 : sk_N) (S8 : sk_N) (S9 : sk_N) (S10 : sk_N) (S11 : sk_N) (S12 : sk_N) (S13 : sk_N) (S14 : sk_N) (S15 : sk_N) (S16 : sk_N) (S17 : sk_M) (S18 : sk_O) (x4 : Int32) (hg : sk_in x4 2049 = true) : sk_S Γ (lw_Φ Γ b) (kl x4) (nl x4) (m_L_c9 L xs k23 S1 S2 S3 S4 S5 S6 S7 S8 S9 S10 S11 S12 S13 S14 S15 S16 S17 S18 x4) [(pc_W u0 (u1 0) (u3 0) (u5 0) (u7 0) (u16 0)), (nt_W G u1 (u2 0) S1), (lg_W G u2 S2), (nt_W G u3 (u4 0) S3), (lg_W G u4 S4), (nt_W G u5 (u6 0) S5), (lg_W G u6 S6), (sv_W G u7 (u8 0) (u10 0) (u12 0) (u14 0) S7), (nt_W G u8 (u9 0) S8), (lg_W G u9 S9), (nt_W G u10 (u11 0) S10), (lg_W G u11 S11), (nt_W G u12 (u13 0) S12), (lg_W G u13 S13), (nt_W G u14 (u15 0) S14), (lg_W G u15 S15), (sc_W G u16 S16), (md_W G u17 S17), (ot_W G u18 S18)] [some (.ref b), some (.ref (u0 0)), some (.ref (u17 0)), some (.ref (u18 0)), some (.int x4), none, none] 800 [] := by
  have hk0 := lw_hk hg
  have hn0 := lw_hn hg
  unfold m_L_c9
  refine sk_aload_n (pc' := 801) X rfl dL_law_800 rfl ?_
  refine sk_callV (bs2 := fun r801 => [(pc_W u0 (u1 0) (u3 0) (u5 0) (u7 0) (u16 0)), (nt_W G u1 (u2 0) S1), (lg_W G u2 S2), (nt_W G u3 (u4 0) S3), (lg_W G u4 S4), (nt_W G u5 (u6 0) S5), (lg_W G u6 S6), (sv_W G u7 (u8 0) (u10 0) (u12 0) (u14 0) S7), (nt_W G u8 (u9 0) S8), (lg_W G u9 S9), (nt_W G u10 (u11 0) S10), (lg_W G u11 S11), (nt_W G u12 (u13 0) S12), (lg_W G u13 S13), (nt_W G u14 (u15 0) S14), (lg_W G u15 S15), (sc_W G u16 S16), (md_W G u17 S17), (ot_W G u18 S18)]) (st := []) (st2 := fun r801 => [.int r801]) (As := []) (pc' := 804) X (c_X4_clocks l G u0 u1 (u3 0) (u5 0) (u7 0) (u16 0) (u2 0) S1) lk_RL_138 [0, 1] rfl (by decide) (fun _ => rfl) rfl rfl rfl ⟨(Nat.le_of_ble_eq_true rfl), (Nat.le_of_ble_eq_true rfl)⟩ ⟨rfl, rfl⟩ ⟨by omega, by omega⟩ rfl (Nat.le_of_ble_eq_true rfl) rfl dL_law_801 rfl (fun _ => rfl) (fun _ => rfl) (fun r801 => ?_)
  refine sk_aload_n (pc' := 805) X rfl dL_law_804 rfl ?_
  refine sk_callV (bs2 := fun r805 => [(pc_W u0 (u1 0) (u3 0) (u5 0) (u7 0) (u16 0)), (nt_W G u1 (u2 0) S1), (lg_W G u2 S2), (nt_W G u3 (u4 0) S3), (lg_W G u4 S4), (nt_W G u5 (u6 0) S5), (lg_W G u6 S6), (sv_W G u7 (u8 0) (u10 0) (u12 0) (u14 0) S7), (nt_W G u8 (u9 0) S8), (lg_W G u9 S9), (nt_W G u10 (u11 0) S10), (lg_W G u11 S11), (nt_W G u12 (u13 0) S12), (lg_W G u13 S13), (nt_W G u14 (u15 0) S14), (lg_W G u15 S15), (sc_W G u16 S16), (md_W G u17 r805.2), (ot_W G u18 S18)]) (st := [.int r801]) (st2 := fun r805 => [.int r805.1, .int r801]) (As := []) (pc' := 808) X (c_X5_clocks l G u17 S17) lk_RL_141 [17] rfl (by decide) (fun _ => rfl) rfl rfl rfl ⟨(Nat.le_of_ble_eq_true rfl), (Nat.le_of_ble_eq_true rfl)⟩ ⟨rfl, rfl⟩ ⟨by omega, by omega⟩ rfl (Nat.le_of_ble_eq_true rfl) rfl dL_law_805 rfl (fun _ => rfl) (fun _ => rfl) (fun r805 => ?_)
  refine sk_icmp_eq (tgt := 2071) (pc' := 811) X dL_law_808 rfl rfl ?_ ?_
  · refine sk_iinc (lv' := [some (.ref b), some (.ref (u0 0)), some (.ref (u17 0)), some (.ref (u18 0)), some (.int (x4 + (4 : Int32))), none, none]) (pc' := 2074) X rfl ic_4 (Nat.le_of_ble_eq_true rfl) rfl rfl dL_law_2071 rfl ?_
    refine sk_goto (tgt := 23) X dL_law_2074 rfl ?_
    first | exact sk_widen (lw_k (lw_i4 hg) (Nat.le_of_ble_eq_true rfl)) (lw_n (lw_i4 hg) (Nat.le_of_ble_eq_true rfl)) (ih23 (S1, S2, S3, S4, S5, S6, S7, S8, S9, S10, S11, S12, S13, S14, S15, S16, r805.2, S18, (x4 + (4 : Int32)))) | exact sk_widen (lw_k0 (lw_i4 hg)) (lw_n0 (lw_i4 hg)) (ih23 (S1, S2, S3, S4, S5, S6, S7, S8, S9, S10, S11, S12, S13, S14, S15, S16, r805.2, S18, (x4 + (4 : Int32))))
  · refine sk_iconst (pc' := 812) X ic_0 dL_law_811 rfl ?_
    exact sk_lfalse
set_option maxHeartbeats 4000000 in
set_option maxRecDepth 100000 in
theorem lc_10 {Γ : sk_K} {l : Launch} (hl0 : l.stackTraces = false) {G : sk_G} {t b L : Nat} {xs : Nat → Int32} (X : sk_X Γ l G room_1 7 RL code ret) (E : sk_EL Γ t b L xs) (u0 u1 u2 u3 u4 u5 u6 u7 u8 u9 u10 u11 u12 u13 u14 u15 u16 u17 u18 : Nat → Nat) (k23 : lw_σ → Option Int32) (ih23 : ∀ s2 : lw_σ, sk_S Γ (lw_Φ Γ b) (kl s2.2.2.2.2.2.2.2.2.2.2.2.2.2.2.2.2.2.2) (nl s2.2.2.2.2.2.2.2.2.2.2.2.2.2.2.2.2.2.2) (k23 s2) (lw_bs G u0 u1 u2 u3 u4 u5 u6 u7 u8 u9 u10 u11 u12 u13 u14 u15 u16 u17 u18 s2) (lw_lv b u0 u1 u2 u3 u4 u5 u6 u7 u8 u9 u10 u11 u12 u13 u14 u15 u16 u17 u18 s2) 23 []) (S1 : sk_N) (S2 : sk_N) (S3 : sk_N) (S4 : sk_N) (S5 : sk_N) (S6 : sk_N) (S7 : sk_N) (S8 : sk_N) (S9 : sk_N) (S10 : sk_N) (S11 : sk_N) (S12 : sk_N) (S13 : sk_N) (S14 : sk_N) (S15 : sk_N) (S16 : sk_N) (S17 : sk_M) (S18 : sk_O) (x4 : Int32) (hg : sk_in x4 2049 = true) : sk_S Γ (lw_Φ Γ b) (kl x4) (nl x4) (m_L_c10 L xs k23 S1 S2 S3 S4 S5 S6 S7 S8 S9 S10 S11 S12 S13 S14 S15 S16 S17 S18 x4) [(pc_W u0 (u1 0) (u3 0) (u5 0) (u7 0) (u16 0)), (nt_W G u1 (u2 0) S1), (lg_W G u2 S2), (nt_W G u3 (u4 0) S3), (lg_W G u4 S4), (nt_W G u5 (u6 0) S5), (lg_W G u6 S6), (sv_W G u7 (u8 0) (u10 0) (u12 0) (u14 0) S7), (nt_W G u8 (u9 0) S8), (lg_W G u9 S9), (nt_W G u10 (u11 0) S10), (lg_W G u11 S11), (nt_W G u12 (u13 0) S12), (lg_W G u13 S13), (nt_W G u14 (u15 0) S14), (lg_W G u15 S15), (sc_W G u16 S16), (md_W G u17 S17), (ot_W G u18 S18)] [some (.ref b), some (.ref (u0 0)), some (.ref (u17 0)), some (.ref (u18 0)), some (.int x4), none, none] 813 [] := by
  have hk0 := lw_hk hg
  have hn0 := lw_hn hg
  unfold m_L_c10
  refine sk_aload_n (pc' := 814) X rfl dL_law_813 rfl ?_
  refine sk_aload_n (pc' := 815) X rfl dL_law_814 rfl ?_
  refine sk_iload (pc' := 817) X rfl dL_law_815 rfl ?_
  refine sk_iconst (pc' := 818) X ic_1 dL_law_817 rfl ?_
  refine sk_iadd (pc' := 819) X dL_law_818 rfl ?_
  refine sk_scd (pc' := 820) X E dL_law_819 rfl ?_
  refine sk_aload_n (pc' := 821) X rfl dL_law_820 rfl ?_
  refine sk_iload (pc' := 823) X rfl dL_law_821 rfl ?_
  refine sk_iconst (pc' := 824) X ic_2 dL_law_823 rfl ?_
  refine sk_iadd (pc' := 825) X dL_law_824 rfl ?_
  refine sk_scd (pc' := 826) X E dL_law_825 rfl ?_
  refine sk_aload_n (pc' := 827) X rfl dL_law_826 rfl ?_
  refine sk_callSH (bs2 := fun r827 => [(pc_W u0 (u1 0) (u3 0) (u5 0) (u7 0) (u16 0)), (nt_W G u1 (u2 0) S1), (lg_W G u2 S2), (nt_W G u3 (u4 0) S3), (lg_W G u4 S4), (nt_W G u5 (u6 0) S5), (lg_W G u6 S6), (sv_W G u7 (u8 0) (u10 0) (u12 0) (u14 0) S7), (nt_W G u8 (u9 0) S8), (lg_W G u9 S9), (nt_W G u10 (u11 0) S10), (lg_W G u11 S11), (nt_W G u12 (u13 0) S12), (lg_W G u13 S13), (nt_W G u14 (u15 0) S14), (lg_W G u15 S15), (sc_W G u16 S16), (md_W G u17 S17), (ot_W G u18 r827.2)]) (st := []) (st2 := fun r827 => [.int r827.1]) (As := [.ref (u0 0), .int (xs ((x4 + (1 : Int32))).toNatClampNeg), .int (xs ((x4 + (2 : Int32))).toNatClampNeg), .ref (u18 0)]) (pc' := 830) X E (c_L_clock l hl0 t G u0 u1 u18 (u3 0) (u5 0) (u7 0) (u16 0) (u2 0) S1 S18 (xs ((x4 + (1 : Int32))).toNatClampNeg) (xs ((x4 + (2 : Int32))).toNatClampNeg)) lkh_RL_142 [0, 1, 18] rfl (by decide) (fun _ => rfl) ⟨(Nat.le_of_ble_eq_true rfl), (Nat.le_of_ble_eq_true rfl)⟩ ⟨rfl, rfl⟩ ⟨by omega, by omega⟩ rfl (Nat.le_of_ble_eq_true rfl) rfl dL_law_827 rfl (fun _ => rfl) (fun _ => rfl) (fun r827 => ?_)
  refine sk_istore (lv' := [some (.ref b), some (.ref (u0 0)), some (.ref (u17 0)), some (.ref (u18 0)), some (.int x4), some (.int r827.1), none]) (pc' := 832) X (Nat.le_of_ble_eq_true rfl) rfl rfl dL_law_830 rfl ?_
  refine sk_aload_n (pc' := 833) X rfl dL_law_832 rfl ?_
  refine sk_aload_n (pc' := 834) X rfl dL_law_833 rfl ?_
  refine sk_iload (pc' := 836) X rfl dL_law_834 rfl ?_
  refine sk_iconst (pc' := 837) X ic_1 dL_law_836 rfl ?_
  refine sk_iadd (pc' := 838) X dL_law_837 rfl ?_
  refine sk_scd (pc' := 839) X E dL_law_838 rfl ?_
  refine sk_aload_n (pc' := 840) X rfl dL_law_839 rfl ?_
  refine sk_iload (pc' := 842) X rfl dL_law_840 rfl ?_
  refine sk_iconst (pc' := 843) X ic_2 dL_law_842 rfl ?_
  refine sk_iadd (pc' := 844) X dL_law_843 rfl ?_
  refine sk_scd (pc' := 845) X E dL_law_844 rfl ?_
  refine sk_callV (bs2 := fun r845 => [(pc_W u0 (u1 0) (u3 0) (u5 0) (u7 0) (u16 0)), (nt_W G u1 (u2 0) S1), (lg_W G u2 S2), (nt_W G u3 (u4 0) S3), (lg_W G u4 S4), (nt_W G u5 (u6 0) S5), (lg_W G u6 S6), (sv_W G u7 (u8 0) (u10 0) (u12 0) (u14 0) S7), (nt_W G u8 (u9 0) S8), (lg_W G u9 S9), (nt_W G u10 (u11 0) S10), (lg_W G u11 S11), (nt_W G u12 (u13 0) S12), (lg_W G u13 S13), (nt_W G u14 (u15 0) S14), (lg_W G u15 S15), (sc_W G u16 S16), (md_W G u17 r845.2), (ot_W G u18 r827.2)]) (st := []) (st2 := fun r845 => [.int r845.1]) (As := [.int (xs ((x4 + (1 : Int32))).toNatClampNeg), .int (xs ((x4 + (2 : Int32))).toNatClampNeg)]) (pc' := 848) X (c_X5_clock l G u17 S17 (xs ((x4 + (1 : Int32))).toNatClampNeg) (xs ((x4 + (2 : Int32))).toNatClampNeg)) lk_RL_144 [17] rfl (by decide) (fun _ => rfl) rfl rfl rfl ⟨(Nat.le_of_ble_eq_true rfl), (Nat.le_of_ble_eq_true rfl)⟩ ⟨rfl, rfl⟩ ⟨by omega, by omega⟩ rfl (Nat.le_of_ble_eq_true rfl) rfl dL_law_845 rfl (fun _ => rfl) (fun _ => rfl) (fun r845 => ?_)
  refine sk_istore (lv' := [some (.ref b), some (.ref (u0 0)), some (.ref (u17 0)), some (.ref (u18 0)), some (.int x4), some (.int r827.1), some (.int r845.1)]) (pc' := 850) X (Nat.le_of_ble_eq_true rfl) rfl rfl dL_law_848 rfl ?_
  refine sk_aload_n (pc' := 851) X rfl dL_law_850 rfl ?_
  refine sk_callV (bs2 := fun r851 => [(pc_W u0 (u1 0) (u3 0) (u5 0) (u7 0) (u16 0)), (nt_W G u1 (u2 0) S1), (lg_W G u2 S2), (nt_W G u3 (u4 0) S3), (lg_W G u4 S4), (nt_W G u5 (u6 0) S5), (lg_W G u6 S6), (sv_W G u7 (u8 0) (u10 0) (u12 0) (u14 0) S7), (nt_W G u8 (u9 0) S8), (lg_W G u9 S9), (nt_W G u10 (u11 0) S10), (lg_W G u11 S11), (nt_W G u12 (u13 0) S12), (lg_W G u13 S13), (nt_W G u14 (u15 0) S14), (lg_W G u15 S15), (sc_W G u16 S16), (md_W G u17 r845.2), (ot_W G u18 r827.2)]) (st := []) (st2 := fun r851 => [.int r851]) (As := []) (pc' := 854) X (c_X5_thrown l G u17 r845.2) lk_RL_109 [17] rfl (by decide) (fun _ => rfl) rfl rfl rfl ⟨(Nat.le_of_ble_eq_true rfl), (Nat.le_of_ble_eq_true rfl)⟩ ⟨rfl, rfl⟩ ⟨by omega, by omega⟩ rfl (Nat.le_of_ble_eq_true rfl) rfl dL_law_851 rfl (fun _ => rfl) (fun _ => rfl) (fun r851 => ?_)
  refine sk_iload (pc' := 856) X rfl dL_law_854 rfl ?_
  refine sk_icmp_eq (tgt := 861) (pc' := 859) X dL_law_856 rfl rfl ?_ ?_
  · refine sk_iload (pc' := 863) X rfl dL_law_861 rfl ?_
    refine sk_if_ne (tgt := 878) (pc' := 866) X dL_law_863 rfl rfl ?_ ?_
    · refine sk_goto (tgt := 2071) X dL_law_878 rfl ?_
      refine sk_iinc (lv' := [some (.ref b), some (.ref (u0 0)), some (.ref (u17 0)), some (.ref (u18 0)), some (.int (x4 + (4 : Int32))), some (.int r827.1), some (.int r845.1)]) (pc' := 2074) X rfl ic_4 (Nat.le_of_ble_eq_true rfl) rfl rfl dL_law_2071 rfl ?_
      refine sk_goto (tgt := 23) X dL_law_2074 rfl ?_
      first | exact sk_widen (lw_k (lw_i4 hg) (Nat.le_of_ble_eq_true rfl)) (lw_n (lw_i4 hg) (Nat.le_of_ble_eq_true rfl)) (sk_kill 6 (sk_kill 5 (ih23 (S1, S2, S3, S4, S5, S6, S7, S8, S9, S10, S11, S12, S13, S14, S15, S16, r845.2, r827.2, (x4 + (4 : Int32)))))) | exact sk_widen (lw_k0 (lw_i4 hg)) (lw_n0 (lw_i4 hg)) (sk_kill 6 (sk_kill 5 (ih23 (S1, S2, S3, S4, S5, S6, S7, S8, S9, S10, S11, S12, S13, S14, S15, S16, r845.2, r827.2, (x4 + (4 : Int32))))))
    · refine sk_aload_n (pc' := 867) X rfl dL_law_866 rfl ?_
      refine sk_iconst (pc' := 868) X ic_0 dL_law_867 rfl ?_
      refine sk_lald (pc' := 869) X 18 0 rfl rfl dL_law_868 rfl ?_
      refine sk_iload (pc' := 871) X rfl dL_law_869 rfl ?_
      refine sk_i2l (pc' := 872) X dL_law_871 rfl ?_
      refine sk_lcmp (pc' := 873) X dL_law_872 rfl ?_
      refine sk_if_eq (tgt := 878) (pc' := 876) X dL_law_873 rfl rfl ?_ ?_
      · refine sk_goto (tgt := 2071) X dL_law_878 rfl ?_
        refine sk_iinc (lv' := [some (.ref b), some (.ref (u0 0)), some (.ref (u17 0)), some (.ref (u18 0)), some (.int (x4 + (4 : Int32))), some (.int r827.1), some (.int r845.1)]) (pc' := 2074) X rfl ic_4 (Nat.le_of_ble_eq_true rfl) rfl rfl dL_law_2071 rfl ?_
        refine sk_goto (tgt := 23) X dL_law_2074 rfl ?_
        first | exact sk_widen (lw_k (lw_i4 hg) (Nat.le_of_ble_eq_true rfl)) (lw_n (lw_i4 hg) (Nat.le_of_ble_eq_true rfl)) (sk_kill 6 (sk_kill 5 (ih23 (S1, S2, S3, S4, S5, S6, S7, S8, S9, S10, S11, S12, S13, S14, S15, S16, r845.2, r827.2, (x4 + (4 : Int32)))))) | exact sk_widen (lw_k0 (lw_i4 hg)) (lw_n0 (lw_i4 hg)) (sk_kill 6 (sk_kill 5 (ih23 (S1, S2, S3, S4, S5, S6, S7, S8, S9, S10, S11, S12, S13, S14, S15, S16, r845.2, r827.2, (x4 + (4 : Int32))))))
      · refine sk_iconst (pc' := 877) X ic_0 dL_law_876 rfl ?_
        exact sk_lfalse
  · refine sk_iconst (pc' := 860) X ic_0 dL_law_859 rfl ?_
    exact sk_lfalse
set_option maxHeartbeats 4000000 in
set_option maxRecDepth 100000 in
theorem lc_11 {Γ : sk_K} {l : Launch} (hl0 : l.stackTraces = false) {G : sk_G} {t b L : Nat} {xs : Nat → Int32} (X : sk_X Γ l G room_1 7 RL code ret) (E : sk_EL Γ t b L xs) (u0 u1 u2 u3 u4 u5 u6 u7 u8 u9 u10 u11 u12 u13 u14 u15 u16 u17 u18 : Nat → Nat) (k23 : lw_σ → Option Int32) (ih23 : ∀ s2 : lw_σ, sk_S Γ (lw_Φ Γ b) (kl s2.2.2.2.2.2.2.2.2.2.2.2.2.2.2.2.2.2.2) (nl s2.2.2.2.2.2.2.2.2.2.2.2.2.2.2.2.2.2.2) (k23 s2) (lw_bs G u0 u1 u2 u3 u4 u5 u6 u7 u8 u9 u10 u11 u12 u13 u14 u15 u16 u17 u18 s2) (lw_lv b u0 u1 u2 u3 u4 u5 u6 u7 u8 u9 u10 u11 u12 u13 u14 u15 u16 u17 u18 s2) 23 []) (S1 : sk_N) (S2 : sk_N) (S3 : sk_N) (S4 : sk_N) (S5 : sk_N) (S6 : sk_N) (S7 : sk_N) (S8 : sk_N) (S9 : sk_N) (S10 : sk_N) (S11 : sk_N) (S12 : sk_N) (S13 : sk_N) (S14 : sk_N) (S15 : sk_N) (S16 : sk_N) (S17 : sk_M) (S18 : sk_O) (x4 : Int32) (hg : sk_in x4 2049 = true) : sk_S Γ (lw_Φ Γ b) (kl x4) (nl x4) (m_L_c11 L xs k23 S1 S2 S3 S4 S5 S6 S7 S8 S9 S10 S11 S12 S13 S14 S15 S16 S17 S18 x4) [(pc_W u0 (u1 0) (u3 0) (u5 0) (u7 0) (u16 0)), (nt_W G u1 (u2 0) S1), (lg_W G u2 S2), (nt_W G u3 (u4 0) S3), (lg_W G u4 S4), (nt_W G u5 (u6 0) S5), (lg_W G u6 S6), (sv_W G u7 (u8 0) (u10 0) (u12 0) (u14 0) S7), (nt_W G u8 (u9 0) S8), (lg_W G u9 S9), (nt_W G u10 (u11 0) S10), (lg_W G u11 S11), (nt_W G u12 (u13 0) S12), (lg_W G u13 S13), (nt_W G u14 (u15 0) S14), (lg_W G u15 S15), (sc_W G u16 S16), (md_W G u17 S17), (ot_W G u18 S18)] [some (.ref b), some (.ref (u0 0)), some (.ref (u17 0)), some (.ref (u18 0)), some (.int x4), none, none] 881 [] := by
  have hk0 := lw_hk hg
  have hn0 := lw_hn hg
  unfold m_L_c11
  refine sk_aload_n (pc' := 882) X rfl dL_law_881 rfl ?_
  refine sk_aload_n (pc' := 883) X rfl dL_law_882 rfl ?_
  refine sk_iload (pc' := 885) X rfl dL_law_883 rfl ?_
  refine sk_iconst (pc' := 886) X ic_1 dL_law_885 rfl ?_
  refine sk_iadd (pc' := 887) X dL_law_886 rfl ?_
  refine sk_scd (pc' := 888) X E dL_law_887 rfl ?_
  refine sk_aload_n (pc' := 889) X rfl dL_law_888 rfl ?_
  refine sk_iload (pc' := 891) X rfl dL_law_889 rfl ?_
  refine sk_iconst (pc' := 892) X ic_2 dL_law_891 rfl ?_
  refine sk_iadd (pc' := 893) X dL_law_892 rfl ?_
  refine sk_scd (pc' := 894) X E dL_law_893 rfl ?_
  refine sk_aload_n (pc' := 895) X rfl dL_law_894 rfl ?_
  refine sk_callSH (bs2 := fun r895 => [(pc_W u0 (u1 0) (u3 0) (u5 0) (u7 0) (u16 0)), (nt_W G u1 (u2 0) S1), (lg_W G u2 S2), (nt_W G u3 (u4 0) S3), (lg_W G u4 S4), (nt_W G u5 (u6 0) S5), (lg_W G u6 S6), (sv_W G u7 (u8 0) (u10 0) (u12 0) (u14 0) S7), (nt_W G u8 (u9 0) S8), (lg_W G u9 S9), (nt_W G u10 (u11 0) S10), (lg_W G u11 S11), (nt_W G u12 (u13 0) S12), (lg_W G u13 S13), (nt_W G u14 (u15 0) S14), (lg_W G u15 S15), (sc_W G u16 S16), (md_W G u17 S17), (ot_W G u18 r895.2)]) (st := []) (st2 := fun r895 => [.int r895.1]) (As := [.ref (u0 0), .int (xs ((x4 + (1 : Int32))).toNatClampNeg), .int (xs ((x4 + (2 : Int32))).toNatClampNeg), .ref (u18 0)]) (pc' := 898) X E (c_L_linkOf l hl0 t G u0 u1 u18 (u3 0) (u5 0) (u7 0) (u16 0) (u2 0) S1 S18 (xs ((x4 + (1 : Int32))).toNatClampNeg) (xs ((x4 + (2 : Int32))).toNatClampNeg)) lkh_RL_145 [0, 1, 18] rfl (by decide) (fun _ => rfl) ⟨(Nat.le_of_ble_eq_true rfl), (Nat.le_of_ble_eq_true rfl)⟩ ⟨rfl, rfl⟩ ⟨by omega, by omega⟩ rfl (Nat.le_of_ble_eq_true rfl) rfl dL_law_895 rfl (fun _ => rfl) (fun _ => rfl) (fun r895 => ?_)
  refine sk_istore (lv' := [some (.ref b), some (.ref (u0 0)), some (.ref (u17 0)), some (.ref (u18 0)), some (.int x4), some (.int r895.1), none]) (pc' := 900) X (Nat.le_of_ble_eq_true rfl) rfl rfl dL_law_898 rfl ?_
  refine sk_aload_n (pc' := 901) X rfl dL_law_900 rfl ?_
  refine sk_aload_n (pc' := 902) X rfl dL_law_901 rfl ?_
  refine sk_iload (pc' := 904) X rfl dL_law_902 rfl ?_
  refine sk_iconst (pc' := 905) X ic_1 dL_law_904 rfl ?_
  refine sk_iadd (pc' := 906) X dL_law_905 rfl ?_
  refine sk_scd (pc' := 907) X E dL_law_906 rfl ?_
  refine sk_aload_n (pc' := 908) X rfl dL_law_907 rfl ?_
  refine sk_iload (pc' := 910) X rfl dL_law_908 rfl ?_
  refine sk_iconst (pc' := 911) X ic_2 dL_law_910 rfl ?_
  refine sk_iadd (pc' := 912) X dL_law_911 rfl ?_
  refine sk_scd (pc' := 913) X E dL_law_912 rfl ?_
  refine sk_callV (bs2 := fun r913 => [(pc_W u0 (u1 0) (u3 0) (u5 0) (u7 0) (u16 0)), (nt_W G u1 (u2 0) S1), (lg_W G u2 S2), (nt_W G u3 (u4 0) S3), (lg_W G u4 S4), (nt_W G u5 (u6 0) S5), (lg_W G u6 S6), (sv_W G u7 (u8 0) (u10 0) (u12 0) (u14 0) S7), (nt_W G u8 (u9 0) S8), (lg_W G u9 S9), (nt_W G u10 (u11 0) S10), (lg_W G u11 S11), (nt_W G u12 (u13 0) S12), (lg_W G u13 S13), (nt_W G u14 (u15 0) S14), (lg_W G u15 S15), (sc_W G u16 S16), (md_W G u17 r913.2), (ot_W G u18 r895.2)]) (st := []) (st2 := fun r913 => [.int r913.1]) (As := [.int (xs ((x4 + (1 : Int32))).toNatClampNeg), .int (xs ((x4 + (2 : Int32))).toNatClampNeg)]) (pc' := 916) X (c_X5_linkOf l G u17 S17 (xs ((x4 + (1 : Int32))).toNatClampNeg) (xs ((x4 + (2 : Int32))).toNatClampNeg)) lk_RL_147 [17] rfl (by decide) (fun _ => rfl) rfl rfl rfl ⟨(Nat.le_of_ble_eq_true rfl), (Nat.le_of_ble_eq_true rfl)⟩ ⟨rfl, rfl⟩ ⟨by omega, by omega⟩ rfl (Nat.le_of_ble_eq_true rfl) rfl dL_law_913 rfl (fun _ => rfl) (fun _ => rfl) (fun r913 => ?_)
  refine sk_istore (lv' := [some (.ref b), some (.ref (u0 0)), some (.ref (u17 0)), some (.ref (u18 0)), some (.int x4), some (.int r895.1), some (.int r913.1)]) (pc' := 918) X (Nat.le_of_ble_eq_true rfl) rfl rfl dL_law_916 rfl ?_
  refine sk_aload_n (pc' := 919) X rfl dL_law_918 rfl ?_
  refine sk_callV (bs2 := fun r919 => [(pc_W u0 (u1 0) (u3 0) (u5 0) (u7 0) (u16 0)), (nt_W G u1 (u2 0) S1), (lg_W G u2 S2), (nt_W G u3 (u4 0) S3), (lg_W G u4 S4), (nt_W G u5 (u6 0) S5), (lg_W G u6 S6), (sv_W G u7 (u8 0) (u10 0) (u12 0) (u14 0) S7), (nt_W G u8 (u9 0) S8), (lg_W G u9 S9), (nt_W G u10 (u11 0) S10), (lg_W G u11 S11), (nt_W G u12 (u13 0) S12), (lg_W G u13 S13), (nt_W G u14 (u15 0) S14), (lg_W G u15 S15), (sc_W G u16 S16), (md_W G u17 r913.2), (ot_W G u18 r895.2)]) (st := []) (st2 := fun r919 => [.int r919]) (As := []) (pc' := 922) X (c_X5_thrown l G u17 r913.2) lk_RL_109 [17] rfl (by decide) (fun _ => rfl) rfl rfl rfl ⟨(Nat.le_of_ble_eq_true rfl), (Nat.le_of_ble_eq_true rfl)⟩ ⟨rfl, rfl⟩ ⟨by omega, by omega⟩ rfl (Nat.le_of_ble_eq_true rfl) rfl dL_law_919 rfl (fun _ => rfl) (fun _ => rfl) (fun r919 => ?_)
  refine sk_iload (pc' := 924) X rfl dL_law_922 rfl ?_
  refine sk_icmp_eq (tgt := 929) (pc' := 927) X dL_law_924 rfl rfl ?_ ?_
  · refine sk_iload (pc' := 931) X rfl dL_law_929 rfl ?_
    refine sk_if_ne (tgt := 946) (pc' := 934) X dL_law_931 rfl rfl ?_ ?_
    · refine sk_goto (tgt := 2071) X dL_law_946 rfl ?_
      refine sk_iinc (lv' := [some (.ref b), some (.ref (u0 0)), some (.ref (u17 0)), some (.ref (u18 0)), some (.int (x4 + (4 : Int32))), some (.int r895.1), some (.int r913.1)]) (pc' := 2074) X rfl ic_4 (Nat.le_of_ble_eq_true rfl) rfl rfl dL_law_2071 rfl ?_
      refine sk_goto (tgt := 23) X dL_law_2074 rfl ?_
      first | exact sk_widen (lw_k (lw_i4 hg) (Nat.le_of_ble_eq_true rfl)) (lw_n (lw_i4 hg) (Nat.le_of_ble_eq_true rfl)) (sk_kill 6 (sk_kill 5 (ih23 (S1, S2, S3, S4, S5, S6, S7, S8, S9, S10, S11, S12, S13, S14, S15, S16, r913.2, r895.2, (x4 + (4 : Int32)))))) | exact sk_widen (lw_k0 (lw_i4 hg)) (lw_n0 (lw_i4 hg)) (sk_kill 6 (sk_kill 5 (ih23 (S1, S2, S3, S4, S5, S6, S7, S8, S9, S10, S11, S12, S13, S14, S15, S16, r913.2, r895.2, (x4 + (4 : Int32))))))
    · refine sk_aload_n (pc' := 935) X rfl dL_law_934 rfl ?_
      refine sk_iconst (pc' := 936) X ic_0 dL_law_935 rfl ?_
      refine sk_lald (pc' := 937) X 18 0 rfl rfl dL_law_936 rfl ?_
      refine sk_iload (pc' := 939) X rfl dL_law_937 rfl ?_
      refine sk_i2l (pc' := 940) X dL_law_939 rfl ?_
      refine sk_lcmp (pc' := 941) X dL_law_940 rfl ?_
      refine sk_if_eq (tgt := 946) (pc' := 944) X dL_law_941 rfl rfl ?_ ?_
      · refine sk_goto (tgt := 2071) X dL_law_946 rfl ?_
        refine sk_iinc (lv' := [some (.ref b), some (.ref (u0 0)), some (.ref (u17 0)), some (.ref (u18 0)), some (.int (x4 + (4 : Int32))), some (.int r895.1), some (.int r913.1)]) (pc' := 2074) X rfl ic_4 (Nat.le_of_ble_eq_true rfl) rfl rfl dL_law_2071 rfl ?_
        refine sk_goto (tgt := 23) X dL_law_2074 rfl ?_
        first | exact sk_widen (lw_k (lw_i4 hg) (Nat.le_of_ble_eq_true rfl)) (lw_n (lw_i4 hg) (Nat.le_of_ble_eq_true rfl)) (sk_kill 6 (sk_kill 5 (ih23 (S1, S2, S3, S4, S5, S6, S7, S8, S9, S10, S11, S12, S13, S14, S15, S16, r913.2, r895.2, (x4 + (4 : Int32)))))) | exact sk_widen (lw_k0 (lw_i4 hg)) (lw_n0 (lw_i4 hg)) (sk_kill 6 (sk_kill 5 (ih23 (S1, S2, S3, S4, S5, S6, S7, S8, S9, S10, S11, S12, S13, S14, S15, S16, r913.2, r895.2, (x4 + (4 : Int32))))))
      · refine sk_iconst (pc' := 945) X ic_0 dL_law_944 rfl ?_
        exact sk_lfalse
  · refine sk_iconst (pc' := 928) X ic_0 dL_law_927 rfl ?_
    exact sk_lfalse
set_option maxHeartbeats 4000000 in
set_option maxRecDepth 100000 in
theorem lc_12 {Γ : sk_K} {l : Launch} (hl0 : l.stackTraces = false) {G : sk_G} {t b L : Nat} {xs : Nat → Int32} (X : sk_X Γ l G room_1 7 RL code ret) (E : sk_EL Γ t b L xs) (u0 u1 u2 u3 u4 u5 u6 u7 u8 u9 u10 u11 u12 u13 u14 u15 u16 u17 u18 : Nat → Nat) (k23 : lw_σ → Option Int32) (ih23 : ∀ s2 : lw_σ, sk_S Γ (lw_Φ Γ b) (kl s2.2.2.2.2.2.2.2.2.2.2.2.2.2.2.2.2.2.2) (nl s2.2.2.2.2.2.2.2.2.2.2.2.2.2.2.2.2.2.2) (k23 s2) (lw_bs G u0 u1 u2 u3 u4 u5 u6 u7 u8 u9 u10 u11 u12 u13 u14 u15 u16 u17 u18 s2) (lw_lv b u0 u1 u2 u3 u4 u5 u6 u7 u8 u9 u10 u11 u12 u13 u14 u15 u16 u17 u18 s2) 23 []) (S1 : sk_N) (S2 : sk_N) (S3 : sk_N) (S4 : sk_N) (S5 : sk_N) (S6 : sk_N) (S7 : sk_N) (S8 : sk_N) (S9 : sk_N) (S10 : sk_N) (S11 : sk_N) (S12 : sk_N) (S13 : sk_N) (S14 : sk_N) (S15 : sk_N) (S16 : sk_N) (S17 : sk_M) (S18 : sk_O) (x4 : Int32) (hg : sk_in x4 2049 = true) : sk_S Γ (lw_Φ Γ b) (kl x4) (nl x4) (m_L_c12 L xs k23 S1 S2 S3 S4 S5 S6 S7 S8 S9 S10 S11 S12 S13 S14 S15 S16 S17 S18 x4) [(pc_W u0 (u1 0) (u3 0) (u5 0) (u7 0) (u16 0)), (nt_W G u1 (u2 0) S1), (lg_W G u2 S2), (nt_W G u3 (u4 0) S3), (lg_W G u4 S4), (nt_W G u5 (u6 0) S5), (lg_W G u6 S6), (sv_W G u7 (u8 0) (u10 0) (u12 0) (u14 0) S7), (nt_W G u8 (u9 0) S8), (lg_W G u9 S9), (nt_W G u10 (u11 0) S10), (lg_W G u11 S11), (nt_W G u12 (u13 0) S12), (lg_W G u13 S13), (nt_W G u14 (u15 0) S14), (lg_W G u15 S15), (sc_W G u16 S16), (md_W G u17 S17), (ot_W G u18 S18)] [some (.ref b), some (.ref (u0 0)), some (.ref (u17 0)), some (.ref (u18 0)), some (.int x4), none, none] 949 [] := by
  have hk0 := lw_hk hg
  have hn0 := lw_hn hg
  unfold m_L_c12
  refine sk_aload_n (pc' := 950) X rfl dL_law_949 rfl ?_
  refine sk_aload_n (pc' := 951) X rfl dL_law_950 rfl ?_
  refine sk_iload (pc' := 953) X rfl dL_law_951 rfl ?_
  refine sk_iconst (pc' := 954) X ic_1 dL_law_953 rfl ?_
  refine sk_iadd (pc' := 955) X dL_law_954 rfl ?_
  refine sk_scd (pc' := 956) X E dL_law_955 rfl ?_
  refine sk_aload_n (pc' := 957) X rfl dL_law_956 rfl ?_
  refine sk_iload (pc' := 959) X rfl dL_law_957 rfl ?_
  refine sk_iconst (pc' := 960) X ic_2 dL_law_959 rfl ?_
  refine sk_iadd (pc' := 961) X dL_law_960 rfl ?_
  refine sk_scd (pc' := 962) X E dL_law_961 rfl ?_
  refine sk_aload_n (pc' := 963) X rfl dL_law_962 rfl ?_
  refine sk_callSH (bs2 := fun r963 => [(pc_W u0 (u1 0) (u3 0) (u5 0) (u7 0) (u16 0)), (nt_W G u1 (u2 0) S1), (lg_W G u2 S2), (nt_W G u3 (u4 0) S3), (lg_W G u4 S4), (nt_W G u5 (u6 0) S5), (lg_W G u6 S6), (sv_W G u7 (u8 0) (u10 0) (u12 0) (u14 0) S7), (nt_W G u8 (u9 0) S8), (lg_W G u9 S9), (nt_W G u10 (u11 0) S10), (lg_W G u11 S11), (nt_W G u12 (u13 0) S12), (lg_W G u13 S13), (nt_W G u14 (u15 0) S14), (lg_W G u15 S15), (sc_W G u16 S16), (md_W G u17 S17), (ot_W G u18 r963.2)]) (st := []) (st2 := fun r963 => [.int r963.1]) (As := [.ref (u0 0), .int (xs ((x4 + (1 : Int32))).toNatClampNeg), .int (xs ((x4 + (2 : Int32))).toNatClampNeg), .ref (u18 0)]) (pc' := 966) X E (c_L_distance l hl0 t G u0 u1 u18 (u3 0) (u5 0) (u7 0) (u16 0) (u2 0) S1 S18 (xs ((x4 + (1 : Int32))).toNatClampNeg) (xs ((x4 + (2 : Int32))).toNatClampNeg)) lkh_RL_148 [0, 1, 18] rfl (by decide) (fun _ => rfl) ⟨(Nat.le_of_ble_eq_true rfl), (Nat.le_of_ble_eq_true rfl)⟩ ⟨rfl, rfl⟩ ⟨by omega, by omega⟩ rfl (Nat.le_of_ble_eq_true rfl) rfl dL_law_963 rfl (fun _ => rfl) (fun _ => rfl) (fun r963 => ?_)
  refine sk_istore (lv' := [some (.ref b), some (.ref (u0 0)), some (.ref (u17 0)), some (.ref (u18 0)), some (.int x4), some (.int r963.1), none]) (pc' := 968) X (Nat.le_of_ble_eq_true rfl) rfl rfl dL_law_966 rfl ?_
  refine sk_aload_n (pc' := 969) X rfl dL_law_968 rfl ?_
  refine sk_aload_n (pc' := 970) X rfl dL_law_969 rfl ?_
  refine sk_iload (pc' := 972) X rfl dL_law_970 rfl ?_
  refine sk_iconst (pc' := 973) X ic_1 dL_law_972 rfl ?_
  refine sk_iadd (pc' := 974) X dL_law_973 rfl ?_
  refine sk_scd (pc' := 975) X E dL_law_974 rfl ?_
  refine sk_aload_n (pc' := 976) X rfl dL_law_975 rfl ?_
  refine sk_iload (pc' := 978) X rfl dL_law_976 rfl ?_
  refine sk_iconst (pc' := 979) X ic_2 dL_law_978 rfl ?_
  refine sk_iadd (pc' := 980) X dL_law_979 rfl ?_
  refine sk_scd (pc' := 981) X E dL_law_980 rfl ?_
  refine sk_callV (bs2 := fun r981 => [(pc_W u0 (u1 0) (u3 0) (u5 0) (u7 0) (u16 0)), (nt_W G u1 (u2 0) S1), (lg_W G u2 S2), (nt_W G u3 (u4 0) S3), (lg_W G u4 S4), (nt_W G u5 (u6 0) S5), (lg_W G u6 S6), (sv_W G u7 (u8 0) (u10 0) (u12 0) (u14 0) S7), (nt_W G u8 (u9 0) S8), (lg_W G u9 S9), (nt_W G u10 (u11 0) S10), (lg_W G u11 S11), (nt_W G u12 (u13 0) S12), (lg_W G u13 S13), (nt_W G u14 (u15 0) S14), (lg_W G u15 S15), (sc_W G u16 S16), (md_W G u17 r981.2), (ot_W G u18 r963.2)]) (st := []) (st2 := fun r981 => [.int r981.1]) (As := [.int (xs ((x4 + (1 : Int32))).toNatClampNeg), .int (xs ((x4 + (2 : Int32))).toNatClampNeg)]) (pc' := 984) X (c_X5_distance l G u17 S17 (xs ((x4 + (1 : Int32))).toNatClampNeg) (xs ((x4 + (2 : Int32))).toNatClampNeg)) lk_RL_150 [17] rfl (by decide) (fun _ => rfl) rfl rfl rfl ⟨(Nat.le_of_ble_eq_true rfl), (Nat.le_of_ble_eq_true rfl)⟩ ⟨rfl, rfl⟩ ⟨by omega, by omega⟩ rfl (Nat.le_of_ble_eq_true rfl) rfl dL_law_981 rfl (fun _ => rfl) (fun _ => rfl) (fun r981 => ?_)
  refine sk_istore (lv' := [some (.ref b), some (.ref (u0 0)), some (.ref (u17 0)), some (.ref (u18 0)), some (.int x4), some (.int r963.1), some (.int r981.1)]) (pc' := 986) X (Nat.le_of_ble_eq_true rfl) rfl rfl dL_law_984 rfl ?_
  refine sk_aload_n (pc' := 987) X rfl dL_law_986 rfl ?_
  refine sk_callV (bs2 := fun r987 => [(pc_W u0 (u1 0) (u3 0) (u5 0) (u7 0) (u16 0)), (nt_W G u1 (u2 0) S1), (lg_W G u2 S2), (nt_W G u3 (u4 0) S3), (lg_W G u4 S4), (nt_W G u5 (u6 0) S5), (lg_W G u6 S6), (sv_W G u7 (u8 0) (u10 0) (u12 0) (u14 0) S7), (nt_W G u8 (u9 0) S8), (lg_W G u9 S9), (nt_W G u10 (u11 0) S10), (lg_W G u11 S11), (nt_W G u12 (u13 0) S12), (lg_W G u13 S13), (nt_W G u14 (u15 0) S14), (lg_W G u15 S15), (sc_W G u16 S16), (md_W G u17 r981.2), (ot_W G u18 r963.2)]) (st := []) (st2 := fun r987 => [.int r987]) (As := []) (pc' := 990) X (c_X5_thrown l G u17 r981.2) lk_RL_109 [17] rfl (by decide) (fun _ => rfl) rfl rfl rfl ⟨(Nat.le_of_ble_eq_true rfl), (Nat.le_of_ble_eq_true rfl)⟩ ⟨rfl, rfl⟩ ⟨by omega, by omega⟩ rfl (Nat.le_of_ble_eq_true rfl) rfl dL_law_987 rfl (fun _ => rfl) (fun _ => rfl) (fun r987 => ?_)
  refine sk_iload (pc' := 992) X rfl dL_law_990 rfl ?_
  refine sk_icmp_eq (tgt := 997) (pc' := 995) X dL_law_992 rfl rfl ?_ ?_
  · refine sk_iload (pc' := 999) X rfl dL_law_997 rfl ?_
    refine sk_if_ne (tgt := 1014) (pc' := 1002) X dL_law_999 rfl rfl ?_ ?_
    · refine sk_goto (tgt := 2071) X dL_law_1014 rfl ?_
      refine sk_iinc (lv' := [some (.ref b), some (.ref (u0 0)), some (.ref (u17 0)), some (.ref (u18 0)), some (.int (x4 + (4 : Int32))), some (.int r963.1), some (.int r981.1)]) (pc' := 2074) X rfl ic_4 (Nat.le_of_ble_eq_true rfl) rfl rfl dL_law_2071 rfl ?_
      refine sk_goto (tgt := 23) X dL_law_2074 rfl ?_
      first | exact sk_widen (lw_k (lw_i4 hg) (Nat.le_of_ble_eq_true rfl)) (lw_n (lw_i4 hg) (Nat.le_of_ble_eq_true rfl)) (sk_kill 6 (sk_kill 5 (ih23 (S1, S2, S3, S4, S5, S6, S7, S8, S9, S10, S11, S12, S13, S14, S15, S16, r981.2, r963.2, (x4 + (4 : Int32)))))) | exact sk_widen (lw_k0 (lw_i4 hg)) (lw_n0 (lw_i4 hg)) (sk_kill 6 (sk_kill 5 (ih23 (S1, S2, S3, S4, S5, S6, S7, S8, S9, S10, S11, S12, S13, S14, S15, S16, r981.2, r963.2, (x4 + (4 : Int32))))))
    · refine sk_aload_n (pc' := 1003) X rfl dL_law_1002 rfl ?_
      refine sk_iconst (pc' := 1004) X ic_0 dL_law_1003 rfl ?_
      refine sk_lald (pc' := 1005) X 18 0 rfl rfl dL_law_1004 rfl ?_
      refine sk_iload (pc' := 1007) X rfl dL_law_1005 rfl ?_
      refine sk_i2l (pc' := 1008) X dL_law_1007 rfl ?_
      refine sk_lcmp (pc' := 1009) X dL_law_1008 rfl ?_
      refine sk_if_eq (tgt := 1014) (pc' := 1012) X dL_law_1009 rfl rfl ?_ ?_
      · refine sk_goto (tgt := 2071) X dL_law_1014 rfl ?_
        refine sk_iinc (lv' := [some (.ref b), some (.ref (u0 0)), some (.ref (u17 0)), some (.ref (u18 0)), some (.int (x4 + (4 : Int32))), some (.int r963.1), some (.int r981.1)]) (pc' := 2074) X rfl ic_4 (Nat.le_of_ble_eq_true rfl) rfl rfl dL_law_2071 rfl ?_
        refine sk_goto (tgt := 23) X dL_law_2074 rfl ?_
        first | exact sk_widen (lw_k (lw_i4 hg) (Nat.le_of_ble_eq_true rfl)) (lw_n (lw_i4 hg) (Nat.le_of_ble_eq_true rfl)) (sk_kill 6 (sk_kill 5 (ih23 (S1, S2, S3, S4, S5, S6, S7, S8, S9, S10, S11, S12, S13, S14, S15, S16, r981.2, r963.2, (x4 + (4 : Int32)))))) | exact sk_widen (lw_k0 (lw_i4 hg)) (lw_n0 (lw_i4 hg)) (sk_kill 6 (sk_kill 5 (ih23 (S1, S2, S3, S4, S5, S6, S7, S8, S9, S10, S11, S12, S13, S14, S15, S16, r981.2, r963.2, (x4 + (4 : Int32))))))
      · refine sk_iconst (pc' := 1013) X ic_0 dL_law_1012 rfl ?_
        exact sk_lfalse
  · refine sk_iconst (pc' := 996) X ic_0 dL_law_995 rfl ?_
    exact sk_lfalse
set_option maxHeartbeats 4000000 in
set_option maxRecDepth 100000 in
theorem lc_13 {Γ : sk_K} {l : Launch} (hl0 : l.stackTraces = false) {G : sk_G} {t b L : Nat} {xs : Nat → Int32} (X : sk_X Γ l G room_1 7 RL code ret) (E : sk_EL Γ t b L xs) (u0 u1 u2 u3 u4 u5 u6 u7 u8 u9 u10 u11 u12 u13 u14 u15 u16 u17 u18 : Nat → Nat) (k23 : lw_σ → Option Int32) (ih23 : ∀ s2 : lw_σ, sk_S Γ (lw_Φ Γ b) (kl s2.2.2.2.2.2.2.2.2.2.2.2.2.2.2.2.2.2.2) (nl s2.2.2.2.2.2.2.2.2.2.2.2.2.2.2.2.2.2.2) (k23 s2) (lw_bs G u0 u1 u2 u3 u4 u5 u6 u7 u8 u9 u10 u11 u12 u13 u14 u15 u16 u17 u18 s2) (lw_lv b u0 u1 u2 u3 u4 u5 u6 u7 u8 u9 u10 u11 u12 u13 u14 u15 u16 u17 u18 s2) 23 []) (S1 : sk_N) (S2 : sk_N) (S3 : sk_N) (S4 : sk_N) (S5 : sk_N) (S6 : sk_N) (S7 : sk_N) (S8 : sk_N) (S9 : sk_N) (S10 : sk_N) (S11 : sk_N) (S12 : sk_N) (S13 : sk_N) (S14 : sk_N) (S15 : sk_N) (S16 : sk_N) (S17 : sk_M) (S18 : sk_O) (x4 : Int32) (hg : sk_in x4 2049 = true) : sk_S Γ (lw_Φ Γ b) (kl x4) (nl x4) (m_L_c13 L xs k23 S1 S2 S3 S4 S5 S6 S7 S8 S9 S10 S11 S12 S13 S14 S15 S16 S17 S18 x4) [(pc_W u0 (u1 0) (u3 0) (u5 0) (u7 0) (u16 0)), (nt_W G u1 (u2 0) S1), (lg_W G u2 S2), (nt_W G u3 (u4 0) S3), (lg_W G u4 S4), (nt_W G u5 (u6 0) S5), (lg_W G u6 S6), (sv_W G u7 (u8 0) (u10 0) (u12 0) (u14 0) S7), (nt_W G u8 (u9 0) S8), (lg_W G u9 S9), (nt_W G u10 (u11 0) S10), (lg_W G u11 S11), (nt_W G u12 (u13 0) S12), (lg_W G u13 S13), (nt_W G u14 (u15 0) S14), (lg_W G u15 S15), (sc_W G u16 S16), (md_W G u17 S17), (ot_W G u18 S18)] [some (.ref b), some (.ref (u0 0)), some (.ref (u17 0)), some (.ref (u18 0)), some (.int x4), none, none] 1017 [] := by
  have hk0 := lw_hk hg
  have hn0 := lw_hn hg
  unfold m_L_c13
  refine sk_aload_n (pc' := 1018) X rfl dL_law_1017 rfl ?_
  refine sk_callV (bs2 := fun r1018 => [(pc_W u0 (u1 0) (u3 0) (u5 0) (u7 0) (u16 0)), (nt_W G u1 (u2 0) S1), (lg_W G u2 S2), (nt_W G u3 (u4 0) S3), (lg_W G u4 S4), (nt_W G u5 (u6 0) S5), (lg_W G u6 S6), (sv_W G u7 (u8 0) (u10 0) (u12 0) (u14 0) S7), (nt_W G u8 (u9 0) S8), (lg_W G u9 S9), (nt_W G u10 (u11 0) S10), (lg_W G u11 S11), (nt_W G u12 (u13 0) S12), (lg_W G u13 S13), (nt_W G u14 (u15 0) S14), (lg_W G u15 S15), (sc_W G u16 S16), (md_W G u17 S17), (ot_W G u18 S18)]) (st := []) (st2 := fun r1018 => [.int r1018]) (As := []) (pc' := 1021) X (c_X4_components l G u0 u1 (u3 0) (u5 0) (u7 0) (u16 0) (u2 0) S1) lk_RL_151 [0, 1] rfl (by decide) (fun _ => rfl) rfl rfl rfl ⟨(Nat.le_of_ble_eq_true rfl), (Nat.le_of_ble_eq_true rfl)⟩ ⟨rfl, rfl⟩ ⟨by omega, by omega⟩ rfl (Nat.le_of_ble_eq_true rfl) rfl dL_law_1018 rfl (fun _ => rfl) (fun _ => rfl) (fun r1018 => ?_)
  refine sk_aload_n (pc' := 1022) X rfl dL_law_1021 rfl ?_
  refine sk_callV (bs2 := fun r1022 => [(pc_W u0 (u1 0) (u3 0) (u5 0) (u7 0) (u16 0)), (nt_W G u1 (u2 0) S1), (lg_W G u2 S2), (nt_W G u3 (u4 0) S3), (lg_W G u4 S4), (nt_W G u5 (u6 0) S5), (lg_W G u6 S6), (sv_W G u7 (u8 0) (u10 0) (u12 0) (u14 0) S7), (nt_W G u8 (u9 0) S8), (lg_W G u9 S9), (nt_W G u10 (u11 0) S10), (lg_W G u11 S11), (nt_W G u12 (u13 0) S12), (lg_W G u13 S13), (nt_W G u14 (u15 0) S14), (lg_W G u15 S15), (sc_W G u16 S16), (md_W G u17 r1022.2), (ot_W G u18 S18)]) (st := [.int r1018]) (st2 := fun r1022 => [.int r1022.1, .int r1018]) (As := []) (pc' := 1025) X (c_X5_components l G u17 S17) lk_RL_154 [17] rfl (by decide) (fun _ => rfl) rfl rfl rfl ⟨(Nat.le_of_ble_eq_true rfl), (Nat.le_of_ble_eq_true rfl)⟩ ⟨rfl, rfl⟩ ⟨by omega, by omega⟩ rfl (Nat.le_of_ble_eq_true rfl) rfl dL_law_1022 rfl (fun _ => rfl) (fun _ => rfl) (fun r1022 => ?_)
  refine sk_icmp_eq (tgt := 2071) (pc' := 1028) X dL_law_1025 rfl rfl ?_ ?_
  · refine sk_iinc (lv' := [some (.ref b), some (.ref (u0 0)), some (.ref (u17 0)), some (.ref (u18 0)), some (.int (x4 + (4 : Int32))), none, none]) (pc' := 2074) X rfl ic_4 (Nat.le_of_ble_eq_true rfl) rfl rfl dL_law_2071 rfl ?_
    refine sk_goto (tgt := 23) X dL_law_2074 rfl ?_
    first | exact sk_widen (lw_k (lw_i4 hg) (Nat.le_of_ble_eq_true rfl)) (lw_n (lw_i4 hg) (Nat.le_of_ble_eq_true rfl)) (ih23 (S1, S2, S3, S4, S5, S6, S7, S8, S9, S10, S11, S12, S13, S14, S15, S16, r1022.2, S18, (x4 + (4 : Int32)))) | exact sk_widen (lw_k0 (lw_i4 hg)) (lw_n0 (lw_i4 hg)) (ih23 (S1, S2, S3, S4, S5, S6, S7, S8, S9, S10, S11, S12, S13, S14, S15, S16, r1022.2, S18, (x4 + (4 : Int32))))
  · refine sk_iconst (pc' := 1029) X ic_0 dL_law_1028 rfl ?_
    exact sk_lfalse
set_option maxHeartbeats 4000000 in
set_option maxRecDepth 100000 in
theorem lc_14 {Γ : sk_K} {l : Launch} (hl0 : l.stackTraces = false) {G : sk_G} {t b L : Nat} {xs : Nat → Int32} (X : sk_X Γ l G room_1 7 RL code ret) (E : sk_EL Γ t b L xs) (u0 u1 u2 u3 u4 u5 u6 u7 u8 u9 u10 u11 u12 u13 u14 u15 u16 u17 u18 : Nat → Nat) (k23 : lw_σ → Option Int32) (ih23 : ∀ s2 : lw_σ, sk_S Γ (lw_Φ Γ b) (kl s2.2.2.2.2.2.2.2.2.2.2.2.2.2.2.2.2.2.2) (nl s2.2.2.2.2.2.2.2.2.2.2.2.2.2.2.2.2.2.2) (k23 s2) (lw_bs G u0 u1 u2 u3 u4 u5 u6 u7 u8 u9 u10 u11 u12 u13 u14 u15 u16 u17 u18 s2) (lw_lv b u0 u1 u2 u3 u4 u5 u6 u7 u8 u9 u10 u11 u12 u13 u14 u15 u16 u17 u18 s2) 23 []) (S1 : sk_N) (S2 : sk_N) (S3 : sk_N) (S4 : sk_N) (S5 : sk_N) (S6 : sk_N) (S7 : sk_N) (S8 : sk_N) (S9 : sk_N) (S10 : sk_N) (S11 : sk_N) (S12 : sk_N) (S13 : sk_N) (S14 : sk_N) (S15 : sk_N) (S16 : sk_N) (S17 : sk_M) (S18 : sk_O) (x4 : Int32) (hg : sk_in x4 2049 = true) : sk_S Γ (lw_Φ Γ b) (kl x4) (nl x4) (m_L_c14 L xs k23 S1 S2 S3 S4 S5 S6 S7 S8 S9 S10 S11 S12 S13 S14 S15 S16 S17 S18 x4) [(pc_W u0 (u1 0) (u3 0) (u5 0) (u7 0) (u16 0)), (nt_W G u1 (u2 0) S1), (lg_W G u2 S2), (nt_W G u3 (u4 0) S3), (lg_W G u4 S4), (nt_W G u5 (u6 0) S5), (lg_W G u6 S6), (sv_W G u7 (u8 0) (u10 0) (u12 0) (u14 0) S7), (nt_W G u8 (u9 0) S8), (lg_W G u9 S9), (nt_W G u10 (u11 0) S10), (lg_W G u11 S11), (nt_W G u12 (u13 0) S12), (lg_W G u13 S13), (nt_W G u14 (u15 0) S14), (lg_W G u15 S15), (sc_W G u16 S16), (md_W G u17 S17), (ot_W G u18 S18)] [some (.ref b), some (.ref (u0 0)), some (.ref (u17 0)), some (.ref (u18 0)), some (.int x4), none, none] 1030 [] := by
  have hk0 := lw_hk hg
  have hn0 := lw_hn hg
  unfold m_L_c14
  refine sk_aload_n (pc' := 1031) X rfl dL_law_1030 rfl ?_
  refine sk_aload_n (pc' := 1032) X rfl dL_law_1031 rfl ?_
  refine sk_iload (pc' := 1034) X rfl dL_law_1032 rfl ?_
  refine sk_iconst (pc' := 1035) X ic_1 dL_law_1034 rfl ?_
  refine sk_iadd (pc' := 1036) X dL_law_1035 rfl ?_
  refine sk_scd (pc' := 1037) X E dL_law_1036 rfl ?_
  refine sk_aload_n (pc' := 1038) X rfl dL_law_1037 rfl ?_
  refine sk_callSH (bs2 := fun r1038 => [(pc_W u0 (u1 0) (u3 0) (u5 0) (u7 0) (u16 0)), (nt_W G u1 (u2 0) S1), (lg_W G u2 S2), (nt_W G u3 (u4 0) S3), (lg_W G u4 S4), (nt_W G u5 (u6 0) S5), (lg_W G u6 S6), (sv_W G u7 (u8 0) (u10 0) (u12 0) (u14 0) S7), (nt_W G u8 (u9 0) S8), (lg_W G u9 S9), (nt_W G u10 (u11 0) S10), (lg_W G u11 S11), (nt_W G u12 (u13 0) S12), (lg_W G u13 S13), (nt_W G u14 (u15 0) S14), (lg_W G u15 S15), (sc_W G u16 S16), (md_W G u17 S17), (ot_W G u18 r1038.2)]) (st := []) (st2 := fun r1038 => [.int r1038.1]) (As := [.ref (u0 0), .int (xs ((x4 + (1 : Int32))).toNatClampNeg), .ref (u18 0)]) (pc' := 1041) X E (c_L_isNeeded l hl0 t G u0 u1 u18 (u3 0) (u5 0) (u7 0) (u16 0) (u2 0) S1 S18 (xs ((x4 + (1 : Int32))).toNatClampNeg)) lkh_RL_155 [0, 1, 18] rfl (by decide) (fun _ => rfl) ⟨(Nat.le_of_ble_eq_true rfl), (Nat.le_of_ble_eq_true rfl)⟩ ⟨rfl, rfl⟩ ⟨by omega, by omega⟩ rfl (Nat.le_of_ble_eq_true rfl) rfl dL_law_1038 rfl (fun _ => rfl) (fun _ => rfl) (fun r1038 => ?_)
  refine sk_istore (lv' := [some (.ref b), some (.ref (u0 0)), some (.ref (u17 0)), some (.ref (u18 0)), some (.int x4), some (.int r1038.1), none]) (pc' := 1043) X (Nat.le_of_ble_eq_true rfl) rfl rfl dL_law_1041 rfl ?_
  refine sk_aload_n (pc' := 1044) X rfl dL_law_1043 rfl ?_
  refine sk_aload_n (pc' := 1045) X rfl dL_law_1044 rfl ?_
  refine sk_iload (pc' := 1047) X rfl dL_law_1045 rfl ?_
  refine sk_iconst (pc' := 1048) X ic_1 dL_law_1047 rfl ?_
  refine sk_iadd (pc' := 1049) X dL_law_1048 rfl ?_
  refine sk_scd (pc' := 1050) X E dL_law_1049 rfl ?_
  refine sk_callV (bs2 := fun r1050 => [(pc_W u0 (u1 0) (u3 0) (u5 0) (u7 0) (u16 0)), (nt_W G u1 (u2 0) S1), (lg_W G u2 S2), (nt_W G u3 (u4 0) S3), (lg_W G u4 S4), (nt_W G u5 (u6 0) S5), (lg_W G u6 S6), (sv_W G u7 (u8 0) (u10 0) (u12 0) (u14 0) S7), (nt_W G u8 (u9 0) S8), (lg_W G u9 S9), (nt_W G u10 (u11 0) S10), (lg_W G u11 S11), (nt_W G u12 (u13 0) S12), (lg_W G u13 S13), (nt_W G u14 (u15 0) S14), (lg_W G u15 S15), (sc_W G u16 S16), (md_W G u17 r1050.2), (ot_W G u18 r1038.2)]) (st := []) (st2 := fun r1050 => [.int r1050.1]) (As := [.int (xs ((x4 + (1 : Int32))).toNatClampNeg)]) (pc' := 1053) X (c_X5_isNeeded l G u17 S17 (xs ((x4 + (1 : Int32))).toNatClampNeg)) lk_RL_157 [17] rfl (by decide) (fun _ => rfl) rfl rfl rfl ⟨(Nat.le_of_ble_eq_true rfl), (Nat.le_of_ble_eq_true rfl)⟩ ⟨rfl, rfl⟩ ⟨by omega, by omega⟩ rfl (Nat.le_of_ble_eq_true rfl) rfl dL_law_1050 rfl (fun _ => rfl) (fun _ => rfl) (fun r1050 => ?_)
  refine sk_istore (lv' := [some (.ref b), some (.ref (u0 0)), some (.ref (u17 0)), some (.ref (u18 0)), some (.int x4), some (.int r1038.1), some (.int r1050.1)]) (pc' := 1055) X (Nat.le_of_ble_eq_true rfl) rfl rfl dL_law_1053 rfl ?_
  refine sk_aload_n (pc' := 1056) X rfl dL_law_1055 rfl ?_
  refine sk_callV (bs2 := fun r1056 => [(pc_W u0 (u1 0) (u3 0) (u5 0) (u7 0) (u16 0)), (nt_W G u1 (u2 0) S1), (lg_W G u2 S2), (nt_W G u3 (u4 0) S3), (lg_W G u4 S4), (nt_W G u5 (u6 0) S5), (lg_W G u6 S6), (sv_W G u7 (u8 0) (u10 0) (u12 0) (u14 0) S7), (nt_W G u8 (u9 0) S8), (lg_W G u9 S9), (nt_W G u10 (u11 0) S10), (lg_W G u11 S11), (nt_W G u12 (u13 0) S12), (lg_W G u13 S13), (nt_W G u14 (u15 0) S14), (lg_W G u15 S15), (sc_W G u16 S16), (md_W G u17 r1050.2), (ot_W G u18 r1038.2)]) (st := []) (st2 := fun r1056 => [.int r1056]) (As := []) (pc' := 1059) X (c_X5_thrown l G u17 r1050.2) lk_RL_109 [17] rfl (by decide) (fun _ => rfl) rfl rfl rfl ⟨(Nat.le_of_ble_eq_true rfl), (Nat.le_of_ble_eq_true rfl)⟩ ⟨rfl, rfl⟩ ⟨by omega, by omega⟩ rfl (Nat.le_of_ble_eq_true rfl) rfl dL_law_1056 rfl (fun _ => rfl) (fun _ => rfl) (fun r1056 => ?_)
  refine sk_iload (pc' := 1061) X rfl dL_law_1059 rfl ?_
  refine sk_icmp_eq (tgt := 1066) (pc' := 1064) X dL_law_1061 rfl rfl ?_ ?_
  · refine sk_iload (pc' := 1068) X rfl dL_law_1066 rfl ?_
    refine sk_if_ne (tgt := 1090) (pc' := 1071) X dL_law_1068 rfl rfl ?_ ?_
    · refine sk_goto (tgt := 2071) X dL_law_1090 rfl ?_
      refine sk_iinc (lv' := [some (.ref b), some (.ref (u0 0)), some (.ref (u17 0)), some (.ref (u18 0)), some (.int (x4 + (4 : Int32))), some (.int r1038.1), some (.int r1050.1)]) (pc' := 2074) X rfl ic_4 (Nat.le_of_ble_eq_true rfl) rfl rfl dL_law_2071 rfl ?_
      refine sk_goto (tgt := 23) X dL_law_2074 rfl ?_
      first | exact sk_widen (lw_k (lw_i4 hg) (Nat.le_of_ble_eq_true rfl)) (lw_n (lw_i4 hg) (Nat.le_of_ble_eq_true rfl)) (sk_kill 6 (sk_kill 5 (ih23 (S1, S2, S3, S4, S5, S6, S7, S8, S9, S10, S11, S12, S13, S14, S15, S16, r1050.2, r1038.2, (x4 + (4 : Int32)))))) | exact sk_widen (lw_k0 (lw_i4 hg)) (lw_n0 (lw_i4 hg)) (sk_kill 6 (sk_kill 5 (ih23 (S1, S2, S3, S4, S5, S6, S7, S8, S9, S10, S11, S12, S13, S14, S15, S16, r1050.2, r1038.2, (x4 + (4 : Int32))))))
    · refine sk_aload_n (pc' := 1072) X rfl dL_law_1071 rfl ?_
      refine sk_iconst (pc' := 1073) X ic_0 dL_law_1072 rfl ?_
      refine sk_lald (pc' := 1074) X 18 0 rfl rfl dL_law_1073 rfl ?_
      refine sk_iload (pc' := 1076) X rfl dL_law_1074 rfl ?_
      refine sk_if_eq (tgt := 1083) (pc' := 1079) X dL_law_1076 rfl rfl ?_ ?_
      · refine sk_lconst (pc' := 1084) X (v := 0) (by decide) dL_law_1083 rfl ?_
        refine sk_lcmp (pc' := 1085) X dL_law_1084 rfl ?_
        refine sk_if_eq (tgt := 1090) (pc' := 1088) X dL_law_1085 rfl rfl ?_ ?_
        · refine sk_goto (tgt := 2071) X dL_law_1090 rfl ?_
          refine sk_iinc (lv' := [some (.ref b), some (.ref (u0 0)), some (.ref (u17 0)), some (.ref (u18 0)), some (.int (x4 + (4 : Int32))), some (.int r1038.1), some (.int r1050.1)]) (pc' := 2074) X rfl ic_4 (Nat.le_of_ble_eq_true rfl) rfl rfl dL_law_2071 rfl ?_
          refine sk_goto (tgt := 23) X dL_law_2074 rfl ?_
          first | exact sk_widen (lw_k (lw_i4 hg) (Nat.le_of_ble_eq_true rfl)) (lw_n (lw_i4 hg) (Nat.le_of_ble_eq_true rfl)) (sk_kill 6 (sk_kill 5 (ih23 (S1, S2, S3, S4, S5, S6, S7, S8, S9, S10, S11, S12, S13, S14, S15, S16, r1050.2, r1038.2, (x4 + (4 : Int32)))))) | exact sk_widen (lw_k0 (lw_i4 hg)) (lw_n0 (lw_i4 hg)) (sk_kill 6 (sk_kill 5 (ih23 (S1, S2, S3, S4, S5, S6, S7, S8, S9, S10, S11, S12, S13, S14, S15, S16, r1050.2, r1038.2, (x4 + (4 : Int32))))))
        · refine sk_iconst (pc' := 1089) X ic_0 dL_law_1088 rfl ?_
          exact sk_lfalse
      · refine sk_lconst (pc' := 1080) X (v := 1) (by decide) dL_law_1079 rfl ?_
        refine sk_goto (tgt := 1084) X dL_law_1080 rfl ?_
        refine sk_lcmp (pc' := 1085) X dL_law_1084 rfl ?_
        refine sk_if_eq (tgt := 1090) (pc' := 1088) X dL_law_1085 rfl rfl ?_ ?_
        · refine sk_goto (tgt := 2071) X dL_law_1090 rfl ?_
          refine sk_iinc (lv' := [some (.ref b), some (.ref (u0 0)), some (.ref (u17 0)), some (.ref (u18 0)), some (.int (x4 + (4 : Int32))), some (.int r1038.1), some (.int r1050.1)]) (pc' := 2074) X rfl ic_4 (Nat.le_of_ble_eq_true rfl) rfl rfl dL_law_2071 rfl ?_
          refine sk_goto (tgt := 23) X dL_law_2074 rfl ?_
          first | exact sk_widen (lw_k (lw_i4 hg) (Nat.le_of_ble_eq_true rfl)) (lw_n (lw_i4 hg) (Nat.le_of_ble_eq_true rfl)) (sk_kill 6 (sk_kill 5 (ih23 (S1, S2, S3, S4, S5, S6, S7, S8, S9, S10, S11, S12, S13, S14, S15, S16, r1050.2, r1038.2, (x4 + (4 : Int32)))))) | exact sk_widen (lw_k0 (lw_i4 hg)) (lw_n0 (lw_i4 hg)) (sk_kill 6 (sk_kill 5 (ih23 (S1, S2, S3, S4, S5, S6, S7, S8, S9, S10, S11, S12, S13, S14, S15, S16, r1050.2, r1038.2, (x4 + (4 : Int32))))))
        · refine sk_iconst (pc' := 1089) X ic_0 dL_law_1088 rfl ?_
          exact sk_lfalse
  · refine sk_iconst (pc' := 1065) X ic_0 dL_law_1064 rfl ?_
    exact sk_lfalse
set_option maxHeartbeats 4000000 in
set_option maxRecDepth 100000 in
theorem lc_15 {Γ : sk_K} {l : Launch} (hl0 : l.stackTraces = false) {G : sk_G} {t b L : Nat} {xs : Nat → Int32} (X : sk_X Γ l G room_1 7 RL code ret) (E : sk_EL Γ t b L xs) (u0 u1 u2 u3 u4 u5 u6 u7 u8 u9 u10 u11 u12 u13 u14 u15 u16 u17 u18 : Nat → Nat) (k23 : lw_σ → Option Int32) (ih23 : ∀ s2 : lw_σ, sk_S Γ (lw_Φ Γ b) (kl s2.2.2.2.2.2.2.2.2.2.2.2.2.2.2.2.2.2.2) (nl s2.2.2.2.2.2.2.2.2.2.2.2.2.2.2.2.2.2.2) (k23 s2) (lw_bs G u0 u1 u2 u3 u4 u5 u6 u7 u8 u9 u10 u11 u12 u13 u14 u15 u16 u17 u18 s2) (lw_lv b u0 u1 u2 u3 u4 u5 u6 u7 u8 u9 u10 u11 u12 u13 u14 u15 u16 u17 u18 s2) 23 []) (S1 : sk_N) (S2 : sk_N) (S3 : sk_N) (S4 : sk_N) (S5 : sk_N) (S6 : sk_N) (S7 : sk_N) (S8 : sk_N) (S9 : sk_N) (S10 : sk_N) (S11 : sk_N) (S12 : sk_N) (S13 : sk_N) (S14 : sk_N) (S15 : sk_N) (S16 : sk_N) (S17 : sk_M) (S18 : sk_O) (x4 : Int32) (hg : sk_in x4 2049 = true) : sk_S Γ (lw_Φ Γ b) (kl x4) (nl x4) (m_L_c15 L xs k23 S1 S2 S3 S4 S5 S6 S7 S8 S9 S10 S11 S12 S13 S14 S15 S16 S17 S18 x4) [(pc_W u0 (u1 0) (u3 0) (u5 0) (u7 0) (u16 0)), (nt_W G u1 (u2 0) S1), (lg_W G u2 S2), (nt_W G u3 (u4 0) S3), (lg_W G u4 S4), (nt_W G u5 (u6 0) S5), (lg_W G u6 S6), (sv_W G u7 (u8 0) (u10 0) (u12 0) (u14 0) S7), (nt_W G u8 (u9 0) S8), (lg_W G u9 S9), (nt_W G u10 (u11 0) S10), (lg_W G u11 S11), (nt_W G u12 (u13 0) S12), (lg_W G u13 S13), (nt_W G u14 (u15 0) S14), (lg_W G u15 S15), (sc_W G u16 S16), (md_W G u17 S17), (ot_W G u18 S18)] [some (.ref b), some (.ref (u0 0)), some (.ref (u17 0)), some (.ref (u18 0)), some (.int x4), none, none] 1093 [] := by
  have hk0 := lw_hk hg
  have hn0 := lw_hn hg
  unfold m_L_c15
  refine sk_aload_n (pc' := 1094) X rfl dL_law_1093 rfl ?_
  refine sk_aload_n (pc' := 1095) X rfl dL_law_1094 rfl ?_
  refine sk_iload (pc' := 1097) X rfl dL_law_1095 rfl ?_
  refine sk_iconst (pc' := 1098) X ic_1 dL_law_1097 rfl ?_
  refine sk_iadd (pc' := 1099) X dL_law_1098 rfl ?_
  refine sk_scd (pc' := 1100) X E dL_law_1099 rfl ?_
  refine sk_aload_n (pc' := 1101) X rfl dL_law_1100 rfl ?_
  refine sk_callSH (bs2 := fun r1101 => [(pc_W u0 (u1 0) (u3 0) (u5 0) (u7 0) (u16 0)), (nt_W G u1 (u2 0) r1101.2.1), (lg_W G u2 r1101.2.2.1), (nt_W G u3 (u4 0) S3), (lg_W G u4 S4), (nt_W G u5 (u6 0) S5), (lg_W G u6 S6), (sv_W G u7 (u8 0) (u10 0) (u12 0) (u14 0) r1101.2.2.2.1), (nt_W G u8 (u9 0) r1101.2.2.2.2.1), (lg_W G u9 r1101.2.2.2.2.2.1), (nt_W G u10 (u11 0) r1101.2.2.2.2.2.2.1), (lg_W G u11 r1101.2.2.2.2.2.2.2.1), (nt_W G u12 (u13 0) r1101.2.2.2.2.2.2.2.2.1), (lg_W G u13 r1101.2.2.2.2.2.2.2.2.2.1), (nt_W G u14 (u15 0) r1101.2.2.2.2.2.2.2.2.2.2.1), (lg_W G u15 r1101.2.2.2.2.2.2.2.2.2.2.2.1), (sc_W G u16 S16), (md_W G u17 S17), (ot_W G u18 r1101.2.2.2.2.2.2.2.2.2.2.2.2)]) (st := []) (st2 := fun r1101 => [.int r1101.1]) (As := [.ref (u0 0), .int (xs ((x4 + (1 : Int32))).toNatClampNeg), .ref (u18 0)]) (pc' := 1104) X E (c_L_tick l hl0 t G u0 u1 u2 u7 u8 u9 u10 u11 u12 u13 u14 u15 u18 (u3 0) (u5 0) (u16 0) S1 S2 S7 S8 S9 S10 S11 S12 S13 S14 S15 S18 (xs ((x4 + (1 : Int32))).toNatClampNeg)) lkh_RL_158 [0, 1, 2, 7, 8, 9, 10, 11, 12, 13, 14, 15, 18] rfl (by decide) (fun _ => rfl) ⟨(Nat.le_of_ble_eq_true rfl), (Nat.le_of_ble_eq_true rfl)⟩ ⟨rfl, rfl⟩ ⟨by omega, by omega⟩ rfl (Nat.le_of_ble_eq_true rfl) rfl dL_law_1101 rfl (fun _ => rfl) (fun _ => rfl) (fun r1101 => ?_)
  refine sk_istore (lv' := [some (.ref b), some (.ref (u0 0)), some (.ref (u17 0)), some (.ref (u18 0)), some (.int x4), some (.int r1101.1), none]) (pc' := 1106) X (Nat.le_of_ble_eq_true rfl) rfl rfl dL_law_1104 rfl ?_
  refine sk_aload_n (pc' := 1107) X rfl dL_law_1106 rfl ?_
  refine sk_aload_n (pc' := 1108) X rfl dL_law_1107 rfl ?_
  refine sk_iload (pc' := 1110) X rfl dL_law_1108 rfl ?_
  refine sk_iconst (pc' := 1111) X ic_1 dL_law_1110 rfl ?_
  refine sk_iadd (pc' := 1112) X dL_law_1111 rfl ?_
  refine sk_scd (pc' := 1113) X E dL_law_1112 rfl ?_
  refine sk_callV (bs2 := fun r1113 => [(pc_W u0 (u1 0) (u3 0) (u5 0) (u7 0) (u16 0)), (nt_W G u1 (u2 0) r1101.2.1), (lg_W G u2 r1101.2.2.1), (nt_W G u3 (u4 0) S3), (lg_W G u4 S4), (nt_W G u5 (u6 0) S5), (lg_W G u6 S6), (sv_W G u7 (u8 0) (u10 0) (u12 0) (u14 0) r1101.2.2.2.1), (nt_W G u8 (u9 0) r1101.2.2.2.2.1), (lg_W G u9 r1101.2.2.2.2.2.1), (nt_W G u10 (u11 0) r1101.2.2.2.2.2.2.1), (lg_W G u11 r1101.2.2.2.2.2.2.2.1), (nt_W G u12 (u13 0) r1101.2.2.2.2.2.2.2.2.1), (lg_W G u13 r1101.2.2.2.2.2.2.2.2.2.1), (nt_W G u14 (u15 0) r1101.2.2.2.2.2.2.2.2.2.2.1), (lg_W G u15 r1101.2.2.2.2.2.2.2.2.2.2.2.1), (sc_W G u16 S16), (md_W G u17 r1113.2), (ot_W G u18 r1101.2.2.2.2.2.2.2.2.2.2.2.2)]) (st := []) (st2 := fun r1113 => [.int r1113.1]) (As := [.int (xs ((x4 + (1 : Int32))).toNatClampNeg)]) (pc' := 1116) X (c_X5_tick l G u17 S17 (xs ((x4 + (1 : Int32))).toNatClampNeg)) lk_RL_160 [17] rfl (by decide) (fun _ => rfl) rfl rfl rfl ⟨(Nat.le_of_ble_eq_true rfl), (Nat.le_of_ble_eq_true rfl)⟩ ⟨rfl, rfl⟩ ⟨by omega, by omega⟩ rfl (Nat.le_of_ble_eq_true rfl) rfl dL_law_1113 rfl (fun _ => rfl) (fun _ => rfl) (fun r1113 => ?_)
  refine sk_istore (lv' := [some (.ref b), some (.ref (u0 0)), some (.ref (u17 0)), some (.ref (u18 0)), some (.int x4), some (.int r1101.1), some (.int r1113.1)]) (pc' := 1118) X (Nat.le_of_ble_eq_true rfl) rfl rfl dL_law_1116 rfl ?_
  refine sk_aload_n (pc' := 1119) X rfl dL_law_1118 rfl ?_
  refine sk_callV (bs2 := fun r1119 => [(pc_W u0 (u1 0) (u3 0) (u5 0) (u7 0) (u16 0)), (nt_W G u1 (u2 0) r1101.2.1), (lg_W G u2 r1101.2.2.1), (nt_W G u3 (u4 0) S3), (lg_W G u4 S4), (nt_W G u5 (u6 0) S5), (lg_W G u6 S6), (sv_W G u7 (u8 0) (u10 0) (u12 0) (u14 0) r1101.2.2.2.1), (nt_W G u8 (u9 0) r1101.2.2.2.2.1), (lg_W G u9 r1101.2.2.2.2.2.1), (nt_W G u10 (u11 0) r1101.2.2.2.2.2.2.1), (lg_W G u11 r1101.2.2.2.2.2.2.2.1), (nt_W G u12 (u13 0) r1101.2.2.2.2.2.2.2.2.1), (lg_W G u13 r1101.2.2.2.2.2.2.2.2.2.1), (nt_W G u14 (u15 0) r1101.2.2.2.2.2.2.2.2.2.2.1), (lg_W G u15 r1101.2.2.2.2.2.2.2.2.2.2.2.1), (sc_W G u16 S16), (md_W G u17 r1113.2), (ot_W G u18 r1101.2.2.2.2.2.2.2.2.2.2.2.2)]) (st := []) (st2 := fun r1119 => [.int r1119]) (As := []) (pc' := 1122) X (c_X5_thrown l G u17 r1113.2) lk_RL_109 [17] rfl (by decide) (fun _ => rfl) rfl rfl rfl ⟨(Nat.le_of_ble_eq_true rfl), (Nat.le_of_ble_eq_true rfl)⟩ ⟨rfl, rfl⟩ ⟨by omega, by omega⟩ rfl (Nat.le_of_ble_eq_true rfl) rfl dL_law_1119 rfl (fun _ => rfl) (fun _ => rfl) (fun r1119 => ?_)
  refine sk_iload (pc' := 1124) X rfl dL_law_1122 rfl ?_
  refine sk_icmp_eq (tgt := 1129) (pc' := 1127) X dL_law_1124 rfl rfl ?_ ?_
  · refine sk_iload (pc' := 1131) X rfl dL_law_1129 rfl ?_
    refine sk_if_ne (tgt := 1146) (pc' := 1134) X dL_law_1131 rfl rfl ?_ ?_
    · refine sk_goto (tgt := 2071) X dL_law_1146 rfl ?_
      refine sk_iinc (lv' := [some (.ref b), some (.ref (u0 0)), some (.ref (u17 0)), some (.ref (u18 0)), some (.int (x4 + (4 : Int32))), some (.int r1101.1), some (.int r1113.1)]) (pc' := 2074) X rfl ic_4 (Nat.le_of_ble_eq_true rfl) rfl rfl dL_law_2071 rfl ?_
      refine sk_goto (tgt := 23) X dL_law_2074 rfl ?_
      first | exact sk_widen (lw_k (lw_i4 hg) (Nat.le_of_ble_eq_true rfl)) (lw_n (lw_i4 hg) (Nat.le_of_ble_eq_true rfl)) (sk_kill 6 (sk_kill 5 (ih23 (r1101.2.1, r1101.2.2.1, S3, S4, S5, S6, r1101.2.2.2.1, r1101.2.2.2.2.1, r1101.2.2.2.2.2.1, r1101.2.2.2.2.2.2.1, r1101.2.2.2.2.2.2.2.1, r1101.2.2.2.2.2.2.2.2.1, r1101.2.2.2.2.2.2.2.2.2.1, r1101.2.2.2.2.2.2.2.2.2.2.1, r1101.2.2.2.2.2.2.2.2.2.2.2.1, S16, r1113.2, r1101.2.2.2.2.2.2.2.2.2.2.2.2, (x4 + (4 : Int32)))))) | exact sk_widen (lw_k0 (lw_i4 hg)) (lw_n0 (lw_i4 hg)) (sk_kill 6 (sk_kill 5 (ih23 (r1101.2.1, r1101.2.2.1, S3, S4, S5, S6, r1101.2.2.2.1, r1101.2.2.2.2.1, r1101.2.2.2.2.2.1, r1101.2.2.2.2.2.2.1, r1101.2.2.2.2.2.2.2.1, r1101.2.2.2.2.2.2.2.2.1, r1101.2.2.2.2.2.2.2.2.2.1, r1101.2.2.2.2.2.2.2.2.2.2.1, r1101.2.2.2.2.2.2.2.2.2.2.2.1, S16, r1113.2, r1101.2.2.2.2.2.2.2.2.2.2.2.2, (x4 + (4 : Int32))))))
    · refine sk_aload_n (pc' := 1135) X rfl dL_law_1134 rfl ?_
      refine sk_iconst (pc' := 1136) X ic_0 dL_law_1135 rfl ?_
      refine sk_lald (pc' := 1137) X 18 0 rfl rfl dL_law_1136 rfl ?_
      refine sk_iload (pc' := 1139) X rfl dL_law_1137 rfl ?_
      refine sk_i2l (pc' := 1140) X dL_law_1139 rfl ?_
      refine sk_lcmp (pc' := 1141) X dL_law_1140 rfl ?_
      refine sk_if_eq (tgt := 1146) (pc' := 1144) X dL_law_1141 rfl rfl ?_ ?_
      · refine sk_goto (tgt := 2071) X dL_law_1146 rfl ?_
        refine sk_iinc (lv' := [some (.ref b), some (.ref (u0 0)), some (.ref (u17 0)), some (.ref (u18 0)), some (.int (x4 + (4 : Int32))), some (.int r1101.1), some (.int r1113.1)]) (pc' := 2074) X rfl ic_4 (Nat.le_of_ble_eq_true rfl) rfl rfl dL_law_2071 rfl ?_
        refine sk_goto (tgt := 23) X dL_law_2074 rfl ?_
        first | exact sk_widen (lw_k (lw_i4 hg) (Nat.le_of_ble_eq_true rfl)) (lw_n (lw_i4 hg) (Nat.le_of_ble_eq_true rfl)) (sk_kill 6 (sk_kill 5 (ih23 (r1101.2.1, r1101.2.2.1, S3, S4, S5, S6, r1101.2.2.2.1, r1101.2.2.2.2.1, r1101.2.2.2.2.2.1, r1101.2.2.2.2.2.2.1, r1101.2.2.2.2.2.2.2.1, r1101.2.2.2.2.2.2.2.2.1, r1101.2.2.2.2.2.2.2.2.2.1, r1101.2.2.2.2.2.2.2.2.2.2.1, r1101.2.2.2.2.2.2.2.2.2.2.2.1, S16, r1113.2, r1101.2.2.2.2.2.2.2.2.2.2.2.2, (x4 + (4 : Int32)))))) | exact sk_widen (lw_k0 (lw_i4 hg)) (lw_n0 (lw_i4 hg)) (sk_kill 6 (sk_kill 5 (ih23 (r1101.2.1, r1101.2.2.1, S3, S4, S5, S6, r1101.2.2.2.1, r1101.2.2.2.2.1, r1101.2.2.2.2.2.1, r1101.2.2.2.2.2.2.1, r1101.2.2.2.2.2.2.2.1, r1101.2.2.2.2.2.2.2.2.1, r1101.2.2.2.2.2.2.2.2.2.1, r1101.2.2.2.2.2.2.2.2.2.2.1, r1101.2.2.2.2.2.2.2.2.2.2.2.1, S16, r1113.2, r1101.2.2.2.2.2.2.2.2.2.2.2.2, (x4 + (4 : Int32))))))
      · refine sk_iconst (pc' := 1145) X ic_0 dL_law_1144 rfl ?_
        exact sk_lfalse
  · refine sk_iconst (pc' := 1128) X ic_0 dL_law_1127 rfl ?_
    exact sk_lfalse
