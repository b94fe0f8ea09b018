set_option maxHeartbeats 4000000 in
set_option maxRecDepth 100000 in
theorem lc_24 {Γ : sk_K} {l : Launch} (hl0 : l.stackTraces = false) {G : sk_G} {t b L : Nat} {xs : Nat → Int32} (X : sk_X Γ l G room_1 7 RL code ret) (E : sk_EL Γ t b L xs) (u0 u1 u2 u3 u4 u5 u6 u7 u8 u9 u10 u11 u12 u13 u14 u15 u16 u17 u18 : Nat → Nat) (k23 : lw_σ → Option Int32) (ih23 : ∀ s2 : lw_σ, sk_S Γ (lw_Φ Γ b) (kl s2.2.2.2.2.2.2.2.2.2.2.2.2.2.2.2.2.2.2) (nl s2.2.2.2.2.2.2.2.2.2.2.2.2.2.2.2.2.2.2) (k23 s2) (lw_bs G u0 u1 u2 u3 u4 u5 u6 u7 u8 u9 u10 u11 u12 u13 u14 u15 u16 u17 u18 s2) (lw_lv b u0 u1 u2 u3 u4 u5 u6 u7 u8 u9 u10 u11 u12 u13 u14 u15 u16 u17 u18 s2) 23 []) (S1 : sk_N) (S2 : sk_N) (S3 : sk_N) (S4 : sk_N) (S5 : sk_N) (S6 : sk_N) (S7 : sk_N) (S8 : sk_N) (S9 : sk_N) (S10 : sk_N) (S11 : sk_N) (S12 : sk_N) (S13 : sk_N) (S14 : sk_N) (S15 : sk_N) (S16 : sk_N) (S17 : sk_M) (S18 : sk_O) (x4 : Int32) (hg : sk_in x4 2049 = true) : sk_S Γ (lw_Φ Γ b) (kl x4) (nl x4) (m_L_c24 L xs k23 S1 S2 S3 S4 S5 S6 S7 S8 S9 S10 S11 S12 S13 S14 S15 S16 S17 S18 x4) [(pc_W u0 (u1 0) (u3 0) (u5 0) (u7 0) (u16 0)), (nt_W G u1 (u2 0) S1), (lg_W G u2 S2), (nt_W G u3 (u4 0) S3), (lg_W G u4 S4), (nt_W G u5 (u6 0) S5), (lg_W G u6 S6), (sv_W G u7 (u8 0) (u10 0) (u12 0) (u14 0) S7), (nt_W G u8 (u9 0) S8), (lg_W G u9 S9), (nt_W G u10 (u11 0) S10), (lg_W G u11 S11), (nt_W G u12 (u13 0) S12), (lg_W G u13 S13), (nt_W G u14 (u15 0) S14), (lg_W G u15 S15), (sc_W G u16 S16), (md_W G u17 S17), (ot_W G u18 S18)] [some (.ref b), some (.ref (u0 0)), some (.ref (u17 0)), some (.ref (u18 0)), some (.int x4), none, none] 1407 [] := by
  have hk0 := lw_hk hg
  have hn0 := lw_hn hg
  unfold m_L_c24
  refine sk_aload_n (pc' := 1408) X rfl dL_law_1407 rfl ?_
  refine sk_aload_n (pc' := 1409) X rfl dL_law_1408 rfl ?_
  refine sk_iload (pc' := 1411) X rfl dL_law_1409 rfl ?_
  refine sk_iconst (pc' := 1412) X ic_1 dL_law_1411 rfl ?_
  refine sk_iadd (pc' := 1413) X dL_law_1412 rfl ?_
  refine sk_scd (pc' := 1414) X E dL_law_1413 rfl ?_
  refine sk_aload_n (pc' := 1415) X rfl dL_law_1414 rfl ?_
  refine sk_iload (pc' := 1417) X rfl dL_law_1415 rfl ?_
  refine sk_iconst (pc' := 1418) X ic_2 dL_law_1417 rfl ?_
  refine sk_iadd (pc' := 1419) X dL_law_1418 rfl ?_
  refine sk_scd (pc' := 1420) X E dL_law_1419 rfl ?_
  refine sk_aload_n (pc' := 1421) X rfl dL_law_1420 rfl ?_
  refine sk_callSH (bs2 := fun r1421 => [(pc_W u0 (u1 0) (u3 0) (u5 0) (u7 0) (u16 0)), (nt_W G u1 (u2 0) S1), (lg_W G u2 S2), (nt_W G u3 (u4 0) r1421.2.1), (lg_W G u4 r1421.2.2.1), (nt_W G u5 (u6 0) S5), (lg_W G u6 S6), (sv_W G u7 (u8 0) (u10 0) (u12 0) (u14 0) S7), (nt_W G u8 (u9 0) S8), (lg_W G u9 S9), (nt_W G u10 (u11 0) S10), (lg_W G u11 S11), (nt_W G u12 (u13 0) S12), (lg_W G u13 S13), (nt_W G u14 (u15 0) S14), (lg_W G u15 S15), (sc_W G u16 S16), (md_W G u17 S17), (ot_W G u18 r1421.2.2.2)]) (st := []) (st2 := fun r1421 => [.int r1421.1]) (As := [.ref (u0 0), .int (xs ((x4 + (1 : Int32))).toNatClampNeg), .int (xs ((x4 + (2 : Int32))).toNatClampNeg), .ref (u18 0)]) (pc' := 1424) X E (c_L_ticksUntil l hl0 t G u0 u1 u2 u3 u4 u18 (u5 0) (u7 0) (u16 0) S1 S2 S3 S4 S18 (xs ((x4 + (1 : Int32))).toNatClampNeg) (xs ((x4 + (2 : Int32))).toNatClampNeg)) lkh_RL_192 [0, 1, 2, 3, 4, 18] rfl (by decide) (fun _ => rfl) ⟨(Nat.le_of_ble_eq_true rfl), (Nat.le_of_ble_eq_true rfl)⟩ ⟨rfl, rfl⟩ ⟨by omega, by omega⟩ rfl (Nat.le_of_ble_eq_true rfl) rfl dL_law_1421 rfl (fun _ => rfl) (fun _ => rfl) (fun r1421 => ?_)
  refine sk_istore (lv' := [some (.ref b), some (.ref (u0 0)), some (.ref (u17 0)), some (.ref (u18 0)), some (.int x4), some (.int r1421.1), none]) (pc' := 1426) X (Nat.le_of_ble_eq_true rfl) rfl rfl dL_law_1424 rfl ?_
  refine sk_aload_n (pc' := 1427) X rfl dL_law_1426 rfl ?_
  refine sk_aload_n (pc' := 1428) X rfl dL_law_1427 rfl ?_
  refine sk_iload (pc' := 1430) X rfl dL_law_1428 rfl ?_
  refine sk_iconst (pc' := 1431) X ic_1 dL_law_1430 rfl ?_
  refine sk_iadd (pc' := 1432) X dL_law_1431 rfl ?_
  refine sk_scd (pc' := 1433) X E dL_law_1432 rfl ?_
  refine sk_aload_n (pc' := 1434) X rfl dL_law_1433 rfl ?_
  refine sk_iload (pc' := 1436) X rfl dL_law_1434 rfl ?_
  refine sk_iconst (pc' := 1437) X ic_2 dL_law_1436 rfl ?_
  refine sk_iadd (pc' := 1438) X dL_law_1437 rfl ?_
  refine sk_scd (pc' := 1439) X E dL_law_1438 rfl ?_
  refine sk_callV (bs2 := fun r1439 => [(pc_W u0 (u1 0) (u3 0) (u5 0) (u7 0) (u16 0)), (nt_W G u1 (u2 0) S1), (lg_W G u2 S2), (nt_W G u3 (u4 0) r1421.2.1), (lg_W G u4 r1421.2.2.1), (nt_W G u5 (u6 0) S5), (lg_W G u6 S6), (sv_W G u7 (u8 0) (u10 0) (u12 0) (u14 0) S7), (nt_W G u8 (u9 0) S8), (lg_W G u9 S9), (nt_W G u10 (u11 0) S10), (lg_W G u11 S11), (nt_W G u12 (u13 0) S12), (lg_W G u13 S13), (nt_W G u14 (u15 0) S14), (lg_W G u15 S15), (sc_W G u16 S16), (md_W G u17 r1439.2), (ot_W G u18 r1421.2.2.2)]) (st := []) (st2 := fun r1439 => [.int r1439.1]) (As := [.int (xs ((x4 + (1 : Int32))).toNatClampNeg), .int (xs ((x4 + (2 : Int32))).toNatClampNeg)]) (pc' := 1442) X (c_X5_ticksUntil l G u17 S17 (xs ((x4 + (1 : Int32))).toNatClampNeg) (xs ((x4 + (2 : Int32))).toNatClampNeg)) lk_RL_194 [17] rfl (by decide) (fun _ => rfl) rfl rfl rfl ⟨(Nat.le_of_ble_eq_true rfl), (Nat.le_of_ble_eq_true rfl)⟩ ⟨rfl, rfl⟩ ⟨by omega, by omega⟩ rfl (Nat.le_of_ble_eq_true rfl) rfl dL_law_1439 rfl (fun _ => rfl) (fun _ => rfl) (fun r1439 => ?_)
  refine sk_istore (lv' := [some (.ref b), some (.ref (u0 0)), some (.ref (u17 0)), some (.ref (u18 0)), some (.int x4), some (.int r1421.1), some (.int r1439.1)]) (pc' := 1444) X (Nat.le_of_ble_eq_true rfl) rfl rfl dL_law_1442 rfl ?_
  refine sk_aload_n (pc' := 1445) X rfl dL_law_1444 rfl ?_
  refine sk_callV (bs2 := fun r1445 => [(pc_W u0 (u1 0) (u3 0) (u5 0) (u7 0) (u16 0)), (nt_W G u1 (u2 0) S1), (lg_W G u2 S2), (nt_W G u3 (u4 0) r1421.2.1), (lg_W G u4 r1421.2.2.1), (nt_W G u5 (u6 0) S5), (lg_W G u6 S6), (sv_W G u7 (u8 0) (u10 0) (u12 0) (u14 0) S7), (nt_W G u8 (u9 0) S8), (lg_W G u9 S9), (nt_W G u10 (u11 0) S10), (lg_W G u11 S11), (nt_W G u12 (u13 0) S12), (lg_W G u13 S13), (nt_W G u14 (u15 0) S14), (lg_W G u15 S15), (sc_W G u16 S16), (md_W G u17 r1439.2), (ot_W G u18 r1421.2.2.2)]) (st := []) (st2 := fun r1445 => [.int r1445]) (As := []) (pc' := 1448) X (c_X5_thrown l G u17 r1439.2) lk_RL_109 [17] rfl (by decide) (fun _ => rfl) rfl rfl rfl ⟨(Nat.le_of_ble_eq_true rfl), (Nat.le_of_ble_eq_true rfl)⟩ ⟨rfl, rfl⟩ ⟨by omega, by omega⟩ rfl (Nat.le_of_ble_eq_true rfl) rfl dL_law_1445 rfl (fun _ => rfl) (fun _ => rfl) (fun r1445 => ?_)
  refine sk_iload (pc' := 1450) X rfl dL_law_1448 rfl ?_
  refine sk_icmp_eq (tgt := 1455) (pc' := 1453) X dL_law_1450 rfl rfl ?_ ?_
  · refine sk_iload (pc' := 1457) X rfl dL_law_1455 rfl ?_
    refine sk_if_ne (tgt := 1472) (pc' := 1460) X dL_law_1457 rfl rfl ?_ ?_
    · refine sk_goto (tgt := 2071) X dL_law_1472 rfl ?_
      refine sk_iinc (lv' := [some (.ref b), some (.ref (u0 0)), some (.ref (u17 0)), some (.ref (u18 0)), some (.int (x4 + (4 : Int32))), some (.int r1421.1), some (.int r1439.1)]) (pc' := 2074) X rfl ic_4 (Nat.le_of_ble_eq_true rfl) rfl rfl dL_law_2071 rfl ?_
      refine sk_goto (tgt := 23) X dL_law_2074 rfl ?_
      first | exact sk_widen (lw_k (lw_i4 hg) (Nat.le_of_ble_eq_true rfl)) (lw_n (lw_i4 hg) (Nat.le_of_ble_eq_true rfl)) (sk_kill 6 (sk_kill 5 (ih23 (S1, S2, r1421.2.1, r1421.2.2.1, S5, S6, S7, S8, S9, S10, S11, S12, S13, S14, S15, S16, r1439.2, r1421.2.2.2, (x4 + (4 : Int32)))))) | exact sk_widen (lw_k0 (lw_i4 hg)) (lw_n0 (lw_i4 hg)) (sk_kill 6 (sk_kill 5 (ih23 (S1, S2, r1421.2.1, r1421.2.2.1, S5, S6, S7, S8, S9, S10, S11, S12, S13, S14, S15, S16, r1439.2, r1421.2.2.2, (x4 + (4 : Int32))))))
    · refine sk_aload_n (pc' := 1461) X rfl dL_law_1460 rfl ?_
      refine sk_iconst (pc' := 1462) X ic_0 dL_law_1461 rfl ?_
      refine sk_lald (pc' := 1463) X 18 0 rfl rfl dL_law_1462 rfl ?_
      refine sk_iload (pc' := 1465) X rfl dL_law_1463 rfl ?_
      refine sk_i2l (pc' := 1466) X dL_law_1465 rfl ?_
      refine sk_lcmp (pc' := 1467) X dL_law_1466 rfl ?_
      refine sk_if_eq (tgt := 1472) (pc' := 1470) X dL_law_1467 rfl rfl ?_ ?_
      · refine sk_goto (tgt := 2071) X dL_law_1472 rfl ?_
        refine sk_iinc (lv' := [some (.ref b), some (.ref (u0 0)), some (.ref (u17 0)), some (.ref (u18 0)), some (.int (x4 + (4 : Int32))), some (.int r1421.1), some (.int r1439.1)]) (pc' := 2074) X rfl ic_4 (Nat.le_of_ble_eq_true rfl) rfl rfl dL_law_2071 rfl ?_
        refine sk_goto (tgt := 23) X dL_law_2074 rfl ?_
        first | exact sk_widen (lw_k (lw_i4 hg) (Nat.le_of_ble_eq_true rfl)) (lw_n (lw_i4 hg) (Nat.le_of_ble_eq_true rfl)) (sk_kill 6 (sk_kill 5 (ih23 (S1, S2, r1421.2.1, r1421.2.2.1, S5, S6, S7, S8, S9, S10, S11, S12, S13, S14, S15, S16, r1439.2, r1421.2.2.2, (x4 + (4 : Int32)))))) | exact sk_widen (lw_k0 (lw_i4 hg)) (lw_n0 (lw_i4 hg)) (sk_kill 6 (sk_kill 5 (ih23 (S1, S2, r1421.2.1, r1421.2.2.1, S5, S6, S7, S8, S9, S10, S11, S12, S13, S14, S15, S16, r1439.2, r1421.2.2.2, (x4 + (4 : Int32))))))
      · refine sk_iconst (pc' := 1471) X ic_0 dL_law_1470 rfl ?_
        exact sk_lfalse
  · refine sk_iconst (pc' := 1454) X ic_0 dL_law_1453 rfl ?_
    exact sk_lfalse
set_option maxHeartbeats 4000000 in
set_option maxRecDepth 100000 in
theorem lc_25 {Γ : sk_K} {l : Launch} (hl0 : l.stackTraces = false) {G : sk_G} {t b L : Nat} {xs : Nat → Int32} (X : sk_X Γ l G room_1 7 RL code ret) (E : sk_EL Γ t b L xs) (u0 u1 u2 u3 u4 u5 u6 u7 u8 u9 u10 u11 u12 u13 u14 u15 u16 u17 u18 : Nat → Nat) (k23 : lw_σ → Option Int32) (ih23 : ∀ s2 : lw_σ, sk_S Γ (lw_Φ Γ b) (kl s2.2.2.2.2.2.2.2.2.2.2.2.2.2.2.2.2.2.2) (nl s2.2.2.2.2.2.2.2.2.2.2.2.2.2.2.2.2.2.2) (k23 s2) (lw_bs G u0 u1 u2 u3 u4 u5 u6 u7 u8 u9 u10 u11 u12 u13 u14 u15 u16 u17 u18 s2) (lw_lv b u0 u1 u2 u3 u4 u5 u6 u7 u8 u9 u10 u11 u12 u13 u14 u15 u16 u17 u18 s2) 23 []) (S1 : sk_N) (S2 : sk_N) (S3 : sk_N) (S4 : sk_N) (S5 : sk_N) (S6 : sk_N) (S7 : sk_N) (S8 : sk_N) (S9 : sk_N) (S10 : sk_N) (S11 : sk_N) (S12 : sk_N) (S13 : sk_N) (S14 : sk_N) (S15 : sk_N) (S16 : sk_N) (S17 : sk_M) (S18 : sk_O) (x4 : Int32) (hg : sk_in x4 2049 = true) : sk_S Γ (lw_Φ Γ b) (kl x4) (nl x4) (m_L_c25 L xs k23 S1 S2 S3 S4 S5 S6 S7 S8 S9 S10 S11 S12 S13 S14 S15 S16 S17 S18 x4) [(pc_W u0 (u1 0) (u3 0) (u5 0) (u7 0) (u16 0)), (nt_W G u1 (u2 0) S1), (lg_W G u2 S2), (nt_W G u3 (u4 0) S3), (lg_W G u4 S4), (nt_W G u5 (u6 0) S5), (lg_W G u6 S6), (sv_W G u7 (u8 0) (u10 0) (u12 0) (u14 0) S7), (nt_W G u8 (u9 0) S8), (lg_W G u9 S9), (nt_W G u10 (u11 0) S10), (lg_W G u11 S11), (nt_W G u12 (u13 0) S12), (lg_W G u13 S13), (nt_W G u14 (u15 0) S14), (lg_W G u15 S15), (sc_W G u16 S16), (md_W G u17 S17), (ot_W G u18 S18)] [some (.ref b), some (.ref (u0 0)), some (.ref (u17 0)), some (.ref (u18 0)), some (.int x4), none, none] 1475 [] := by
  have hk0 := lw_hk hg
  have hn0 := lw_hn hg
  unfold m_L_c25
  refine sk_aload_n (pc' := 1476) X rfl dL_law_1475 rfl ?_
  refine sk_aload_n (pc' := 1477) X rfl dL_law_1476 rfl ?_
  refine sk_iload (pc' := 1479) X rfl dL_law_1477 rfl ?_
  refine sk_iconst (pc' := 1480) X ic_1 dL_law_1479 rfl ?_
  refine sk_iadd (pc' := 1481) X dL_law_1480 rfl ?_
  refine sk_scd (pc' := 1482) X E dL_law_1481 rfl ?_
  refine sk_aload_n (pc' := 1483) X rfl dL_law_1482 rfl ?_
  refine sk_callSH (bs2 := fun r1483 => [(pc_W u0 (u1 0) (u3 0) (u5 0) (u7 0) (u16 0)), (nt_W G u1 (u2 0) S1), (lg_W G u2 S2), (nt_W G u3 (u4 0) r1483.2.1), (lg_W G u4 r1483.2.2.1), (nt_W G u5 (u6 0) S5), (lg_W G u6 S6), (sv_W G u7 (u8 0) (u10 0) (u12 0) (u14 0) S7), (nt_W G u8 (u9 0) S8), (lg_W G u9 S9), (nt_W G u10 (u11 0) S10), (lg_W G u11 S11), (nt_W G u12 (u13 0) S12), (lg_W G u13 S13), (nt_W G u14 (u15 0) S14), (lg_W G u15 S15), (sc_W G u16 S16), (md_W G u17 S17), (ot_W G u18 r1483.2.2.2)]) (st := []) (st2 := fun r1483 => [.int r1483.1]) (As := [.ref (u0 0), .int (xs ((x4 + (1 : Int32))).toNatClampNeg), .ref (u18 0)]) (pc' := 1486) X E (c_L_groupsAfter l hl0 t G u0 u1 u2 u3 u4 u18 (u5 0) (u7 0) (u16 0) S1 S2 S3 S4 S18 (xs ((x4 + (1 : Int32))).toNatClampNeg)) lkh_RL_195 [0, 1, 2, 3, 4, 18] rfl (by decide) (fun _ => rfl) ⟨(Nat.le_of_ble_eq_true rfl), (Nat.le_of_ble_eq_true rfl)⟩ ⟨rfl, rfl⟩ ⟨by omega, by omega⟩ rfl (Nat.le_of_ble_eq_true rfl) rfl dL_law_1483 rfl (fun _ => rfl) (fun _ => rfl) (fun r1483 => ?_)
  refine sk_istore (lv' := [some (.ref b), some (.ref (u0 0)), some (.ref (u17 0)), some (.ref (u18 0)), some (.int x4), some (.int r1483.1), none]) (pc' := 1488) X (Nat.le_of_ble_eq_true rfl) rfl rfl dL_law_1486 rfl ?_
  refine sk_aload_n (pc' := 1489) X rfl dL_law_1488 rfl ?_
  refine sk_aload_n (pc' := 1490) X rfl dL_law_1489 rfl ?_
  refine sk_iload (pc' := 1492) X rfl dL_law_1490 rfl ?_
  refine sk_iconst (pc' := 1493) X ic_1 dL_law_1492 rfl ?_
  refine sk_iadd (pc' := 1494) X dL_law_1493 rfl ?_
  refine sk_scd (pc' := 1495) X E dL_law_1494 rfl ?_
  refine sk_callV (bs2 := fun r1495 => [(pc_W u0 (u1 0) (u3 0) (u5 0) (u7 0) (u16 0)), (nt_W G u1 (u2 0) S1), (lg_W G u2 S2), (nt_W G u3 (u4 0) r1483.2.1), (lg_W G u4 r1483.2.2.1), (nt_W G u5 (u6 0) S5), (lg_W G u6 S6), (sv_W G u7 (u8 0) (u10 0) (u12 0) (u14 0) S7), (nt_W G u8 (u9 0) S8), (lg_W G u9 S9), (nt_W G u10 (u11 0) S10), (lg_W G u11 S11), (nt_W G u12 (u13 0) S12), (lg_W G u13 S13), (nt_W G u14 (u15 0) S14), (lg_W G u15 S15), (sc_W G u16 S16), (md_W G u17 r1495.2), (ot_W G u18 r1483.2.2.2)]) (st := []) (st2 := fun r1495 => [.int r1495.1]) (As := [.int (xs ((x4 + (1 : Int32))).toNatClampNeg)]) (pc' := 1498) X (c_X5_groupsAfter l G u17 S17 (xs ((x4 + (1 : Int32))).toNatClampNeg)) lk_RL_197 [17] rfl (by decide) (fun _ => rfl) rfl rfl rfl ⟨(Nat.le_of_ble_eq_true rfl), (Nat.le_of_ble_eq_true rfl)⟩ ⟨rfl, rfl⟩ ⟨by omega, by omega⟩ rfl (Nat.le_of_ble_eq_true rfl) rfl dL_law_1495 rfl (fun _ => rfl) (fun _ => rfl) (fun r1495 => ?_)
  refine sk_istore (lv' := [some (.ref b), some (.ref (u0 0)), some (.ref (u17 0)), some (.ref (u18 0)), some (.int x4), some (.int r1483.1), some (.int r1495.1)]) (pc' := 1500) X (Nat.le_of_ble_eq_true rfl) rfl rfl dL_law_1498 rfl ?_
  refine sk_aload_n (pc' := 1501) X rfl dL_law_1500 rfl ?_
  refine sk_callV (bs2 := fun r1501 => [(pc_W u0 (u1 0) (u3 0) (u5 0) (u7 0) (u16 0)), (nt_W G u1 (u2 0) S1), (lg_W G u2 S2), (nt_W G u3 (u4 0) r1483.2.1), (lg_W G u4 r1483.2.2.1), (nt_W G u5 (u6 0) S5), (lg_W G u6 S6), (sv_W G u7 (u8 0) (u10 0) (u12 0) (u14 0) S7), (nt_W G u8 (u9 0) S8), (lg_W G u9 S9), (nt_W G u10 (u11 0) S10), (lg_W G u11 S11), (nt_W G u12 (u13 0) S12), (lg_W G u13 S13), (nt_W G u14 (u15 0) S14), (lg_W G u15 S15), (sc_W G u16 S16), (md_W G u17 r1495.2), (ot_W G u18 r1483.2.2.2)]) (st := []) (st2 := fun r1501 => [.int r1501]) (As := []) (pc' := 1504) X (c_X5_thrown l G u17 r1495.2) lk_RL_109 [17] rfl (by decide) (fun _ => rfl) rfl rfl rfl ⟨(Nat.le_of_ble_eq_true rfl), (Nat.le_of_ble_eq_true rfl)⟩ ⟨rfl, rfl⟩ ⟨by omega, by omega⟩ rfl (Nat.le_of_ble_eq_true rfl) rfl dL_law_1501 rfl (fun _ => rfl) (fun _ => rfl) (fun r1501 => ?_)
  refine sk_iload (pc' := 1506) X rfl dL_law_1504 rfl ?_
  refine sk_icmp_eq (tgt := 1511) (pc' := 1509) X dL_law_1506 rfl rfl ?_ ?_
  · refine sk_iload (pc' := 1513) X rfl dL_law_1511 rfl ?_
    refine sk_if_ne (tgt := 1528) (pc' := 1516) X dL_law_1513 rfl rfl ?_ ?_
    · refine sk_goto (tgt := 2071) X dL_law_1528 rfl ?_
      refine sk_iinc (lv' := [some (.ref b), some (.ref (u0 0)), some (.ref (u17 0)), some (.ref (u18 0)), some (.int (x4 + (4 : Int32))), some (.int r1483.1), some (.int r1495.1)]) (pc' := 2074) X rfl ic_4 (Nat.le_of_ble_eq_true rfl) rfl rfl dL_law_2071 rfl ?_
      refine sk_goto (tgt := 23) X dL_law_2074 rfl ?_
      first | exact sk_widen (lw_k (lw_i4 hg) (Nat.le_of_ble_eq_true rfl)) (lw_n (lw_i4 hg) (Nat.le_of_ble_eq_true rfl)) (sk_kill 6 (sk_kill 5 (ih23 (S1, S2, r1483.2.1, r1483.2.2.1, S5, S6, S7, S8, S9, S10, S11, S12, S13, S14, S15, S16, r1495.2, r1483.2.2.2, (x4 + (4 : Int32)))))) | exact sk_widen (lw_k0 (lw_i4 hg)) (lw_n0 (lw_i4 hg)) (sk_kill 6 (sk_kill 5 (ih23 (S1, S2, r1483.2.1, r1483.2.2.1, S5, S6, S7, S8, S9, S10, S11, S12, S13, S14, S15, S16, r1495.2, r1483.2.2.2, (x4 + (4 : Int32))))))
    · refine sk_aload_n (pc' := 1517) X rfl dL_law_1516 rfl ?_
      refine sk_iconst (pc' := 1518) X ic_0 dL_law_1517 rfl ?_
      refine sk_lald (pc' := 1519) X 18 0 rfl rfl dL_law_1518 rfl ?_
      refine sk_iload (pc' := 1521) X rfl dL_law_1519 rfl ?_
      refine sk_i2l (pc' := 1522) X dL_law_1521 rfl ?_
      refine sk_lcmp (pc' := 1523) X dL_law_1522 rfl ?_
      refine sk_if_eq (tgt := 1528) (pc' := 1526) X dL_law_1523 rfl rfl ?_ ?_
      · refine sk_goto (tgt := 2071) X dL_law_1528 rfl ?_
        refine sk_iinc (lv' := [some (.ref b), some (.ref (u0 0)), some (.ref (u17 0)), some (.ref (u18 0)), some (.int (x4 + (4 : Int32))), some (.int r1483.1), some (.int r1495.1)]) (pc' := 2074) X rfl ic_4 (Nat.le_of_ble_eq_true rfl) rfl rfl dL_law_2071 rfl ?_
        refine sk_goto (tgt := 23) X dL_law_2074 rfl ?_
        first | exact sk_widen (lw_k (lw_i4 hg) (Nat.le_of_ble_eq_true rfl)) (lw_n (lw_i4 hg) (Nat.le_of_ble_eq_true rfl)) (sk_kill 6 (sk_kill 5 (ih23 (S1, S2, r1483.2.1, r1483.2.2.1, S5, S6, S7, S8, S9, S10, S11, S12, S13, S14, S15, S16, r1495.2, r1483.2.2.2, (x4 + (4 : Int32)))))) | exact sk_widen (lw_k0 (lw_i4 hg)) (lw_n0 (lw_i4 hg)) (sk_kill 6 (sk_kill 5 (ih23 (S1, S2, r1483.2.1, r1483.2.2.1, S5, S6, S7, S8, S9, S10, S11, S12, S13, S14, S15, S16, r1495.2, r1483.2.2.2, (x4 + (4 : Int32))))))
      · refine sk_iconst (pc' := 1527) X ic_0 dL_law_1526 rfl ?_
        exact sk_lfalse
  · refine sk_iconst (pc' := 1510) X ic_0 dL_law_1509 rfl ?_
    exact sk_lfalse
set_option maxHeartbeats 4000000 in
set_option maxRecDepth 100000 in
theorem lc_26 {Γ : sk_K} {l : Launch} (hl0 : l.stackTraces = false) {G : sk_G} {t b L : Nat} {xs : Nat → Int32} (X : sk_X Γ l G room_1 7 RL code ret) (E : sk_EL Γ t b L xs) (u0 u1 u2 u3 u4 u5 u6 u7 u8 u9 u10 u11 u12 u13 u14 u15 u16 u17 u18 : Nat → Nat) (k23 : lw_σ → Option Int32) (ih23 : ∀ s2 : lw_σ, sk_S Γ (lw_Φ Γ b) (kl s2.2.2.2.2.2.2.2.2.2.2.2.2.2.2.2.2.2.2) (nl s2.2.2.2.2.2.2.2.2.2.2.2.2.2.2.2.2.2.2) (k23 s2) (lw_bs G u0 u1 u2 u3 u4 u5 u6 u7 u8 u9 u10 u11 u12 u13 u14 u15 u16 u17 u18 s2) (lw_lv b u0 u1 u2 u3 u4 u5 u6 u7 u8 u9 u10 u11 u12 u13 u14 u15 u16 u17 u18 s2) 23 []) (S1 : sk_N) (S2 : sk_N) (S3 : sk_N) (S4 : sk_N) (S5 : sk_N) (S6 : sk_N) (S7 : sk_N) (S8 : sk_N) (S9 : sk_N) (S10 : sk_N) (S11 : sk_N) (S12 : sk_N) (S13 : sk_N) (S14 : sk_N) (S15 : sk_N) (S16 : sk_N) (S17 : sk_M) (S18 : sk_O) (x4 : Int32) (hg : sk_in x4 2049 = true) : sk_S Γ (lw_Φ Γ b) (kl x4) (nl x4) (m_L_c26 L xs k23 S1 S2 S3 S4 S5 S6 S7 S8 S9 S10 S11 S12 S13 S14 S15 S16 S17 S18 x4) [(pc_W u0 (u1 0) (u3 0) (u5 0) (u7 0) (u16 0)), (nt_W G u1 (u2 0) S1), (lg_W G u2 S2), (nt_W G u3 (u4 0) S3), (lg_W G u4 S4), (nt_W G u5 (u6 0) S5), (lg_W G u6 S6), (sv_W G u7 (u8 0) (u10 0) (u12 0) (u14 0) S7), (nt_W G u8 (u9 0) S8), (lg_W G u9 S9), (nt_W G u10 (u11 0) S10), (lg_W G u11 S11), (nt_W G u12 (u13 0) S12), (lg_W G u13 S13), (nt_W G u14 (u15 0) S14), (lg_W G u15 S15), (sc_W G u16 S16), (md_W G u17 S17), (ot_W G u18 S18)] [some (.ref b), some (.ref (u0 0)), some (.ref (u17 0)), some (.ref (u18 0)), some (.int x4), none, none] 1531 [] := by
  have hk0 := lw_hk hg
  have hn0 := lw_hn hg
  unfold m_L_c26
  refine sk_aload_n (pc' := 1532) X rfl dL_law_1531 rfl ?_
  refine sk_aload_n (pc' := 1533) X rfl dL_law_1532 rfl ?_
  refine sk_iload (pc' := 1535) X rfl dL_law_1533 rfl ?_
  refine sk_iconst (pc' := 1536) X ic_1 dL_law_1535 rfl ?_
  refine sk_iadd (pc' := 1537) X dL_law_1536 rfl ?_
  refine sk_scd (pc' := 1538) X E dL_law_1537 rfl ?_
  refine sk_aload_n (pc' := 1539) X rfl dL_law_1538 rfl ?_
  refine sk_iload (pc' := 1541) X rfl dL_law_1539 rfl ?_
  refine sk_iconst (pc' := 1542) X ic_2 dL_law_1541 rfl ?_
  refine sk_iadd (pc' := 1543) X dL_law_1542 rfl ?_
  refine sk_scd (pc' := 1544) X E dL_law_1543 rfl ?_
  refine sk_if_eq (tgt := 1551) (pc' := 1547) X dL_law_1544 rfl rfl ?_ ?_
  · refine sk_iconst (pc' := 1552) X ic_0 dL_law_1551 rfl ?_
    refine sk_aload_n (pc' := 1553) X rfl dL_law_1552 rfl ?_
    refine sk_callSH (bs2 := fun r1553 => [(pc_W u0 (u1 0) (u3 0) (u5 0) (u7 0) (u16 0)), (nt_W G u1 (u2 0) S1), (lg_W G u2 S2), (nt_W G u3 (u4 0) r1553.2.2.2.1), (lg_W G u4 r1553.2.2.2.2.1), (nt_W G u5 (u6 0) r1553.2.1), (lg_W G u6 r1553.2.2.1), (sv_W G u7 (u8 0) (u10 0) (u12 0) (u14 0) S7), (nt_W G u8 (u9 0) S8), (lg_W G u9 S9), (nt_W G u10 (u11 0) S10), (lg_W G u11 S11), (nt_W G u12 (u13 0) S12), (lg_W G u13 S13), (nt_W G u14 (u15 0) S14), (lg_W G u15 S15), (sc_W G u16 S16), (md_W G u17 S17), (ot_W G u18 r1553.2.2.2.2.2)]) (st := []) (st2 := fun r1553 => [.int r1553.1]) (As := [.ref (u0 0), .int (xs ((x4 + (1 : Int32))).toNatClampNeg), .int (0 : Int32), .ref (u18 0)]) (pc' := 1556) X E (c_L_repeats l hl0 t G u0 u5 u6 u1 u2 u3 u4 u18 (u7 0) (u16 0) S5 S6 S1 S2 S3 S4 S18 (xs ((x4 + (1 : Int32))).toNatClampNeg) (0 : Int32)) lkh_RL_198 [0, 5, 6, 1, 2, 3, 4, 18] rfl (by decide) (fun _ => rfl) ⟨(Nat.le_of_ble_eq_true rfl), (Nat.le_of_ble_eq_true rfl)⟩ ⟨rfl, rfl⟩ ⟨by omega, by omega⟩ rfl (Nat.le_of_ble_eq_true rfl) rfl dL_law_1553 rfl (fun _ => rfl) (fun _ => rfl) (fun r1553 => ?_)
    refine sk_istore (lv' := [some (.ref b), some (.ref (u0 0)), some (.ref (u17 0)), some (.ref (u18 0)), some (.int x4), some (.int r1553.1), none]) (pc' := 1558) X (Nat.le_of_ble_eq_true rfl) rfl rfl dL_law_1556 rfl ?_
    refine sk_aload_n (pc' := 1559) X rfl dL_law_1558 rfl ?_
    refine sk_aload_n (pc' := 1560) X rfl dL_law_1559 rfl ?_
    refine sk_iload (pc' := 1562) X rfl dL_law_1560 rfl ?_
    refine sk_iconst (pc' := 1563) X ic_1 dL_law_1562 rfl ?_
    refine sk_iadd (pc' := 1564) X dL_law_1563 rfl ?_
    refine sk_scd (pc' := 1565) X E dL_law_1564 rfl ?_
    refine sk_aload_n (pc' := 1566) X rfl dL_law_1565 rfl ?_
    refine sk_iload (pc' := 1568) X rfl dL_law_1566 rfl ?_
    refine sk_iconst (pc' := 1569) X ic_2 dL_law_1568 rfl ?_
    refine sk_iadd (pc' := 1570) X dL_law_1569 rfl ?_
    refine sk_scd (pc' := 1571) X E dL_law_1570 rfl ?_
    refine sk_if_eq (tgt := 1578) (pc' := 1574) X dL_law_1571 rfl rfl ?_ ?_
    · refine sk_iconst (pc' := 1579) X ic_0 dL_law_1578 rfl ?_
      refine sk_callV (bs2 := fun r1579 => [(pc_W u0 (u1 0) (u3 0) (u5 0) (u7 0) (u16 0)), (nt_W G u1 (u2 0) S1), (lg_W G u2 S2), (nt_W G u3 (u4 0) r1553.2.2.2.1), (lg_W G u4 r1553.2.2.2.2.1), (nt_W G u5 (u6 0) r1553.2.1), (lg_W G u6 r1553.2.2.1), (sv_W G u7 (u8 0) (u10 0) (u12 0) (u14 0) S7), (nt_W G u8 (u9 0) S8), (lg_W G u9 S9), (nt_W G u10 (u11 0) S10), (lg_W G u11 S11), (nt_W G u12 (u13 0) S12), (lg_W G u13 S13), (nt_W G u14 (u15 0) S14), (lg_W G u15 S15), (sc_W G u16 S16), (md_W G u17 r1579.2), (ot_W G u18 r1553.2.2.2.2.2)]) (st := []) (st2 := fun r1579 => [.int r1579.1]) (As := [.int (xs ((x4 + (1 : Int32))).toNatClampNeg), .int (0 : Int32)]) (pc' := 1582) X (c_X5_repeats l G u17 S17 (xs ((x4 + (1 : Int32))).toNatClampNeg) (0 : Int32)) lk_RL_200 [17] rfl (by decide) (fun _ => rfl) rfl rfl rfl ⟨(Nat.le_of_ble_eq_true rfl), (Nat.le_of_ble_eq_true rfl)⟩ ⟨rfl, rfl⟩ ⟨by omega, by omega⟩ rfl (Nat.le_of_ble_eq_true rfl) rfl dL_law_1579 rfl (fun _ => rfl) (fun _ => rfl) (fun r1579 => ?_)
      refine sk_istore (lv' := [some (.ref b), some (.ref (u0 0)), some (.ref (u17 0)), some (.ref (u18 0)), some (.int x4), some (.int r1553.1), some (.int r1579.1)]) (pc' := 1584) X (Nat.le_of_ble_eq_true rfl) rfl rfl dL_law_1582 rfl ?_
      refine sk_aload_n (pc' := 1585) X rfl dL_law_1584 rfl ?_
      refine sk_callV (bs2 := fun r1585 => [(pc_W u0 (u1 0) (u3 0) (u5 0) (u7 0) (u16 0)), (nt_W G u1 (u2 0) S1), (lg_W G u2 S2), (nt_W G u3 (u4 0) r1553.2.2.2.1), (lg_W G u4 r1553.2.2.2.2.1), (nt_W G u5 (u6 0) r1553.2.1), (lg_W G u6 r1553.2.2.1), (sv_W G u7 (u8 0) (u10 0) (u12 0) (u14 0) S7), (nt_W G u8 (u9 0) S8), (lg_W G u9 S9), (nt_W G u10 (u11 0) S10), (lg_W G u11 S11), (nt_W G u12 (u13 0) S12), (lg_W G u13 S13), (nt_W G u14 (u15 0) S14), (lg_W G u15 S15), (sc_W G u16 S16), (md_W G u17 r1579.2), (ot_W G u18 r1553.2.2.2.2.2)]) (st := []) (st2 := fun r1585 => [.int r1585]) (As := []) (pc' := 1588) X (c_X5_thrown l G u17 r1579.2) lk_RL_109 [17] rfl (by decide) (fun _ => rfl) rfl rfl rfl ⟨(Nat.le_of_ble_eq_true rfl), (Nat.le_of_ble_eq_true rfl)⟩ ⟨rfl, rfl⟩ ⟨by omega, by omega⟩ rfl (Nat.le_of_ble_eq_true rfl) rfl dL_law_1585 rfl (fun _ => rfl) (fun _ => rfl) (fun r1585 => ?_)
      refine sk_iload (pc' := 1590) X rfl dL_law_1588 rfl ?_
      refine sk_icmp_eq (tgt := 1595) (pc' := 1593) X dL_law_1590 rfl rfl ?_ ?_
      · refine sk_iload (pc' := 1597) X rfl dL_law_1595 rfl ?_
        refine sk_if_ne (tgt := 1612) (pc' := 1600) X dL_law_1597 rfl rfl ?_ ?_
        · refine sk_goto (tgt := 2071) X dL_law_1612 rfl ?_
          refine sk_iinc (lv' := [some (.ref b), some (.ref (u0 0)), some (.ref (u17 0)), some (.ref (u18 0)), some (.int (x4 + (4 : Int32))), some (.int r1553.1), some (.int r1579.1)]) (pc' := 2074) X rfl ic_4 (Nat.le_of_ble_eq_true rfl) rfl rfl dL_law_2071 rfl ?_
          refine sk_goto (tgt := 23) X dL_law_2074 rfl ?_
          first | exact sk_widen (lw_k (lw_i4 hg) (Nat.le_of_ble_eq_true rfl)) (lw_n (lw_i4 hg) (Nat.le_of_ble_eq_true rfl)) (sk_kill 6 (sk_kill 5 (ih23 (S1, S2, r1553.2.2.2.1, r1553.2.2.2.2.1, r1553.2.1, r1553.2.2.1, S7, S8, S9, S10, S11, S12, S13, S14, S15, S16, r1579.2, r1553.2.2.2.2.2, (x4 + (4 : Int32)))))) | exact sk_widen (lw_k0 (lw_i4 hg)) (lw_n0 (lw_i4 hg)) (sk_kill 6 (sk_kill 5 (ih23 (S1, S2, r1553.2.2.2.1, r1553.2.2.2.2.1, r1553.2.1, r1553.2.2.1, S7, S8, S9, S10, S11, S12, S13, S14, S15, S16, r1579.2, r1553.2.2.2.2.2, (x4 + (4 : Int32))))))
        · refine sk_aload_n (pc' := 1601) X rfl dL_law_1600 rfl ?_
          refine sk_iconst (pc' := 1602) X ic_0 dL_law_1601 rfl ?_
          refine sk_lald (pc' := 1603) X 18 0 rfl rfl dL_law_1602 rfl ?_
          refine sk_iload (pc' := 1605) X rfl dL_law_1603 rfl ?_
          refine sk_i2l (pc' := 1606) X dL_law_1605 rfl ?_
          refine sk_lcmp (pc' := 1607) X dL_law_1606 rfl ?_
          refine sk_if_eq (tgt := 1612) (pc' := 1610) X dL_law_1607 rfl rfl ?_ ?_
          · refine sk_goto (tgt := 2071) X dL_law_1612 rfl ?_
            refine sk_iinc (lv' := [some (.ref b), some (.ref (u0 0)), some (.ref (u17 0)), some (.ref (u18 0)), some (.int (x4 + (4 : Int32))), some (.int r1553.1), some (.int r1579.1)]) (pc' := 2074) X rfl ic_4 (Nat.le_of_ble_eq_true rfl) rfl rfl dL_law_2071 rfl ?_
            refine sk_goto (tgt := 23) X dL_law_2074 rfl ?_
            first | exact sk_widen (lw_k (lw_i4 hg) (Nat.le_of_ble_eq_true rfl)) (lw_n (lw_i4 hg) (Nat.le_of_ble_eq_true rfl)) (sk_kill 6 (sk_kill 5 (ih23 (S1, S2, r1553.2.2.2.1, r1553.2.2.2.2.1, r1553.2.1, r1553.2.2.1, S7, S8, S9, S10, S11, S12, S13, S14, S15, S16, r1579.2, r1553.2.2.2.2.2, (x4 + (4 : Int32)))))) | exact sk_widen (lw_k0 (lw_i4 hg)) (lw_n0 (lw_i4 hg)) (sk_kill 6 (sk_kill 5 (ih23 (S1, S2, r1553.2.2.2.1, r1553.2.2.2.2.1, r1553.2.1, r1553.2.2.1, S7, S8, S9, S10, S11, S12, S13, S14, S15, S16, r1579.2, r1553.2.2.2.2.2, (x4 + (4 : Int32))))))
          · refine sk_iconst (pc' := 1611) X ic_0 dL_law_1610 rfl ?_
            exact sk_lfalse
      · refine sk_iconst (pc' := 1594) X ic_0 dL_law_1593 rfl ?_
        exact sk_lfalse
    · refine sk_iconst (pc' := 1575) X ic_1 dL_law_1574 rfl ?_
      refine sk_goto (tgt := 1579) X dL_law_1575 rfl ?_
      refine sk_callV (bs2 := fun r1579 => [(pc_W u0 (u1 0) (u3 0) (u5 0) (u7 0) (u16 0)), (nt_W G u1 (u2 0) S1), (lg_W G u2 S2), (nt_W G u3 (u4 0) r1553.2.2.2.1), (lg_W G u4 r1553.2.2.2.2.1), (nt_W G u5 (u6 0) r1553.2.1), (lg_W G u6 r1553.2.2.1), (sv_W G u7 (u8 0) (u10 0) (u12 0) (u14 0) S7), (nt_W G u8 (u9 0) S8), (lg_W G u9 S9), (nt_W G u10 (u11 0) S10), (lg_W G u11 S11), (nt_W G u12 (u13 0) S12), (lg_W G u13 S13), (nt_W G u14 (u15 0) S14), (lg_W G u15 S15), (sc_W G u16 S16), (md_W G u17 r1579.2), (ot_W G u18 r1553.2.2.2.2.2)]) (st := []) (st2 := fun r1579 => [.int r1579.1]) (As := [.int (xs ((x4 + (1 : Int32))).toNatClampNeg), .int (1 : Int32)]) (pc' := 1582) X (c_X5_repeats l G u17 S17 (xs ((x4 + (1 : Int32))).toNatClampNeg) (1 : Int32)) lk_RL_200 [17] rfl (by decide) (fun _ => rfl) rfl rfl rfl ⟨(Nat.le_of_ble_eq_true rfl), (Nat.le_of_ble_eq_true rfl)⟩ ⟨rfl, rfl⟩ ⟨by omega, by omega⟩ rfl (Nat.le_of_ble_eq_true rfl) rfl dL_law_1579 rfl (fun _ => rfl) (fun _ => rfl) (fun r1579 => ?_)
      refine sk_istore (lv' := [some (.ref b), some (.ref (u0 0)), some (.ref (u17 0)), some (.ref (u18 0)), some (.int x4), some (.int r1553.1), some (.int r1579.1)]) (pc' := 1584) X (Nat.le_of_ble_eq_true rfl) rfl rfl dL_law_1582 rfl ?_
      refine sk_aload_n (pc' := 1585) X rfl dL_law_1584 rfl ?_
      refine sk_callV (bs2 := fun r1585 => [(pc_W u0 (u1 0) (u3 0) (u5 0) (u7 0) (u16 0)), (nt_W G u1 (u2 0) S1), (lg_W G u2 S2), (nt_W G u3 (u4 0) r1553.2.2.2.1), (lg_W G u4 r1553.2.2.2.2.1), (nt_W G u5 (u6 0) r1553.2.1), (lg_W G u6 r1553.2.2.1), (sv_W G u7 (u8 0) (u10 0) (u12 0) (u14 0) S7), (nt_W G u8 (u9 0) S8), (lg_W G u9 S9), (nt_W G u10 (u11 0) S10), (lg_W G u11 S11), (nt_W G u12 (u13 0) S12), (lg_W G u13 S13), (nt_W G u14 (u15 0) S14), (lg_W G u15 S15), (sc_W G u16 S16), (md_W G u17 r1579.2), (ot_W G u18 r1553.2.2.2.2.2)]) (st := []) (st2 := fun r1585 => [.int r1585]) (As := []) (pc' := 1588) X (c_X5_thrown l G u17 r1579.2) lk_RL_109 [17] rfl (by decide) (fun _ => rfl) rfl rfl rfl ⟨(Nat.le_of_ble_eq_true rfl), (Nat.le_of_ble_eq_true rfl)⟩ ⟨rfl, rfl⟩ ⟨by omega, by omega⟩ rfl (Nat.le_of_ble_eq_true rfl) rfl dL_law_1585 rfl (fun _ => rfl) (fun _ => rfl) (fun r1585 => ?_)
      refine sk_iload (pc' := 1590) X rfl dL_law_1588 rfl ?_
      refine sk_icmp_eq (tgt := 1595) (pc' := 1593) X dL_law_1590 rfl rfl ?_ ?_
      · refine sk_iload (pc' := 1597) X rfl dL_law_1595 rfl ?_
        refine sk_if_ne (tgt := 1612) (pc' := 1600) X dL_law_1597 rfl rfl ?_ ?_
        · refine sk_goto (tgt := 2071) X dL_law_1612 rfl ?_
          refine sk_iinc (lv' := [some (.ref b), some (.ref (u0 0)), some (.ref (u17 0)), some (.ref (u18 0)), some (.int (x4 + (4 : Int32))), some (.int r1553.1), some (.int r1579.1)]) (pc' := 2074) X rfl ic_4 (Nat.le_of_ble_eq_true rfl) rfl rfl dL_law_2071 rfl ?_
          refine sk_goto (tgt := 23) X dL_law_2074 rfl ?_
          first | exact sk_widen (lw_k (lw_i4 hg) (Nat.le_of_ble_eq_true rfl)) (lw_n (lw_i4 hg) (Nat.le_of_ble_eq_true rfl)) (sk_kill 6 (sk_kill 5 (ih23 (S1, S2, r1553.2.2.2.1, r1553.2.2.2.2.1, r1553.2.1, r1553.2.2.1, S7, S8, S9, S10, S11, S12, S13, S14, S15, S16, r1579.2, r1553.2.2.2.2.2, (x4 + (4 : Int32)))))) | exact sk_widen (lw_k0 (lw_i4 hg)) (lw_n0 (lw_i4 hg)) (sk_kill 6 (sk_kill 5 (ih23 (S1, S2, r1553.2.2.2.1, r1553.2.2.2.2.1, r1553.2.1, r1553.2.2.1, S7, S8, S9, S10, S11, S12, S13, S14, S15, S16, r1579.2, r1553.2.2.2.2.2, (x4 + (4 : Int32))))))
        · refine sk_aload_n (pc' := 1601) X rfl dL_law_1600 rfl ?_
          refine sk_iconst (pc' := 1602) X ic_0 dL_law_1601 rfl ?_
          refine sk_lald (pc' := 1603) X 18 0 rfl rfl dL_law_1602 rfl ?_
          refine sk_iload (pc' := 1605) X rfl dL_law_1603 rfl ?_
          refine sk_i2l (pc' := 1606) X dL_law_1605 rfl ?_
          refine sk_lcmp (pc' := 1607) X dL_law_1606 rfl ?_
          refine sk_if_eq (tgt := 1612) (pc' := 1610) X dL_law_1607 rfl rfl ?_ ?_
          · refine sk_goto (tgt := 2071) X dL_law_1612 rfl ?_
            refine sk_iinc (lv' := [some (.ref b), some (.ref (u0 0)), some (.ref (u17 0)), some (.ref (u18 0)), some (.int (x4 + (4 : Int32))), some (.int r1553.1), some (.int r1579.1)]) (pc' := 2074) X rfl ic_4 (Nat.le_of_ble_eq_true rfl) rfl rfl dL_law_2071 rfl ?_
            refine sk_goto (tgt := 23) X dL_law_2074 rfl ?_
            first | exact sk_widen (lw_k (lw_i4 hg) (Nat.le_of_ble_eq_true rfl)) (lw_n (lw_i4 hg) (Nat.le_of_ble_eq_true rfl)) (sk_kill 6 (sk_kill 5 (ih23 (S1, S2, r1553.2.2.2.1, r1553.2.2.2.2.1, r1553.2.1, r1553.2.2.1, S7, S8, S9, S10, S11, S12, S13, S14, S15, S16, r1579.2, r1553.2.2.2.2.2, (x4 + (4 : Int32)))))) | exact sk_widen (lw_k0 (lw_i4 hg)) (lw_n0 (lw_i4 hg)) (sk_kill 6 (sk_kill 5 (ih23 (S1, S2, r1553.2.2.2.1, r1553.2.2.2.2.1, r1553.2.1, r1553.2.2.1, S7, S8, S9, S10, S11, S12, S13, S14, S15, S16, r1579.2, r1553.2.2.2.2.2, (x4 + (4 : Int32))))))
          · refine sk_iconst (pc' := 1611) X ic_0 dL_law_1610 rfl ?_
            exact sk_lfalse
      · refine sk_iconst (pc' := 1594) X ic_0 dL_law_1593 rfl ?_
        exact sk_lfalse
  · refine sk_iconst (pc' := 1548) X ic_1 dL_law_1547 rfl ?_
    refine sk_goto (tgt := 1552) X dL_law_1548 rfl ?_
    refine sk_aload_n (pc' := 1553) X rfl dL_law_1552 rfl ?_
    refine sk_callSH (bs2 := fun r1553 => [(pc_W u0 (u1 0) (u3 0) (u5 0) (u7 0) (u16 0)), (nt_W G u1 (u2 0) S1), (lg_W G u2 S2), (nt_W G u3 (u4 0) r1553.2.2.2.1), (lg_W G u4 r1553.2.2.2.2.1), (nt_W G u5 (u6 0) r1553.2.1), (lg_W G u6 r1553.2.2.1), (sv_W G u7 (u8 0) (u10 0) (u12 0) (u14 0) S7), (nt_W G u8 (u9 0) S8), (lg_W G u9 S9), (nt_W G u10 (u11 0) S10), (lg_W G u11 S11), (nt_W G u12 (u13 0) S12), (lg_W G u13 S13), (nt_W G u14 (u15 0) S14), (lg_W G u15 S15), (sc_W G u16 S16), (md_W G u17 S17), (ot_W G u18 r1553.2.2.2.2.2)]) (st := []) (st2 := fun r1553 => [.int r1553.1]) (As := [.ref (u0 0), .int (xs ((x4 + (1 : Int32))).toNatClampNeg), .int (1 : Int32), .ref (u18 0)]) (pc' := 1556) X E (c_L_repeats l hl0 t G u0 u5 u6 u1 u2 u3 u4 u18 (u7 0) (u16 0) S5 S6 S1 S2 S3 S4 S18 (xs ((x4 + (1 : Int32))).toNatClampNeg) (1 : Int32)) lkh_RL_198 [0, 5, 6, 1, 2, 3, 4, 18] rfl (by decide) (fun _ => rfl) ⟨(Nat.le_of_ble_eq_true rfl), (Nat.le_of_ble_eq_true rfl)⟩ ⟨rfl, rfl⟩ ⟨by omega, by omega⟩ rfl (Nat.le_of_ble_eq_true rfl) rfl dL_law_1553 rfl (fun _ => rfl) (fun _ => rfl) (fun r1553 => ?_)
    refine sk_istore (lv' := [some (.ref b), some (.ref (u0 0)), some (.ref (u17 0)), some (.ref (u18 0)), some (.int x4), some (.int r1553.1), none]) (pc' := 1558) X (Nat.le_of_ble_eq_true rfl) rfl rfl dL_law_1556 rfl ?_
    refine sk_aload_n (pc' := 1559) X rfl dL_law_1558 rfl ?_
    refine sk_aload_n (pc' := 1560) X rfl dL_law_1559 rfl ?_
    refine sk_iload (pc' := 1562) X rfl dL_law_1560 rfl ?_
    refine sk_iconst (pc' := 1563) X ic_1 dL_law_1562 rfl ?_
    refine sk_iadd (pc' := 1564) X dL_law_1563 rfl ?_
    refine sk_scd (pc' := 1565) X E dL_law_1564 rfl ?_
    refine sk_aload_n (pc' := 1566) X rfl dL_law_1565 rfl ?_
    refine sk_iload (pc' := 1568) X rfl dL_law_1566 rfl ?_
    refine sk_iconst (pc' := 1569) X ic_2 dL_law_1568 rfl ?_
    refine sk_iadd (pc' := 1570) X dL_law_1569 rfl ?_
    refine sk_scd (pc' := 1571) X E dL_law_1570 rfl ?_
    refine sk_if_eq (tgt := 1578) (pc' := 1574) X dL_law_1571 rfl rfl ?_ ?_
    · refine sk_iconst (pc' := 1579) X ic_0 dL_law_1578 rfl ?_
      refine sk_callV (bs2 := fun r1579 => [(pc_W u0 (u1 0) (u3 0) (u5 0) (u7 0) (u16 0)), (nt_W G u1 (u2 0) S1), (lg_W G u2 S2), (nt_W G u3 (u4 0) r1553.2.2.2.1), (lg_W G u4 r1553.2.2.2.2.1), (nt_W G u5 (u6 0) r1553.2.1), (lg_W G u6 r1553.2.2.1), (sv_W G u7 (u8 0) (u10 0) (u12 0) (u14 0) S7), (nt_W G u8 (u9 0) S8), (lg_W G u9 S9), (nt_W G u10 (u11 0) S10), (lg_W G u11 S11), (nt_W G u12 (u13 0) S12), (lg_W G u13 S13), (nt_W G u14 (u15 0) S14), (lg_W G u15 S15), (sc_W G u16 S16), (md_W G u17 r1579.2), (ot_W G u18 r1553.2.2.2.2.2)]) (st := []) (st2 := fun r1579 => [.int r1579.1]) (As := [.int (xs ((x4 + (1 : Int32))).toNatClampNeg), .int (0 : Int32)]) (pc' := 1582) X (c_X5_repeats l G u17 S17 (xs ((x4 + (1 : Int32))).toNatClampNeg) (0 : Int32)) lk_RL_200 [17] rfl (by decide) (fun _ => rfl) rfl rfl rfl ⟨(Nat.le_of_ble_eq_true rfl), (Nat.le_of_ble_eq_true rfl)⟩ ⟨rfl, rfl⟩ ⟨by omega, by omega⟩ rfl (Nat.le_of_ble_eq_true rfl) rfl dL_law_1579 rfl (fun _ => rfl) (fun _ => rfl) (fun r1579 => ?_)
      refine sk_istore (lv' := [some (.ref b), some (.ref (u0 0)), some (.ref (u17 0)), some (.ref (u18 0)), some (.int x4), some (.int r1553.1), some (.int r1579.1)]) (pc' := 1584) X (Nat.le_of_ble_eq_true rfl) rfl rfl dL_law_1582 rfl ?_
      refine sk_aload_n (pc' := 1585) X rfl dL_law_1584 rfl ?_
      refine sk_callV (bs2 := fun r1585 => [(pc_W u0 (u1 0) (u3 0) (u5 0) (u7 0) (u16 0)), (nt_W G u1 (u2 0) S1), (lg_W G u2 S2), (nt_W G u3 (u4 0) r1553.2.2.2.1), (lg_W G u4 r1553.2.2.2.2.1), (nt_W G u5 (u6 0) r1553.2.1), (lg_W G u6 r1553.2.2.1), (sv_W G u7 (u8 0) (u10 0) (u12 0) (u14 0) S7), (nt_W G u8 (u9 0) S8), (lg_W G u9 S9), (nt_W G u10 (u11 0) S10), (lg_W G u11 S11), (nt_W G u12 (u13 0) S12), (lg_W G u13 S13), (nt_W G u14 (u15 0) S14), (lg_W G u15 S15), (sc_W G u16 S16), (md_W G u17 r1579.2), (ot_W G u18 r1553.2.2.2.2.2)]) (st := []) (st2 := fun r1585 => [.int r1585]) (As := []) (pc' := 1588) X (c_X5_thrown l G u17 r1579.2) lk_RL_109 [17] rfl (by decide) (fun _ => rfl) rfl rfl rfl ⟨(Nat.le_of_ble_eq_true rfl), (Nat.le_of_ble_eq_true rfl)⟩ ⟨rfl, rfl⟩ ⟨by omega, by omega⟩ rfl (Nat.le_of_ble_eq_true rfl) rfl dL_law_1585 rfl (fun _ => rfl) (fun _ => rfl) (fun r1585 => ?_)
      refine sk_iload (pc' := 1590) X rfl dL_law_1588 rfl ?_
      refine sk_icmp_eq (tgt := 1595) (pc' := 1593) X dL_law_1590 rfl rfl ?_ ?_
      · refine sk_iload (pc' := 1597) X rfl dL_law_1595 rfl ?_
        refine sk_if_ne (tgt := 1612) (pc' := 1600) X dL_law_1597 rfl rfl ?_ ?_
        · refine sk_goto (tgt := 2071) X dL_law_1612 rfl ?_
          refine sk_iinc (lv' := [some (.ref b), some (.ref (u0 0)), some (.ref (u17 0)), some (.ref (u18 0)), some (.int (x4 + (4 : Int32))), some (.int r1553.1), some (.int r1579.1)]) (pc' := 2074) X rfl ic_4 (Nat.le_of_ble_eq_true rfl) rfl rfl dL_law_2071 rfl ?_
          refine sk_goto (tgt := 23) X dL_law_2074 rfl ?_
          first | exact sk_widen (lw_k (lw_i4 hg) (Nat.le_of_ble_eq_true rfl)) (lw_n (lw_i4 hg) (Nat.le_of_ble_eq_true rfl)) (sk_kill 6 (sk_kill 5 (ih23 (S1, S2, r1553.2.2.2.1, r1553.2.2.2.2.1, r1553.2.1, r1553.2.2.1, S7, S8, S9, S10, S11, S12, S13, S14, S15, S16, r1579.2, r1553.2.2.2.2.2, (x4 + (4 : Int32)))))) | exact sk_widen (lw_k0 (lw_i4 hg)) (lw_n0 (lw_i4 hg)) (sk_kill 6 (sk_kill 5 (ih23 (S1, S2, r1553.2.2.2.1, r1553.2.2.2.2.1, r1553.2.1, r1553.2.2.1, S7, S8, S9, S10, S11, S12, S13, S14, S15, S16, r1579.2, r1553.2.2.2.2.2, (x4 + (4 : Int32))))))
        · refine sk_aload_n (pc' := 1601) X rfl dL_law_1600 rfl ?_
          refine sk_iconst (pc' := 1602) X ic_0 dL_law_1601 rfl ?_
          refine sk_lald (pc' := 1603) X 18 0 rfl rfl dL_law_1602 rfl ?_
          refine sk_iload (pc' := 1605) X rfl dL_law_1603 rfl ?_
          refine sk_i2l (pc' := 1606) X dL_law_1605 rfl ?_
          refine sk_lcmp (pc' := 1607) X dL_law_1606 rfl ?_
          refine sk_if_eq (tgt := 1612) (pc' := 1610) X dL_law_1607 rfl rfl ?_ ?_
          · refine sk_goto (tgt := 2071) X dL_law_1612 rfl ?_
            refine sk_iinc (lv' := [some (.ref b), some (.ref (u0 0)), some (.ref (u17 0)), some (.ref (u18 0)), some (.int (x4 + (4 : Int32))), some (.int r1553.1), some (.int r1579.1)]) (pc' := 2074) X rfl ic_4 (Nat.le_of_ble_eq_true rfl) rfl rfl dL_law_2071 rfl ?_
            refine sk_goto (tgt := 23) X dL_law_2074 rfl ?_
            first | exact sk_widen (lw_k (lw_i4 hg) (Nat.le_of_ble_eq_true rfl)) (lw_n (lw_i4 hg) (Nat.le_of_ble_eq_true rfl)) (sk_kill 6 (sk_kill 5 (ih23 (S1, S2, r1553.2.2.2.1, r1553.2.2.2.2.1, r1553.2.1, r1553.2.2.1, S7, S8, S9, S10, S11, S12, S13, S14, S15, S16, r1579.2, r1553.2.2.2.2.2, (x4 + (4 : Int32)))))) | exact sk_widen (lw_k0 (lw_i4 hg)) (lw_n0 (lw_i4 hg)) (sk_kill 6 (sk_kill 5 (ih23 (S1, S2, r1553.2.2.2.1, r1553.2.2.2.2.1, r1553.2.1, r1553.2.2.1, S7, S8, S9, S10, S11, S12, S13, S14, S15, S16, r1579.2, r1553.2.2.2.2.2, (x4 + (4 : Int32))))))
          · refine sk_iconst (pc' := 1611) X ic_0 dL_law_1610 rfl ?_
            exact sk_lfalse
      · refine sk_iconst (pc' := 1594) X ic_0 dL_law_1593 rfl ?_
        exact sk_lfalse
    · refine sk_iconst (pc' := 1575) X ic_1 dL_law_1574 rfl ?_
      refine sk_goto (tgt := 1579) X dL_law_1575 rfl ?_
      refine sk_callV (bs2 := fun r1579 => [(pc_W u0 (u1 0) (u3 0) (u5 0) (u7 0) (u16 0)), (nt_W G u1 (u2 0) S1), (lg_W G u2 S2), (nt_W G u3 (u4 0) r1553.2.2.2.1), (lg_W G u4 r1553.2.2.2.2.1), (nt_W G u5 (u6 0) r1553.2.1), (lg_W G u6 r1553.2.2.1), (sv_W G u7 (u8 0) (u10 0) (u12 0) (u14 0) S7), (nt_W G u8 (u9 0) S8), (lg_W G u9 S9), (nt_W G u10 (u11 0) S10), (lg_W G u11 S11), (nt_W G u12 (u13 0) S12), (lg_W G u13 S13), (nt_W G u14 (u15 0) S14), (lg_W G u15 S15), (sc_W G u16 S16), (md_W G u17 r1579.2), (ot_W G u18 r1553.2.2.2.2.2)]) (st := []) (st2 := fun r1579 => [.int r1579.1]) (As := [.int (xs ((x4 + (1 : Int32))).toNatClampNeg), .int (1 : Int32)]) (pc' := 1582) X (c_X5_repeats l G u17 S17 (xs ((x4 + (1 : Int32))).toNatClampNeg) (1 : Int32)) lk_RL_200 [17] rfl (by decide) (fun _ => rfl) rfl rfl rfl ⟨(Nat.le_of_ble_eq_true rfl), (Nat.le_of_ble_eq_true rfl)⟩ ⟨rfl, rfl⟩ ⟨by omega, by omega⟩ rfl (Nat.le_of_ble_eq_true rfl) rfl dL_law_1579 rfl (fun _ => rfl) (fun _ => rfl) (fun r1579 => ?_)
      refine sk_istore (lv' := [some (.ref b), some (.ref (u0 0)), some (.ref (u17 0)), some (.ref (u18 0)), some (.int x4), some (.int r1553.1), some (.int r1579.1)]) (pc' := 1584) X (Nat.le_of_ble_eq_true rfl) rfl rfl dL_law_1582 rfl ?_
      refine sk_aload_n (pc' := 1585) X rfl dL_law_1584 rfl ?_
      refine sk_callV (bs2 := fun r1585 => [(pc_W u0 (u1 0) (u3 0) (u5 0) (u7 0) (u16 0)), (nt_W G u1 (u2 0) S1), (lg_W G u2 S2), (nt_W G u3 (u4 0) r1553.2.2.2.1), (lg_W G u4 r1553.2.2.2.2.1), (nt_W G u5 (u6 0) r1553.2.1), (lg_W G u6 r1553.2.2.1), (sv_W G u7 (u8 0) (u10 0) (u12 0) (u14 0) S7), (nt_W G u8 (u9 0) S8), (lg_W G u9 S9), (nt_W G u10 (u11 0) S10), (lg_W G u11 S11), (nt_W G u12 (u13 0) S12), (lg_W G u13 S13), (nt_W G u14 (u15 0) S14), (lg_W G u15 S15), (sc_W G u16 S16), (md_W G u17 r1579.2), (ot_W G u18 r1553.2.2.2.2.2)]) (st := []) (st2 := fun r1585 => [.int r1585]) (As := []) (pc' := 1588) X (c_X5_thrown l G u17 r1579.2) lk_RL_109 [17] rfl (by decide) (fun _ => rfl) rfl rfl rfl ⟨(Nat.le_of_ble_eq_true rfl), (Nat.le_of_ble_eq_true rfl)⟩ ⟨rfl, rfl⟩ ⟨by omega, by omega⟩ rfl (Nat.le_of_ble_eq_true rfl) rfl dL_law_1585 rfl (fun _ => rfl) (fun _ => rfl) (fun r1585 => ?_)
      refine sk_iload (pc' := 1590) X rfl dL_law_1588 rfl ?_
      refine sk_icmp_eq (tgt := 1595) (pc' := 1593) X dL_law_1590 rfl rfl ?_ ?_
      · refine sk_iload (pc' := 1597) X rfl dL_law_1595 rfl ?_
        refine sk_if_ne (tgt := 1612) (pc' := 1600) X dL_law_1597 rfl rfl ?_ ?_
        · refine sk_goto (tgt := 2071) X dL_law_1612 rfl ?_
          refine sk_iinc (lv' := [some (.ref b), some (.ref (u0 0)), some (.ref (u17 0)), some (.ref (u18 0)), some (.int (x4 + (4 : Int32))), some (.int r1553.1), some (.int r1579.1)]) (pc' := 2074) X rfl ic_4 (Nat.le_of_ble_eq_true rfl) rfl rfl dL_law_2071 rfl ?_
          refine sk_goto (tgt := 23) X dL_law_2074 rfl ?_
          first | exact sk_widen (lw_k (lw_i4 hg) (Nat.le_of_ble_eq_true rfl)) (lw_n (lw_i4 hg) (Nat.le_of_ble_eq_true rfl)) (sk_kill 6 (sk_kill 5 (ih23 (S1, S2, r1553.2.2.2.1, r1553.2.2.2.2.1, r1553.2.1, r1553.2.2.1, S7, S8, S9, S10, S11, S12, S13, S14, S15, S16, r1579.2, r1553.2.2.2.2.2, (x4 + (4 : Int32)))))) | exact sk_widen (lw_k0 (lw_i4 hg)) (lw_n0 (lw_i4 hg)) (sk_kill 6 (sk_kill 5 (ih23 (S1, S2, r1553.2.2.2.1, r1553.2.2.2.2.1, r1553.2.1, r1553.2.2.1, S7, S8, S9, S10, S11, S12, S13, S14, S15, S16, r1579.2, r1553.2.2.2.2.2, (x4 + (4 : Int32))))))
        · refine sk_aload_n (pc' := 1601) X rfl dL_law_1600 rfl ?_
          refine sk_iconst (pc' := 1602) X ic_0 dL_law_1601 rfl ?_
          refine sk_lald (pc' := 1603) X 18 0 rfl rfl dL_law_1602 rfl ?_
          refine sk_iload (pc' := 1605) X rfl dL_law_1603 rfl ?_
          refine sk_i2l (pc' := 1606) X dL_law_1605 rfl ?_
          refine sk_lcmp (pc' := 1607) X dL_law_1606 rfl ?_
          refine sk_if_eq (tgt := 1612) (pc' := 1610) X dL_law_1607 rfl rfl ?_ ?_
          · refine sk_goto (tgt := 2071) X dL_law_1612 rfl ?_
            refine sk_iinc (lv' := [some (.ref b), some (.ref (u0 0)), some (.ref (u17 0)), some (.ref (u18 0)), some (.int (x4 + (4 : Int32))), some (.int r1553.1), some (.int r1579.1)]) (pc' := 2074) X rfl ic_4 (Nat.le_of_ble_eq_true rfl) rfl rfl dL_law_2071 rfl ?_
            refine sk_goto (tgt := 23) X dL_law_2074 rfl ?_
            first | exact sk_widen (lw_k (lw_i4 hg) (Nat.le_of_ble_eq_true rfl)) (lw_n (lw_i4 hg) (Nat.le_of_ble_eq_true rfl)) (sk_kill 6 (sk_kill 5 (ih23 (S1, S2, r1553.2.2.2.1, r1553.2.2.2.2.1, r1553.2.1, r1553.2.2.1, S7, S8, S9, S10, S11, S12, S13, S14, S15, S16, r1579.2, r1553.2.2.2.2.2, (x4 + (4 : Int32)))))) | exact sk_widen (lw_k0 (lw_i4 hg)) (lw_n0 (lw_i4 hg)) (sk_kill 6 (sk_kill 5 (ih23 (S1, S2, r1553.2.2.2.1, r1553.2.2.2.2.1, r1553.2.1, r1553.2.2.1, S7, S8, S9, S10, S11, S12, S13, S14, S15, S16, r1579.2, r1553.2.2.2.2.2, (x4 + (4 : Int32))))))
          · refine sk_iconst (pc' := 1611) X ic_0 dL_law_1610 rfl ?_
            exact sk_lfalse
      · refine sk_iconst (pc' := 1594) X ic_0 dL_law_1593 rfl ?_
        exact sk_lfalse
set_option maxHeartbeats 4000000 in
set_option maxRecDepth 100000 in
theorem lc_27 {Γ : sk_K} {l : Launch} (hl0 : l.stackTraces = false) {G : sk_G} {t b L : Nat} {xs : Nat → Int32} (X : sk_X Γ l G room_1 7 RL code ret) (E : sk_EL Γ t b L xs) (u0 u1 u2 u3 u4 u5 u6 u7 u8 u9 u10 u11 u12 u13 u14 u15 u16 u17 u18 : Nat → Nat) (k23 : lw_σ → Option Int32) (ih23 : ∀ s2 : lw_σ, sk_S Γ (lw_Φ Γ b) (kl s2.2.2.2.2.2.2.2.2.2.2.2.2.2.2.2.2.2.2) (nl s2.2.2.2.2.2.2.2.2.2.2.2.2.2.2.2.2.2.2) (k23 s2) (lw_bs G u0 u1 u2 u3 u4 u5 u6 u7 u8 u9 u10 u11 u12 u13 u14 u15 u16 u17 u18 s2) (lw_lv b u0 u1 u2 u3 u4 u5 u6 u7 u8 u9 u10 u11 u12 u13 u14 u15 u16 u17 u18 s2) 23 []) (S1 : sk_N) (S2 : sk_N) (S3 : sk_N) (S4 : sk_N) (S5 : sk_N) (S6 : sk_N) (S7 : sk_N) (S8 : sk_N) (S9 : sk_N) (S10 : sk_N) (S11 : sk_N) (S12 : sk_N) (S13 : sk_N) (S14 : sk_N) (S15 : sk_N) (S16 : sk_N) (S17 : sk_M) (S18 : sk_O) (x4 : Int32) (hg : sk_in x4 2049 = true) : sk_S Γ (lw_Φ Γ b) (kl x4) (nl x4) (m_L_c27 L xs k23 S1 S2 S3 S4 S5 S6 S7 S8 S9 S10 S11 S12 S13 S14 S15 S16 S17 S18 x4) [(pc_W u0 (u1 0) (u3 0) (u5 0) (u7 0) (u16 0)), (nt_W G u1 (u2 0) S1), (lg_W G u2 S2), (nt_W G u3 (u4 0) S3), (lg_W G u4 S4), (nt_W G u5 (u6 0) S5), (lg_W G u6 S6), (sv_W G u7 (u8 0) (u10 0) (u12 0) (u14 0) S7), (nt_W G u8 (u9 0) S8), (lg_W G u9 S9), (nt_W G u10 (u11 0) S10), (lg_W G u11 S11), (nt_W G u12 (u13 0) S12), (lg_W G u13 S13), (nt_W G u14 (u15 0) S14), (lg_W G u15 S15), (sc_W G u16 S16), (md_W G u17 S17), (ot_W G u18 S18)] [some (.ref b), some (.ref (u0 0)), some (.ref (u17 0)), some (.ref (u18 0)), some (.int x4), none, none] 1615 [] := by
  have hk0 := lw_hk hg
  have hn0 := lw_hn hg
  unfold m_L_c27
  refine sk_aload_n (pc' := 1616) X rfl dL_law_1615 rfl ?_
  refine sk_aload_n (pc' := 1617) X rfl dL_law_1616 rfl ?_
  refine sk_iload (pc' := 1619) X rfl dL_law_1617 rfl ?_
  refine sk_iconst (pc' := 1620) X ic_1 dL_law_1619 rfl ?_
  refine sk_iadd (pc' := 1621) X dL_law_1620 rfl ?_
  refine sk_scd (pc' := 1622) X E dL_law_1621 rfl ?_
  refine sk_aload_n (pc' := 1623) X rfl dL_law_1622 rfl ?_
  refine sk_callSH (bs2 := fun r1623 => [(pc_W u0 (u1 0) (u3 0) (u5 0) (u7 0) (u16 0)), (nt_W G u1 (u2 0) S1), (lg_W G u2 S2), (nt_W G u3 (u4 0) r1623.2.1), (lg_W G u4 r1623.2.2.1), (nt_W G u5 (u6 0) S5), (lg_W G u6 S6), (sv_W G u7 (u8 0) (u10 0) (u12 0) (u14 0) S7), (nt_W G u8 (u9 0) S8), (lg_W G u9 S9), (nt_W G u10 (u11 0) S10), (lg_W G u11 S11), (nt_W G u12 (u13 0) S12), (lg_W G u13 S13), (nt_W G u14 (u15 0) S14), (lg_W G u15 S15), (sc_W G u16 S16), (md_W G u17 S17), (ot_W G u18 r1623.2.2.2)]) (st := []) (st2 := fun r1623 => [.int r1623.1]) (As := [.ref (u0 0), .int (xs ((x4 + (1 : Int32))).toNatClampNeg), .ref (u18 0)]) (pc' := 1626) X E (c_L_leastStrength l hl0 t G u0 u1 u2 u3 u4 u18 (u5 0) (u7 0) (u16 0) S1 S2 S3 S4 S18 (xs ((x4 + (1 : Int32))).toNatClampNeg)) lkh_RL_201 [0, 1, 2, 3, 4, 18] rfl (by decide) (fun _ => rfl) ⟨(Nat.le_of_ble_eq_true rfl), (Nat.le_of_ble_eq_true rfl)⟩ ⟨rfl, rfl⟩ ⟨by omega, by omega⟩ rfl (Nat.le_of_ble_eq_true rfl) rfl dL_law_1623 rfl (fun _ => rfl) (fun _ => rfl) (fun r1623 => ?_)
  refine sk_istore (lv' := [some (.ref b), some (.ref (u0 0)), some (.ref (u17 0)), some (.ref (u18 0)), some (.int x4), some (.int r1623.1), none]) (pc' := 1628) X (Nat.le_of_ble_eq_true rfl) rfl rfl dL_law_1626 rfl ?_
  refine sk_aload_n (pc' := 1629) X rfl dL_law_1628 rfl ?_
  refine sk_aload_n (pc' := 1630) X rfl dL_law_1629 rfl ?_
  refine sk_iload (pc' := 1632) X rfl dL_law_1630 rfl ?_
  refine sk_iconst (pc' := 1633) X ic_1 dL_law_1632 rfl ?_
  refine sk_iadd (pc' := 1634) X dL_law_1633 rfl ?_
  refine sk_scd (pc' := 1635) X E dL_law_1634 rfl ?_
  refine sk_callV (bs2 := fun r1635 => [(pc_W u0 (u1 0) (u3 0) (u5 0) (u7 0) (u16 0)), (nt_W G u1 (u2 0) S1), (lg_W G u2 S2), (nt_W G u3 (u4 0) r1623.2.1), (lg_W G u4 r1623.2.2.1), (nt_W G u5 (u6 0) S5), (lg_W G u6 S6), (sv_W G u7 (u8 0) (u10 0) (u12 0) (u14 0) S7), (nt_W G u8 (u9 0) S8), (lg_W G u9 S9), (nt_W G u10 (u11 0) S10), (lg_W G u11 S11), (nt_W G u12 (u13 0) S12), (lg_W G u13 S13), (nt_W G u14 (u15 0) S14), (lg_W G u15 S15), (sc_W G u16 S16), (md_W G u17 r1635.2), (ot_W G u18 r1623.2.2.2)]) (st := []) (st2 := fun r1635 => [.int r1635.1]) (As := [.int (xs ((x4 + (1 : Int32))).toNatClampNeg)]) (pc' := 1638) X (c_X5_leastStrength l G u17 S17 (xs ((x4 + (1 : Int32))).toNatClampNeg)) lk_RL_203 [17] rfl (by decide) (fun _ => rfl) rfl rfl rfl ⟨(Nat.le_of_ble_eq_true rfl), (Nat.le_of_ble_eq_true rfl)⟩ ⟨rfl, rfl⟩ ⟨by omega, by omega⟩ rfl (Nat.le_of_ble_eq_true rfl) rfl dL_law_1635 rfl (fun _ => rfl) (fun _ => rfl) (fun r1635 => ?_)
  refine sk_istore (lv' := [some (.ref b), some (.ref (u0 0)), some (.ref (u17 0)), some (.ref (u18 0)), some (.int x4), some (.int r1623.1), some (.int r1635.1)]) (pc' := 1640) X (Nat.le_of_ble_eq_true rfl) rfl rfl dL_law_1638 rfl ?_
  refine sk_aload_n (pc' := 1641) X rfl dL_law_1640 rfl ?_
  refine sk_callV (bs2 := fun r1641 => [(pc_W u0 (u1 0) (u3 0) (u5 0) (u7 0) (u16 0)), (nt_W G u1 (u2 0) S1), (lg_W G u2 S2), (nt_W G u3 (u4 0) r1623.2.1), (lg_W G u4 r1623.2.2.1), (nt_W G u5 (u6 0) S5), (lg_W G u6 S6), (sv_W G u7 (u8 0) (u10 0) (u12 0) (u14 0) S7), (nt_W G u8 (u9 0) S8), (lg_W G u9 S9), (nt_W G u10 (u11 0) S10), (lg_W G u11 S11), (nt_W G u12 (u13 0) S12), (lg_W G u13 S13), (nt_W G u14 (u15 0) S14), (lg_W G u15 S15), (sc_W G u16 S16), (md_W G u17 r1635.2), (ot_W G u18 r1623.2.2.2)]) (st := []) (st2 := fun r1641 => [.int r1641]) (As := []) (pc' := 1644) X (c_X5_thrown l G u17 r1635.2) lk_RL_109 [17] rfl (by decide) (fun _ => rfl) rfl rfl rfl ⟨(Nat.le_of_ble_eq_true rfl), (Nat.le_of_ble_eq_true rfl)⟩ ⟨rfl, rfl⟩ ⟨by omega, by omega⟩ rfl (Nat.le_of_ble_eq_true rfl) rfl dL_law_1641 rfl (fun _ => rfl) (fun _ => rfl) (fun r1641 => ?_)
  refine sk_iload (pc' := 1646) X rfl dL_law_1644 rfl ?_
  refine sk_icmp_eq (tgt := 1651) (pc' := 1649) X dL_law_1646 rfl rfl ?_ ?_
  · refine sk_iload (pc' := 1653) X rfl dL_law_1651 rfl ?_
    refine sk_if_ne (tgt := 1668) (pc' := 1656) X dL_law_1653 rfl rfl ?_ ?_
    · refine sk_goto (tgt := 2071) X dL_law_1668 rfl ?_
      refine sk_iinc (lv' := [some (.ref b), some (.ref (u0 0)), some (.ref (u17 0)), some (.ref (u18 0)), some (.int (x4 + (4 : Int32))), some (.int r1623.1), some (.int r1635.1)]) (pc' := 2074) X rfl ic_4 (Nat.le_of_ble_eq_true rfl) rfl rfl dL_law_2071 rfl ?_
      refine sk_goto (tgt := 23) X dL_law_2074 rfl ?_
      first | exact sk_widen (lw_k (lw_i4 hg) (Nat.le_of_ble_eq_true rfl)) (lw_n (lw_i4 hg) (Nat.le_of_ble_eq_true rfl)) (sk_kill 6 (sk_kill 5 (ih23 (S1, S2, r1623.2.1, r1623.2.2.1, S5, S6, S7, S8, S9, S10, S11, S12, S13, S14, S15, S16, r1635.2, r1623.2.2.2, (x4 + (4 : Int32)))))) | exact sk_widen (lw_k0 (lw_i4 hg)) (lw_n0 (lw_i4 hg)) (sk_kill 6 (sk_kill 5 (ih23 (S1, S2, r1623.2.1, r1623.2.2.1, S5, S6, S7, S8, S9, S10, S11, S12, S13, S14, S15, S16, r1635.2, r1623.2.2.2, (x4 + (4 : Int32))))))
    · refine sk_aload_n (pc' := 1657) X rfl dL_law_1656 rfl ?_
      refine sk_iconst (pc' := 1658) X ic_0 dL_law_1657 rfl ?_
      refine sk_lald (pc' := 1659) X 18 0 rfl rfl dL_law_1658 rfl ?_
      refine sk_iload (pc' := 1661) X rfl dL_law_1659 rfl ?_
      refine sk_i2l (pc' := 1662) X dL_law_1661 rfl ?_
      refine sk_lcmp (pc' := 1663) X dL_law_1662 rfl ?_
      refine sk_if_eq (tgt := 1668) (pc' := 1666) X dL_law_1663 rfl rfl ?_ ?_
      · refine sk_goto (tgt := 2071) X dL_law_1668 rfl ?_
        refine sk_iinc (lv' := [some (.ref b), some (.ref (u0 0)), some (.ref (u17 0)), some (.ref (u18 0)), some (.int (x4 + (4 : Int32))), some (.int r1623.1), some (.int r1635.1)]) (pc' := 2074) X rfl ic_4 (Nat.le_of_ble_eq_true rfl) rfl rfl dL_law_2071 rfl ?_
        refine sk_goto (tgt := 23) X dL_law_2074 rfl ?_
        first | exact sk_widen (lw_k (lw_i4 hg) (Nat.le_of_ble_eq_true rfl)) (lw_n (lw_i4 hg) (Nat.le_of_ble_eq_true rfl)) (sk_kill 6 (sk_kill 5 (ih23 (S1, S2, r1623.2.1, r1623.2.2.1, S5, S6, S7, S8, S9, S10, S11, S12, S13, S14, S15, S16, r1635.2, r1623.2.2.2, (x4 + (4 : Int32)))))) | exact sk_widen (lw_k0 (lw_i4 hg)) (lw_n0 (lw_i4 hg)) (sk_kill 6 (sk_kill 5 (ih23 (S1, S2, r1623.2.1, r1623.2.2.1, S5, S6, S7, S8, S9, S10, S11, S12, S13, S14, S15, S16, r1635.2, r1623.2.2.2, (x4 + (4 : Int32))))))
      · refine sk_iconst (pc' := 1667) X ic_0 dL_law_1666 rfl ?_
        exact sk_lfalse
  · refine sk_iconst (pc' := 1650) X ic_0 dL_law_1649 rfl ?_
    exact sk_lfalse
set_option maxHeartbeats 4000000 in
set_option maxRecDepth 100000 in
theorem lc_28 {Γ : sk_K} {l : Launch} (hl0 : l.stackTraces = false) {G : sk_G} {t b L : Nat} {xs : Nat → Int32} (X : sk_X Γ l G room_1 7 RL code ret) (E : sk_EL Γ t b L xs) (u0 u1 u2 u3 u4 u5 u6 u7 u8 u9 u10 u11 u12 u13 u14 u15 u16 u17 u18 : Nat → Nat) (k23 : lw_σ → Option Int32) (ih23 : ∀ s2 : lw_σ, sk_S Γ (lw_Φ Γ b) (kl s2.2.2.2.2.2.2.2.2.2.2.2.2.2.2.2.2.2.2) (nl s2.2.2.2.2.2.2.2.2.2.2.2.2.2.2.2.2.2.2) (k23 s2) (lw_bs G u0 u1 u2 u3 u4 u5 u6 u7 u8 u9 u10 u11 u12 u13 u14 u15 u16 u17 u18 s2) (lw_lv b u0 u1 u2 u3 u4 u5 u6 u7 u8 u9 u10 u11 u12 u13 u14 u15 u16 u17 u18 s2) 23 []) (S1 : sk_N) (S2 : sk_N) (S3 : sk_N) (S4 : sk_N) (S5 : sk_N) (S6 : sk_N) (S7 : sk_N) (S8 : sk_N) (S9 : sk_N) (S10 : sk_N) (S11 : sk_N) (S12 : sk_N) (S13 : sk_N) (S14 : sk_N) (S15 : sk_N) (S16 : sk_N) (S17 : sk_M) (S18 : sk_O) (x4 : Int32) (hg : sk_in x4 2049 = true) : sk_S Γ (lw_Φ Γ b) (kl x4) (nl x4) (m_L_c28 L xs k23 S1 S2 S3 S4 S5 S6 S7 S8 S9 S10 S11 S12 S13 S14 S15 S16 S17 S18 x4) [(pc_W u0 (u1 0) (u3 0) (u5 0) (u7 0) (u16 0)), (nt_W G u1 (u2 0) S1), (lg_W G u2 S2), (nt_W G u3 (u4 0) S3), (lg_W G u4 S4), (nt_W G u5 (u6 0) S5), (lg_W G u6 S6), (sv_W G u7 (u8 0) (u10 0) (u12 0) (u14 0) S7), (nt_W G u8 (u9 0) S8), (lg_W G u9 S9), (nt_W G u10 (u11 0) S10), (lg_W G u11 S11), (nt_W G u12 (u13 0) S12), (lg_W G u13 S13), (nt_W G u14 (u15 0) S14), (lg_W G u15 S15), (sc_W G u16 S16), (md_W G u17 S17), (ot_W G u18 S18)] [some (.ref b), some (.ref (u0 0)), some (.ref (u17 0)), some (.ref (u18 0)), some (.int x4), none, none] 1671 [] := by
  have hk0 := lw_hk hg
  have hn0 := lw_hn hg
  unfold m_L_c28
  refine sk_aload_n (pc' := 1672) X rfl dL_law_1671 rfl ?_
  refine sk_aload_n (pc' := 1673) X rfl dL_law_1672 rfl ?_
  refine sk_iload (pc' := 1675) X rfl dL_law_1673 rfl ?_
  refine sk_iconst (pc' := 1676) X ic_1 dL_law_1675 rfl ?_
  refine sk_iadd (pc' := 1677) X dL_law_1676 rfl ?_
  refine sk_scd (pc' := 1678) X E dL_law_1677 rfl ?_
  refine sk_aload_n (pc' := 1679) X rfl dL_law_1678 rfl ?_
  refine sk_iload (pc' := 1681) X rfl dL_law_1679 rfl ?_
  refine sk_iconst (pc' := 1682) X ic_2 dL_law_1681 rfl ?_
  refine sk_iadd (pc' := 1683) X dL_law_1682 rfl ?_
  refine sk_scd (pc' := 1684) X E dL_law_1683 rfl ?_
  refine sk_aload_n (pc' := 1685) X rfl dL_law_1684 rfl ?_
  refine sk_callSH (bs2 := fun r1685 => [(pc_W u0 (u1 0) (u3 0) (u5 0) (u7 0) (u16 0)), (nt_W G u1 (u2 0) S1), (lg_W G u2 S2), (nt_W G u3 (u4 0) r1685.2.1), (lg_W G u4 r1685.2.2.1), (nt_W G u5 (u6 0) S5), (lg_W G u6 S6), (sv_W G u7 (u8 0) (u10 0) (u12 0) (u14 0) S7), (nt_W G u8 (u9 0) S8), (lg_W G u9 S9), (nt_W G u10 (u11 0) S10), (lg_W G u11 S11), (nt_W G u12 (u13 0) S12), (lg_W G u13 S13), (nt_W G u14 (u15 0) S14), (lg_W G u15 S15), (sc_W G u16 S16), (md_W G u17 S17), (ot_W G u18 r1685.2.2.2)]) (st := []) (st2 := fun r1685 => [.int r1685.1]) (As := [.ref (u0 0), .int (xs ((x4 + (1 : Int32))).toNatClampNeg), .int (xs ((x4 + (2 : Int32))).toNatClampNeg), .ref (u18 0)]) (pc' := 1688) X E (c_L_basin l hl0 t G u0 u1 u2 u3 u4 u18 (u5 0) (u7 0) (u16 0) S1 S2 S3 S4 S18 (xs ((x4 + (1 : Int32))).toNatClampNeg) (xs ((x4 + (2 : Int32))).toNatClampNeg)) lkh_RL_204 [0, 1, 2, 3, 4, 18] rfl (by decide) (fun _ => rfl) ⟨(Nat.le_of_ble_eq_true rfl), (Nat.le_of_ble_eq_true rfl)⟩ ⟨rfl, rfl⟩ ⟨by omega, by omega⟩ rfl (Nat.le_of_ble_eq_true rfl) rfl dL_law_1685 rfl (fun _ => rfl) (fun _ => rfl) (fun r1685 => ?_)
  refine sk_istore (lv' := [some (.ref b), some (.ref (u0 0)), some (.ref (u17 0)), some (.ref (u18 0)), some (.int x4), some (.int r1685.1), none]) (pc' := 1690) X (Nat.le_of_ble_eq_true rfl) rfl rfl dL_law_1688 rfl ?_
  refine sk_aload_n (pc' := 1691) X rfl dL_law_1690 rfl ?_
  refine sk_aload_n (pc' := 1692) X rfl dL_law_1691 rfl ?_
  refine sk_iload (pc' := 1694) X rfl dL_law_1692 rfl ?_
  refine sk_iconst (pc' := 1695) X ic_1 dL_law_1694 rfl ?_
  refine sk_iadd (pc' := 1696) X dL_law_1695 rfl ?_
  refine sk_scd (pc' := 1697) X E dL_law_1696 rfl ?_
  refine sk_aload_n (pc' := 1698) X rfl dL_law_1697 rfl ?_
  refine sk_iload (pc' := 1700) X rfl dL_law_1698 rfl ?_
  refine sk_iconst (pc' := 1701) X ic_2 dL_law_1700 rfl ?_
  refine sk_iadd (pc' := 1702) X dL_law_1701 rfl ?_
  refine sk_scd (pc' := 1703) X E dL_law_1702 rfl ?_
  refine sk_callV (bs2 := fun r1703 => [(pc_W u0 (u1 0) (u3 0) (u5 0) (u7 0) (u16 0)), (nt_W G u1 (u2 0) S1), (lg_W G u2 S2), (nt_W G u3 (u4 0) r1685.2.1), (lg_W G u4 r1685.2.2.1), (nt_W G u5 (u6 0) S5), (lg_W G u6 S6), (sv_W G u7 (u8 0) (u10 0) (u12 0) (u14 0) S7), (nt_W G u8 (u9 0) S8), (lg_W G u9 S9), (nt_W G u10 (u11 0) S10), (lg_W G u11 S11), (nt_W G u12 (u13 0) S12), (lg_W G u13 S13), (nt_W G u14 (u15 0) S14), (lg_W G u15 S15), (sc_W G u16 S16), (md_W G u17 r1703.2), (ot_W G u18 r1685.2.2.2)]) (st := []) (st2 := fun r1703 => [.int r1703.1]) (As := [.int (xs ((x4 + (1 : Int32))).toNatClampNeg), .int (xs ((x4 + (2 : Int32))).toNatClampNeg)]) (pc' := 1706) X (c_X5_basin l G u17 S17 (xs ((x4 + (1 : Int32))).toNatClampNeg) (xs ((x4 + (2 : Int32))).toNatClampNeg)) lk_RL_206 [17] rfl (by decide) (fun _ => rfl) rfl rfl rfl ⟨(Nat.le_of_ble_eq_true rfl), (Nat.le_of_ble_eq_true rfl)⟩ ⟨rfl, rfl⟩ ⟨by omega, by omega⟩ rfl (Nat.le_of_ble_eq_true rfl) rfl dL_law_1703 rfl (fun _ => rfl) (fun _ => rfl) (fun r1703 => ?_)
  refine sk_istore (lv' := [some (.ref b), some (.ref (u0 0)), some (.ref (u17 0)), some (.ref (u18 0)), some (.int x4), some (.int r1685.1), some (.int r1703.1)]) (pc' := 1708) X (Nat.le_of_ble_eq_true rfl) rfl rfl dL_law_1706 rfl ?_
  refine sk_aload_n (pc' := 1709) X rfl dL_law_1708 rfl ?_
  refine sk_callV (bs2 := fun r1709 => [(pc_W u0 (u1 0) (u3 0) (u5 0) (u7 0) (u16 0)), (nt_W G u1 (u2 0) S1), (lg_W G u2 S2), (nt_W G u3 (u4 0) r1685.2.1), (lg_W G u4 r1685.2.2.1), (nt_W G u5 (u6 0) S5), (lg_W G u6 S6), (sv_W G u7 (u8 0) (u10 0) (u12 0) (u14 0) S7), (nt_W G u8 (u9 0) S8), (lg_W G u9 S9), (nt_W G u10 (u11 0) S10), (lg_W G u11 S11), (nt_W G u12 (u13 0) S12), (lg_W G u13 S13), (nt_W G u14 (u15 0) S14), (lg_W G u15 S15), (sc_W G u16 S16), (md_W G u17 r1703.2), (ot_W G u18 r1685.2.2.2)]) (st := []) (st2 := fun r1709 => [.int r1709]) (As := []) (pc' := 1712) X (c_X5_thrown l G u17 r1703.2) lk_RL_109 [17] rfl (by decide) (fun _ => rfl) rfl rfl rfl ⟨(Nat.le_of_ble_eq_true rfl), (Nat.le_of_ble_eq_true rfl)⟩ ⟨rfl, rfl⟩ ⟨by omega, by omega⟩ rfl (Nat.le_of_ble_eq_true rfl) rfl dL_law_1709 rfl (fun _ => rfl) (fun _ => rfl) (fun r1709 => ?_)
  refine sk_iload (pc' := 1714) X rfl dL_law_1712 rfl ?_
  refine sk_icmp_eq (tgt := 1719) (pc' := 1717) X dL_law_1714 rfl rfl ?_ ?_
  · refine sk_iload (pc' := 1721) X rfl dL_law_1719 rfl ?_
    refine sk_if_ne (tgt := 1736) (pc' := 1724) X dL_law_1721 rfl rfl ?_ ?_
    · refine sk_goto (tgt := 2071) X dL_law_1736 rfl ?_
      refine sk_iinc (lv' := [some (.ref b), some (.ref (u0 0)), some (.ref (u17 0)), some (.ref (u18 0)), some (.int (x4 + (4 : Int32))), some (.int r1685.1), some (.int r1703.1)]) (pc' := 2074) X rfl ic_4 (Nat.le_of_ble_eq_true rfl) rfl rfl dL_law_2071 rfl ?_
      refine sk_goto (tgt := 23) X dL_law_2074 rfl ?_
      first | exact sk_widen (lw_k (lw_i4 hg) (Nat.le_of_ble_eq_true rfl)) (lw_n (lw_i4 hg) (Nat.le_of_ble_eq_true rfl)) (sk_kill 6 (sk_kill 5 (ih23 (S1, S2, r1685.2.1, r1685.2.2.1, S5, S6, S7, S8, S9, S10, S11, S12, S13, S14, S15, S16, r1703.2, r1685.2.2.2, (x4 + (4 : Int32)))))) | exact sk_widen (lw_k0 (lw_i4 hg)) (lw_n0 (lw_i4 hg)) (sk_kill 6 (sk_kill 5 (ih23 (S1, S2, r1685.2.1, r1685.2.2.1, S5, S6, S7, S8, S9, S10, S11, S12, S13, S14, S15, S16, r1703.2, r1685.2.2.2, (x4 + (4 : Int32))))))
    · refine sk_aload_n (pc' := 1725) X rfl dL_law_1724 rfl ?_
      refine sk_iconst (pc' := 1726) X ic_0 dL_law_1725 rfl ?_
      refine sk_lald (pc' := 1727) X 18 0 rfl rfl dL_law_1726 rfl ?_
      refine sk_iload (pc' := 1729) X rfl dL_law_1727 rfl ?_
      refine sk_i2l (pc' := 1730) X dL_law_1729 rfl ?_
      refine sk_lcmp (pc' := 1731) X dL_law_1730 rfl ?_
      refine sk_if_eq (tgt := 1736) (pc' := 1734) X dL_law_1731 rfl rfl ?_ ?_
      · refine sk_goto (tgt := 2071) X dL_law_1736 rfl ?_
        refine sk_iinc (lv' := [some (.ref b), some (.ref (u0 0)), some (.ref (u17 0)), some (.ref (u18 0)), some (.int (x4 + (4 : Int32))), some (.int r1685.1), some (.int r1703.1)]) (pc' := 2074) X rfl ic_4 (Nat.le_of_ble_eq_true rfl) rfl rfl dL_law_2071 rfl ?_
        refine sk_goto (tgt := 23) X dL_law_2074 rfl ?_
        first | exact sk_widen (lw_k (lw_i4 hg) (Nat.le_of_ble_eq_true rfl)) (lw_n (lw_i4 hg) (Nat.le_of_ble_eq_true rfl)) (sk_kill 6 (sk_kill 5 (ih23 (S1, S2, r1685.2.1, r1685.2.2.1, S5, S6, S7, S8, S9, S10, S11, S12, S13, S14, S15, S16, r1703.2, r1685.2.2.2, (x4 + (4 : Int32)))))) | exact sk_widen (lw_k0 (lw_i4 hg)) (lw_n0 (lw_i4 hg)) (sk_kill 6 (sk_kill 5 (ih23 (S1, S2, r1685.2.1, r1685.2.2.1, S5, S6, S7, S8, S9, S10, S11, S12, S13, S14, S15, S16, r1703.2, r1685.2.2.2, (x4 + (4 : Int32))))))
      · refine sk_iconst (pc' := 1735) X ic_0 dL_law_1734 rfl ?_
        exact sk_lfalse
  · refine sk_iconst (pc' := 1718) X ic_0 dL_law_1717 rfl ?_
    exact sk_lfalse
set_option maxHeartbeats 4000000 in
set_option maxRecDepth 100000 in
theorem lc_29 {Γ : sk_K} {l : Launch} (hl0 : l.stackTraces = false) {G : sk_G} {t b L : Nat} {xs : Nat → Int32} (X : sk_X Γ l G room_1 7 RL code ret) (E : sk_EL Γ t b L xs) (u0 u1 u2 u3 u4 u5 u6 u7 u8 u9 u10 u11 u12 u13 u14 u15 u16 u17 u18 : Nat → Nat) (k23 : lw_σ → Option Int32) (ih23 : ∀ s2 : lw_σ, sk_S Γ (lw_Φ Γ b) (kl s2.2.2.2.2.2.2.2.2.2.2.2.2.2.2.2.2.2.2) (nl s2.2.2.2.2.2.2.2.2.2.2.2.2.2.2.2.2.2.2) (k23 s2) (lw_bs G u0 u1 u2 u3 u4 u5 u6 u7 u8 u9 u10 u11 u12 u13 u14 u15 u16 u17 u18 s2) (lw_lv b u0 u1 u2 u3 u4 u5 u6 u7 u8 u9 u10 u11 u12 u13 u14 u15 u16 u17 u18 s2) 23 []) (S1 : sk_N) (S2 : sk_N) (S3 : sk_N) (S4 : sk_N) (S5 : sk_N) (S6 : sk_N) (S7 : sk_N) (S8 : sk_N) (S9 : sk_N) (S10 : sk_N) (S11 : sk_N) (S12 : sk_N) (S13 : sk_N) (S14 : sk_N) (S15 : sk_N) (S16 : sk_N) (S17 : sk_M) (S18 : sk_O) (x4 : Int32) (hg : sk_in x4 2049 = true) : sk_S Γ (lw_Φ Γ b) (kl x4) (nl x4) (m_L_c29 L xs k23 S1 S2 S3 S4 S5 S6 S7 S8 S9 S10 S11 S12 S13 S14 S15 S16 S17 S18 x4) [(pc_W u0 (u1 0) (u3 0) (u5 0) (u7 0) (u16 0)), (nt_W G u1 (u2 0) S1), (lg_W G u2 S2), (nt_W G u3 (u4 0) S3), (lg_W G u4 S4), (nt_W G u5 (u6 0) S5), (lg_W G u6 S6), (sv_W G u7 (u8 0) (u10 0) (u12 0) (u14 0) S7), (nt_W G u8 (u9 0) S8), (lg_W G u9 S9), (nt_W G u10 (u11 0) S10), (lg_W G u11 S11), (nt_W G u12 (u13 0) S12), (lg_W G u13 S13), (nt_W G u14 (u15 0) S14), (lg_W G u15 S15), (sc_W G u16 S16), (md_W G u17 S17), (ot_W G u18 S18)] [some (.ref b), some (.ref (u0 0)), some (.ref (u17 0)), some (.ref (u18 0)), some (.int x4), none, none] 1739 [] := by
  have hk0 := lw_hk hg
  have hn0 := lw_hn hg
  unfold m_L_c29
  refine sk_aload_n (pc' := 1740) X rfl dL_law_1739 rfl ?_
  refine sk_aload_n (pc' := 1741) X rfl dL_law_1740 rfl ?_
  refine sk_iload (pc' := 1743) X rfl dL_law_1741 rfl ?_
  refine sk_iconst (pc' := 1744) X ic_1 dL_law_1743 rfl ?_
  refine sk_iadd (pc' := 1745) X dL_law_1744 rfl ?_
  refine sk_scd (pc' := 1746) X E dL_law_1745 rfl ?_
  refine sk_aload_n (pc' := 1747) X rfl dL_law_1746 rfl ?_
  refine sk_iload (pc' := 1749) X rfl dL_law_1747 rfl ?_
  refine sk_iconst (pc' := 1750) X ic_2 dL_law_1749 rfl ?_
  refine sk_iadd (pc' := 1751) X dL_law_1750 rfl ?_
  refine sk_scd (pc' := 1752) X E dL_law_1751 rfl ?_
  refine sk_aload_n (pc' := 1753) X rfl dL_law_1752 rfl ?_
  refine sk_callSH (bs2 := fun r1753 => [(pc_W u0 (u1 0) (u3 0) (u5 0) (u7 0) (u16 0)), (nt_W G u1 (u2 0) S1), (lg_W G u2 S2), (nt_W G u3 (u4 0) r1753.2.1), (lg_W G u4 r1753.2.2.1), (nt_W G u5 (u6 0) S5), (lg_W G u6 S6), (sv_W G u7 (u8 0) (u10 0) (u12 0) (u14 0) S7), (nt_W G u8 (u9 0) S8), (lg_W G u9 S9), (nt_W G u10 (u11 0) S10), (lg_W G u11 S11), (nt_W G u12 (u13 0) S12), (lg_W G u13 S13), (nt_W G u14 (u15 0) S14), (lg_W G u15 S15), (sc_W G u16 S16), (md_W G u17 S17), (ot_W G u18 r1753.2.2.2)]) (st := []) (st2 := fun r1753 => [.int r1753.1]) (As := [.ref (u0 0), .int (xs ((x4 + (1 : Int32))).toNatClampNeg), .int (xs ((x4 + (2 : Int32))).toNatClampNeg), .ref (u18 0)]) (pc' := 1756) X E (c_L_worstPhase l hl0 t G u0 u1 u2 u3 u4 u18 (u5 0) (u7 0) (u16 0) S1 S2 S3 S4 S18 (xs ((x4 + (1 : Int32))).toNatClampNeg) (xs ((x4 + (2 : Int32))).toNatClampNeg)) lkh_RL_207 [0, 1, 2, 3, 4, 18] rfl (by decide) (fun _ => rfl) ⟨(Nat.le_of_ble_eq_true rfl), (Nat.le_of_ble_eq_true rfl)⟩ ⟨rfl, rfl⟩ ⟨by omega, by omega⟩ rfl (Nat.le_of_ble_eq_true rfl) rfl dL_law_1753 rfl (fun _ => rfl) (fun _ => rfl) (fun r1753 => ?_)
  refine sk_istore (lv' := [some (.ref b), some (.ref (u0 0)), some (.ref (u17 0)), some (.ref (u18 0)), some (.int x4), some (.int r1753.1), none]) (pc' := 1758) X (Nat.le_of_ble_eq_true rfl) rfl rfl dL_law_1756 rfl ?_
  refine sk_aload_n (pc' := 1759) X rfl dL_law_1758 rfl ?_
  refine sk_aload_n (pc' := 1760) X rfl dL_law_1759 rfl ?_
  refine sk_iload (pc' := 1762) X rfl dL_law_1760 rfl ?_
  refine sk_iconst (pc' := 1763) X ic_1 dL_law_1762 rfl ?_
  refine sk_iadd (pc' := 1764) X dL_law_1763 rfl ?_
  refine sk_scd (pc' := 1765) X E dL_law_1764 rfl ?_
  refine sk_aload_n (pc' := 1766) X rfl dL_law_1765 rfl ?_
  refine sk_iload (pc' := 1768) X rfl dL_law_1766 rfl ?_
  refine sk_iconst (pc' := 1769) X ic_2 dL_law_1768 rfl ?_
  refine sk_iadd (pc' := 1770) X dL_law_1769 rfl ?_
  refine sk_scd (pc' := 1771) X E dL_law_1770 rfl ?_
  refine sk_callV (bs2 := fun r1771 => [(pc_W u0 (u1 0) (u3 0) (u5 0) (u7 0) (u16 0)), (nt_W G u1 (u2 0) S1), (lg_W G u2 S2), (nt_W G u3 (u4 0) r1753.2.1), (lg_W G u4 r1753.2.2.1), (nt_W G u5 (u6 0) S5), (lg_W G u6 S6), (sv_W G u7 (u8 0) (u10 0) (u12 0) (u14 0) S7), (nt_W G u8 (u9 0) S8), (lg_W G u9 S9), (nt_W G u10 (u11 0) S10), (lg_W G u11 S11), (nt_W G u12 (u13 0) S12), (lg_W G u13 S13), (nt_W G u14 (u15 0) S14), (lg_W G u15 S15), (sc_W G u16 S16), (md_W G u17 r1771.2), (ot_W G u18 r1753.2.2.2)]) (st := []) (st2 := fun r1771 => [.int r1771.1]) (As := [.int (xs ((x4 + (1 : Int32))).toNatClampNeg), .int (xs ((x4 + (2 : Int32))).toNatClampNeg)]) (pc' := 1774) X (c_X5_worstPhase l G u17 S17 (xs ((x4 + (1 : Int32))).toNatClampNeg) (xs ((x4 + (2 : Int32))).toNatClampNeg)) lk_RL_209 [17] rfl (by decide) (fun _ => rfl) rfl rfl rfl ⟨(Nat.le_of_ble_eq_true rfl), (Nat.le_of_ble_eq_true rfl)⟩ ⟨rfl, rfl⟩ ⟨by omega, by omega⟩ rfl (Nat.le_of_ble_eq_true rfl) rfl dL_law_1771 rfl (fun _ => rfl) (fun _ => rfl) (fun r1771 => ?_)
  refine sk_istore (lv' := [some (.ref b), some (.ref (u0 0)), some (.ref (u17 0)), some (.ref (u18 0)), some (.int x4), some (.int r1753.1), some (.int r1771.1)]) (pc' := 1776) X (Nat.le_of_ble_eq_true rfl) rfl rfl dL_law_1774 rfl ?_
  refine sk_aload_n (pc' := 1777) X rfl dL_law_1776 rfl ?_
  refine sk_callV (bs2 := fun r1777 => [(pc_W u0 (u1 0) (u3 0) (u5 0) (u7 0) (u16 0)), (nt_W G u1 (u2 0) S1), (lg_W G u2 S2), (nt_W G u3 (u4 0) r1753.2.1), (lg_W G u4 r1753.2.2.1), (nt_W G u5 (u6 0) S5), (lg_W G u6 S6), (sv_W G u7 (u8 0) (u10 0) (u12 0) (u14 0) S7), (nt_W G u8 (u9 0) S8), (lg_W G u9 S9), (nt_W G u10 (u11 0) S10), (lg_W G u11 S11), (nt_W G u12 (u13 0) S12), (lg_W G u13 S13), (nt_W G u14 (u15 0) S14), (lg_W G u15 S15), (sc_W G u16 S16), (md_W G u17 r1771.2), (ot_W G u18 r1753.2.2.2)]) (st := []) (st2 := fun r1777 => [.int r1777]) (As := []) (pc' := 1780) X (c_X5_thrown l G u17 r1771.2) lk_RL_109 [17] rfl (by decide) (fun _ => rfl) rfl rfl rfl ⟨(Nat.le_of_ble_eq_true rfl), (Nat.le_of_ble_eq_true rfl)⟩ ⟨rfl, rfl⟩ ⟨by omega, by omega⟩ rfl (Nat.le_of_ble_eq_true rfl) rfl dL_law_1777 rfl (fun _ => rfl) (fun _ => rfl) (fun r1777 => ?_)
  refine sk_iload (pc' := 1782) X rfl dL_law_1780 rfl ?_
  refine sk_icmp_eq (tgt := 1787) (pc' := 1785) X dL_law_1782 rfl rfl ?_ ?_
  · refine sk_iload (pc' := 1789) X rfl dL_law_1787 rfl ?_
    refine sk_if_ne (tgt := 1804) (pc' := 1792) X dL_law_1789 rfl rfl ?_ ?_
    · refine sk_goto (tgt := 2071) X dL_law_1804 rfl ?_
      refine sk_iinc (lv' := [some (.ref b), some (.ref (u0 0)), some (.ref (u17 0)), some (.ref (u18 0)), some (.int (x4 + (4 : Int32))), some (.int r1753.1), some (.int r1771.1)]) (pc' := 2074) X rfl ic_4 (Nat.le_of_ble_eq_true rfl) rfl rfl dL_law_2071 rfl ?_
      refine sk_goto (tgt := 23) X dL_law_2074 rfl ?_
      first | exact sk_widen (lw_k (lw_i4 hg) (Nat.le_of_ble_eq_true rfl)) (lw_n (lw_i4 hg) (Nat.le_of_ble_eq_true rfl)) (sk_kill 6 (sk_kill 5 (ih23 (S1, S2, r1753.2.1, r1753.2.2.1, S5, S6, S7, S8, S9, S10, S11, S12, S13, S14, S15, S16, r1771.2, r1753.2.2.2, (x4 + (4 : Int32)))))) | exact sk_widen (lw_k0 (lw_i4 hg)) (lw_n0 (lw_i4 hg)) (sk_kill 6 (sk_kill 5 (ih23 (S1, S2, r1753.2.1, r1753.2.2.1, S5, S6, S7, S8, S9, S10, S11, S12, S13, S14, S15, S16, r1771.2, r1753.2.2.2, (x4 + (4 : Int32))))))
    · refine sk_aload_n (pc' := 1793) X rfl dL_law_1792 rfl ?_
      refine sk_iconst (pc' := 1794) X ic_0 dL_law_1793 rfl ?_
      refine sk_lald (pc' := 1795) X 18 0 rfl rfl dL_law_1794 rfl ?_
      refine sk_iload (pc' := 1797) X rfl dL_law_1795 rfl ?_
      refine sk_i2l (pc' := 1798) X dL_law_1797 rfl ?_
      refine sk_lcmp (pc' := 1799) X dL_law_1798 rfl ?_
      refine sk_if_eq (tgt := 1804) (pc' := 1802) X dL_law_1799 rfl rfl ?_ ?_
      · refine sk_goto (tgt := 2071) X dL_law_1804 rfl ?_
        refine sk_iinc (lv' := [some (.ref b), some (.ref (u0 0)), some (.ref (u17 0)), some (.ref (u18 0)), some (.int (x4 + (4 : Int32))), some (.int r1753.1), some (.int r1771.1)]) (pc' := 2074) X rfl ic_4 (Nat.le_of_ble_eq_true rfl) rfl rfl dL_law_2071 rfl ?_
        refine sk_goto (tgt := 23) X dL_law_2074 rfl ?_
        first | exact sk_widen (lw_k (lw_i4 hg) (Nat.le_of_ble_eq_true rfl)) (lw_n (lw_i4 hg) (Nat.le_of_ble_eq_true rfl)) (sk_kill 6 (sk_kill 5 (ih23 (S1, S2, r1753.2.1, r1753.2.2.1, S5, S6, S7, S8, S9, S10, S11, S12, S13, S14, S15, S16, r1771.2, r1753.2.2.2, (x4 + (4 : Int32)))))) | exact sk_widen (lw_k0 (lw_i4 hg)) (lw_n0 (lw_i4 hg)) (sk_kill 6 (sk_kill 5 (ih23 (S1, S2, r1753.2.1, r1753.2.2.1, S5, S6, S7, S8, S9, S10, S11, S12, S13, S14, S15, S16, r1771.2, r1753.2.2.2, (x4 + (4 : Int32))))))
      · refine sk_iconst (pc' := 1803) X ic_0 dL_law_1802 rfl ?_
        exact sk_lfalse
  · refine sk_iconst (pc' := 1786) X ic_0 dL_law_1785 rfl ?_
    exact sk_lfalse
set_option maxHeartbeats 4000000 in
set_option maxRecDepth 100000 in
theorem lc_30 {Γ : sk_K} {l : Launch} (hl0 : l.stackTraces = false) {G : sk_G} {t b L : Nat} {xs : Nat → Int32} (X : sk_X Γ l G room_1 7 RL code ret) (E : sk_EL Γ t b L xs) (u0 u1 u2 u3 u4 u5 u6 u7 u8 u9 u10 u11 u12 u13 u14 u15 u16 u17 u18 : Nat → Nat) (k23 : lw_σ → Option Int32) (ih23 : ∀ s2 : lw_σ, sk_S Γ (lw_Φ Γ b) (kl s2.2.2.2.2.2.2.2.2.2.2.2.2.2.2.2.2.2.2) (nl s2.2.2.2.2.2.2.2.2.2.2.2.2.2.2.2.2.2.2) (k23 s2) (lw_bs G u0 u1 u2 u3 u4 u5 u6 u7 u8 u9 u10 u11 u12 u13 u14 u15 u16 u17 u18 s2) (lw_lv b u0 u1 u2 u3 u4 u5 u6 u7 u8 u9 u10 u11 u12 u13 u14 u15 u16 u17 u18 s2) 23 []) (S1 : sk_N) (S2 : sk_N) (S3 : sk_N) (S4 : sk_N) (S5 : sk_N) (S6 : sk_N) (S7 : sk_N) (S8 : sk_N) (S9 : sk_N) (S10 : sk_N) (S11 : sk_N) (S12 : sk_N) (S13 : sk_N) (S14 : sk_N) (S15 : sk_N) (S16 : sk_N) (S17 : sk_M) (S18 : sk_O) (x4 : Int32) (hg : sk_in x4 2049 = true) : sk_S Γ (lw_Φ Γ b) (kl x4) (nl x4) (m_L_c30 L xs k23 S1 S2 S3 S4 S5 S6 S7 S8 S9 S10 S11 S12 S13 S14 S15 S16 S17 S18 x4) [(pc_W u0 (u1 0) (u3 0) (u5 0) (u7 0) (u16 0)), (nt_W G u1 (u2 0) S1), (lg_W G u2 S2), (nt_W G u3 (u4 0) S3), (lg_W G u4 S4), (nt_W G u5 (u6 0) S5), (lg_W G u6 S6), (sv_W G u7 (u8 0) (u10 0) (u12 0) (u14 0) S7), (nt_W G u8 (u9 0) S8), (lg_W G u9 S9), (nt_W G u10 (u11 0) S10), (lg_W G u11 S11), (nt_W G u12 (u13 0) S12), (lg_W G u13 S13), (nt_W G u14 (u15 0) S14), (lg_W G u15 S15), (sc_W G u16 S16), (md_W G u17 S17), (ot_W G u18 S18)] [some (.ref b), some (.ref (u0 0)), some (.ref (u17 0)), some (.ref (u18 0)), some (.int x4), none, none] 1807 [] := by
  have hk0 := lw_hk hg
  have hn0 := lw_hn hg
  unfold m_L_c30
  refine sk_aload_n (pc' := 1808) X rfl dL_law_1807 rfl ?_
  refine sk_aload_n (pc' := 1809) X rfl dL_law_1808 rfl ?_
  refine sk_iload (pc' := 1811) X rfl dL_law_1809 rfl ?_
  refine sk_iconst (pc' := 1812) X ic_1 dL_law_1811 rfl ?_
  refine sk_iadd (pc' := 1813) X dL_law_1812 rfl ?_
  refine sk_scd (pc' := 1814) X E dL_law_1813 rfl ?_
  refine sk_aload_n (pc' := 1815) X rfl dL_law_1814 rfl ?_
  refine sk_callSH (bs2 := fun r1815 => [(pc_W u0 (u1 0) (u3 0) (u5 0) (u7 0) (u16 0)), (nt_W G u1 (u2 0) S1), (lg_W G u2 S2), (nt_W G u3 (u4 0) r1815.2.1), (lg_W G u4 r1815.2.2.1), (nt_W G u5 (u6 0) S5), (lg_W G u6 S6), (sv_W G u7 (u8 0) (u10 0) (u12 0) (u14 0) S7), (nt_W G u8 (u9 0) S8), (lg_W G u9 S9), (nt_W G u10 (u11 0) S10), (lg_W G u11 S11), (nt_W G u12 (u13 0) S12), (lg_W G u13 S13), (nt_W G u14 (u15 0) S14), (lg_W G u15 S15), (sc_W G u16 S16), (md_W G u17 S17), (ot_W G u18 r1815.2.2.2)]) (st := []) (st2 := fun r1815 => [.int r1815.1]) (As := [.ref (u0 0), .int (xs ((x4 + (1 : Int32))).toNatClampNeg), .ref (u18 0)]) (pc' := 1818) X E (c_L_blamed l hl0 t G u0 u1 u2 u3 u4 u18 (u5 0) (u7 0) (u16 0) S1 S2 S3 S4 S18 (xs ((x4 + (1 : Int32))).toNatClampNeg)) lkh_RL_210 [0, 1, 2, 3, 4, 18] rfl (by decide) (fun _ => rfl) ⟨(Nat.le_of_ble_eq_true rfl), (Nat.le_of_ble_eq_true rfl)⟩ ⟨rfl, rfl⟩ ⟨by omega, by omega⟩ rfl (Nat.le_of_ble_eq_true rfl) rfl dL_law_1815 rfl (fun _ => rfl) (fun _ => rfl) (fun r1815 => ?_)
  refine sk_istore (lv' := [some (.ref b), some (.ref (u0 0)), some (.ref (u17 0)), some (.ref (u18 0)), some (.int x4), some (.int r1815.1), none]) (pc' := 1820) X (Nat.le_of_ble_eq_true rfl) rfl rfl dL_law_1818 rfl ?_
  refine sk_aload_n (pc' := 1821) X rfl dL_law_1820 rfl ?_
  refine sk_aload_n (pc' := 1822) X rfl dL_law_1821 rfl ?_
  refine sk_iload (pc' := 1824) X rfl dL_law_1822 rfl ?_
  refine sk_iconst (pc' := 1825) X ic_1 dL_law_1824 rfl ?_
  refine sk_iadd (pc' := 1826) X dL_law_1825 rfl ?_
  refine sk_scd (pc' := 1827) X E dL_law_1826 rfl ?_
  refine sk_callV (bs2 := fun r1827 => [(pc_W u0 (u1 0) (u3 0) (u5 0) (u7 0) (u16 0)), (nt_W G u1 (u2 0) S1), (lg_W G u2 S2), (nt_W G u3 (u4 0) r1815.2.1), (lg_W G u4 r1815.2.2.1), (nt_W G u5 (u6 0) S5), (lg_W G u6 S6), (sv_W G u7 (u8 0) (u10 0) (u12 0) (u14 0) S7), (nt_W G u8 (u9 0) S8), (lg_W G u9 S9), (nt_W G u10 (u11 0) S10), (lg_W G u11 S11), (nt_W G u12 (u13 0) S12), (lg_W G u13 S13), (nt_W G u14 (u15 0) S14), (lg_W G u15 S15), (sc_W G u16 S16), (md_W G u17 r1827.2), (ot_W G u18 r1815.2.2.2)]) (st := []) (st2 := fun r1827 => [.int r1827.1]) (As := [.int (xs ((x4 + (1 : Int32))).toNatClampNeg)]) (pc' := 1830) X (c_X5_blamed l G u17 S17 (xs ((x4 + (1 : Int32))).toNatClampNeg)) lk_RL_212 [17] rfl (by decide) (fun _ => rfl) rfl rfl rfl ⟨(Nat.le_of_ble_eq_true rfl), (Nat.le_of_ble_eq_true rfl)⟩ ⟨rfl, rfl⟩ ⟨by omega, by omega⟩ rfl (Nat.le_of_ble_eq_true rfl) rfl dL_law_1827 rfl (fun _ => rfl) (fun _ => rfl) (fun r1827 => ?_)
  refine sk_istore (lv' := [some (.ref b), some (.ref (u0 0)), some (.ref (u17 0)), some (.ref (u18 0)), some (.int x4), some (.int r1815.1), some (.int r1827.1)]) (pc' := 1832) X (Nat.le_of_ble_eq_true rfl) rfl rfl dL_law_1830 rfl ?_
  refine sk_aload_n (pc' := 1833) X rfl dL_law_1832 rfl ?_
  refine sk_callV (bs2 := fun r1833 => [(pc_W u0 (u1 0) (u3 0) (u5 0) (u7 0) (u16 0)), (nt_W G u1 (u2 0) S1), (lg_W G u2 S2), (nt_W G u3 (u4 0) r1815.2.1), (lg_W G u4 r1815.2.2.1), (nt_W G u5 (u6 0) S5), (lg_W G u6 S6), (sv_W G u7 (u8 0) (u10 0) (u12 0) (u14 0) S7), (nt_W G u8 (u9 0) S8), (lg_W G u9 S9), (nt_W G u10 (u11 0) S10), (lg_W G u11 S11), (nt_W G u12 (u13 0) S12), (lg_W G u13 S13), (nt_W G u14 (u15 0) S14), (lg_W G u15 S15), (sc_W G u16 S16), (md_W G u17 r1827.2), (ot_W G u18 r1815.2.2.2)]) (st := []) (st2 := fun r1833 => [.int r1833]) (As := []) (pc' := 1836) X (c_X5_thrown l G u17 r1827.2) lk_RL_109 [17] rfl (by decide) (fun _ => rfl) rfl rfl rfl ⟨(Nat.le_of_ble_eq_true rfl), (Nat.le_of_ble_eq_true rfl)⟩ ⟨rfl, rfl⟩ ⟨by omega, by omega⟩ rfl (Nat.le_of_ble_eq_true rfl) rfl dL_law_1833 rfl (fun _ => rfl) (fun _ => rfl) (fun r1833 => ?_)
  refine sk_iload (pc' := 1838) X rfl dL_law_1836 rfl ?_
  refine sk_icmp_eq (tgt := 1843) (pc' := 1841) X dL_law_1838 rfl rfl ?_ ?_
  · refine sk_iload (pc' := 1845) X rfl dL_law_1843 rfl ?_
    refine sk_if_ne (tgt := 1860) (pc' := 1848) X dL_law_1845 rfl rfl ?_ ?_
    · refine sk_goto (tgt := 2071) X dL_law_1860 rfl ?_
      refine sk_iinc (lv' := [some (.ref b), some (.ref (u0 0)), some (.ref (u17 0)), some (.ref (u18 0)), some (.int (x4 + (4 : Int32))), some (.int r1815.1), some (.int r1827.1)]) (pc' := 2074) X rfl ic_4 (Nat.le_of_ble_eq_true rfl) rfl rfl dL_law_2071 rfl ?_
      refine sk_goto (tgt := 23) X dL_law_2074 rfl ?_
      first | exact sk_widen (lw_k (lw_i4 hg) (Nat.le_of_ble_eq_true rfl)) (lw_n (lw_i4 hg) (Nat.le_of_ble_eq_true rfl)) (sk_kill 6 (sk_kill 5 (ih23 (S1, S2, r1815.2.1, r1815.2.2.1, S5, S6, S7, S8, S9, S10, S11, S12, S13, S14, S15, S16, r1827.2, r1815.2.2.2, (x4 + (4 : Int32)))))) | exact sk_widen (lw_k0 (lw_i4 hg)) (lw_n0 (lw_i4 hg)) (sk_kill 6 (sk_kill 5 (ih23 (S1, S2, r1815.2.1, r1815.2.2.1, S5, S6, S7, S8, S9, S10, S11, S12, S13, S14, S15, S16, r1827.2, r1815.2.2.2, (x4 + (4 : Int32))))))
    · refine sk_aload_n (pc' := 1849) X rfl dL_law_1848 rfl ?_
      refine sk_iconst (pc' := 1850) X ic_0 dL_law_1849 rfl ?_
      refine sk_lald (pc' := 1851) X 18 0 rfl rfl dL_law_1850 rfl ?_
      refine sk_iload (pc' := 1853) X rfl dL_law_1851 rfl ?_
      refine sk_i2l (pc' := 1854) X dL_law_1853 rfl ?_
      refine sk_lcmp (pc' := 1855) X dL_law_1854 rfl ?_
      refine sk_if_eq (tgt := 1860) (pc' := 1858) X dL_law_1855 rfl rfl ?_ ?_
      · refine sk_goto (tgt := 2071) X dL_law_1860 rfl ?_
        refine sk_iinc (lv' := [some (.ref b), some (.ref (u0 0)), some (.ref (u17 0)), some (.ref (u18 0)), some (.int (x4 + (4 : Int32))), some (.int r1815.1), some (.int r1827.1)]) (pc' := 2074) X rfl ic_4 (Nat.le_of_ble_eq_true rfl) rfl rfl dL_law_2071 rfl ?_
        refine sk_goto (tgt := 23) X dL_law_2074 rfl ?_
        first | exact sk_widen (lw_k (lw_i4 hg) (Nat.le_of_ble_eq_true rfl)) (lw_n (lw_i4 hg) (Nat.le_of_ble_eq_true rfl)) (sk_kill 6 (sk_kill 5 (ih23 (S1, S2, r1815.2.1, r1815.2.2.1, S5, S6, S7, S8, S9, S10, S11, S12, S13, S14, S15, S16, r1827.2, r1815.2.2.2, (x4 + (4 : Int32)))))) | exact sk_widen (lw_k0 (lw_i4 hg)) (lw_n0 (lw_i4 hg)) (sk_kill 6 (sk_kill 5 (ih23 (S1, S2, r1815.2.1, r1815.2.2.1, S5, S6, S7, S8, S9, S10, S11, S12, S13, S14, S15, S16, r1827.2, r1815.2.2.2, (x4 + (4 : Int32))))))
      · refine sk_iconst (pc' := 1859) X ic_0 dL_law_1858 rfl ?_
        exact sk_lfalse
  · refine sk_iconst (pc' := 1842) X ic_0 dL_law_1841 rfl ?_
    exact sk_lfalse
set_option maxHeartbeats 4000000 in
set_option maxRecDepth 100000 in
theorem lc_31 {Γ : sk_K} {l : Launch} (hl0 : l.stackTraces = false) {G : sk_G} {t b L : Nat} {xs : Nat → Int32} (X : sk_X Γ l G room_1 7 RL code ret) (E : sk_EL Γ t b L xs) (u0 u1 u2 u3 u4 u5 u6 u7 u8 u9 u10 u11 u12 u13 u14 u15 u16 u17 u18 : Nat → Nat) (k23 : lw_σ → Option Int32) (ih23 : ∀ s2 : lw_σ, sk_S Γ (lw_Φ Γ b) (kl s2.2.2.2.2.2.2.2.2.2.2.2.2.2.2.2.2.2.2) (nl s2.2.2.2.2.2.2.2.2.2.2.2.2.2.2.2.2.2.2) (k23 s2) (lw_bs G u0 u1 u2 u3 u4 u5 u6 u7 u8 u9 u10 u11 u12 u13 u14 u15 u16 u17 u18 s2) (lw_lv b u0 u1 u2 u3 u4 u5 u6 u7 u8 u9 u10 u11 u12 u13 u14 u15 u16 u17 u18 s2) 23 []) (S1 : sk_N) (S2 : sk_N) (S3 : sk_N) (S4 : sk_N) (S5 : sk_N) (S6 : sk_N) (S7 : sk_N) (S8 : sk_N) (S9 : sk_N) (S10 : sk_N) (S11 : sk_N) (S12 : sk_N) (S13 : sk_N) (S14 : sk_N) (S15 : sk_N) (S16 : sk_N) (S17 : sk_M) (S18 : sk_O) (x4 : Int32) (hg : sk_in x4 2049 = true) : sk_S Γ (lw_Φ Γ b) (kl x4) (nl x4) (m_L_c31 L xs k23 S1 S2 S3 S4 S5 S6 S7 S8 S9 S10 S11 S12 S13 S14 S15 S16 S17 S18 x4) [(pc_W u0 (u1 0) (u3 0) (u5 0) (u7 0) (u16 0)), (nt_W G u1 (u2 0) S1), (lg_W G u2 S2), (nt_W G u3 (u4 0) S3), (lg_W G u4 S4), (nt_W G u5 (u6 0) S5), (lg_W G u6 S6), (sv_W G u7 (u8 0) (u10 0) (u12 0) (u14 0) S7), (nt_W G u8 (u9 0) S8), (lg_W G u9 S9), (nt_W G u10 (u11 0) S10), (lg_W G u11 S11), (nt_W G u12 (u13 0) S12), (lg_W G u13 S13), (nt_W G u14 (u15 0) S14), (lg_W G u15 S15), (sc_W G u16 S16), (md_W G u17 S17), (ot_W G u18 S18)] [some (.ref b), some (.ref (u0 0)), some (.ref (u17 0)), some (.ref (u18 0)), some (.int x4), none, none] 1863 [] := by
  have hk0 := lw_hk hg
  have hn0 := lw_hn hg
  unfold m_L_c31
  refine sk_aload_n (pc' := 1864) X rfl dL_law_1863 rfl ?_
  refine sk_aload_n (pc' := 1865) X rfl dL_law_1864 rfl ?_
  refine sk_iload (pc' := 1867) X rfl dL_law_1865 rfl ?_
  refine sk_iconst (pc' := 1868) X ic_1 dL_law_1867 rfl ?_
  refine sk_iadd (pc' := 1869) X dL_law_1868 rfl ?_
  refine sk_scd (pc' := 1870) X E dL_law_1869 rfl ?_
  refine sk_aload_n (pc' := 1871) X rfl dL_law_1870 rfl ?_
  refine sk_iload (pc' := 1873) X rfl dL_law_1871 rfl ?_
  refine sk_iconst (pc' := 1874) X ic_2 dL_law_1873 rfl ?_
  refine sk_iadd (pc' := 1875) X dL_law_1874 rfl ?_
  refine sk_scd (pc' := 1876) X E dL_law_1875 rfl ?_
  refine sk_aload_n (pc' := 1877) X rfl dL_law_1876 rfl ?_
  refine sk_callSH (bs2 := fun r1877 => [(pc_W u0 (u1 0) (u3 0) (u5 0) (u7 0) (u16 0)), (nt_W G u1 (u2 0) S1), (lg_W G u2 S2), (nt_W G u3 (u4 0) r1877.2.1), (lg_W G u4 r1877.2.2.1), (nt_W G u5 (u6 0) S5), (lg_W G u6 S6), (sv_W G u7 (u8 0) (u10 0) (u12 0) (u14 0) S7), (nt_W G u8 (u9 0) S8), (lg_W G u9 S9), (nt_W G u10 (u11 0) S10), (lg_W G u11 S11), (nt_W G u12 (u13 0) S12), (lg_W G u13 S13), (nt_W G u14 (u15 0) S14), (lg_W G u15 S15), (sc_W G u16 S16), (md_W G u17 S17), (ot_W G u18 r1877.2.2.2)]) (st := []) (st2 := fun r1877 => [.int r1877.1]) (As := [.ref (u0 0), .int (xs ((x4 + (1 : Int32))).toNatClampNeg), .int (xs ((x4 + (2 : Int32))).toNatClampNeg), .ref (u18 0)]) (pc' := 1880) X E (c_L_firesIn l hl0 t G u0 u1 u2 u3 u4 u18 (u5 0) (u7 0) (u16 0) S1 S2 S3 S4 S18 (xs ((x4 + (1 : Int32))).toNatClampNeg) (xs ((x4 + (2 : Int32))).toNatClampNeg)) lkh_RL_213 [0, 1, 2, 3, 4, 18] rfl (by decide) (fun _ => rfl) ⟨(Nat.le_of_ble_eq_true rfl), (Nat.le_of_ble_eq_true rfl)⟩ ⟨rfl, rfl⟩ ⟨by omega, by omega⟩ rfl (Nat.le_of_ble_eq_true rfl) rfl dL_law_1877 rfl (fun _ => rfl) (fun _ => rfl) (fun r1877 => ?_)
  refine sk_istore (lv' := [some (.ref b), some (.ref (u0 0)), some (.ref (u17 0)), some (.ref (u18 0)), some (.int x4), some (.int r1877.1), none]) (pc' := 1882) X (Nat.le_of_ble_eq_true rfl) rfl rfl dL_law_1880 rfl ?_
  refine sk_aload_n (pc' := 1883) X rfl dL_law_1882 rfl ?_
  refine sk_aload_n (pc' := 1884) X rfl dL_law_1883 rfl ?_
  refine sk_iload (pc' := 1886) X rfl dL_law_1884 rfl ?_
  refine sk_iconst (pc' := 1887) X ic_1 dL_law_1886 rfl ?_
  refine sk_iadd (pc' := 1888) X dL_law_1887 rfl ?_
  refine sk_scd (pc' := 1889) X E dL_law_1888 rfl ?_
  refine sk_aload_n (pc' := 1890) X rfl dL_law_1889 rfl ?_
  refine sk_iload (pc' := 1892) X rfl dL_law_1890 rfl ?_
  refine sk_iconst (pc' := 1893) X ic_2 dL_law_1892 rfl ?_
  refine sk_iadd (pc' := 1894) X dL_law_1893 rfl ?_
  refine sk_scd (pc' := 1895) X E dL_law_1894 rfl ?_
  refine sk_callV (bs2 := fun r1895 => [(pc_W u0 (u1 0) (u3 0) (u5 0) (u7 0) (u16 0)), (nt_W G u1 (u2 0) S1), (lg_W G u2 S2), (nt_W G u3 (u4 0) r1877.2.1), (lg_W G u4 r1877.2.2.1), (nt_W G u5 (u6 0) S5), (lg_W G u6 S6), (sv_W G u7 (u8 0) (u10 0) (u12 0) (u14 0) S7), (nt_W G u8 (u9 0) S8), (lg_W G u9 S9), (nt_W G u10 (u11 0) S10), (lg_W G u11 S11), (nt_W G u12 (u13 0) S12), (lg_W G u13 S13), (nt_W G u14 (u15 0) S14), (lg_W G u15 S15), (sc_W G u16 S16), (md_W G u17 r1895.2), (ot_W G u18 r1877.2.2.2)]) (st := []) (st2 := fun r1895 => [.int r1895.1]) (As := [.int (xs ((x4 + (1 : Int32))).toNatClampNeg), .int (xs ((x4 + (2 : Int32))).toNatClampNeg)]) (pc' := 1898) X (c_X5_firesIn l G u17 S17 (xs ((x4 + (1 : Int32))).toNatClampNeg) (xs ((x4 + (2 : Int32))).toNatClampNeg)) lk_RL_215 [17] rfl (by decide) (fun _ => rfl) rfl rfl rfl ⟨(Nat.le_of_ble_eq_true rfl), (Nat.le_of_ble_eq_true rfl)⟩ ⟨rfl, rfl⟩ ⟨by omega, by omega⟩ rfl (Nat.le_of_ble_eq_true rfl) rfl dL_law_1895 rfl (fun _ => rfl) (fun _ => rfl) (fun r1895 => ?_)
  refine sk_istore (lv' := [some (.ref b), some (.ref (u0 0)), some (.ref (u17 0)), some (.ref (u18 0)), some (.int x4), some (.int r1877.1), some (.int r1895.1)]) (pc' := 1900) X (Nat.le_of_ble_eq_true rfl) rfl rfl dL_law_1898 rfl ?_
  refine sk_aload_n (pc' := 1901) X rfl dL_law_1900 rfl ?_
  refine sk_callV (bs2 := fun r1901 => [(pc_W u0 (u1 0) (u3 0) (u5 0) (u7 0) (u16 0)), (nt_W G u1 (u2 0) S1), (lg_W G u2 S2), (nt_W G u3 (u4 0) r1877.2.1), (lg_W G u4 r1877.2.2.1), (nt_W G u5 (u6 0) S5), (lg_W G u6 S6), (sv_W G u7 (u8 0) (u10 0) (u12 0) (u14 0) S7), (nt_W G u8 (u9 0) S8), (lg_W G u9 S9), (nt_W G u10 (u11 0) S10), (lg_W G u11 S11), (nt_W G u12 (u13 0) S12), (lg_W G u13 S13), (nt_W G u14 (u15 0) S14), (lg_W G u15 S15), (sc_W G u16 S16), (md_W G u17 r1895.2), (ot_W G u18 r1877.2.2.2)]) (st := []) (st2 := fun r1901 => [.int r1901]) (As := []) (pc' := 1904) X (c_X5_thrown l G u17 r1895.2) lk_RL_109 [17] rfl (by decide) (fun _ => rfl) rfl rfl rfl ⟨(Nat.le_of_ble_eq_true rfl), (Nat.le_of_ble_eq_true rfl)⟩ ⟨rfl, rfl⟩ ⟨by omega, by omega⟩ rfl (Nat.le_of_ble_eq_true rfl) rfl dL_law_1901 rfl (fun _ => rfl) (fun _ => rfl) (fun r1901 => ?_)
  refine sk_iload (pc' := 1906) X rfl dL_law_1904 rfl ?_
  refine sk_icmp_eq (tgt := 1911) (pc' := 1909) X dL_law_1906 rfl rfl ?_ ?_
  · refine sk_iload (pc' := 1913) X rfl dL_law_1911 rfl ?_
    refine sk_if_ne (tgt := 1928) (pc' := 1916) X dL_law_1913 rfl rfl ?_ ?_
    · refine sk_goto (tgt := 2071) X dL_law_1928 rfl ?_
      refine sk_iinc (lv' := [some (.ref b), some (.ref (u0 0)), some (.ref (u17 0)), some (.ref (u18 0)), some (.int (x4 + (4 : Int32))), some (.int r1877.1), some (.int r1895.1)]) (pc' := 2074) X rfl ic_4 (Nat.le_of_ble_eq_true rfl) rfl rfl dL_law_2071 rfl ?_
      refine sk_goto (tgt := 23) X dL_law_2074 rfl ?_
      first | exact sk_widen (lw_k (lw_i4 hg) (Nat.le_of_ble_eq_true rfl)) (lw_n (lw_i4 hg) (Nat.le_of_ble_eq_true rfl)) (sk_kill 6 (sk_kill 5 (ih23 (S1, S2, r1877.2.1, r1877.2.2.1, S5, S6, S7, S8, S9, S10, S11, S12, S13, S14, S15, S16, r1895.2, r1877.2.2.2, (x4 + (4 : Int32)))))) | exact sk_widen (lw_k0 (lw_i4 hg)) (lw_n0 (lw_i4 hg)) (sk_kill 6 (sk_kill 5 (ih23 (S1, S2, r1877.2.1, r1877.2.2.1, S5, S6, S7, S8, S9, S10, S11, S12, S13, S14, S15, S16, r1895.2, r1877.2.2.2, (x4 + (4 : Int32))))))
    · refine sk_aload_n (pc' := 1917) X rfl dL_law_1916 rfl ?_
      refine sk_iconst (pc' := 1918) X ic_0 dL_law_1917 rfl ?_
      refine sk_lald (pc' := 1919) X 18 0 rfl rfl dL_law_1918 rfl ?_
      refine sk_iload (pc' := 1921) X rfl dL_law_1919 rfl ?_
      refine sk_i2l (pc' := 1922) X dL_law_1921 rfl ?_
      refine sk_lcmp (pc' := 1923) X dL_law_1922 rfl ?_
      refine sk_if_eq (tgt := 1928) (pc' := 1926) X dL_law_1923 rfl rfl ?_ ?_
      · refine sk_goto (tgt := 2071) X dL_law_1928 rfl ?_
        refine sk_iinc (lv' := [some (.ref b), some (.ref (u0 0)), some (.ref (u17 0)), some (.ref (u18 0)), some (.int (x4 + (4 : Int32))), some (.int r1877.1), some (.int r1895.1)]) (pc' := 2074) X rfl ic_4 (Nat.le_of_ble_eq_true rfl) rfl rfl dL_law_2071 rfl ?_
        refine sk_goto (tgt := 23) X dL_law_2074 rfl ?_
        first | exact sk_widen (lw_k (lw_i4 hg) (Nat.le_of_ble_eq_true rfl)) (lw_n (lw_i4 hg) (Nat.le_of_ble_eq_true rfl)) (sk_kill 6 (sk_kill 5 (ih23 (S1, S2, r1877.2.1, r1877.2.2.1, S5, S6, S7, S8, S9, S10, S11, S12, S13, S14, S15, S16, r1895.2, r1877.2.2.2, (x4 + (4 : Int32)))))) | exact sk_widen (lw_k0 (lw_i4 hg)) (lw_n0 (lw_i4 hg)) (sk_kill 6 (sk_kill 5 (ih23 (S1, S2, r1877.2.1, r1877.2.2.1, S5, S6, S7, S8, S9, S10, S11, S12, S13, S14, S15, S16, r1895.2, r1877.2.2.2, (x4 + (4 : Int32))))))
      · refine sk_iconst (pc' := 1927) X ic_0 dL_law_1926 rfl ?_
        exact sk_lfalse
  · refine sk_iconst (pc' := 1910) X ic_0 dL_law_1909 rfl ?_
    exact sk_lfalse
