set_option maxHeartbeats 4000000 in
set_option maxRecDepth 100000 in
theorem lc_32 {Γ : sk_K} {l : Launch} (hl0 : l.stackTraces = false) {G : sk_G} {t b L : Nat} {xs : Nat → Int32} (X : sk_X Γ l G room_1 7 RL code ret) (E : sk_EL Γ t b L xs) (u0 u1 u2 u3 u4 u5 u6 u7 u8 u9 u10 u11 u12 u13 u14 u15 u16 u17 u18 : Nat → Nat) (k23 : lw_σ → Option Int32) (ih23 : ∀ s2 : lw_σ, sk_S Γ (lw_Φ Γ b) (kl s2.2.2.2.2.2.2.2.2.2.2.2.2.2.2.2.2.2.2) (nl s2.2.2.2.2.2.2.2.2.2.2.2.2.2.2.2.2.2.2) (k23 s2) (lw_bs G u0 u1 u2 u3 u4 u5 u6 u7 u8 u9 u10 u11 u12 u13 u14 u15 u16 u17 u18 s2) (lw_lv b u0 u1 u2 u3 u4 u5 u6 u7 u8 u9 u10 u11 u12 u13 u14 u15 u16 u17 u18 s2) 23 []) (S1 : sk_N) (S2 : sk_N) (S3 : sk_N) (S4 : sk_N) (S5 : sk_N) (S6 : sk_N) (S7 : sk_N) (S8 : sk_N) (S9 : sk_N) (S10 : sk_N) (S11 : sk_N) (S12 : sk_N) (S13 : sk_N) (S14 : sk_N) (S15 : sk_N) (S16 : sk_N) (S17 : sk_M) (S18 : sk_O) (x4 : Int32) (hg : sk_in x4 2049 = true) : sk_S Γ (lw_Φ Γ b) (kl x4) (nl x4) (m_L_c32 L xs k23 S1 S2 S3 S4 S5 S6 S7 S8 S9 S10 S11 S12 S13 S14 S15 S16 S17 S18 x4) [(pc_W u0 (u1 0) (u3 0) (u5 0) (u7 0) (u16 0)), (nt_W G u1 (u2 0) S1), (lg_W G u2 S2), (nt_W G u3 (u4 0) S3), (lg_W G u4 S4), (nt_W G u5 (u6 0) S5), (lg_W G u6 S6), (sv_W G u7 (u8 0) (u10 0) (u12 0) (u14 0) S7), (nt_W G u8 (u9 0) S8), (lg_W G u9 S9), (nt_W G u10 (u11 0) S10), (lg_W G u11 S11), (nt_W G u12 (u13 0) S12), (lg_W G u13 S13), (nt_W G u14 (u15 0) S14), (lg_W G u15 S15), (sc_W G u16 S16), (md_W G u17 S17), (ot_W G u18 S18)] [some (.ref b), some (.ref (u0 0)), some (.ref (u17 0)), some (.ref (u18 0)), some (.int x4), none, none] 1931 [] := by
  have hk0 := lw_hk hg
  have hn0 := lw_hn hg
  unfold m_L_c32
  refine sk_aload_n (pc' := 1932) X rfl dL_law_1931 rfl ?_
  refine sk_aload_n (pc' := 1933) X rfl dL_law_1932 rfl ?_
  refine sk_iload (pc' := 1935) X rfl dL_law_1933 rfl ?_
  refine sk_iconst (pc' := 1936) X ic_1 dL_law_1935 rfl ?_
  refine sk_iadd (pc' := 1937) X dL_law_1936 rfl ?_
  refine sk_scd (pc' := 1938) X E dL_law_1937 rfl ?_
  refine sk_aload_n (pc' := 1939) X rfl dL_law_1938 rfl ?_
  refine sk_callSH (bs2 := fun r1939 => [(pc_W u0 (u1 0) (u3 0) (u5 0) (u7 0) (u16 0)), (nt_W G u1 (u2 0) S1), (lg_W G u2 S2), (nt_W G u3 (u4 0) S3), (lg_W G u4 S4), (nt_W G u5 (u6 0) S5), (lg_W G u6 S6), (sv_W G u7 (u8 0) (u10 0) (u12 0) (u14 0) S7), (nt_W G u8 (u9 0) S8), (lg_W G u9 S9), (nt_W G u10 (u11 0) S10), (lg_W G u11 S11), (nt_W G u12 (u13 0) S12), (lg_W G u13 S13), (nt_W G u14 (u15 0) S14), (lg_W G u15 S15), (sc_W G u16 r1939.2.1), (md_W G u17 S17), (ot_W G u18 r1939.2.2)]) (st := []) (st2 := fun r1939 => [.int r1939.1]) (As := [.ref (u0 0), .int (xs ((x4 + (1 : Int32))).toNatClampNeg), .ref (u18 0)]) (pc' := 1942) X E (c_L_append l hl0 t G u0 u16 u18 (u1 0) (u3 0) (u5 0) (u7 0) S16 S18 (xs ((x4 + (1 : Int32))).toNatClampNeg)) lkh_RL_216 [0, 16, 18] rfl (by decide) (fun _ => rfl) ⟨(Nat.le_of_ble_eq_true rfl), (Nat.le_of_ble_eq_true rfl)⟩ ⟨rfl, rfl⟩ ⟨by omega, by omega⟩ rfl (Nat.le_of_ble_eq_true rfl) rfl dL_law_1939 rfl (fun _ => rfl) (fun _ => rfl) (fun r1939 => ?_)
  refine sk_istore (lv' := [some (.ref b), some (.ref (u0 0)), some (.ref (u17 0)), some (.ref (u18 0)), some (.int x4), some (.int r1939.1), none]) (pc' := 1944) X (Nat.le_of_ble_eq_true rfl) rfl rfl dL_law_1942 rfl ?_
  refine sk_aload_n (pc' := 1945) X rfl dL_law_1944 rfl ?_
  refine sk_aload_n (pc' := 1946) X rfl dL_law_1945 rfl ?_
  refine sk_iload (pc' := 1948) X rfl dL_law_1946 rfl ?_
  refine sk_iconst (pc' := 1949) X ic_1 dL_law_1948 rfl ?_
  refine sk_iadd (pc' := 1950) X dL_law_1949 rfl ?_
  refine sk_scd (pc' := 1951) X E dL_law_1950 rfl ?_
  refine sk_callV (bs2 := fun r1951 => [(pc_W u0 (u1 0) (u3 0) (u5 0) (u7 0) (u16 0)), (nt_W G u1 (u2 0) S1), (lg_W G u2 S2), (nt_W G u3 (u4 0) S3), (lg_W G u4 S4), (nt_W G u5 (u6 0) S5), (lg_W G u6 S6), (sv_W G u7 (u8 0) (u10 0) (u12 0) (u14 0) S7), (nt_W G u8 (u9 0) S8), (lg_W G u9 S9), (nt_W G u10 (u11 0) S10), (lg_W G u11 S11), (nt_W G u12 (u13 0) S12), (lg_W G u13 S13), (nt_W G u14 (u15 0) S14), (lg_W G u15 S15), (sc_W G u16 r1939.2.1), (md_W G u17 r1951.2), (ot_W G u18 r1939.2.2)]) (st := []) (st2 := fun r1951 => [.int r1951.1]) (As := [.int (xs ((x4 + (1 : Int32))).toNatClampNeg)]) (pc' := 1954) X (c_X5_append l G u17 S17 (xs ((x4 + (1 : Int32))).toNatClampNeg)) lk_RL_218 [17] rfl (by decide) (fun _ => rfl) rfl rfl rfl ⟨(Nat.le_of_ble_eq_true rfl), (Nat.le_of_ble_eq_true rfl)⟩ ⟨rfl, rfl⟩ ⟨by omega, by omega⟩ rfl (Nat.le_of_ble_eq_true rfl) rfl dL_law_1951 rfl (fun _ => rfl) (fun _ => rfl) (fun r1951 => ?_)
  refine sk_istore (lv' := [some (.ref b), some (.ref (u0 0)), some (.ref (u17 0)), some (.ref (u18 0)), some (.int x4), some (.int r1939.1), some (.int r1951.1)]) (pc' := 1956) X (Nat.le_of_ble_eq_true rfl) rfl rfl dL_law_1954 rfl ?_
  refine sk_aload_n (pc' := 1957) X rfl dL_law_1956 rfl ?_
  refine sk_callV (bs2 := fun r1957 => [(pc_W u0 (u1 0) (u3 0) (u5 0) (u7 0) (u16 0)), (nt_W G u1 (u2 0) S1), (lg_W G u2 S2), (nt_W G u3 (u4 0) S3), (lg_W G u4 S4), (nt_W G u5 (u6 0) S5), (lg_W G u6 S6), (sv_W G u7 (u8 0) (u10 0) (u12 0) (u14 0) S7), (nt_W G u8 (u9 0) S8), (lg_W G u9 S9), (nt_W G u10 (u11 0) S10), (lg_W G u11 S11), (nt_W G u12 (u13 0) S12), (lg_W G u13 S13), (nt_W G u14 (u15 0) S14), (lg_W G u15 S15), (sc_W G u16 r1939.2.1), (md_W G u17 r1951.2), (ot_W G u18 r1939.2.2)]) (st := []) (st2 := fun r1957 => [.int r1957]) (As := []) (pc' := 1960) X (c_X5_thrown l G u17 r1951.2) lk_RL_109 [17] rfl (by decide) (fun _ => rfl) rfl rfl rfl ⟨(Nat.le_of_ble_eq_true rfl), (Nat.le_of_ble_eq_true rfl)⟩ ⟨rfl, rfl⟩ ⟨by omega, by omega⟩ rfl (Nat.le_of_ble_eq_true rfl) rfl dL_law_1957 rfl (fun _ => rfl) (fun _ => rfl) (fun r1957 => ?_)
  refine sk_iload (pc' := 1962) X rfl dL_law_1960 rfl ?_
  refine sk_icmp_eq (tgt := 1967) (pc' := 1965) X dL_law_1962 rfl rfl ?_ ?_
  · refine sk_iload (pc' := 1969) X rfl dL_law_1967 rfl ?_
    refine sk_if_ne (tgt := 1984) (pc' := 1972) X dL_law_1969 rfl rfl ?_ ?_
    · refine sk_goto (tgt := 2071) X dL_law_1984 rfl ?_
      refine sk_iinc (lv' := [some (.ref b), some (.ref (u0 0)), some (.ref (u17 0)), some (.ref (u18 0)), some (.int (x4 + (4 : Int32))), some (.int r1939.1), some (.int r1951.1)]) (pc' := 2074) X rfl ic_4 (Nat.le_of_ble_eq_true rfl) rfl rfl dL_law_2071 rfl ?_
      refine sk_goto (tgt := 23) X dL_law_2074 rfl ?_
      first | exact sk_widen (lw_k (lw_i4 hg) (Nat.le_of_ble_eq_true rfl)) (lw_n (lw_i4 hg) (Nat.le_of_ble_eq_true rfl)) (sk_kill 6 (sk_kill 5 (ih23 (S1, S2, S3, S4, S5, S6, S7, S8, S9, S10, S11, S12, S13, S14, S15, r1939.2.1, r1951.2, r1939.2.2, (x4 + (4 : Int32)))))) | exact sk_widen (lw_k0 (lw_i4 hg)) (lw_n0 (lw_i4 hg)) (sk_kill 6 (sk_kill 5 (ih23 (S1, S2, S3, S4, S5, S6, S7, S8, S9, S10, S11, S12, S13, S14, S15, r1939.2.1, r1951.2, r1939.2.2, (x4 + (4 : Int32))))))
    · refine sk_aload_n (pc' := 1973) X rfl dL_law_1972 rfl ?_
      refine sk_iconst (pc' := 1974) X ic_0 dL_law_1973 rfl ?_
      refine sk_lald (pc' := 1975) X 18 0 rfl rfl dL_law_1974 rfl ?_
      refine sk_iload (pc' := 1977) X rfl dL_law_1975 rfl ?_
      refine sk_i2l (pc' := 1978) X dL_law_1977 rfl ?_
      refine sk_lcmp (pc' := 1979) X dL_law_1978 rfl ?_
      refine sk_if_eq (tgt := 1984) (pc' := 1982) X dL_law_1979 rfl rfl ?_ ?_
      · refine sk_goto (tgt := 2071) X dL_law_1984 rfl ?_
        refine sk_iinc (lv' := [some (.ref b), some (.ref (u0 0)), some (.ref (u17 0)), some (.ref (u18 0)), some (.int (x4 + (4 : Int32))), some (.int r1939.1), some (.int r1951.1)]) (pc' := 2074) X rfl ic_4 (Nat.le_of_ble_eq_true rfl) rfl rfl dL_law_2071 rfl ?_
        refine sk_goto (tgt := 23) X dL_law_2074 rfl ?_
        first | exact sk_widen (lw_k (lw_i4 hg) (Nat.le_of_ble_eq_true rfl)) (lw_n (lw_i4 hg) (Nat.le_of_ble_eq_true rfl)) (sk_kill 6 (sk_kill 5 (ih23 (S1, S2, S3, S4, S5, S6, S7, S8, S9, S10, S11, S12, S13, S14, S15, r1939.2.1, r1951.2, r1939.2.2, (x4 + (4 : Int32)))))) | exact sk_widen (lw_k0 (lw_i4 hg)) (lw_n0 (lw_i4 hg)) (sk_kill 6 (sk_kill 5 (ih23 (S1, S2, S3, S4, S5, S6, S7, S8, S9, S10, S11, S12, S13, S14, S15, r1939.2.1, r1951.2, r1939.2.2, (x4 + (4 : Int32))))))
      · refine sk_iconst (pc' := 1983) X ic_0 dL_law_1982 rfl ?_
        exact sk_lfalse
  · refine sk_iconst (pc' := 1966) X ic_0 dL_law_1965 rfl ?_
    exact sk_lfalse
set_option maxHeartbeats 4000000 in
set_option maxRecDepth 100000 in
theorem lc_33 {Γ : sk_K} {l : Launch} (hl0 : l.stackTraces = false) {G : sk_G} {t b L : Nat} {xs : Nat → Int32} (X : sk_X Γ l G room_1 7 RL code ret) (E : sk_EL Γ t b L xs) (u0 u1 u2 u3 u4 u5 u6 u7 u8 u9 u10 u11 u12 u13 u14 u15 u16 u17 u18 : Nat → Nat) (k23 : lw_σ → Option Int32) (ih23 : ∀ s2 : lw_σ, sk_S Γ (lw_Φ Γ b) (kl s2.2.2.2.2.2.2.2.2.2.2.2.2.2.2.2.2.2.2) (nl s2.2.2.2.2.2.2.2.2.2.2.2.2.2.2.2.2.2.2) (k23 s2) (lw_bs G u0 u1 u2 u3 u4 u5 u6 u7 u8 u9 u10 u11 u12 u13 u14 u15 u16 u17 u18 s2) (lw_lv b u0 u1 u2 u3 u4 u5 u6 u7 u8 u9 u10 u11 u12 u13 u14 u15 u16 u17 u18 s2) 23 []) (S1 : sk_N) (S2 : sk_N) (S3 : sk_N) (S4 : sk_N) (S5 : sk_N) (S6 : sk_N) (S7 : sk_N) (S8 : sk_N) (S9 : sk_N) (S10 : sk_N) (S11 : sk_N) (S12 : sk_N) (S13 : sk_N) (S14 : sk_N) (S15 : sk_N) (S16 : sk_N) (S17 : sk_M) (S18 : sk_O) (x4 : Int32) (hg : sk_in x4 2049 = true) : sk_S Γ (lw_Φ Γ b) (kl x4) (nl x4) (m_L_c33 L xs k23 S1 S2 S3 S4 S5 S6 S7 S8 S9 S10 S11 S12 S13 S14 S15 S16 S17 S18 x4) [(pc_W u0 (u1 0) (u3 0) (u5 0) (u7 0) (u16 0)), (nt_W G u1 (u2 0) S1), (lg_W G u2 S2), (nt_W G u3 (u4 0) S3), (lg_W G u4 S4), (nt_W G u5 (u6 0) S5), (lg_W G u6 S6), (sv_W G u7 (u8 0) (u10 0) (u12 0) (u14 0) S7), (nt_W G u8 (u9 0) S8), (lg_W G u9 S9), (nt_W G u10 (u11 0) S10), (lg_W G u11 S11), (nt_W G u12 (u13 0) S12), (lg_W G u13 S13), (nt_W G u14 (u15 0) S14), (lg_W G u15 S15), (sc_W G u16 S16), (md_W G u17 S17), (ot_W G u18 S18)] [some (.ref b), some (.ref (u0 0)), some (.ref (u17 0)), some (.ref (u18 0)), some (.int x4), none, none] 1987 [] := by
  have hk0 := lw_hk hg
  have hn0 := lw_hn hg
  unfold m_L_c33
  refine sk_aload_n (pc' := 1988) X rfl dL_law_1987 rfl ?_
  refine sk_callV (bs2 := fun r1988 => [(pc_W u0 (u1 0) (u3 0) (u5 0) (u7 0) (u16 0)), (nt_W G u1 (u2 0) S1), (lg_W G u2 S2), (nt_W G u3 (u4 0) S3), (lg_W G u4 S4), (nt_W G u5 (u6 0) S5), (lg_W G u6 S6), (sv_W G u7 (u8 0) (u10 0) (u12 0) (u14 0) S7), (nt_W G u8 (u9 0) S8), (lg_W G u9 S9), (nt_W G u10 (u11 0) S10), (lg_W G u11 S11), (nt_W G u12 (u13 0) S12), (lg_W G u13 S13), (nt_W G u14 (u15 0) S14), (lg_W G u15 S15), (sc_W G u16 r1988.2), (md_W G u17 S17), (ot_W G u18 S18)]) (st := []) (st2 := fun r1988 => [.int r1988.1]) (As := []) (pc' := 1991) X (c_X4_clearText l G u0 u16 (u1 0) (u3 0) (u5 0) (u7 0) S16) lk_RL_219 [0, 16] rfl (by decide) (fun _ => rfl) rfl rfl rfl ⟨(Nat.le_of_ble_eq_true rfl), (Nat.le_of_ble_eq_true rfl)⟩ ⟨rfl, rfl⟩ ⟨by omega, by omega⟩ rfl (Nat.le_of_ble_eq_true rfl) rfl dL_law_1988 rfl (fun _ => rfl) (fun _ => rfl) (fun r1988 => ?_)
  refine sk_aload_n (pc' := 1992) X rfl dL_law_1991 rfl ?_
  refine sk_callV (bs2 := fun r1992 => [(pc_W u0 (u1 0) (u3 0) (u5 0) (u7 0) (u16 0)), (nt_W G u1 (u2 0) S1), (lg_W G u2 S2), (nt_W G u3 (u4 0) S3), (lg_W G u4 S4), (nt_W G u5 (u6 0) S5), (lg_W G u6 S6), (sv_W G u7 (u8 0) (u10 0) (u12 0) (u14 0) S7), (nt_W G u8 (u9 0) S8), (lg_W G u9 S9), (nt_W G u10 (u11 0) S10), (lg_W G u11 S11), (nt_W G u12 (u13 0) S12), (lg_W G u13 S13), (nt_W G u14 (u15 0) S14), (lg_W G u15 S15), (sc_W G u16 r1988.2), (md_W G u17 r1992.2), (ot_W G u18 S18)]) (st := [.int r1988.1]) (st2 := fun r1992 => [.int r1992.1, .int r1988.1]) (As := []) (pc' := 1995) X (c_X5_clearText l G u17 S17) lk_RL_222 [17] rfl (by decide) (fun _ => rfl) rfl rfl rfl ⟨(Nat.le_of_ble_eq_true rfl), (Nat.le_of_ble_eq_true rfl)⟩ ⟨rfl, rfl⟩ ⟨by omega, by omega⟩ rfl (Nat.le_of_ble_eq_true rfl) rfl dL_law_1992 rfl (fun _ => rfl) (fun _ => rfl) (fun r1992 => ?_)
  refine sk_icmp_eq (tgt := 2071) (pc' := 1998) X dL_law_1995 rfl rfl ?_ ?_
  · refine sk_iinc (lv' := [some (.ref b), some (.ref (u0 0)), some (.ref (u17 0)), some (.ref (u18 0)), some (.int (x4 + (4 : Int32))), none, none]) (pc' := 2074) X rfl ic_4 (Nat.le_of_ble_eq_true rfl) rfl rfl dL_law_2071 rfl ?_
    refine sk_goto (tgt := 23) X dL_law_2074 rfl ?_
    first | exact sk_widen (lw_k (lw_i4 hg) (Nat.le_of_ble_eq_true rfl)) (lw_n (lw_i4 hg) (Nat.le_of_ble_eq_true rfl)) (ih23 (S1, S2, S3, S4, S5, S6, S7, S8, S9, S10, S11, S12, S13, S14, S15, r1988.2, r1992.2, S18, (x4 + (4 : Int32)))) | exact sk_widen (lw_k0 (lw_i4 hg)) (lw_n0 (lw_i4 hg)) (ih23 (S1, S2, S3, S4, S5, S6, S7, S8, S9, S10, S11, S12, S13, S14, S15, r1988.2, r1992.2, S18, (x4 + (4 : Int32))))
  · refine sk_iconst (pc' := 1999) X ic_0 dL_law_1998 rfl ?_
    exact sk_lfalse
set_option maxHeartbeats 4000000 in
set_option maxRecDepth 100000 in
theorem lc_34 {Γ : sk_K} {l : Launch} (hl0 : l.stackTraces = false) {G : sk_G} {t b L : Nat} {xs : Nat → Int32} (X : sk_X Γ l G room_1 7 RL code ret) (E : sk_EL Γ t b L xs) (u0 u1 u2 u3 u4 u5 u6 u7 u8 u9 u10 u11 u12 u13 u14 u15 u16 u17 u18 : Nat → Nat) (k23 : lw_σ → Option Int32) (ih23 : ∀ s2 : lw_σ, sk_S Γ (lw_Φ Γ b) (kl s2.2.2.2.2.2.2.2.2.2.2.2.2.2.2.2.2.2.2) (nl s2.2.2.2.2.2.2.2.2.2.2.2.2.2.2.2.2.2.2) (k23 s2) (lw_bs G u0 u1 u2 u3 u4 u5 u6 u7 u8 u9 u10 u11 u12 u13 u14 u15 u16 u17 u18 s2) (lw_lv b u0 u1 u2 u3 u4 u5 u6 u7 u8 u9 u10 u11 u12 u13 u14 u15 u16 u17 u18 s2) 23 []) (S1 : sk_N) (S2 : sk_N) (S3 : sk_N) (S4 : sk_N) (S5 : sk_N) (S6 : sk_N) (S7 : sk_N) (S8 : sk_N) (S9 : sk_N) (S10 : sk_N) (S11 : sk_N) (S12 : sk_N) (S13 : sk_N) (S14 : sk_N) (S15 : sk_N) (S16 : sk_N) (S17 : sk_M) (S18 : sk_O) (x4 : Int32) (hg : sk_in x4 2049 = true) : sk_S Γ (lw_Φ Γ b) (kl x4) (nl x4) (m_L_c34 L xs k23 S1 S2 S3 S4 S5 S6 S7 S8 S9 S10 S11 S12 S13 S14 S15 S16 S17 S18 x4) [(pc_W u0 (u1 0) (u3 0) (u5 0) (u7 0) (u16 0)), (nt_W G u1 (u2 0) S1), (lg_W G u2 S2), (nt_W G u3 (u4 0) S3), (lg_W G u4 S4), (nt_W G u5 (u6 0) S5), (lg_W G u6 S6), (sv_W G u7 (u8 0) (u10 0) (u12 0) (u14 0) S7), (nt_W G u8 (u9 0) S8), (lg_W G u9 S9), (nt_W G u10 (u11 0) S10), (lg_W G u11 S11), (nt_W G u12 (u13 0) S12), (lg_W G u13 S13), (nt_W G u14 (u15 0) S14), (lg_W G u15 S15), (sc_W G u16 S16), (md_W G u17 S17), (ot_W G u18 S18)] [some (.ref b), some (.ref (u0 0)), some (.ref (u17 0)), some (.ref (u18 0)), some (.int x4), none, none] 2000 [] := by
  have hk0 := lw_hk hg
  have hn0 := lw_hn hg
  unfold m_L_c34
  refine sk_aload_n (pc' := 2001) X rfl dL_law_2000 rfl ?_
  refine sk_callV (bs2 := fun r2001 => [(pc_W u0 (u1 0) (u3 0) (u5 0) (u7 0) (u16 0)), (nt_W G u1 (u2 0) r2001.2.1), (lg_W G u2 r2001.2.2.1), (nt_W G u3 (u4 0) r2001.2.2.2.2.2.2.2.2.2.2.2.2.2.1), (lg_W G u4 r2001.2.2.2.2.2.2.2.2.2.2.2.2.2.2), (nt_W G u5 (u6 0) S5), (lg_W G u6 S6), (sv_W G u7 (u8 0) (u10 0) (u12 0) (u14 0) r2001.2.2.2.1), (nt_W G u8 (u9 0) r2001.2.2.2.2.1), (lg_W G u9 r2001.2.2.2.2.2.1), (nt_W G u10 (u11 0) r2001.2.2.2.2.2.2.1), (lg_W G u11 r2001.2.2.2.2.2.2.2.1), (nt_W G u12 (u13 0) r2001.2.2.2.2.2.2.2.2.1), (lg_W G u13 r2001.2.2.2.2.2.2.2.2.2.1), (nt_W G u14 (u15 0) r2001.2.2.2.2.2.2.2.2.2.2.1), (lg_W G u15 r2001.2.2.2.2.2.2.2.2.2.2.2.1), (sc_W G u16 r2001.2.2.2.2.2.2.2.2.2.2.2.2.1), (md_W G u17 S17), (ot_W G u18 S18)]) (st := []) (st2 := fun r2001 => [.int r2001.1]) (As := []) (pc' := 2004) X (c_X4_execute l G u0 u1 u2 u7 u8 u9 u10 u11 u12 u13 u14 u15 u16 u3 u4 (u5 0) S1 S2 S7 S8 S9 S10 S11 S12 S13 S14 S15 S16 S3 S4) lk_RL_223 [0, 1, 2, 7, 8, 9, 10, 11, 12, 13, 14, 15, 16, 3, 4] rfl (by decide) (fun _ => rfl) rfl rfl rfl ⟨(Nat.le_of_ble_eq_true rfl), (Nat.le_of_ble_eq_true rfl)⟩ ⟨rfl, rfl⟩ ⟨by omega, by omega⟩ rfl (Nat.le_of_ble_eq_true rfl) rfl dL_law_2001 rfl (fun _ => rfl) (fun _ => rfl) (fun r2001 => ?_)
  refine sk_aload_n (pc' := 2005) X rfl dL_law_2004 rfl ?_
  refine sk_callV (bs2 := fun r2005 => [(pc_W u0 (u1 0) (u3 0) (u5 0) (u7 0) (u16 0)), (nt_W G u1 (u2 0) r2001.2.1), (lg_W G u2 r2001.2.2.1), (nt_W G u3 (u4 0) r2001.2.2.2.2.2.2.2.2.2.2.2.2.2.1), (lg_W G u4 r2001.2.2.2.2.2.2.2.2.2.2.2.2.2.2), (nt_W G u5 (u6 0) S5), (lg_W G u6 S6), (sv_W G u7 (u8 0) (u10 0) (u12 0) (u14 0) r2001.2.2.2.1), (nt_W G u8 (u9 0) r2001.2.2.2.2.1), (lg_W G u9 r2001.2.2.2.2.2.1), (nt_W G u10 (u11 0) r2001.2.2.2.2.2.2.1), (lg_W G u11 r2001.2.2.2.2.2.2.2.1), (nt_W G u12 (u13 0) r2001.2.2.2.2.2.2.2.2.1), (lg_W G u13 r2001.2.2.2.2.2.2.2.2.2.1), (nt_W G u14 (u15 0) r2001.2.2.2.2.2.2.2.2.2.2.1), (lg_W G u15 r2001.2.2.2.2.2.2.2.2.2.2.2.1), (sc_W G u16 r2001.2.2.2.2.2.2.2.2.2.2.2.2.1), (md_W G u17 r2005.2), (ot_W G u18 S18)]) (st := [.int r2001.1]) (st2 := fun r2005 => [.int r2005.1, .int r2001.1]) (As := []) (pc' := 2008) X (c_X5_execute l G u17 S17) lk_RL_226 [17] rfl (by decide) (fun _ => rfl) rfl rfl rfl ⟨(Nat.le_of_ble_eq_true rfl), (Nat.le_of_ble_eq_true rfl)⟩ ⟨rfl, rfl⟩ ⟨by omega, by omega⟩ rfl (Nat.le_of_ble_eq_true rfl) rfl dL_law_2005 rfl (fun _ => rfl) (fun _ => rfl) (fun r2005 => ?_)
  refine sk_icmp_eq (tgt := 2071) (pc' := 2011) X dL_law_2008 rfl rfl ?_ ?_
  · refine sk_iinc (lv' := [some (.ref b), some (.ref (u0 0)), some (.ref (u17 0)), some (.ref (u18 0)), some (.int (x4 + (4 : Int32))), none, none]) (pc' := 2074) X rfl ic_4 (Nat.le_of_ble_eq_true rfl) rfl rfl dL_law_2071 rfl ?_
    refine sk_goto (tgt := 23) X dL_law_2074 rfl ?_
    first | exact sk_widen (lw_k (lw_i4 hg) (Nat.le_of_ble_eq_true rfl)) (lw_n (lw_i4 hg) (Nat.le_of_ble_eq_true rfl)) (ih23 (r2001.2.1, r2001.2.2.1, r2001.2.2.2.2.2.2.2.2.2.2.2.2.2.1, r2001.2.2.2.2.2.2.2.2.2.2.2.2.2.2, S5, S6, r2001.2.2.2.1, r2001.2.2.2.2.1, r2001.2.2.2.2.2.1, r2001.2.2.2.2.2.2.1, r2001.2.2.2.2.2.2.2.1, r2001.2.2.2.2.2.2.2.2.1, r2001.2.2.2.2.2.2.2.2.2.1, r2001.2.2.2.2.2.2.2.2.2.2.1, r2001.2.2.2.2.2.2.2.2.2.2.2.1, r2001.2.2.2.2.2.2.2.2.2.2.2.2.1, r2005.2, S18, (x4 + (4 : Int32)))) | exact sk_widen (lw_k0 (lw_i4 hg)) (lw_n0 (lw_i4 hg)) (ih23 (r2001.2.1, r2001.2.2.1, r2001.2.2.2.2.2.2.2.2.2.2.2.2.2.1, r2001.2.2.2.2.2.2.2.2.2.2.2.2.2.2, S5, S6, r2001.2.2.2.1, r2001.2.2.2.2.1, r2001.2.2.2.2.2.1, r2001.2.2.2.2.2.2.1, r2001.2.2.2.2.2.2.2.1, r2001.2.2.2.2.2.2.2.2.1, r2001.2.2.2.2.2.2.2.2.2.1, r2001.2.2.2.2.2.2.2.2.2.2.1, r2001.2.2.2.2.2.2.2.2.2.2.2.1, r2001.2.2.2.2.2.2.2.2.2.2.2.2.1, r2005.2, S18, (x4 + (4 : Int32))))
  · refine sk_iconst (pc' := 2012) X ic_0 dL_law_2011 rfl ?_
    exact sk_lfalse
set_option maxHeartbeats 4000000 in
set_option maxRecDepth 100000 in
theorem lc_35 {Γ : sk_K} {l : Launch} (hl0 : l.stackTraces = false) {G : sk_G} {t b L : Nat} {xs : Nat → Int32} (X : sk_X Γ l G room_1 7 RL code ret) (E : sk_EL Γ t b L xs) (u0 u1 u2 u3 u4 u5 u6 u7 u8 u9 u10 u11 u12 u13 u14 u15 u16 u17 u18 : Nat → Nat) (k23 : lw_σ → Option Int32) (ih23 : ∀ s2 : lw_σ, sk_S Γ (lw_Φ Γ b) (kl s2.2.2.2.2.2.2.2.2.2.2.2.2.2.2.2.2.2.2) (nl s2.2.2.2.2.2.2.2.2.2.2.2.2.2.2.2.2.2.2) (k23 s2) (lw_bs G u0 u1 u2 u3 u4 u5 u6 u7 u8 u9 u10 u11 u12 u13 u14 u15 u16 u17 u18 s2) (lw_lv b u0 u1 u2 u3 u4 u5 u6 u7 u8 u9 u10 u11 u12 u13 u14 u15 u16 u17 u18 s2) 23 []) (S1 : sk_N) (S2 : sk_N) (S3 : sk_N) (S4 : sk_N) (S5 : sk_N) (S6 : sk_N) (S7 : sk_N) (S8 : sk_N) (S9 : sk_N) (S10 : sk_N) (S11 : sk_N) (S12 : sk_N) (S13 : sk_N) (S14 : sk_N) (S15 : sk_N) (S16 : sk_N) (S17 : sk_M) (S18 : sk_O) (x4 : Int32) (hg : sk_in x4 2049 = true) : sk_S Γ (lw_Φ Γ b) (kl x4) (nl x4) (m_L_c35 L xs k23 S1 S2 S3 S4 S5 S6 S7 S8 S9 S10 S11 S12 S13 S14 S15 S16 S17 S18 x4) [(pc_W u0 (u1 0) (u3 0) (u5 0) (u7 0) (u16 0)), (nt_W G u1 (u2 0) S1), (lg_W G u2 S2), (nt_W G u3 (u4 0) S3), (lg_W G u4 S4), (nt_W G u5 (u6 0) S5), (lg_W G u6 S6), (sv_W G u7 (u8 0) (u10 0) (u12 0) (u14 0) S7), (nt_W G u8 (u9 0) S8), (lg_W G u9 S9), (nt_W G u10 (u11 0) S10), (lg_W G u11 S11), (nt_W G u12 (u13 0) S12), (lg_W G u13 S13), (nt_W G u14 (u15 0) S14), (lg_W G u15 S15), (sc_W G u16 S16), (md_W G u17 S17), (ot_W G u18 S18)] [some (.ref b), some (.ref (u0 0)), some (.ref (u17 0)), some (.ref (u18 0)), some (.int x4), none, none] 2013 [] := by
  have hk0 := lw_hk hg
  have hn0 := lw_hn hg
  unfold m_L_c35
  refine sk_aload_n (pc' := 2014) X rfl dL_law_2013 rfl ?_
  refine sk_aload_n (pc' := 2015) X rfl dL_law_2014 rfl ?_
  refine sk_callSH (bs2 := fun r2015 => [(pc_W u0 (u1 0) (u3 0) (u5 0) (u7 0) (u16 0)), (nt_W G u1 (u2 0) r2015.2.1), (lg_W G u2 r2015.2.2.1), (nt_W G u3 (u4 0) S3), (lg_W G u4 S4), (nt_W G u5 (u6 0) S5), (lg_W G u6 S6), (sv_W G u7 (u8 0) (u10 0) (u12 0) (u14 0) r2015.2.2.2.1), (nt_W G u8 (u9 0) S8), (lg_W G u9 S9), (nt_W G u10 (u11 0) S10), (lg_W G u11 S11), (nt_W G u12 (u13 0) S12), (lg_W G u13 S13), (nt_W G u14 (u15 0) S14), (lg_W G u15 S15), (sc_W G u16 S16), (md_W G u17 S17), (ot_W G u18 r2015.2.2.2.2)]) (st := []) (st2 := fun r2015 => [.int r2015.1]) (As := [.ref (u0 0), .ref (u18 0)]) (pc' := 2018) X E (c_L_undo l hl0 t G u0 u1 u2 u7 u8 u9 u10 u11 u12 u13 u14 u15 u18 (u3 0) (u5 0) (u16 0) S1 S2 S7 S8 S9 S10 S11 S12 S13 S14 S15 S18) lkh_RL_227 [0, 1, 2, 7, 8, 9, 10, 11, 12, 13, 14, 15, 18] rfl (by decide) (fun _ => rfl) ⟨(Nat.le_of_ble_eq_true rfl), (Nat.le_of_ble_eq_true rfl)⟩ ⟨rfl, rfl⟩ ⟨by omega, by omega⟩ rfl (Nat.le_of_ble_eq_true rfl) rfl dL_law_2015 rfl (fun _ => rfl) (fun _ => rfl) (fun r2015 => ?_)
  refine sk_istore (lv' := [some (.ref b), some (.ref (u0 0)), some (.ref (u17 0)), some (.ref (u18 0)), some (.int x4), some (.int r2015.1), none]) (pc' := 2020) X (Nat.le_of_ble_eq_true rfl) rfl rfl dL_law_2018 rfl ?_
  refine sk_aload_n (pc' := 2021) X rfl dL_law_2020 rfl ?_
  refine sk_callV (bs2 := fun r2021 => [(pc_W u0 (u1 0) (u3 0) (u5 0) (u7 0) (u16 0)), (nt_W G u1 (u2 0) r2015.2.1), (lg_W G u2 r2015.2.2.1), (nt_W G u3 (u4 0) S3), (lg_W G u4 S4), (nt_W G u5 (u6 0) S5), (lg_W G u6 S6), (sv_W G u7 (u8 0) (u10 0) (u12 0) (u14 0) r2015.2.2.2.1), (nt_W G u8 (u9 0) S8), (lg_W G u9 S9), (nt_W G u10 (u11 0) S10), (lg_W G u11 S11), (nt_W G u12 (u13 0) S12), (lg_W G u13 S13), (nt_W G u14 (u15 0) S14), (lg_W G u15 S15), (sc_W G u16 S16), (md_W G u17 r2021.2), (ot_W G u18 r2015.2.2.2.2)]) (st := []) (st2 := fun r2021 => [.int r2021.1]) (As := []) (pc' := 2024) X (c_X5_undo l G u17 S17) lk_RL_230 [17] rfl (by decide) (fun _ => rfl) rfl rfl rfl ⟨(Nat.le_of_ble_eq_true rfl), (Nat.le_of_ble_eq_true rfl)⟩ ⟨rfl, rfl⟩ ⟨by omega, by omega⟩ rfl (Nat.le_of_ble_eq_true rfl) rfl dL_law_2021 rfl (fun _ => rfl) (fun _ => rfl) (fun r2021 => ?_)
  refine sk_istore (lv' := [some (.ref b), some (.ref (u0 0)), some (.ref (u17 0)), some (.ref (u18 0)), some (.int x4), some (.int r2015.1), some (.int r2021.1)]) (pc' := 2026) X (Nat.le_of_ble_eq_true rfl) rfl rfl dL_law_2024 rfl ?_
  refine sk_aload_n (pc' := 2027) X rfl dL_law_2026 rfl ?_
  refine sk_callV (bs2 := fun r2027 => [(pc_W u0 (u1 0) (u3 0) (u5 0) (u7 0) (u16 0)), (nt_W G u1 (u2 0) r2015.2.1), (lg_W G u2 r2015.2.2.1), (nt_W G u3 (u4 0) S3), (lg_W G u4 S4), (nt_W G u5 (u6 0) S5), (lg_W G u6 S6), (sv_W G u7 (u8 0) (u10 0) (u12 0) (u14 0) r2015.2.2.2.1), (nt_W G u8 (u9 0) S8), (lg_W G u9 S9), (nt_W G u10 (u11 0) S10), (lg_W G u11 S11), (nt_W G u12 (u13 0) S12), (lg_W G u13 S13), (nt_W G u14 (u15 0) S14), (lg_W G u15 S15), (sc_W G u16 S16), (md_W G u17 r2021.2), (ot_W G u18 r2015.2.2.2.2)]) (st := []) (st2 := fun r2027 => [.int r2027]) (As := []) (pc' := 2030) X (c_X5_thrown l G u17 r2021.2) lk_RL_109 [17] rfl (by decide) (fun _ => rfl) rfl rfl rfl ⟨(Nat.le_of_ble_eq_true rfl), (Nat.le_of_ble_eq_true rfl)⟩ ⟨rfl, rfl⟩ ⟨by omega, by omega⟩ rfl (Nat.le_of_ble_eq_true rfl) rfl dL_law_2027 rfl (fun _ => rfl) (fun _ => rfl) (fun r2027 => ?_)
  refine sk_iload (pc' := 2032) X rfl dL_law_2030 rfl ?_
  refine sk_icmp_eq (tgt := 2037) (pc' := 2035) X dL_law_2032 rfl rfl ?_ ?_
  · refine sk_iload (pc' := 2039) X rfl dL_law_2037 rfl ?_
    refine sk_if_ne (tgt := 2054) (pc' := 2042) X dL_law_2039 rfl rfl ?_ ?_
    · refine sk_goto (tgt := 2071) X dL_law_2054 rfl ?_
      refine sk_iinc (lv' := [some (.ref b), some (.ref (u0 0)), some (.ref (u17 0)), some (.ref (u18 0)), some (.int (x4 + (4 : Int32))), some (.int r2015.1), some (.int r2021.1)]) (pc' := 2074) X rfl ic_4 (Nat.le_of_ble_eq_true rfl) rfl rfl dL_law_2071 rfl ?_
      refine sk_goto (tgt := 23) X dL_law_2074 rfl ?_
      first | exact sk_widen (lw_k (lw_i4 hg) (Nat.le_of_ble_eq_true rfl)) (lw_n (lw_i4 hg) (Nat.le_of_ble_eq_true rfl)) (sk_kill 6 (sk_kill 5 (ih23 (r2015.2.1, r2015.2.2.1, S3, S4, S5, S6, r2015.2.2.2.1, S8, S9, S10, S11, S12, S13, S14, S15, S16, r2021.2, r2015.2.2.2.2, (x4 + (4 : Int32)))))) | exact sk_widen (lw_k0 (lw_i4 hg)) (lw_n0 (lw_i4 hg)) (sk_kill 6 (sk_kill 5 (ih23 (r2015.2.1, r2015.2.2.1, S3, S4, S5, S6, r2015.2.2.2.1, S8, S9, S10, S11, S12, S13, S14, S15, S16, r2021.2, r2015.2.2.2.2, (x4 + (4 : Int32))))))
    · refine sk_aload_n (pc' := 2043) X rfl dL_law_2042 rfl ?_
      refine sk_iconst (pc' := 2044) X ic_0 dL_law_2043 rfl ?_
      refine sk_lald (pc' := 2045) X 18 0 rfl rfl dL_law_2044 rfl ?_
      refine sk_iload (pc' := 2047) X rfl dL_law_2045 rfl ?_
      refine sk_i2l (pc' := 2048) X dL_law_2047 rfl ?_
      refine sk_lcmp (pc' := 2049) X dL_law_2048 rfl ?_
      refine sk_if_eq (tgt := 2054) (pc' := 2052) X dL_law_2049 rfl rfl ?_ ?_
      · refine sk_goto (tgt := 2071) X dL_law_2054 rfl ?_
        refine sk_iinc (lv' := [some (.ref b), some (.ref (u0 0)), some (.ref (u17 0)), some (.ref (u18 0)), some (.int (x4 + (4 : Int32))), some (.int r2015.1), some (.int r2021.1)]) (pc' := 2074) X rfl ic_4 (Nat.le_of_ble_eq_true rfl) rfl rfl dL_law_2071 rfl ?_
        refine sk_goto (tgt := 23) X dL_law_2074 rfl ?_
        first | exact sk_widen (lw_k (lw_i4 hg) (Nat.le_of_ble_eq_true rfl)) (lw_n (lw_i4 hg) (Nat.le_of_ble_eq_true rfl)) (sk_kill 6 (sk_kill 5 (ih23 (r2015.2.1, r2015.2.2.1, S3, S4, S5, S6, r2015.2.2.2.1, S8, S9, S10, S11, S12, S13, S14, S15, S16, r2021.2, r2015.2.2.2.2, (x4 + (4 : Int32)))))) | exact sk_widen (lw_k0 (lw_i4 hg)) (lw_n0 (lw_i4 hg)) (sk_kill 6 (sk_kill 5 (ih23 (r2015.2.1, r2015.2.2.1, S3, S4, S5, S6, r2015.2.2.2.1, S8, S9, S10, S11, S12, S13, S14, S15, S16, r2021.2, r2015.2.2.2.2, (x4 + (4 : Int32))))))
      · refine sk_iconst (pc' := 2053) X ic_0 dL_law_2052 rfl ?_
        exact sk_lfalse
  · refine sk_iconst (pc' := 2036) X ic_0 dL_law_2035 rfl ?_
    exact sk_lfalse
set_option maxHeartbeats 4000000 in
set_option maxRecDepth 100000 in
theorem lc_36 {Γ : sk_K} {l : Launch} (hl0 : l.stackTraces = false) {G : sk_G} {t b L : Nat} {xs : Nat → Int32} (X : sk_X Γ l G room_1 7 RL code ret) (E : sk_EL Γ t b L xs) (u0 u1 u2 u3 u4 u5 u6 u7 u8 u9 u10 u11 u12 u13 u14 u15 u16 u17 u18 : Nat → Nat) (k23 : lw_σ → Option Int32) (ih23 : ∀ s2 : lw_σ, sk_S Γ (lw_Φ Γ b) (kl s2.2.2.2.2.2.2.2.2.2.2.2.2.2.2.2.2.2.2) (nl s2.2.2.2.2.2.2.2.2.2.2.2.2.2.2.2.2.2.2) (k23 s2) (lw_bs G u0 u1 u2 u3 u4 u5 u6 u7 u8 u9 u10 u11 u12 u13 u14 u15 u16 u17 u18 s2) (lw_lv b u0 u1 u2 u3 u4 u5 u6 u7 u8 u9 u10 u11 u12 u13 u14 u15 u16 u17 u18 s2) 23 []) (S1 : sk_N) (S2 : sk_N) (S3 : sk_N) (S4 : sk_N) (S5 : sk_N) (S6 : sk_N) (S7 : sk_N) (S8 : sk_N) (S9 : sk_N) (S10 : sk_N) (S11 : sk_N) (S12 : sk_N) (S13 : sk_N) (S14 : sk_N) (S15 : sk_N) (S16 : sk_N) (S17 : sk_M) (S18 : sk_O) (x4 : Int32) (hg : sk_in x4 2049 = true) : sk_S Γ (lw_Φ Γ b) (kl x4) (nl x4) (m_L_c36 L xs k23 S1 S2 S3 S4 S5 S6 S7 S8 S9 S10 S11 S12 S13 S14 S15 S16 S17 S18 x4) [(pc_W u0 (u1 0) (u3 0) (u5 0) (u7 0) (u16 0)), (nt_W G u1 (u2 0) S1), (lg_W G u2 S2), (nt_W G u3 (u4 0) S3), (lg_W G u4 S4), (nt_W G u5 (u6 0) S5), (lg_W G u6 S6), (sv_W G u7 (u8 0) (u10 0) (u12 0) (u14 0) S7), (nt_W G u8 (u9 0) S8), (lg_W G u9 S9), (nt_W G u10 (u11 0) S10), (lg_W G u11 S11), (nt_W G u12 (u13 0) S12), (lg_W G u13 S13), (nt_W G u14 (u15 0) S14), (lg_W G u15 S15), (sc_W G u16 S16), (md_W G u17 S17), (ot_W G u18 S18)] [some (.ref b), some (.ref (u0 0)), some (.ref (u17 0)), some (.ref (u18 0)), some (.int x4), none, none] 2057 [] := by
  have hk0 := lw_hk hg
  have hn0 := lw_hn hg
  unfold m_L_c36
  refine sk_aload_n (pc' := 2058) X rfl dL_law_2057 rfl ?_
  refine sk_callV (bs2 := fun r2058 => [(pc_W u0 (u1 0) (u3 0) (u5 0) (u7 0) (u16 0)), (nt_W G u1 (u2 0) S1), (lg_W G u2 S2), (nt_W G u3 (u4 0) S3), (lg_W G u4 S4), (nt_W G u5 (u6 0) S5), (lg_W G u6 S6), (sv_W G u7 (u8 0) (u10 0) (u12 0) (u14 0) S7), (nt_W G u8 (u9 0) S8), (lg_W G u9 S9), (nt_W G u10 (u11 0) S10), (lg_W G u11 S11), (nt_W G u12 (u13 0) S12), (lg_W G u13 S13), (nt_W G u14 (u15 0) S14), (lg_W G u15 S15), (sc_W G u16 S16), (md_W G u17 S17), (ot_W G u18 S18)]) (st := []) (st2 := fun r2058 => [.long r2058]) (As := []) (pc' := 2061) X (c_X4_digest l G u0 u1 u2 u7 u16 (u3 0) (u5 0) (u8 0) (u10 0) (u12 0) (u14 0) S1 S2 S7 S16) lk_RL_231 [0, 1, 2, 7, 16] rfl (by decide) (fun _ => rfl) rfl rfl rfl ⟨(Nat.le_of_ble_eq_true rfl), (Nat.le_of_ble_eq_true rfl)⟩ ⟨rfl, rfl⟩ ⟨by omega, by omega⟩ rfl (Nat.le_of_ble_eq_true rfl) rfl dL_law_2058 rfl (fun _ => rfl) (fun _ => rfl) (fun r2058 => ?_)
  refine sk_aload_n (pc' := 2062) X rfl dL_law_2061 rfl ?_
  refine sk_callV (bs2 := fun r2062 => [(pc_W u0 (u1 0) (u3 0) (u5 0) (u7 0) (u16 0)), (nt_W G u1 (u2 0) S1), (lg_W G u2 S2), (nt_W G u3 (u4 0) S3), (lg_W G u4 S4), (nt_W G u5 (u6 0) S5), (lg_W G u6 S6), (sv_W G u7 (u8 0) (u10 0) (u12 0) (u14 0) S7), (nt_W G u8 (u9 0) S8), (lg_W G u9 S9), (nt_W G u10 (u11 0) S10), (lg_W G u11 S11), (nt_W G u12 (u13 0) S12), (lg_W G u13 S13), (nt_W G u14 (u15 0) S14), (lg_W G u15 S15), (sc_W G u16 S16), (md_W G u17 r2062.2), (ot_W G u18 S18)]) (st := [.long r2058]) (st2 := fun r2062 => [.long r2062.1, .long r2058]) (As := []) (pc' := 2065) X (c_X5_digest l G u17 S17) lk_RL_235 [17] rfl (by decide) (fun _ => rfl) rfl rfl rfl ⟨(Nat.le_of_ble_eq_true rfl), (Nat.le_of_ble_eq_true rfl)⟩ ⟨rfl, rfl⟩ ⟨by omega, by omega⟩ rfl (Nat.le_of_ble_eq_true rfl) rfl dL_law_2062 rfl (fun _ => rfl) (fun _ => rfl) (fun r2062 => ?_)
  refine sk_lcmp (pc' := 2066) X dL_law_2065 rfl ?_
  refine sk_if_eq (tgt := 2071) (pc' := 2069) X dL_law_2066 rfl rfl ?_ ?_
  · refine sk_iinc (lv' := [some (.ref b), some (.ref (u0 0)), some (.ref (u17 0)), some (.ref (u18 0)), some (.int (x4 + (4 : Int32))), none, none]) (pc' := 2074) X rfl ic_4 (Nat.le_of_ble_eq_true rfl) rfl rfl dL_law_2071 rfl ?_
    refine sk_goto (tgt := 23) X dL_law_2074 rfl ?_
    first | exact sk_widen (lw_k (lw_i4 hg) (Nat.le_of_ble_eq_true rfl)) (lw_n (lw_i4 hg) (Nat.le_of_ble_eq_true rfl)) (ih23 (S1, S2, S3, S4, S5, S6, S7, S8, S9, S10, S11, S12, S13, S14, S15, S16, r2062.2, S18, (x4 + (4 : Int32)))) | exact sk_widen (lw_k0 (lw_i4 hg)) (lw_n0 (lw_i4 hg)) (ih23 (S1, S2, S3, S4, S5, S6, S7, S8, S9, S10, S11, S12, S13, S14, S15, S16, r2062.2, S18, (x4 + (4 : Int32))))
  · refine sk_iconst (pc' := 2070) X ic_0 dL_law_2069 rfl ?_
    exact sk_lfalse
set_option maxHeartbeats 4000000 in
set_option maxRecDepth 100000 in
theorem lc_hd {Γ : sk_K} {l : Launch} (hl0 : l.stackTraces = false) {G : sk_G} {t b L : Nat} {xs : Nat → Int32} (X : sk_X Γ l G room_1 7 RL code ret) (E : sk_EL Γ t b L xs) (u0 u1 u2 u3 u4 u5 u6 u7 u8 u9 u10 u11 u12 u13 u14 u15 u16 u17 u18 : Nat → Nat) (k23 : lw_σ → Option Int32) (ih23 : ∀ s2 : lw_σ, sk_S Γ (lw_Φ Γ b) (kl s2.2.2.2.2.2.2.2.2.2.2.2.2.2.2.2.2.2.2) (nl s2.2.2.2.2.2.2.2.2.2.2.2.2.2.2.2.2.2.2) (k23 s2) (lw_bs G u0 u1 u2 u3 u4 u5 u6 u7 u8 u9 u10 u11 u12 u13 u14 u15 u16 u17 u18 s2) (lw_lv b u0 u1 u2 u3 u4 u5 u6 u7 u8 u9 u10 u11 u12 u13 u14 u15 u16 u17 u18 s2) 23 []) (hA : ∀ q, Γ.2.2.2.2.2.2.2.2.2.2.2.2 q → Γ.2.2.2.2.1.heap.size ≤ q) (hav : Γ.2.2.2.2.2.2.1 = #[Value.ref b]) (S1 : sk_N) (S2 : sk_N) (S3 : sk_N) (S4 : sk_N) (S5 : sk_N) (S6 : sk_N) (S7 : sk_N) (S8 : sk_N) (S9 : sk_N) (S10 : sk_N) (S11 : sk_N) (S12 : sk_N) (S13 : sk_N) (S14 : sk_N) (S15 : sk_N) (S16 : sk_N) (S17 : sk_M) (S18 : sk_O) (x4 : Int32) : sk_S Γ (lw_Φ Γ b) (kl x4) (nl x4) (m_L_hd L xs k23 S1 S2 S3 S4 S5 S6 S7 S8 S9 S10 S11 S12 S13 S14 S15 S16 S17 S18 x4) [(pc_W u0 (u1 0) (u3 0) (u5 0) (u7 0) (u16 0)), (nt_W G u1 (u2 0) S1), (lg_W G u2 S2), (nt_W G u3 (u4 0) S3), (lg_W G u4 S4), (nt_W G u5 (u6 0) S5), (lg_W G u6 S6), (sv_W G u7 (u8 0) (u10 0) (u12 0) (u14 0) S7), (nt_W G u8 (u9 0) S8), (lg_W G u9 S9), (nt_W G u10 (u11 0) S10), (lg_W G u11 S11), (nt_W G u12 (u13 0) S12), (lg_W G u13 S13), (nt_W G u14 (u15 0) S14), (lg_W G u15 S15), (sc_W G u16 S16), (md_W G u17 S17), (ot_W G u18 S18)] [some (.ref b), some (.ref (u0 0)), some (.ref (u17 0)), some (.ref (u18 0)), some (.int x4), none, none] 23 [] := by
  unfold m_L_hd
  refine sk_guard (fun hg => ?_)
  have hk0 := lw_hk hg
  have hn0 := lw_hn hg
  refine sk_iload (pc' := 25) X rfl dL_law_23 rfl ?_
  refine sk_aload_n (pc' := 26) X rfl dL_law_25 rfl ?_
  refine sk_scl (pc' := 27) X E dL_law_26 rfl ?_
  refine sk_iconst (pc' := 28) X ic_4 dL_law_27 rfl ?_
  refine sk_isub (pc' := 29) X dL_law_28 rfl ?_
  refine sk_icmp_gt (tgt := 2077) (pc' := 32) X dL_law_29 rfl rfl ?_ ?_
  · refine sk_iconst (pc' := 2078) X ic_1 dL_law_2077 rfl ?_
    exact sk_ltrue X hA hav (Nat.le_trans (Nat.le_add_right _ _) (lw_hk hg)) (Nat.le_trans (Nat.le_add_right _ _) (lw_hn hg)) dL_law_2078
  · refine sk_aload_n (pc' := 33) X rfl dL_law_32 rfl ?_
    refine sk_iload (pc' := 35) X rfl dL_law_33 rfl ?_
    refine sk_scd (pc' := 36) X E dL_law_35 rfl ?_
    refine sk_bipush (pc' := 38) X bp_63 dL_law_36 rfl ?_
    refine sk_iand (pc' := 39) X dL_law_38 rfl ?_
    refine sk_ite (fun hs39_0 => ?_) (fun hs39_0 => ?_)
    · refine sk_tableIn (tgt := 200) X dL_law_39 (by rw [hs39_0]; decide) (by rw [hs39_0]; decide) (by rw [hs39_0]; try rfl) rfl ?_
      exact lc_0 hl0 X E u0 u1 u2 u3 u4 u5 u6 u7 u8 u9 u10 u11 u12 u13 u14 u15 u16 u17 u18 k23 ih23 S1 S2 S3 S4 S5 S6 S7 S8 S9 S10 S11 S12 S13 S14 S15 S16 S17 S18 x4 hg
    ·
      refine sk_ite (fun hs39_1 => ?_) (fun hs39_1 => ?_)
      · refine sk_tableIn (tgt := 256) X dL_law_39 (by rw [hs39_1]; decide) (by rw [hs39_1]; decide) (by rw [hs39_1]; try rfl) rfl ?_
        exact lc_1 hl0 X E u0 u1 u2 u3 u4 u5 u6 u7 u8 u9 u10 u11 u12 u13 u14 u15 u16 u17 u18 k23 ih23 S1 S2 S3 S4 S5 S6 S7 S8 S9 S10 S11 S12 S13 S14 S15 S16 S17 S18 x4 hg
      ·
        refine sk_ite (fun hs39_2 => ?_) (fun hs39_2 => ?_)
        · refine sk_tableIn (tgt := 324) X dL_law_39 (by rw [hs39_2]; decide) (by rw [hs39_2]; decide) (by rw [hs39_2]; try rfl) rfl ?_
          exact lc_2 hl0 X E u0 u1 u2 u3 u4 u5 u6 u7 u8 u9 u10 u11 u12 u13 u14 u15 u16 u17 u18 k23 ih23 S1 S2 S3 S4 S5 S6 S7 S8 S9 S10 S11 S12 S13 S14 S15 S16 S17 S18 x4 hg
        ·
          refine sk_ite (fun hs39_3 => ?_) (fun hs39_3 => ?_)
          · refine sk_tableIn (tgt := 392) X dL_law_39 (by rw [hs39_3]; decide) (by rw [hs39_3]; decide) (by rw [hs39_3]; try rfl) rfl ?_
            exact lc_3 hl0 X E u0 u1 u2 u3 u4 u5 u6 u7 u8 u9 u10 u11 u12 u13 u14 u15 u16 u17 u18 k23 ih23 S1 S2 S3 S4 S5 S6 S7 S8 S9 S10 S11 S12 S13 S14 S15 S16 S17 S18 x4 hg
          ·
            refine sk_ite (fun hs39_4 => ?_) (fun hs39_4 => ?_)
            · refine sk_tableIn (tgt := 472) X dL_law_39 (by rw [hs39_4]; decide) (by rw [hs39_4]; decide) (by rw [hs39_4]; try rfl) rfl ?_
              exact lc_4 hl0 X E u0 u1 u2 u3 u4 u5 u6 u7 u8 u9 u10 u11 u12 u13 u14 u15 u16 u17 u18 k23 ih23 S1 S2 S3 S4 S5 S6 S7 S8 S9 S10 S11 S12 S13 S14 S15 S16 S17 S18 x4 hg
            ·
              refine sk_ite (fun hs39_5 => ?_) (fun hs39_5 => ?_)
              · refine sk_tableIn (tgt := 528) X dL_law_39 (by rw [hs39_5]; decide) (by rw [hs39_5]; decide) (by rw [hs39_5]; try rfl) rfl ?_
                exact lc_5 hl0 X E u0 u1 u2 u3 u4 u5 u6 u7 u8 u9 u10 u11 u12 u13 u14 u15 u16 u17 u18 k23 ih23 S1 S2 S3 S4 S5 S6 S7 S8 S9 S10 S11 S12 S13 S14 S15 S16 S17 S18 x4 hg
              ·
                refine sk_ite (fun hs39_6 => ?_) (fun hs39_6 => ?_)
                · refine sk_tableIn (tgt := 608) X dL_law_39 (by rw [hs39_6]; decide) (by rw [hs39_6]; decide) (by rw [hs39_6]; try rfl) rfl ?_
                  exact lc_6 hl0 X E u0 u1 u2 u3 u4 u5 u6 u7 u8 u9 u10 u11 u12 u13 u14 u15 u16 u17 u18 k23 ih23 S1 S2 S3 S4 S5 S6 S7 S8 S9 S10 S11 S12 S13 S14 S15 S16 S17 S18 x4 hg
                ·
                  refine sk_ite (fun hs39_7 => ?_) (fun hs39_7 => ?_)
                  · refine sk_tableIn (tgt := 676) X dL_law_39 (by rw [hs39_7]; decide) (by rw [hs39_7]; decide) (by rw [hs39_7]; try rfl) rfl ?_
                    exact lc_7 hl0 X E u0 u1 u2 u3 u4 u5 u6 u7 u8 u9 u10 u11 u12 u13 u14 u15 u16 u17 u18 k23 ih23 S1 S2 S3 S4 S5 S6 S7 S8 S9 S10 S11 S12 S13 S14 S15 S16 S17 S18 x4 hg
                  ·
                    refine sk_ite (fun hs39_8 => ?_) (fun hs39_8 => ?_)
                    · refine sk_tableIn (tgt := 732) X dL_law_39 (by rw [hs39_8]; decide) (by rw [hs39_8]; decide) (by rw [hs39_8]; try rfl) rfl ?_
                      exact lc_8 hl0 X E u0 u1 u2 u3 u4 u5 u6 u7 u8 u9 u10 u11 u12 u13 u14 u15 u16 u17 u18 k23 ih23 S1 S2 S3 S4 S5 S6 S7 S8 S9 S10 S11 S12 S13 S14 S15 S16 S17 S18 x4 hg
                    ·
                      refine sk_ite (fun hs39_9 => ?_) (fun hs39_9 => ?_)
                      · refine sk_tableIn (tgt := 800) X dL_law_39 (by rw [hs39_9]; decide) (by rw [hs39_9]; decide) (by rw [hs39_9]; try rfl) rfl ?_
                        exact lc_9 hl0 X E u0 u1 u2 u3 u4 u5 u6 u7 u8 u9 u10 u11 u12 u13 u14 u15 u16 u17 u18 k23 ih23 S1 S2 S3 S4 S5 S6 S7 S8 S9 S10 S11 S12 S13 S14 S15 S16 S17 S18 x4 hg
                      ·
                        refine sk_ite (fun hs39_10 => ?_) (fun hs39_10 => ?_)
                        · refine sk_tableIn (tgt := 813) X dL_law_39 (by rw [hs39_10]; decide) (by rw [hs39_10]; decide) (by rw [hs39_10]; try rfl) rfl ?_
                          exact lc_10 hl0 X E u0 u1 u2 u3 u4 u5 u6 u7 u8 u9 u10 u11 u12 u13 u14 u15 u16 u17 u18 k23 ih23 S1 S2 S3 S4 S5 S6 S7 S8 S9 S10 S11 S12 S13 S14 S15 S16 S17 S18 x4 hg
                        ·
                          refine sk_ite (fun hs39_11 => ?_) (fun hs39_11 => ?_)
                          · refine sk_tableIn (tgt := 881) X dL_law_39 (by rw [hs39_11]; decide) (by rw [hs39_11]; decide) (by rw [hs39_11]; try rfl) rfl ?_
                            exact lc_11 hl0 X E u0 u1 u2 u3 u4 u5 u6 u7 u8 u9 u10 u11 u12 u13 u14 u15 u16 u17 u18 k23 ih23 S1 S2 S3 S4 S5 S6 S7 S8 S9 S10 S11 S12 S13 S14 S15 S16 S17 S18 x4 hg
                          ·
                            refine sk_ite (fun hs39_12 => ?_) (fun hs39_12 => ?_)
                            · refine sk_tableIn (tgt := 949) X dL_law_39 (by rw [hs39_12]; decide) (by rw [hs39_12]; decide) (by rw [hs39_12]; try rfl) rfl ?_
                              exact lc_12 hl0 X E u0 u1 u2 u3 u4 u5 u6 u7 u8 u9 u10 u11 u12 u13 u14 u15 u16 u17 u18 k23 ih23 S1 S2 S3 S4 S5 S6 S7 S8 S9 S10 S11 S12 S13 S14 S15 S16 S17 S18 x4 hg
                            ·
                              refine sk_ite (fun hs39_13 => ?_) (fun hs39_13 => ?_)
                              · refine sk_tableIn (tgt := 1017) X dL_law_39 (by rw [hs39_13]; decide) (by rw [hs39_13]; decide) (by rw [hs39_13]; try rfl) rfl ?_
                                exact lc_13 hl0 X E u0 u1 u2 u3 u4 u5 u6 u7 u8 u9 u10 u11 u12 u13 u14 u15 u16 u17 u18 k23 ih23 S1 S2 S3 S4 S5 S6 S7 S8 S9 S10 S11 S12 S13 S14 S15 S16 S17 S18 x4 hg
                              ·
                                refine sk_ite (fun hs39_14 => ?_) (fun hs39_14 => ?_)
                                · refine sk_tableIn (tgt := 1030) X dL_law_39 (by rw [hs39_14]; decide) (by rw [hs39_14]; decide) (by rw [hs39_14]; try rfl) rfl ?_
                                  exact lc_14 hl0 X E u0 u1 u2 u3 u4 u5 u6 u7 u8 u9 u10 u11 u12 u13 u14 u15 u16 u17 u18 k23 ih23 S1 S2 S3 S4 S5 S6 S7 S8 S9 S10 S11 S12 S13 S14 S15 S16 S17 S18 x4 hg
                                ·
                                  refine sk_ite (fun hs39_15 => ?_) (fun hs39_15 => ?_)
                                  · refine sk_tableIn (tgt := 1093) X dL_law_39 (by rw [hs39_15]; decide) (by rw [hs39_15]; decide) (by rw [hs39_15]; try rfl) rfl ?_
                                    exact lc_15 hl0 X E u0 u1 u2 u3 u4 u5 u6 u7 u8 u9 u10 u11 u12 u13 u14 u15 u16 u17 u18 k23 ih23 S1 S2 S3 S4 S5 S6 S7 S8 S9 S10 S11 S12 S13 S14 S15 S16 S17 S18 x4 hg
                                  ·
                                    refine sk_ite (fun hs39_16 => ?_) (fun hs39_16 => ?_)
                                    · refine sk_tableIn (tgt := 1149) X dL_law_39 (by rw [hs39_16]; decide) (by rw [hs39_16]; decide) (by rw [hs39_16]; try rfl) rfl ?_
                                      exact lc_16 hl0 X E u0 u1 u2 u3 u4 u5 u6 u7 u8 u9 u10 u11 u12 u13 u14 u15 u16 u17 u18 k23 ih23 S1 S2 S3 S4 S5 S6 S7 S8 S9 S10 S11 S12 S13 S14 S15 S16 S17 S18 x4 hg
                                    ·
                                      refine sk_ite (fun hs39_17 => ?_) (fun hs39_17 => ?_)
                                      · refine sk_tableIn (tgt := 1162) X dL_law_39 (by rw [hs39_17]; decide) (by rw [hs39_17]; decide) (by rw [hs39_17]; try rfl) rfl ?_
                                        exact lc_17 hl0 X E u0 u1 u2 u3 u4 u5 u6 u7 u8 u9 u10 u11 u12 u13 u14 u15 u16 u17 u18 k23 ih23 S1 S2 S3 S4 S5 S6 S7 S8 S9 S10 S11 S12 S13 S14 S15 S16 S17 S18 x4 hg
                                      ·
                                        refine sk_ite (fun hs39_18 => ?_) (fun hs39_18 => ?_)
                                        · refine sk_tableIn (tgt := 1215) X dL_law_39 (by rw [hs39_18]; decide) (by rw [hs39_18]; decide) (by rw [hs39_18]; try rfl) rfl ?_
                                          exact lc_18 hl0 X E u0 u1 u2 u3 u4 u5 u6 u7 u8 u9 u10 u11 u12 u13 u14 u15 u16 u17 u18 k23 ih23 S1 S2 S3 S4 S5 S6 S7 S8 S9 S10 S11 S12 S13 S14 S15 S16 S17 S18 x4 hg
                                        ·
                                          refine sk_ite (fun hs39_19 => ?_) (fun hs39_19 => ?_)
                                          · refine sk_tableIn (tgt := 1228) X dL_law_39 (by rw [hs39_19]; decide) (by rw [hs39_19]; decide) (by rw [hs39_19]; try rfl) rfl ?_
                                            exact lc_19 hl0 X E u0 u1 u2 u3 u4 u5 u6 u7 u8 u9 u10 u11 u12 u13 u14 u15 u16 u17 u18 k23 ih23 S1 S2 S3 S4 S5 S6 S7 S8 S9 S10 S11 S12 S13 S14 S15 S16 S17 S18 x4 hg
                                          ·
                                            refine sk_ite (fun hs39_20 => ?_) (fun hs39_20 => ?_)
                                            · refine sk_tableIn (tgt := 1241) X dL_law_39 (by rw [hs39_20]; decide) (by rw [hs39_20]; decide) (by rw [hs39_20]; try rfl) rfl ?_
                                              exact lc_20 hl0 X E u0 u1 u2 u3 u4 u5 u6 u7 u8 u9 u10 u11 u12 u13 u14 u15 u16 u17 u18 k23 ih23 S1 S2 S3 S4 S5 S6 S7 S8 S9 S10 S11 S12 S13 S14 S15 S16 S17 S18 x4 hg
                                            ·
                                              refine sk_ite (fun hs39_21 => ?_) (fun hs39_21 => ?_)
                                              · refine sk_tableIn (tgt := 1254) X dL_law_39 (by rw [hs39_21]; decide) (by rw [hs39_21]; decide) (by rw [hs39_21]; try rfl) rfl ?_
                                                exact lc_21 hl0 X E u0 u1 u2 u3 u4 u5 u6 u7 u8 u9 u10 u11 u12 u13 u14 u15 u16 u17 u18 k23 ih23 S1 S2 S3 S4 S5 S6 S7 S8 S9 S10 S11 S12 S13 S14 S15 S16 S17 S18 x4 hg
                                              ·
                                                refine sk_ite (fun hs39_22 => ?_) (fun hs39_22 => ?_)
                                                · refine sk_tableIn (tgt := 1338) X dL_law_39 (by rw [hs39_22]; decide) (by rw [hs39_22]; decide) (by rw [hs39_22]; try rfl) rfl ?_
                                                  exact lc_22 hl0 X E u0 u1 u2 u3 u4 u5 u6 u7 u8 u9 u10 u11 u12 u13 u14 u15 u16 u17 u18 k23 ih23 S1 S2 S3 S4 S5 S6 S7 S8 S9 S10 S11 S12 S13 S14 S15 S16 S17 S18 x4 hg
                                                ·
                                                  refine sk_ite (fun hs39_23 => ?_) (fun hs39_23 => ?_)
                                                  · refine sk_tableIn (tgt := 1394) X dL_law_39 (by rw [hs39_23]; decide) (by rw [hs39_23]; decide) (by rw [hs39_23]; try rfl) rfl ?_
                                                    exact lc_23 hl0 X E u0 u1 u2 u3 u4 u5 u6 u7 u8 u9 u10 u11 u12 u13 u14 u15 u16 u17 u18 k23 ih23 S1 S2 S3 S4 S5 S6 S7 S8 S9 S10 S11 S12 S13 S14 S15 S16 S17 S18 x4 hg
                                                  ·
                                                    refine sk_ite (fun hs39_24 => ?_) (fun hs39_24 => ?_)
                                                    · refine sk_tableIn (tgt := 1407) X dL_law_39 (by rw [hs39_24]; decide) (by rw [hs39_24]; decide) (by rw [hs39_24]; try rfl) rfl ?_
                                                      exact lc_24 hl0 X E u0 u1 u2 u3 u4 u5 u6 u7 u8 u9 u10 u11 u12 u13 u14 u15 u16 u17 u18 k23 ih23 S1 S2 S3 S4 S5 S6 S7 S8 S9 S10 S11 S12 S13 S14 S15 S16 S17 S18 x4 hg
                                                    ·
                                                      refine sk_ite (fun hs39_25 => ?_) (fun hs39_25 => ?_)
                                                      · refine sk_tableIn (tgt := 1475) X dL_law_39 (by rw [hs39_25]; decide) (by rw [hs39_25]; decide) (by rw [hs39_25]; try rfl) rfl ?_
                                                        exact lc_25 hl0 X E u0 u1 u2 u3 u4 u5 u6 u7 u8 u9 u10 u11 u12 u13 u14 u15 u16 u17 u18 k23 ih23 S1 S2 S3 S4 S5 S6 S7 S8 S9 S10 S11 S12 S13 S14 S15 S16 S17 S18 x4 hg
                                                      ·
                                                        refine sk_ite (fun hs39_26 => ?_) (fun hs39_26 => ?_)
                                                        · refine sk_tableIn (tgt := 1531) X dL_law_39 (by rw [hs39_26]; decide) (by rw [hs39_26]; decide) (by rw [hs39_26]; try rfl) rfl ?_
                                                          exact lc_26 hl0 X E u0 u1 u2 u3 u4 u5 u6 u7 u8 u9 u10 u11 u12 u13 u14 u15 u16 u17 u18 k23 ih23 S1 S2 S3 S4 S5 S6 S7 S8 S9 S10 S11 S12 S13 S14 S15 S16 S17 S18 x4 hg
                                                        ·
                                                          refine sk_ite (fun hs39_27 => ?_) (fun hs39_27 => ?_)
                                                          · refine sk_tableIn (tgt := 1615) X dL_law_39 (by rw [hs39_27]; decide) (by rw [hs39_27]; decide) (by rw [hs39_27]; try rfl) rfl ?_
                                                            exact lc_27 hl0 X E u0 u1 u2 u3 u4 u5 u6 u7 u8 u9 u10 u11 u12 u13 u14 u15 u16 u17 u18 k23 ih23 S1 S2 S3 S4 S5 S6 S7 S8 S9 S10 S11 S12 S13 S14 S15 S16 S17 S18 x4 hg
                                                          ·
                                                            refine sk_ite (fun hs39_28 => ?_) (fun hs39_28 => ?_)
                                                            · refine sk_tableIn (tgt := 1671) X dL_law_39 (by rw [hs39_28]; decide) (by rw [hs39_28]; decide) (by rw [hs39_28]; try rfl) rfl ?_
                                                              exact lc_28 hl0 X E u0 u1 u2 u3 u4 u5 u6 u7 u8 u9 u10 u11 u12 u13 u14 u15 u16 u17 u18 k23 ih23 S1 S2 S3 S4 S5 S6 S7 S8 S9 S10 S11 S12 S13 S14 S15 S16 S17 S18 x4 hg
                                                            ·
                                                              refine sk_ite (fun hs39_29 => ?_) (fun hs39_29 => ?_)
                                                              · refine sk_tableIn (tgt := 1739) X dL_law_39 (by rw [hs39_29]; decide) (by rw [hs39_29]; decide) (by rw [hs39_29]; try rfl) rfl ?_
                                                                exact lc_29 hl0 X E u0 u1 u2 u3 u4 u5 u6 u7 u8 u9 u10 u11 u12 u13 u14 u15 u16 u17 u18 k23 ih23 S1 S2 S3 S4 S5 S6 S7 S8 S9 S10 S11 S12 S13 S14 S15 S16 S17 S18 x4 hg
                                                              ·
                                                                refine sk_ite (fun hs39_30 => ?_) (fun hs39_30 => ?_)
                                                                · refine sk_tableIn (tgt := 1807) X dL_law_39 (by rw [hs39_30]; decide) (by rw [hs39_30]; decide) (by rw [hs39_30]; try rfl) rfl ?_
                                                                  exact lc_30 hl0 X E u0 u1 u2 u3 u4 u5 u6 u7 u8 u9 u10 u11 u12 u13 u14 u15 u16 u17 u18 k23 ih23 S1 S2 S3 S4 S5 S6 S7 S8 S9 S10 S11 S12 S13 S14 S15 S16 S17 S18 x4 hg
                                                                ·
                                                                  refine sk_ite (fun hs39_31 => ?_) (fun hs39_31 => ?_)
                                                                  · refine sk_tableIn (tgt := 1863) X dL_law_39 (by rw [hs39_31]; decide) (by rw [hs39_31]; decide) (by rw [hs39_31]; try rfl) rfl ?_
                                                                    exact lc_31 hl0 X E u0 u1 u2 u3 u4 u5 u6 u7 u8 u9 u10 u11 u12 u13 u14 u15 u16 u17 u18 k23 ih23 S1 S2 S3 S4 S5 S6 S7 S8 S9 S10 S11 S12 S13 S14 S15 S16 S17 S18 x4 hg
                                                                  ·
                                                                    refine sk_ite (fun hs39_32 => ?_) (fun hs39_32 => ?_)
                                                                    · refine sk_tableIn (tgt := 1931) X dL_law_39 (by rw [hs39_32]; decide) (by rw [hs39_32]; decide) (by rw [hs39_32]; try rfl) rfl ?_
                                                                      exact lc_32 hl0 X E u0 u1 u2 u3 u4 u5 u6 u7 u8 u9 u10 u11 u12 u13 u14 u15 u16 u17 u18 k23 ih23 S1 S2 S3 S4 S5 S6 S7 S8 S9 S10 S11 S12 S13 S14 S15 S16 S17 S18 x4 hg
                                                                    ·
                                                                      refine sk_ite (fun hs39_33 => ?_) (fun hs39_33 => ?_)
                                                                      · refine sk_tableIn (tgt := 1987) X dL_law_39 (by rw [hs39_33]; decide) (by rw [hs39_33]; decide) (by rw [hs39_33]; try rfl) rfl ?_
                                                                        exact lc_33 hl0 X E u0 u1 u2 u3 u4 u5 u6 u7 u8 u9 u10 u11 u12 u13 u14 u15 u16 u17 u18 k23 ih23 S1 S2 S3 S4 S5 S6 S7 S8 S9 S10 S11 S12 S13 S14 S15 S16 S17 S18 x4 hg
                                                                      ·
                                                                        refine sk_ite (fun hs39_34 => ?_) (fun hs39_34 => ?_)
                                                                        · refine sk_tableIn (tgt := 2000) X dL_law_39 (by rw [hs39_34]; decide) (by rw [hs39_34]; decide) (by rw [hs39_34]; try rfl) rfl ?_
                                                                          exact lc_34 hl0 X E u0 u1 u2 u3 u4 u5 u6 u7 u8 u9 u10 u11 u12 u13 u14 u15 u16 u17 u18 k23 ih23 S1 S2 S3 S4 S5 S6 S7 S8 S9 S10 S11 S12 S13 S14 S15 S16 S17 S18 x4 hg
                                                                        ·
                                                                          refine sk_ite (fun hs39_35 => ?_) (fun hs39_35 => ?_)
                                                                          · refine sk_tableIn (tgt := 2013) X dL_law_39 (by rw [hs39_35]; decide) (by rw [hs39_35]; decide) (by rw [hs39_35]; try rfl) rfl ?_
                                                                            exact lc_35 hl0 X E u0 u1 u2 u3 u4 u5 u6 u7 u8 u9 u10 u11 u12 u13 u14 u15 u16 u17 u18 k23 ih23 S1 S2 S3 S4 S5 S6 S7 S8 S9 S10 S11 S12 S13 S14 S15 S16 S17 S18 x4 hg
                                                                          ·
                                                                            refine sk_ite (fun hs39_36 => ?_) (fun hs39_36 => ?_)
                                                                            · refine sk_tableIn (tgt := 2057) X dL_law_39 (by rw [hs39_36]; decide) (by rw [hs39_36]; decide) (by rw [hs39_36]; try rfl) rfl ?_
                                                                              exact lc_36 hl0 X E u0 u1 u2 u3 u4 u5 u6 u7 u8 u9 u10 u11 u12 u13 u14 u15 u16 u17 u18 k23 ih23 S1 S2 S3 S4 S5 S6 S7 S8 S9 S10 S11 S12 S13 S14 S15 S16 S17 S18 x4 hg
                                                                            ·
                                                                              refine sk_tableOut (tgt := 2071) X dL_law_39 (by have a0 := lv_neT hs39_0 (a := 0) (by decide); have a1 := lv_neT hs39_1 (a := 1) (by decide); have a2 := lv_neT hs39_2 (a := 2) (by decide); have a3 := lv_neT hs39_3 (a := 3) (by decide); have a4 := lv_neT hs39_4 (a := 4) (by decide); have a5 := lv_neT hs39_5 (a := 5) (by decide); have a6 := lv_neT hs39_6 (a := 6) (by decide); have a7 := lv_neT hs39_7 (a := 7) (by decide); have a8 := lv_neT hs39_8 (a := 8) (by decide); have a9 := lv_neT hs39_9 (a := 9) (by decide); have a10 := lv_neT hs39_10 (a := 10) (by decide); have a11 := lv_neT hs39_11 (a := 11) (by decide); have a12 := lv_neT hs39_12 (a := 12) (by decide); have a13 := lv_neT hs39_13 (a := 13) (by decide); have a14 := lv_neT hs39_14 (a := 14) (by decide); have a15 := lv_neT hs39_15 (a := 15) (by decide); have a16 := lv_neT hs39_16 (a := 16) (by decide); have a17 := lv_neT hs39_17 (a := 17) (by decide); have a18 := lv_neT hs39_18 (a := 18) (by decide); have a19 := lv_neT hs39_19 (a := 19) (by decide); have a20 := lv_neT hs39_20 (a := 20) (by decide); have a21 := lv_neT hs39_21 (a := 21) (by decide); have a22 := lv_neT hs39_22 (a := 22) (by decide); have a23 := lv_neT hs39_23 (a := 23) (by decide); have a24 := lv_neT hs39_24 (a := 24) (by decide); have a25 := lv_neT hs39_25 (a := 25) (by decide); have a26 := lv_neT hs39_26 (a := 26) (by decide); have a27 := lv_neT hs39_27 (a := 27) (by decide); have a28 := lv_neT hs39_28 (a := 28) (by decide); have a29 := lv_neT hs39_29 (a := 29) (by decide); have a30 := lv_neT hs39_30 (a := 30) (by decide); have a31 := lv_neT hs39_31 (a := 31) (by decide); have a32 := lv_neT hs39_32 (a := 32) (by decide); have a33 := lv_neT hs39_33 (a := 33) (by decide); have a34 := lv_neT hs39_34 (a := 34) (by decide); have a35 := lv_neT hs39_35 (a := 35) (by decide); have a36 := lv_neT hs39_36 (a := 36) (by decide); omega) rfl ?_
                                                                              refine sk_iinc (lv' := [some (.ref b), some (.ref (u0 0)), some (.ref (u17 0)), some (.ref (u18 0)), some (.int (x4 + (4 : Int32))), none, none]) (pc' := 2074) X rfl ic_4 (Nat.le_of_ble_eq_true rfl) rfl rfl dL_law_2071 rfl ?_
                                                                              refine sk_goto (tgt := 23) X dL_law_2074 rfl ?_
                                                                              first | exact sk_widen (lw_k (lw_i4 hg) (Nat.le_of_ble_eq_true rfl)) (lw_n (lw_i4 hg) (Nat.le_of_ble_eq_true rfl)) (ih23 (S1, S2, S3, S4, S5, S6, S7, S8, S9, S10, S11, S12, S13, S14, S15, S16, S17, S18, (x4 + (4 : Int32)))) | exact sk_widen (lw_k0 (lw_i4 hg)) (lw_n0 (lw_i4 hg)) (ih23 (S1, S2, S3, S4, S5, S6, S7, S8, S9, S10, S11, S12, S13, S14, S15, S16, S17, S18, (x4 + (4 : Int32))))
theorem lw_loop {Γ : sk_K} {l : Launch} (hl0 : l.stackTraces = false) {G : sk_G} {t b L : Nat} {xs : Nat → Int32} (X : sk_X Γ l G room_1 7 RL code ret) (E : sk_EL Γ t b L xs) (hA : ∀ q, Γ.2.2.2.2.2.2.2.2.2.2.2.2 q → Γ.2.2.2.2.1.heap.size ≤ q) (hav : Γ.2.2.2.2.2.2.1 = #[Value.ref b]) (u0 u1 u2 u3 u4 u5 u6 u7 u8 u9 u10 u11 u12 u13 u14 u15 u16 u17 u18 : Nat → Nat) (s : lw_σ) : sk_S Γ (lw_Φ Γ b) (kl s.2.2.2.2.2.2.2.2.2.2.2.2.2.2.2.2.2.2) (nl s.2.2.2.2.2.2.2.2.2.2.2.2.2.2.2.2.2.2) (m_L_loop L xs s) (lw_bs G u0 u1 u2 u3 u4 u5 u6 u7 u8 u9 u10 u11 u12 u13 u14 u15 u16 u17 u18 s) (lw_lv b u0 u1 u2 u3 u4 u5 u6 u7 u8 u9 u10 u11 u12 u13 u14 u15 u16 u17 u18 s) 23 [] := by
  unfold m_L_loop
  refine sk_loopK (kf := fun s => kl s.2.2.2.2.2.2.2.2.2.2.2.2.2.2.2.2.2.2) (nf := fun s => nl s.2.2.2.2.2.2.2.2.2.2.2.2.2.2.2.2.2.2) (bsf := lw_bs G u0 u1 u2 u3 u4 u5 u6 u7 u8 u9 u10 u11 u12 u13 u14 u15 u16 u17 u18) (lvf := lw_lv b u0 u1 u2 u3 u4 u5 u6 u7 u8 u9 u10 u11 u12 u13 u14 u15 u16 u17 u18) ?_ sk_fuel s
  intro k23 s ih23
  exact lc_hd hl0 X E u0 u1 u2 u3 u4 u5 u6 u7 u8 u9 u10 u11 u12 u13 u14 u15 u16 u17 u18 k23 ih23 hA hav s.1 s.2.1 s.2.2.1 s.2.2.2.1 s.2.2.2.2.1 s.2.2.2.2.2.1 s.2.2.2.2.2.2.1 s.2.2.2.2.2.2.2.1 s.2.2.2.2.2.2.2.2.1 s.2.2.2.2.2.2.2.2.2.1 s.2.2.2.2.2.2.2.2.2.2.1 s.2.2.2.2.2.2.2.2.2.2.2.1 s.2.2.2.2.2.2.2.2.2.2.2.2.1 s.2.2.2.2.2.2.2.2.2.2.2.2.2.1 s.2.2.2.2.2.2.2.2.2.2.2.2.2.2.1 s.2.2.2.2.2.2.2.2.2.2.2.2.2.2.2.1 s.2.2.2.2.2.2.2.2.2.2.2.2.2.2.2.2.1 s.2.2.2.2.2.2.2.2.2.2.2.2.2.2.2.2.2.1 s.2.2.2.2.2.2.2.2.2.2.2.2.2.2.2.2.2.2
