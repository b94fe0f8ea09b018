set_option maxHeartbeats 4000000 in
set_option maxRecDepth 100000 in
theorem lc_16 {Γ : sk_K} {l : Launch} (hl0 : l.stackTraces = false) {G : sk_G} {t b L : Nat} {xs : Nat → Int32} (X : sk_X Γ l G room_1 7 RL code ret) (E : sk_EL Γ t b L xs) (u0 u1 u2 u3 u4 u5 u6 u7 u8 u9 u10 u11 u12 u13 u14 u15 u16 u17 u18 : Nat → Nat) (k23 : lw_σ → Option Int32) (ih23 : ∀ s2 : lw_σ, sk_S Γ (lw_Φ Γ b) (kl s2.2.2.2.2.2.2.2.2.2.2.2.2.2.2.2.2.2.2) (nl s2.2.2.2.2.2.2.2.2.2.2.2.2.2.2.2.2.2.2) (k23 s2) (lw_bs G u0 u1 u2 u3 u4 u5 u6 u7 u8 u9 u10 u11 u12 u13 u14 u15 u16 u17 u18 s2) (lw_lv b u0 u1 u2 u3 u4 u5 u6 u7 u8 u9 u10 u11 u12 u13 u14 u15 u16 u17 u18 s2) 23 []) (S1 : sk_N) (S2 : sk_N) (S3 : sk_N) (S4 : sk_N) (S5 : sk_N) (S6 : sk_N) (S7 : sk_N) (S8 : sk_N) (S9 : sk_N) (S10 : sk_N) (S11 : sk_N) (S12 : sk_N) (S13 : sk_N) (S14 : sk_N) (S15 : sk_N) (S16 : sk_N) (S17 : sk_M) (S18 : sk_O) (x4 : Int32) (hg : sk_in x4 2049 = true) : sk_S Γ (lw_Φ Γ b) (kl x4) (nl x4) (m_L_c16 L xs k23 S1 S2 S3 S4 S5 S6 S7 S8 S9 S10 S11 S12 S13 S14 S15 S16 S17 S18 x4) [(pc_W u0 (u1 0) (u3 0) (u5 0) (u7 0) (u16 0)), (nt_W G u1 (u2 0) S1), (lg_W G u2 S2), (nt_W G u3 (u4 0) S3), (lg_W G u4 S4), (nt_W G u5 (u6 0) S5), (lg_W G u6 S6), (sv_W G u7 (u8 0) (u10 0) (u12 0) (u14 0) S7), (nt_W G u8 (u9 0) S8), (lg_W G u9 S9), (nt_W G u10 (u11 0) S10), (lg_W G u11 S11), (nt_W G u12 (u13 0) S12), (lg_W G u13 S13), (nt_W G u14 (u15 0) S14), (lg_W G u15 S15), (sc_W G u16 S16), (md_W G u17 S17), (ot_W G u18 S18)] [some (.ref b), some (.ref (u0 0)), some (.ref (u17 0)), some (.ref (u18 0)), some (.int x4), none, none] 1149 [] := by
  have hk0 := lw_hk hg
  have hn0 := lw_hn hg
  unfold m_L_c16
  refine sk_aload_n (pc' := 1150) X rfl dL_law_1149 rfl ?_
  refine sk_callV (bs2 := fun r1150 => [(pc_W u0 (u1 0) (u3 0) (u5 0) (u7 0) (u16 0)), (nt_W G u1 (u2 0) S1), (lg_W G u2 S2), (nt_W G u3 (u4 0) S3), (lg_W G u4 S4), (nt_W G u5 (u6 0) S5), (lg_W G u6 S6), (sv_W G u7 (u8 0) (u10 0) (u12 0) (u14 0) S7), (nt_W G u8 (u9 0) S8), (lg_W G u9 S9), (nt_W G u10 (u11 0) S10), (lg_W G u11 S11), (nt_W G u12 (u13 0) S12), (lg_W G u13 S13), (nt_W G u14 (u15 0) S14), (lg_W G u15 S15), (sc_W G u16 S16), (md_W G u17 S17), (ot_W G u18 S18)]) (st := []) (st2 := fun r1150 => [.int r1150]) (As := []) (pc' := 1153) X (c_X4_now l G u0 u1 (u3 0) (u5 0) (u7 0) (u16 0) (u2 0) S1) lk_RL_161 [0, 1] rfl (by decide) (fun _ => rfl) rfl rfl rfl ⟨(Nat.le_of_ble_eq_true rfl), (Nat.le_of_ble_eq_true rfl)⟩ ⟨rfl, rfl⟩ ⟨by omega, by omega⟩ rfl (Nat.le_of_ble_eq_true rfl) rfl dL_law_1150 rfl (fun _ => rfl) (fun _ => rfl) (fun r1150 => ?_)
  refine sk_aload_n (pc' := 1154) X rfl dL_law_1153 rfl ?_
  refine sk_callV (bs2 := fun r1154 => [(pc_W u0 (u1 0) (u3 0) (u5 0) (u7 0) (u16 0)), (nt_W G u1 (u2 0) S1), (lg_W G u2 S2), (nt_W G u3 (u4 0) S3), (lg_W G u4 S4), (nt_W G u5 (u6 0) S5), (lg_W G u6 S6), (sv_W G u7 (u8 0) (u10 0) (u12 0) (u14 0) S7), (nt_W G u8 (u9 0) S8), (lg_W G u9 S9), (nt_W G u10 (u11 0) S10), (lg_W G u11 S11), (nt_W G u12 (u13 0) S12), (lg_W G u13 S13), (nt_W G u14 (u15 0) S14), (lg_W G u15 S15), (sc_W G u16 S16), (md_W G u17 r1154.2), (ot_W G u18 S18)]) (st := [.int r1150]) (st2 := fun r1154 => [.int r1154.1, .int r1150]) (As := []) (pc' := 1157) X (c_X5_now l G u17 S17) lk_RL_164 [17] rfl (by decide) (fun _ => rfl) rfl rfl rfl ⟨(Nat.le_of_ble_eq_true rfl), (Nat.le_of_ble_eq_true rfl)⟩ ⟨rfl, rfl⟩ ⟨by omega, by omega⟩ rfl (Nat.le_of_ble_eq_true rfl) rfl dL_law_1154 rfl (fun _ => rfl) (fun _ => rfl) (fun r1154 => ?_)
  refine sk_icmp_eq (tgt := 2071) (pc' := 1160) X dL_law_1157 rfl rfl ?_ ?_
  · refine sk_iinc (lv' := [some (.ref b), some (.ref (u0 0)), some (.ref (u17 0)), some (.ref (u18 0)), some (.int (x4 + (4 : Int32))), none, none]) (pc' := 2074) X rfl ic_4 (Nat.le_of_ble_eq_true rfl) rfl rfl dL_law_2071 rfl ?_
    refine sk_goto (tgt := 23) X dL_law_2074 rfl ?_
    first | exact sk_widen (lw_k (lw_i4 hg) (Nat.le_of_ble_eq_true rfl)) (lw_n (lw_i4 hg) (Nat.le_of_ble_eq_true rfl)) (ih23 (S1, S2, S3, S4, S5, S6, S7, S8, S9, S10, S11, S12, S13, S14, S15, S16, r1154.2, S18, (x4 + (4 : Int32)))) | exact sk_widen (lw_k0 (lw_i4 hg)) (lw_n0 (lw_i4 hg)) (ih23 (S1, S2, S3, S4, S5, S6, S7, S8, S9, S10, S11, S12, S13, S14, S15, S16, r1154.2, S18, (x4 + (4 : Int32))))
  · refine sk_iconst (pc' := 1161) X ic_0 dL_law_1160 rfl ?_
    exact sk_lfalse
set_option maxHeartbeats 4000000 in
set_option maxRecDepth 100000 in
theorem lc_17 {Γ : sk_K} {l : Launch} (hl0 : l.stackTraces = false) {G : sk_G} {t b L : Nat} {xs : Nat → Int32} (X : sk_X Γ l G room_1 7 RL code ret) (E : sk_EL Γ t b L xs) (u0 u1 u2 u3 u4 u5 u6 u7 u8 u9 u10 u11 u12 u13 u14 u15 u16 u17 u18 : Nat → Nat) (k23 : lw_σ → Option Int32) (ih23 : ∀ s2 : lw_σ, sk_S Γ (lw_Φ Γ b) (kl s2.2.2.2.2.2.2.2.2.2.2.2.2.2.2.2.2.2.2) (nl s2.2.2.2.2.2.2.2.2.2.2.2.2.2.2.2.2.2.2) (k23 s2) (lw_bs G u0 u1 u2 u3 u4 u5 u6 u7 u8 u9 u10 u11 u12 u13 u14 u15 u16 u17 u18 s2) (lw_lv b u0 u1 u2 u3 u4 u5 u6 u7 u8 u9 u10 u11 u12 u13 u14 u15 u16 u17 u18 s2) 23 []) (S1 : sk_N) (S2 : sk_N) (S3 : sk_N) (S4 : sk_N) (S5 : sk_N) (S6 : sk_N) (S7 : sk_N) (S8 : sk_N) (S9 : sk_N) (S10 : sk_N) (S11 : sk_N) (S12 : sk_N) (S13 : sk_N) (S14 : sk_N) (S15 : sk_N) (S16 : sk_N) (S17 : sk_M) (S18 : sk_O) (x4 : Int32) (hg : sk_in x4 2049 = true) : sk_S Γ (lw_Φ Γ b) (kl x4) (nl x4) (m_L_c17 L xs k23 S1 S2 S3 S4 S5 S6 S7 S8 S9 S10 S11 S12 S13 S14 S15 S16 S17 S18 x4) [(pc_W u0 (u1 0) (u3 0) (u5 0) (u7 0) (u16 0)), (nt_W G u1 (u2 0) S1), (lg_W G u2 S2), (nt_W G u3 (u4 0) S3), (lg_W G u4 S4), (nt_W G u5 (u6 0) S5), (lg_W G u6 S6), (sv_W G u7 (u8 0) (u10 0) (u12 0) (u14 0) S7), (nt_W G u8 (u9 0) S8), (lg_W G u9 S9), (nt_W G u10 (u11 0) S10), (lg_W G u11 S11), (nt_W G u12 (u13 0) S12), (lg_W G u13 S13), (nt_W G u14 (u15 0) S14), (lg_W G u15 S15), (sc_W G u16 S16), (md_W G u17 S17), (ot_W G u18 S18)] [some (.ref b), some (.ref (u0 0)), some (.ref (u17 0)), some (.ref (u18 0)), some (.int x4), none, none] 1162 [] := by
  have hk0 := lw_hk hg
  have hn0 := lw_hn hg
  unfold m_L_c17
  refine sk_aload_n (pc' := 1163) X rfl dL_law_1162 rfl ?_
  refine sk_aload_n (pc' := 1164) X rfl dL_law_1163 rfl ?_
  refine sk_iload (pc' := 1166) X rfl dL_law_1164 rfl ?_
  refine sk_iconst (pc' := 1167) X ic_1 dL_law_1166 rfl ?_
  refine sk_iadd (pc' := 1168) X dL_law_1167 rfl ?_
  refine sk_scd (pc' := 1169) X E dL_law_1168 rfl ?_
  refine sk_aload_n (pc' := 1170) X rfl dL_law_1169 rfl ?_
  refine sk_iload (pc' := 1172) X rfl dL_law_1170 rfl ?_
  refine sk_iconst (pc' := 1173) X ic_2 dL_law_1172 rfl ?_
  refine sk_iadd (pc' := 1174) X dL_law_1173 rfl ?_
  refine sk_scd (pc' := 1175) X E dL_law_1174 rfl ?_
  refine sk_if_eq (tgt := 1182) (pc' := 1178) X dL_law_1175 rfl rfl ?_ ?_
  · refine sk_iconst (pc' := 1183) X ic_0 dL_law_1182 rfl ?_
    refine sk_callV (bs2 := fun r1183 => [(pc_W u0 (u1 0) (u3 0) (u5 0) (u7 0) (u16 0)), (nt_W G u1 (u2 0) S1), (lg_W G u2 S2), (nt_W G u3 (u4 0) S3), (lg_W G u4 S4), (nt_W G u5 (u6 0) S5), (lg_W G u6 S6), (sv_W G u7 (u8 0) (u10 0) (u12 0) (u14 0) S7), (nt_W G u8 (u9 0) S8), (lg_W G u9 S9), (nt_W G u10 (u11 0) S10), (lg_W G u11 S11), (nt_W G u12 (u13 0) S12), (lg_W G u13 S13), (nt_W G u14 (u15 0) S14), (lg_W G u15 S15), (sc_W G u16 S16), (md_W G u17 S17), (ot_W G u18 S18)]) (st := []) (st2 := fun r1183 => [.int r1183]) (As := [.int (xs ((x4 + (1 : Int32))).toNatClampNeg), .int (0 : Int32)]) (pc' := 1186) X (c_X4_noted l G u0 u1 u2 (u3 0) (u5 0) (u7 0) (u16 0) S1 S2 (xs ((x4 + (1 : Int32))).toNatClampNeg) (0 : Int32)) lk_RL_165 [0, 1, 2] rfl (by decide) (fun _ => rfl) rfl rfl rfl ⟨(Nat.le_of_ble_eq_true rfl), (Nat.le_of_ble_eq_true rfl)⟩ ⟨rfl, rfl⟩ ⟨by omega, by omega⟩ rfl (Nat.le_of_ble_eq_true rfl) rfl dL_law_1183 rfl (fun _ => rfl) (fun _ => rfl) (fun r1183 => ?_)
    refine sk_aload_n (pc' := 1187) X rfl dL_law_1186 rfl ?_
    refine sk_aload_n (pc' := 1188) X rfl dL_law_1187 rfl ?_
    refine sk_iload (pc' := 1190) X rfl dL_law_1188 rfl ?_
    refine sk_iconst (pc' := 1191) X ic_1 dL_law_1190 rfl ?_
    refine sk_iadd (pc' := 1192) X dL_law_1191 rfl ?_
    refine sk_scd (pc' := 1193) X E dL_law_1192 rfl ?_
    refine sk_aload_n (pc' := 1194) X rfl dL_law_1193 rfl ?_
    refine sk_iload (pc' := 1196) X rfl dL_law_1194 rfl ?_
    refine sk_iconst (pc' := 1197) X ic_2 dL_law_1196 rfl ?_
    refine sk_iadd (pc' := 1198) X dL_law_1197 rfl ?_
    refine sk_scd (pc' := 1199) X E dL_law_1198 rfl ?_
    refine sk_if_eq (tgt := 1206) (pc' := 1202) X dL_law_1199 rfl rfl ?_ ?_
    · refine sk_iconst (pc' := 1207) X ic_0 dL_law_1206 rfl ?_
      refine sk_callV (bs2 := fun r1207 => [(pc_W u0 (u1 0) (u3 0) (u5 0) (u7 0) (u16 0)), (nt_W G u1 (u2 0) S1), (lg_W G u2 S2), (nt_W G u3 (u4 0) S3), (lg_W G u4 S4), (nt_W G u5 (u6 0) S5), (lg_W G u6 S6), (sv_W G u7 (u8 0) (u10 0) (u12 0) (u14 0) S7), (nt_W G u8 (u9 0) S8), (lg_W G u9 S9), (nt_W G u10 (u11 0) S10), (lg_W G u11 S11), (nt_W G u12 (u13 0) S12), (lg_W G u13 S13), (nt_W G u14 (u15 0) S14), (lg_W G u15 S15), (sc_W G u16 S16), (md_W G u17 r1207.2), (ot_W G u18 S18)]) (st := [.int r1183]) (st2 := fun r1207 => [.int r1207.1, .int r1183]) (As := [.int (xs ((x4 + (1 : Int32))).toNatClampNeg), .int (0 : Int32)]) (pc' := 1210) X (c_X5_noted l G u17 S17 (xs ((x4 + (1 : Int32))).toNatClampNeg) (0 : Int32)) lk_RL_168 [17] rfl (by decide) (fun _ => rfl) rfl rfl rfl ⟨(Nat.le_of_ble_eq_true rfl), (Nat.le_of_ble_eq_true rfl)⟩ ⟨rfl, rfl⟩ ⟨by omega, by omega⟩ rfl (Nat.le_of_ble_eq_true rfl) rfl dL_law_1207 rfl (fun _ => rfl) (fun _ => rfl) (fun r1207 => ?_)
      refine sk_icmp_eq (tgt := 2071) (pc' := 1213) X dL_law_1210 rfl rfl ?_ ?_
      · refine sk_iinc (lv' := [some (.ref b), some (.ref (u0 0)), some (.ref (u17 0)), some (.ref (u18 0)), some (.int (x4 + (4 : Int32))), none, none]) (pc' := 2074) X rfl ic_4 (Nat.le_of_ble_eq_true rfl) rfl rfl dL_law_2071 rfl ?_
        refine sk_goto (tgt := 23) X dL_law_2074 rfl ?_
        first | exact sk_widen (lw_k (lw_i4 hg) (Nat.le_of_ble_eq_true rfl)) (lw_n (lw_i4 hg) (Nat.le_of_ble_eq_true rfl)) (ih23 (S1, S2, S3, S4, S5, S6, S7, S8, S9, S10, S11, S12, S13, S14, S15, S16, r1207.2, S18, (x4 + (4 : Int32)))) | exact sk_widen (lw_k0 (lw_i4 hg)) (lw_n0 (lw_i4 hg)) (ih23 (S1, S2, S3, S4, S5, S6, S7, S8, S9, S10, S11, S12, S13, S14, S15, S16, r1207.2, S18, (x4 + (4 : Int32))))
      · refine sk_iconst (pc' := 1214) X ic_0 dL_law_1213 rfl ?_
        exact sk_lfalse
    · refine sk_iconst (pc' := 1203) X ic_1 dL_law_1202 rfl ?_
      refine sk_goto (tgt := 1207) X dL_law_1203 rfl ?_
      refine sk_callV (bs2 := fun r1207 => [(pc_W u0 (u1 0) (u3 0) (u5 0) (u7 0) (u16 0)), (nt_W G u1 (u2 0) S1), (lg_W G u2 S2), (nt_W G u3 (u4 0) S3), (lg_W G u4 S4), (nt_W G u5 (u6 0) S5), (lg_W G u6 S6), (sv_W G u7 (u8 0) (u10 0) (u12 0) (u14 0) S7), (nt_W G u8 (u9 0) S8), (lg_W G u9 S9), (nt_W G u10 (u11 0) S10), (lg_W G u11 S11), (nt_W G u12 (u13 0) S12), (lg_W G u13 S13), (nt_W G u14 (u15 0) S14), (lg_W G u15 S15), (sc_W G u16 S16), (md_W G u17 r1207.2), (ot_W G u18 S18)]) (st := [.int r1183]) (st2 := fun r1207 => [.int r1207.1, .int r1183]) (As := [.int (xs ((x4 + (1 : Int32))).toNatClampNeg), .int (1 : Int32)]) (pc' := 1210) X (c_X5_noted l G u17 S17 (xs ((x4 + (1 : Int32))).toNatClampNeg) (1 : Int32)) lk_RL_168 [17] rfl (by decide) (fun _ => rfl) rfl rfl rfl ⟨(Nat.le_of_ble_eq_true rfl), (Nat.le_of_ble_eq_true rfl)⟩ ⟨rfl, rfl⟩ ⟨by omega, by omega⟩ rfl (Nat.le_of_ble_eq_true rfl) rfl dL_law_1207 rfl (fun _ => rfl) (fun _ => rfl) (fun r1207 => ?_)
      refine sk_icmp_eq (tgt := 2071) (pc' := 1213) X dL_law_1210 rfl rfl ?_ ?_
      · refine sk_iinc (lv' := [some (.ref b), some (.ref (u0 0)), some (.ref (u17 0)), some (.ref (u18 0)), some (.int (x4 + (4 : Int32))), none, none]) (pc' := 2074) X rfl ic_4 (Nat.le_of_ble_eq_true rfl) rfl rfl dL_law_2071 rfl ?_
        refine sk_goto (tgt := 23) X dL_law_2074 rfl ?_
        first | exact sk_widen (lw_k (lw_i4 hg) (Nat.le_of_ble_eq_true rfl)) (lw_n (lw_i4 hg) (Nat.le_of_ble_eq_true rfl)) (ih23 (S1, S2, S3, S4, S5, S6, S7, S8, S9, S10, S11, S12, S13, S14, S15, S16, r1207.2, S18, (x4 + (4 : Int32)))) | exact sk_widen (lw_k0 (lw_i4 hg)) (lw_n0 (lw_i4 hg)) (ih23 (S1, S2, S3, S4, S5, S6, S7, S8, S9, S10, S11, S12, S13, S14, S15, S16, r1207.2, S18, (x4 + (4 : Int32))))
      · refine sk_iconst (pc' := 1214) X ic_0 dL_law_1213 rfl ?_
        exact sk_lfalse
  · refine sk_iconst (pc' := 1179) X ic_1 dL_law_1178 rfl ?_
    refine sk_goto (tgt := 1183) X dL_law_1179 rfl ?_
    refine sk_callV (bs2 := fun r1183 => [(pc_W u0 (u1 0) (u3 0) (u5 0) (u7 0) (u16 0)), (nt_W G u1 (u2 0) S1), (lg_W G u2 S2), (nt_W G u3 (u4 0) S3), (lg_W G u4 S4), (nt_W G u5 (u6 0) S5), (lg_W G u6 S6), (sv_W G u7 (u8 0) (u10 0) (u12 0) (u14 0) S7), (nt_W G u8 (u9 0) S8), (lg_W G u9 S9), (nt_W G u10 (u11 0) S10), (lg_W G u11 S11), (nt_W G u12 (u13 0) S12), (lg_W G u13 S13), (nt_W G u14 (u15 0) S14), (lg_W G u15 S15), (sc_W G u16 S16), (md_W G u17 S17), (ot_W G u18 S18)]) (st := []) (st2 := fun r1183 => [.int r1183]) (As := [.int (xs ((x4 + (1 : Int32))).toNatClampNeg), .int (1 : Int32)]) (pc' := 1186) X (c_X4_noted l G u0 u1 u2 (u3 0) (u5 0) (u7 0) (u16 0) S1 S2 (xs ((x4 + (1 : Int32))).toNatClampNeg) (1 : Int32)) lk_RL_165 [0, 1, 2] rfl (by decide) (fun _ => rfl) rfl rfl rfl ⟨(Nat.le_of_ble_eq_true rfl), (Nat.le_of_ble_eq_true rfl)⟩ ⟨rfl, rfl⟩ ⟨by omega, by omega⟩ rfl (Nat.le_of_ble_eq_true rfl) rfl dL_law_1183 rfl (fun _ => rfl) (fun _ => rfl) (fun r1183 => ?_)
    refine sk_aload_n (pc' := 1187) X rfl dL_law_1186 rfl ?_
    refine sk_aload_n (pc' := 1188) X rfl dL_law_1187 rfl ?_
    refine sk_iload (pc' := 1190) X rfl dL_law_1188 rfl ?_
    refine sk_iconst (pc' := 1191) X ic_1 dL_law_1190 rfl ?_
    refine sk_iadd (pc' := 1192) X dL_law_1191 rfl ?_
    refine sk_scd (pc' := 1193) X E dL_law_1192 rfl ?_
    refine sk_aload_n (pc' := 1194) X rfl dL_law_1193 rfl ?_
    refine sk_iload (pc' := 1196) X rfl dL_law_1194 rfl ?_
    refine sk_iconst (pc' := 1197) X ic_2 dL_law_1196 rfl ?_
    refine sk_iadd (pc' := 1198) X dL_law_1197 rfl ?_
    refine sk_scd (pc' := 1199) X E dL_law_1198 rfl ?_
    refine sk_if_eq (tgt := 1206) (pc' := 1202) X dL_law_1199 rfl rfl ?_ ?_
    · refine sk_iconst (pc' := 1207) X ic_0 dL_law_1206 rfl ?_
      refine sk_callV (bs2 := fun r1207 => [(pc_W u0 (u1 0) (u3 0) (u5 0) (u7 0) (u16 0)), (nt_W G u1 (u2 0) S1), (lg_W G u2 S2), (nt_W G u3 (u4 0) S3), (lg_W G u4 S4), (nt_W G u5 (u6 0) S5), (lg_W G u6 S6), (sv_W G u7 (u8 0) (u10 0) (u12 0) (u14 0) S7), (nt_W G u8 (u9 0) S8), (lg_W G u9 S9), (nt_W G u10 (u11 0) S10), (lg_W G u11 S11), (nt_W G u12 (u13 0) S12), (lg_W G u13 S13), (nt_W G u14 (u15 0) S14), (lg_W G u15 S15), (sc_W G u16 S16), (md_W G u17 r1207.2), (ot_W G u18 S18)]) (st := [.int r1183]) (st2 := fun r1207 => [.int r1207.1, .int r1183]) (As := [.int (xs ((x4 + (1 : Int32))).toNatClampNeg), .int (0 : Int32)]) (pc' := 1210) X (c_X5_noted l G u17 S17 (xs ((x4 + (1 : Int32))).toNatClampNeg) (0 : Int32)) lk_RL_168 [17] rfl (by decide) (fun _ => rfl) rfl rfl rfl ⟨(Nat.le_of_ble_eq_true rfl), (Nat.le_of_ble_eq_true rfl)⟩ ⟨rfl, rfl⟩ ⟨by omega, by omega⟩ rfl (Nat.le_of_ble_eq_true rfl) rfl dL_law_1207 rfl (fun _ => rfl) (fun _ => rfl) (fun r1207 => ?_)
      refine sk_icmp_eq (tgt := 2071) (pc' := 1213) X dL_law_1210 rfl rfl ?_ ?_
      · refine sk_iinc (lv' := [some (.ref b), some (.ref (u0 0)), some (.ref (u17 0)), some (.ref (u18 0)), some (.int (x4 + (4 : Int32))), none, none]) (pc' := 2074) X rfl ic_4 (Nat.le_of_ble_eq_true rfl) rfl rfl dL_law_2071 rfl ?_
        refine sk_goto (tgt := 23) X dL_law_2074 rfl ?_
        first | exact sk_widen (lw_k (lw_i4 hg) (Nat.le_of_ble_eq_true rfl)) (lw_n (lw_i4 hg) (Nat.le_of_ble_eq_true rfl)) (ih23 (S1, S2, S3, S4, S5, S6, S7, S8, S9, S10, S11, S12, S13, S14, S15, S16, r1207.2, S18, (x4 + (4 : Int32)))) | exact sk_widen (lw_k0 (lw_i4 hg)) (lw_n0 (lw_i4 hg)) (ih23 (S1, S2, S3, S4, S5, S6, S7, S8, S9, S10, S11, S12, S13, S14, S15, S16, r1207.2, S18, (x4 + (4 : Int32))))
      · refine sk_iconst (pc' := 1214) X ic_0 dL_law_1213 rfl ?_
        exact sk_lfalse
    · refine sk_iconst (pc' := 1203) X ic_1 dL_law_1202 rfl ?_
      refine sk_goto (tgt := 1207) X dL_law_1203 rfl ?_
      refine sk_callV (bs2 := fun r1207 => [(pc_W u0 (u1 0) (u3 0) (u5 0) (u7 0) (u16 0)), (nt_W G u1 (u2 0) S1), (lg_W G u2 S2), (nt_W G u3 (u4 0) S3), (lg_W G u4 S4), (nt_W G u5 (u6 0) S5), (lg_W G u6 S6), (sv_W G u7 (u8 0) (u10 0) (u12 0) (u14 0) S7), (nt_W G u8 (u9 0) S8), (lg_W G u9 S9), (nt_W G u10 (u11 0) S10), (lg_W G u11 S11), (nt_W G u12 (u13 0) S12), (lg_W G u13 S13), (nt_W G u14 (u15 0) S14), (lg_W G u15 S15), (sc_W G u16 S16), (md_W G u17 r1207.2), (ot_W G u18 S18)]) (st := [.int r1183]) (st2 := fun r1207 => [.int r1207.1, .int r1183]) (As := [.int (xs ((x4 + (1 : Int32))).toNatClampNeg), .int (1 : Int32)]) (pc' := 1210) X (c_X5_noted l G u17 S17 (xs ((x4 + (1 : Int32))).toNatClampNeg) (1 : Int32)) lk_RL_168 [17] rfl (by decide) (fun _ => rfl) rfl rfl rfl ⟨(Nat.le_of_ble_eq_true rfl), (Nat.le_of_ble_eq_true rfl)⟩ ⟨rfl, rfl⟩ ⟨by omega, by omega⟩ rfl (Nat.le_of_ble_eq_true rfl) rfl dL_law_1207 rfl (fun _ => rfl) (fun _ => rfl) (fun r1207 => ?_)
      refine sk_icmp_eq (tgt := 2071) (pc' := 1213) X dL_law_1210 rfl rfl ?_ ?_
      · refine sk_iinc (lv' := [some (.ref b), some (.ref (u0 0)), some (.ref (u17 0)), some (.ref (u18 0)), some (.int (x4 + (4 : Int32))), none, none]) (pc' := 2074) X rfl ic_4 (Nat.le_of_ble_eq_true rfl) rfl rfl dL_law_2071 rfl ?_
        refine sk_goto (tgt := 23) X dL_law_2074 rfl ?_
        first | exact sk_widen (lw_k (lw_i4 hg) (Nat.le_of_ble_eq_true rfl)) (lw_n (lw_i4 hg) (Nat.le_of_ble_eq_true rfl)) (ih23 (S1, S2, S3, S4, S5, S6, S7, S8, S9, S10, S11, S12, S13, S14, S15, S16, r1207.2, S18, (x4 + (4 : Int32)))) | exact sk_widen (lw_k0 (lw_i4 hg)) (lw_n0 (lw_i4 hg)) (ih23 (S1, S2, S3, S4, S5, S6, S7, S8, S9, S10, S11, S12, S13, S14, S15, S16, r1207.2, S18, (x4 + (4 : Int32))))
      · refine sk_iconst (pc' := 1214) X ic_0 dL_law_1213 rfl ?_
        exact sk_lfalse
set_option maxHeartbeats 4000000 in
set_option maxRecDepth 100000 in
theorem lc_18 {Γ : sk_K} {l : Launch} (hl0 : l.stackTraces = false) {G : sk_G} {t b L : Nat} {xs : Nat → Int32} (X : sk_X Γ l G room_1 7 RL code ret) (E : sk_EL Γ t b L xs) (u0 u1 u2 u3 u4 u5 u6 u7 u8 u9 u10 u11 u12 u13 u14 u15 u16 u17 u18 : Nat → Nat) (k23 : lw_σ → Option Int32) (ih23 : ∀ s2 : lw_σ, sk_S Γ (lw_Φ Γ b) (kl s2.2.2.2.2.2.2.2.2.2.2.2.2.2.2.2.2.2.2) (nl s2.2.2.2.2.2.2.2.2.2.2.2.2.2.2.2.2.2.2) (k23 s2) (lw_bs G u0 u1 u2 u3 u4 u5 u6 u7 u8 u9 u10 u11 u12 u13 u14 u15 u16 u17 u18 s2) (lw_lv b u0 u1 u2 u3 u4 u5 u6 u7 u8 u9 u10 u11 u12 u13 u14 u15 u16 u17 u18 s2) 23 []) (S1 : sk_N) (S2 : sk_N) (S3 : sk_N) (S4 : sk_N) (S5 : sk_N) (S6 : sk_N) (S7 : sk_N) (S8 : sk_N) (S9 : sk_N) (S10 : sk_N) (S11 : sk_N) (S12 : sk_N) (S13 : sk_N) (S14 : sk_N) (S15 : sk_N) (S16 : sk_N) (S17 : sk_M) (S18 : sk_O) (x4 : Int32) (hg : sk_in x4 2049 = true) : sk_S Γ (lw_Φ Γ b) (kl x4) (nl x4) (m_L_c18 L xs k23 S1 S2 S3 S4 S5 S6 S7 S8 S9 S10 S11 S12 S13 S14 S15 S16 S17 S18 x4) [(pc_W u0 (u1 0) (u3 0) (u5 0) (u7 0) (u16 0)), (nt_W G u1 (u2 0) S1), (lg_W G u2 S2), (nt_W G u3 (u4 0) S3), (lg_W G u4 S4), (nt_W G u5 (u6 0) S5), (lg_W G u6 S6), (sv_W G u7 (u8 0) (u10 0) (u12 0) (u14 0) S7), (nt_W G u8 (u9 0) S8), (lg_W G u9 S9), (nt_W G u10 (u11 0) S10), (lg_W G u11 S11), (nt_W G u12 (u13 0) S12), (lg_W G u13 S13), (nt_W G u14 (u15 0) S14), (lg_W G u15 S15), (sc_W G u16 S16), (md_W G u17 S17), (ot_W G u18 S18)] [some (.ref b), some (.ref (u0 0)), some (.ref (u17 0)), some (.ref (u18 0)), some (.int x4), none, none] 1215 [] := by
  have hk0 := lw_hk hg
  have hn0 := lw_hn hg
  unfold m_L_c18
  refine sk_aload_n (pc' := 1216) X rfl dL_law_1215 rfl ?_
  refine sk_callV (bs2 := fun r1216 => [(pc_W u0 (u1 0) (u3 0) (u5 0) (u7 0) (u16 0)), (nt_W G u1 (u2 0) S1), (lg_W G u2 S2), (nt_W G u3 (u4 0) S3), (lg_W G u4 S4), (nt_W G u5 (u6 0) S5), (lg_W G u6 S6), (sv_W G u7 (u8 0) (u10 0) (u12 0) (u14 0) S7), (nt_W G u8 (u9 0) S8), (lg_W G u9 S9), (nt_W G u10 (u11 0) S10), (lg_W G u11 S11), (nt_W G u12 (u13 0) S12), (lg_W G u13 S13), (nt_W G u14 (u15 0) S14), (lg_W G u15 S15), (sc_W G u16 S16), (md_W G u17 S17), (ot_W G u18 S18)]) (st := []) (st2 := fun r1216 => [.int r1216]) (As := []) (pc' := 1219) X (c_X4_fired l G u0 u1 (u3 0) (u5 0) (u7 0) (u16 0) (u2 0) S1) lk_RL_169 [0, 1] rfl (by decide) (fun _ => rfl) rfl rfl rfl ⟨(Nat.le_of_ble_eq_true rfl), (Nat.le_of_ble_eq_true rfl)⟩ ⟨rfl, rfl⟩ ⟨by omega, by omega⟩ rfl (Nat.le_of_ble_eq_true rfl) rfl dL_law_1216 rfl (fun _ => rfl) (fun _ => rfl) (fun r1216 => ?_)
  refine sk_aload_n (pc' := 1220) X rfl dL_law_1219 rfl ?_
  refine sk_callV (bs2 := fun r1220 => [(pc_W u0 (u1 0) (u3 0) (u5 0) (u7 0) (u16 0)), (nt_W G u1 (u2 0) S1), (lg_W G u2 S2), (nt_W G u3 (u4 0) S3), (lg_W G u4 S4), (nt_W G u5 (u6 0) S5), (lg_W G u6 S6), (sv_W G u7 (u8 0) (u10 0) (u12 0) (u14 0) S7), (nt_W G u8 (u9 0) S8), (lg_W G u9 S9), (nt_W G u10 (u11 0) S10), (lg_W G u11 S11), (nt_W G u12 (u13 0) S12), (lg_W G u13 S13), (nt_W G u14 (u15 0) S14), (lg_W G u15 S15), (sc_W G u16 S16), (md_W G u17 r1220.2), (ot_W G u18 S18)]) (st := [.int r1216]) (st2 := fun r1220 => [.int r1220.1, .int r1216]) (As := []) (pc' := 1223) X (c_X5_fired l G u17 S17) lk_RL_172 [17] rfl (by decide) (fun _ => rfl) rfl rfl rfl ⟨(Nat.le_of_ble_eq_true rfl), (Nat.le_of_ble_eq_true rfl)⟩ ⟨rfl, rfl⟩ ⟨by omega, by omega⟩ rfl (Nat.le_of_ble_eq_true rfl) rfl dL_law_1220 rfl (fun _ => rfl) (fun _ => rfl) (fun r1220 => ?_)
  refine sk_icmp_eq (tgt := 2071) (pc' := 1226) X dL_law_1223 rfl rfl ?_ ?_
  · refine sk_iinc (lv' := [some (.ref b), some (.ref (u0 0)), some (.ref (u17 0)), some (.ref (u18 0)), some (.int (x4 + (4 : Int32))), none, none]) (pc' := 2074) X rfl ic_4 (Nat.le_of_ble_eq_true rfl) rfl rfl dL_law_2071 rfl ?_
    refine sk_goto (tgt := 23) X dL_law_2074 rfl ?_
    first | exact sk_widen (lw_k (lw_i4 hg) (Nat.le_of_ble_eq_true rfl)) (lw_n (lw_i4 hg) (Nat.le_of_ble_eq_true rfl)) (ih23 (S1, S2, S3, S4, S5, S6, S7, S8, S9, S10, S11, S12, S13, S14, S15, S16, r1220.2, S18, (x4 + (4 : Int32)))) | exact sk_widen (lw_k0 (lw_i4 hg)) (lw_n0 (lw_i4 hg)) (ih23 (S1, S2, S3, S4, S5, S6, S7, S8, S9, S10, S11, S12, S13, S14, S15, S16, r1220.2, S18, (x4 + (4 : Int32))))
  · refine sk_iconst (pc' := 1227) X ic_0 dL_law_1226 rfl ?_
    exact sk_lfalse
set_option maxHeartbeats 4000000 in
set_option maxRecDepth 100000 in
theorem lc_19 {Γ : sk_K} {l : Launch} (hl0 : l.stackTraces = false) {G : sk_G} {t b L : Nat} {xs : Nat → Int32} (X : sk_X Γ l G room_1 7 RL code ret) (E : sk_EL Γ t b L xs) (u0 u1 u2 u3 u4 u5 u6 u7 u8 u9 u10 u11 u12 u13 u14 u15 u16 u17 u18 : Nat → Nat) (k23 : lw_σ → Option Int32) (ih23 : ∀ s2 : lw_σ, sk_S Γ (lw_Φ Γ b) (kl s2.2.2.2.2.2.2.2.2.2.2.2.2.2.2.2.2.2.2) (nl s2.2.2.2.2.2.2.2.2.2.2.2.2.2.2.2.2.2.2) (k23 s2) (lw_bs G u0 u1 u2 u3 u4 u5 u6 u7 u8 u9 u10 u11 u12 u13 u14 u15 u16 u17 u18 s2) (lw_lv b u0 u1 u2 u3 u4 u5 u6 u7 u8 u9 u10 u11 u12 u13 u14 u15 u16 u17 u18 s2) 23 []) (S1 : sk_N) (S2 : sk_N) (S3 : sk_N) (S4 : sk_N) (S5 : sk_N) (S6 : sk_N) (S7 : sk_N) (S8 : sk_N) (S9 : sk_N) (S10 : sk_N) (S11 : sk_N) (S12 : sk_N) (S13 : sk_N) (S14 : sk_N) (S15 : sk_N) (S16 : sk_N) (S17 : sk_M) (S18 : sk_O) (x4 : Int32) (hg : sk_in x4 2049 = true) : sk_S Γ (lw_Φ Γ b) (kl x4) (nl x4) (m_L_c19 L xs k23 S1 S2 S3 S4 S5 S6 S7 S8 S9 S10 S11 S12 S13 S14 S15 S16 S17 S18 x4) [(pc_W u0 (u1 0) (u3 0) (u5 0) (u7 0) (u16 0)), (nt_W G u1 (u2 0) S1), (lg_W G u2 S2), (nt_W G u3 (u4 0) S3), (lg_W G u4 S4), (nt_W G u5 (u6 0) S5), (lg_W G u6 S6), (sv_W G u7 (u8 0) (u10 0) (u12 0) (u14 0) S7), (nt_W G u8 (u9 0) S8), (lg_W G u9 S9), (nt_W G u10 (u11 0) S10), (lg_W G u11 S11), (nt_W G u12 (u13 0) S12), (lg_W G u13 S13), (nt_W G u14 (u15 0) S14), (lg_W G u15 S15), (sc_W G u16 S16), (md_W G u17 S17), (ot_W G u18 S18)] [some (.ref b), some (.ref (u0 0)), some (.ref (u17 0)), some (.ref (u18 0)), some (.int x4), none, none] 1228 [] := by
  have hk0 := lw_hk hg
  have hn0 := lw_hn hg
  unfold m_L_c19
  refine sk_aload_n (pc' := 1229) X rfl dL_law_1228 rfl ?_
  refine sk_callV (bs2 := fun r1229 => [(pc_W u0 (u1 0) (u3 0) (u5 0) (u7 0) (u16 0)), (nt_W G u1 (u2 0) S1), (lg_W G u2 S2), (nt_W G u3 (u4 0) S3), (lg_W G u4 S4), (nt_W G u5 (u6 0) S5), (lg_W G u6 S6), (sv_W G u7 (u8 0) (u10 0) (u12 0) (u14 0) S7), (nt_W G u8 (u9 0) S8), (lg_W G u9 S9), (nt_W G u10 (u11 0) S10), (lg_W G u11 S11), (nt_W G u12 (u13 0) S12), (lg_W G u13 S13), (nt_W G u14 (u15 0) S14), (lg_W G u15 S15), (sc_W G u16 S16), (md_W G u17 S17), (ot_W G u18 S18)]) (st := []) (st2 := fun r1229 => [.int r1229]) (As := []) (pc' := 1232) X (c_X4_underWay l G u0 u1 (u3 0) (u5 0) (u7 0) (u16 0) (u2 0) S1) lk_RL_173 [0, 1] rfl (by decide) (fun _ => rfl) rfl rfl rfl ⟨(Nat.le_of_ble_eq_true rfl), (Nat.le_of_ble_eq_true rfl)⟩ ⟨rfl, rfl⟩ ⟨by omega, by omega⟩ rfl (Nat.le_of_ble_eq_true rfl) rfl dL_law_1229 rfl (fun _ => rfl) (fun _ => rfl) (fun r1229 => ?_)
  refine sk_aload_n (pc' := 1233) X rfl dL_law_1232 rfl ?_
  refine sk_callV (bs2 := fun r1233 => [(pc_W u0 (u1 0) (u3 0) (u5 0) (u7 0) (u16 0)), (nt_W G u1 (u2 0) S1), (lg_W G u2 S2), (nt_W G u3 (u4 0) S3), (lg_W G u4 S4), (nt_W G u5 (u6 0) S5), (lg_W G u6 S6), (sv_W G u7 (u8 0) (u10 0) (u12 0) (u14 0) S7), (nt_W G u8 (u9 0) S8), (lg_W G u9 S9), (nt_W G u10 (u11 0) S10), (lg_W G u11 S11), (nt_W G u12 (u13 0) S12), (lg_W G u13 S13), (nt_W G u14 (u15 0) S14), (lg_W G u15 S15), (sc_W G u16 S16), (md_W G u17 r1233.2), (ot_W G u18 S18)]) (st := [.int r1229]) (st2 := fun r1233 => [.int r1233.1, .int r1229]) (As := []) (pc' := 1236) X (c_X5_underWay l G u17 S17) lk_RL_176 [17] rfl (by decide) (fun _ => rfl) rfl rfl rfl ⟨(Nat.le_of_ble_eq_true rfl), (Nat.le_of_ble_eq_true rfl)⟩ ⟨rfl, rfl⟩ ⟨by omega, by omega⟩ rfl (Nat.le_of_ble_eq_true rfl) rfl dL_law_1233 rfl (fun _ => rfl) (fun _ => rfl) (fun r1233 => ?_)
  refine sk_icmp_eq (tgt := 2071) (pc' := 1239) X dL_law_1236 rfl rfl ?_ ?_
  · refine sk_iinc (lv' := [some (.ref b), some (.ref (u0 0)), some (.ref (u17 0)), some (.ref (u18 0)), some (.int (x4 + (4 : Int32))), none, none]) (pc' := 2074) X rfl ic_4 (Nat.le_of_ble_eq_true rfl) rfl rfl dL_law_2071 rfl ?_
    refine sk_goto (tgt := 23) X dL_law_2074 rfl ?_
    first | exact sk_widen (lw_k (lw_i4 hg) (Nat.le_of_ble_eq_true rfl)) (lw_n (lw_i4 hg) (Nat.le_of_ble_eq_true rfl)) (ih23 (S1, S2, S3, S4, S5, S6, S7, S8, S9, S10, S11, S12, S13, S14, S15, S16, r1233.2, S18, (x4 + (4 : Int32)))) | exact sk_widen (lw_k0 (lw_i4 hg)) (lw_n0 (lw_i4 hg)) (ih23 (S1, S2, S3, S4, S5, S6, S7, S8, S9, S10, S11, S12, S13, S14, S15, S16, r1233.2, S18, (x4 + (4 : Int32))))
  · refine sk_iconst (pc' := 1240) X ic_0 dL_law_1239 rfl ?_
    exact sk_lfalse
set_option maxHeartbeats 4000000 in
set_option maxRecDepth 100000 in
theorem lc_20 {Γ : sk_K} {l : Launch} (hl0 : l.stackTraces = false) {G : sk_G} {t b L : Nat} {xs : Nat → Int32} (X : sk_X Γ l G room_1 7 RL code ret) (E : sk_EL Γ t b L xs) (u0 u1 u2 u3 u4 u5 u6 u7 u8 u9 u10 u11 u12 u13 u14 u15 u16 u17 u18 : Nat → Nat) (k23 : lw_σ → Option Int32) (ih23 : ∀ s2 : lw_σ, sk_S Γ (lw_Φ Γ b) (kl s2.2.2.2.2.2.2.2.2.2.2.2.2.2.2.2.2.2.2) (nl s2.2.2.2.2.2.2.2.2.2.2.2.2.2.2.2.2.2.2) (k23 s2) (lw_bs G u0 u1 u2 u3 u4 u5 u6 u7 u8 u9 u10 u11 u12 u13 u14 u15 u16 u17 u18 s2) (lw_lv b u0 u1 u2 u3 u4 u5 u6 u7 u8 u9 u10 u11 u12 u13 u14 u15 u16 u17 u18 s2) 23 []) (S1 : sk_N) (S2 : sk_N) (S3 : sk_N) (S4 : sk_N) (S5 : sk_N) (S6 : sk_N) (S7 : sk_N) (S8 : sk_N) (S9 : sk_N) (S10 : sk_N) (S11 : sk_N) (S12 : sk_N) (S13 : sk_N) (S14 : sk_N) (S15 : sk_N) (S16 : sk_N) (S17 : sk_M) (S18 : sk_O) (x4 : Int32) (hg : sk_in x4 2049 = true) : sk_S Γ (lw_Φ Γ b) (kl x4) (nl x4) (m_L_c20 L xs k23 S1 S2 S3 S4 S5 S6 S7 S8 S9 S10 S11 S12 S13 S14 S15 S16 S17 S18 x4) [(pc_W u0 (u1 0) (u3 0) (u5 0) (u7 0) (u16 0)), (nt_W G u1 (u2 0) S1), (lg_W G u2 S2), (nt_W G u3 (u4 0) S3), (lg_W G u4 S4), (nt_W G u5 (u6 0) S5), (lg_W G u6 S6), (sv_W G u7 (u8 0) (u10 0) (u12 0) (u14 0) S7), (nt_W G u8 (u9 0) S8), (lg_W G u9 S9), (nt_W G u10 (u11 0) S10), (lg_W G u11 S11), (nt_W G u12 (u13 0) S12), (lg_W G u13 S13), (nt_W G u14 (u15 0) S14), (lg_W G u15 S15), (sc_W G u16 S16), (md_W G u17 S17), (ot_W G u18 S18)] [some (.ref b), some (.ref (u0 0)), some (.ref (u17 0)), some (.ref (u18 0)), some (.int x4), none, none] 1241 [] := by
  have hk0 := lw_hk hg
  have hn0 := lw_hn hg
  unfold m_L_c20
  refine sk_aload_n (pc' := 1242) X rfl dL_law_1241 rfl ?_
  refine sk_callV (bs2 := fun r1242 => [(pc_W u0 (u1 0) (u3 0) (u5 0) (u7 0) (u16 0)), (nt_W G u1 (u2 0) S1), (lg_W G u2 S2), (nt_W G u3 (u4 0) S3), (lg_W G u4 S4), (nt_W G u5 (u6 0) S5), (lg_W G u6 S6), (sv_W G u7 (u8 0) (u10 0) (u12 0) (u14 0) S7), (nt_W G u8 (u9 0) S8), (lg_W G u9 S9), (nt_W G u10 (u11 0) S10), (lg_W G u11 S11), (nt_W G u12 (u13 0) S12), (lg_W G u13 S13), (nt_W G u14 (u15 0) S14), (lg_W G u15 S15), (sc_W G u16 S16), (md_W G u17 S17), (ot_W G u18 S18)]) (st := []) (st2 := fun r1242 => [.int r1242]) (As := []) (pc' := 1245) X (c_X4_groups l G u0 u1 (u3 0) (u5 0) (u7 0) (u16 0) (u2 0) S1) lk_RL_177 [0, 1] rfl (by decide) (fun _ => rfl) rfl rfl rfl ⟨(Nat.le_of_ble_eq_true rfl), (Nat.le_of_ble_eq_true rfl)⟩ ⟨rfl, rfl⟩ ⟨by omega, by omega⟩ rfl (Nat.le_of_ble_eq_true rfl) rfl dL_law_1242 rfl (fun _ => rfl) (fun _ => rfl) (fun r1242 => ?_)
  refine sk_aload_n (pc' := 1246) X rfl dL_law_1245 rfl ?_
  refine sk_callV (bs2 := fun r1246 => [(pc_W u0 (u1 0) (u3 0) (u5 0) (u7 0) (u16 0)), (nt_W G u1 (u2 0) S1), (lg_W G u2 S2), (nt_W G u3 (u4 0) S3), (lg_W G u4 S4), (nt_W G u5 (u6 0) S5), (lg_W G u6 S6), (sv_W G u7 (u8 0) (u10 0) (u12 0) (u14 0) S7), (nt_W G u8 (u9 0) S8), (lg_W G u9 S9), (nt_W G u10 (u11 0) S10), (lg_W G u11 S11), (nt_W G u12 (u13 0) S12), (lg_W G u13 S13), (nt_W G u14 (u15 0) S14), (lg_W G u15 S15), (sc_W G u16 S16), (md_W G u17 r1246.2), (ot_W G u18 S18)]) (st := [.int r1242]) (st2 := fun r1246 => [.int r1246.1, .int r1242]) (As := []) (pc' := 1249) X (c_X5_groups l G u17 S17) lk_RL_180 [17] rfl (by decide) (fun _ => rfl) rfl rfl rfl ⟨(Nat.le_of_ble_eq_true rfl), (Nat.le_of_ble_eq_true rfl)⟩ ⟨rfl, rfl⟩ ⟨by omega, by omega⟩ rfl (Nat.le_of_ble_eq_true rfl) rfl dL_law_1246 rfl (fun _ => rfl) (fun _ => rfl) (fun r1246 => ?_)
  refine sk_icmp_eq (tgt := 2071) (pc' := 1252) X dL_law_1249 rfl rfl ?_ ?_
  · refine sk_iinc (lv' := [some (.ref b), some (.ref (u0 0)), some (.ref (u17 0)), some (.ref (u18 0)), some (.int (x4 + (4 : Int32))), none, none]) (pc' := 2074) X rfl ic_4 (Nat.le_of_ble_eq_true rfl) rfl rfl dL_law_2071 rfl ?_
    refine sk_goto (tgt := 23) X dL_law_2074 rfl ?_
    first | exact sk_widen (lw_k (lw_i4 hg) (Nat.le_of_ble_eq_true rfl)) (lw_n (lw_i4 hg) (Nat.le_of_ble_eq_true rfl)) (ih23 (S1, S2, S3, S4, S5, S6, S7, S8, S9, S10, S11, S12, S13, S14, S15, S16, r1246.2, S18, (x4 + (4 : Int32)))) | exact sk_widen (lw_k0 (lw_i4 hg)) (lw_n0 (lw_i4 hg)) (ih23 (S1, S2, S3, S4, S5, S6, S7, S8, S9, S10, S11, S12, S13, S14, S15, S16, r1246.2, S18, (x4 + (4 : Int32))))
  · refine sk_iconst (pc' := 1253) X ic_0 dL_law_1252 rfl ?_
    exact sk_lfalse
set_option maxHeartbeats 4000000 in
set_option maxRecDepth 100000 in
theorem lc_21 {Γ : sk_K} {l : Launch} (hl0 : l.stackTraces = false) {G : sk_G} {t b L : Nat} {xs : Nat → Int32} (X : sk_X Γ l G room_1 7 RL code ret) (E : sk_EL Γ t b L xs) (u0 u1 u2 u3 u4 u5 u6 u7 u8 u9 u10 u11 u12 u13 u14 u15 u16 u17 u18 : Nat → Nat) (k23 : lw_σ → Option Int32) (ih23 : ∀ s2 : lw_σ, sk_S Γ (lw_Φ Γ b) (kl s2.2.2.2.2.2.2.2.2.2.2.2.2.2.2.2.2.2.2) (nl s2.2.2.2.2.2.2.2.2.2.2.2.2.2.2.2.2.2.2) (k23 s2) (lw_bs G u0 u1 u2 u3 u4 u5 u6 u7 u8 u9 u10 u11 u12 u13 u14 u15 u16 u17 u18 s2) (lw_lv b u0 u1 u2 u3 u4 u5 u6 u7 u8 u9 u10 u11 u12 u13 u14 u15 u16 u17 u18 s2) 23 []) (S1 : sk_N) (S2 : sk_N) (S3 : sk_N) (S4 : sk_N) (S5 : sk_N) (S6 : sk_N) (S7 : sk_N) (S8 : sk_N) (S9 : sk_N) (S10 : sk_N) (S11 : sk_N) (S12 : sk_N) (S13 : sk_N) (S14 : sk_N) (S15 : sk_N) (S16 : sk_N) (S17 : sk_M) (S18 : sk_O) (x4 : Int32) (hg : sk_in x4 2049 = true) : sk_S Γ (lw_Φ Γ b) (kl x4) (nl x4) (m_L_c21 L xs k23 S1 S2 S3 S4 S5 S6 S7 S8 S9 S10 S11 S12 S13 S14 S15 S16 S17 S18 x4) [(pc_W u0 (u1 0) (u3 0) (u5 0) (u7 0) (u16 0)), (nt_W G u1 (u2 0) S1), (lg_W G u2 S2), (nt_W G u3 (u4 0) S3), (lg_W G u4 S4), (nt_W G u5 (u6 0) S5), (lg_W G u6 S6), (sv_W G u7 (u8 0) (u10 0) (u12 0) (u14 0) S7), (nt_W G u8 (u9 0) S8), (lg_W G u9 S9), (nt_W G u10 (u11 0) S10), (lg_W G u11 S11), (nt_W G u12 (u13 0) S12), (lg_W G u13 S13), (nt_W G u14 (u15 0) S14), (lg_W G u15 S15), (sc_W G u16 S16), (md_W G u17 S17), (ot_W G u18 S18)] [some (.ref b), some (.ref (u0 0)), some (.ref (u17 0)), some (.ref (u18 0)), some (.int x4), none, none] 1254 [] := by
  have hk0 := lw_hk hg
  have hn0 := lw_hn hg
  unfold m_L_c21
  refine sk_aload_n (pc' := 1255) X rfl dL_law_1254 rfl ?_
  refine sk_aload_n (pc' := 1256) X rfl dL_law_1255 rfl ?_
  refine sk_iload (pc' := 1258) X rfl dL_law_1256 rfl ?_
  refine sk_iconst (pc' := 1259) X ic_1 dL_law_1258 rfl ?_
  refine sk_iadd (pc' := 1260) X dL_law_1259 rfl ?_
  refine sk_scd (pc' := 1261) X E dL_law_1260 rfl ?_
  refine sk_aload_n (pc' := 1262) X rfl dL_law_1261 rfl ?_
  refine sk_iload (pc' := 1264) X rfl dL_law_1262 rfl ?_
  refine sk_iconst (pc' := 1265) X ic_2 dL_law_1264 rfl ?_
  refine sk_iadd (pc' := 1266) X dL_law_1265 rfl ?_
  refine sk_scd (pc' := 1267) X E dL_law_1266 rfl ?_
  refine sk_if_eq (tgt := 1274) (pc' := 1270) X dL_law_1267 rfl rfl ?_ ?_
  · refine sk_iconst (pc' := 1275) X ic_0 dL_law_1274 rfl ?_
    refine sk_aload_n (pc' := 1276) X rfl dL_law_1275 rfl ?_
    refine sk_callSH (bs2 := fun r1276 => [(pc_W u0 (u1 0) (u3 0) (u5 0) (u7 0) (u16 0)), (nt_W G u1 (u2 0) S1), (lg_W G u2 S2), (nt_W G u3 (u4 0) S3), (lg_W G u4 S4), (nt_W G u5 (u6 0) S5), (lg_W G u6 S6), (sv_W G u7 (u8 0) (u10 0) (u12 0) (u14 0) S7), (nt_W G u8 (u9 0) S8), (lg_W G u9 S9), (nt_W G u10 (u11 0) S10), (lg_W G u11 S11), (nt_W G u12 (u13 0) S12), (lg_W G u13 S13), (nt_W G u14 (u15 0) S14), (lg_W G u15 S15), (sc_W G u16 S16), (md_W G u17 S17), (ot_W G u18 r1276.2)]) (st := []) (st2 := fun r1276 => [.int r1276.1]) (As := [.ref (u0 0), .int (xs ((x4 + (1 : Int32))).toNatClampNeg), .int (0 : Int32), .ref (u18 0)]) (pc' := 1279) X E (c_L_group l hl0 t G u0 u1 u18 (u3 0) (u5 0) (u7 0) (u16 0) (u2 0) S1 S18 (xs ((x4 + (1 : Int32))).toNatClampNeg) (0 : Int32)) lkh_RL_181 [0, 1, 18] rfl (by decide) (fun _ => rfl) ⟨(Nat.le_of_ble_eq_true rfl), (Nat.le_of_ble_eq_true rfl)⟩ ⟨rfl, rfl⟩ ⟨by omega, by omega⟩ rfl (Nat.le_of_ble_eq_true rfl) rfl dL_law_1276 rfl (fun _ => rfl) (fun _ => rfl) (fun r1276 => ?_)
    refine sk_istore (lv' := [some (.ref b), some (.ref (u0 0)), some (.ref (u17 0)), some (.ref (u18 0)), some (.int x4), some (.int r1276.1), none]) (pc' := 1281) X (Nat.le_of_ble_eq_true rfl) rfl rfl dL_law_1279 rfl ?_
    refine sk_aload_n (pc' := 1282) X rfl dL_law_1281 rfl ?_
    refine sk_aload_n (pc' := 1283) X rfl dL_law_1282 rfl ?_
    refine sk_iload (pc' := 1285) X rfl dL_law_1283 rfl ?_
    refine sk_iconst (pc' := 1286) X ic_1 dL_law_1285 rfl ?_
    refine sk_iadd (pc' := 1287) X dL_law_1286 rfl ?_
    refine sk_scd (pc' := 1288) X E dL_law_1287 rfl ?_
    refine sk_aload_n (pc' := 1289) X rfl dL_law_1288 rfl ?_
    refine sk_iload (pc' := 1291) X rfl dL_law_1289 rfl ?_
    refine sk_iconst (pc' := 1292) X ic_2 dL_law_1291 rfl ?_
    refine sk_iadd (pc' := 1293) X dL_law_1292 rfl ?_
    refine sk_scd (pc' := 1294) X E dL_law_1293 rfl ?_
    refine sk_if_eq (tgt := 1301) (pc' := 1297) X dL_law_1294 rfl rfl ?_ ?_
    · refine sk_iconst (pc' := 1302) X ic_0 dL_law_1301 rfl ?_
      refine sk_callV (bs2 := fun r1302 => [(pc_W u0 (u1 0) (u3 0) (u5 0) (u7 0) (u16 0)), (nt_W G u1 (u2 0) S1), (lg_W G u2 S2), (nt_W G u3 (u4 0) S3), (lg_W G u4 S4), (nt_W G u5 (u6 0) S5), (lg_W G u6 S6), (sv_W G u7 (u8 0) (u10 0) (u12 0) (u14 0) S7), (nt_W G u8 (u9 0) S8), (lg_W G u9 S9), (nt_W G u10 (u11 0) S10), (lg_W G u11 S11), (nt_W G u12 (u13 0) S12), (lg_W G u13 S13), (nt_W G u14 (u15 0) S14), (lg_W G u15 S15), (sc_W G u16 S16), (md_W G u17 r1302.2), (ot_W G u18 r1276.2)]) (st := []) (st2 := fun r1302 => [.int r1302.1]) (As := [.int (xs ((x4 + (1 : Int32))).toNatClampNeg), .int (0 : Int32)]) (pc' := 1305) X (c_X5_group l G u17 S17 (xs ((x4 + (1 : Int32))).toNatClampNeg) (0 : Int32)) lk_RL_184 [17] rfl (by decide) (fun _ => rfl) rfl rfl rfl ⟨(Nat.le_of_ble_eq_true rfl), (Nat.le_of_ble_eq_true rfl)⟩ ⟨rfl, rfl⟩ ⟨by omega, by omega⟩ rfl (Nat.le_of_ble_eq_true rfl) rfl dL_law_1302 rfl (fun _ => rfl) (fun _ => rfl) (fun r1302 => ?_)
      refine sk_istore (lv' := [some (.ref b), some (.ref (u0 0)), some (.ref (u17 0)), some (.ref (u18 0)), some (.int x4), some (.int r1276.1), some (.int r1302.1)]) (pc' := 1307) X (Nat.le_of_ble_eq_true rfl) rfl rfl dL_law_1305 rfl ?_
      refine sk_aload_n (pc' := 1308) X rfl dL_law_1307 rfl ?_
      refine sk_callV (bs2 := fun r1308 => [(pc_W u0 (u1 0) (u3 0) (u5 0) (u7 0) (u16 0)), (nt_W G u1 (u2 0) S1), (lg_W G u2 S2), (nt_W G u3 (u4 0) S3), (lg_W G u4 S4), (nt_W G u5 (u6 0) S5), (lg_W G u6 S6), (sv_W G u7 (u8 0) (u10 0) (u12 0) (u14 0) S7), (nt_W G u8 (u9 0) S8), (lg_W G u9 S9), (nt_W G u10 (u11 0) S10), (lg_W G u11 S11), (nt_W G u12 (u13 0) S12), (lg_W G u13 S13), (nt_W G u14 (u15 0) S14), (lg_W G u15 S15), (sc_W G u16 S16), (md_W G u17 r1302.2), (ot_W G u18 r1276.2)]) (st := []) (st2 := fun r1308 => [.int r1308]) (As := []) (pc' := 1311) X (c_X5_thrown l G u17 r1302.2) lk_RL_109 [17] rfl (by decide) (fun _ => rfl) rfl rfl rfl ⟨(Nat.le_of_ble_eq_true rfl), (Nat.le_of_ble_eq_true rfl)⟩ ⟨rfl, rfl⟩ ⟨by omega, by omega⟩ rfl (Nat.le_of_ble_eq_true rfl) rfl dL_law_1308 rfl (fun _ => rfl) (fun _ => rfl) (fun r1308 => ?_)
      refine sk_iload (pc' := 1313) X rfl dL_law_1311 rfl ?_
      refine sk_icmp_eq (tgt := 1318) (pc' := 1316) X dL_law_1313 rfl rfl ?_ ?_
      · refine sk_iload (pc' := 1320) X rfl dL_law_1318 rfl ?_
        refine sk_if_ne (tgt := 1335) (pc' := 1323) X dL_law_1320 rfl rfl ?_ ?_
        · refine sk_goto (tgt := 2071) X dL_law_1335 rfl ?_
          refine sk_iinc (lv' := [some (.ref b), some (.ref (u0 0)), some (.ref (u17 0)), some (.ref (u18 0)), some (.int (x4 + (4 : Int32))), some (.int r1276.1), some (.int r1302.1)]) (pc' := 2074) X rfl ic_4 (Nat.le_of_ble_eq_true rfl) rfl rfl dL_law_2071 rfl ?_
          refine sk_goto (tgt := 23) X dL_law_2074 rfl ?_
          first | exact sk_widen (lw_k (lw_i4 hg) (Nat.le_of_ble_eq_true rfl)) (lw_n (lw_i4 hg) (Nat.le_of_ble_eq_true rfl)) (sk_kill 6 (sk_kill 5 (ih23 (S1, S2, S3, S4, S5, S6, S7, S8, S9, S10, S11, S12, S13, S14, S15, S16, r1302.2, r1276.2, (x4 + (4 : Int32)))))) | exact sk_widen (lw_k0 (lw_i4 hg)) (lw_n0 (lw_i4 hg)) (sk_kill 6 (sk_kill 5 (ih23 (S1, S2, S3, S4, S5, S6, S7, S8, S9, S10, S11, S12, S13, S14, S15, S16, r1302.2, r1276.2, (x4 + (4 : Int32))))))
        · refine sk_aload_n (pc' := 1324) X rfl dL_law_1323 rfl ?_
          refine sk_iconst (pc' := 1325) X ic_0 dL_law_1324 rfl ?_
          refine sk_lald (pc' := 1326) X 18 0 rfl rfl dL_law_1325 rfl ?_
          refine sk_iload (pc' := 1328) X rfl dL_law_1326 rfl ?_
          refine sk_i2l (pc' := 1329) X dL_law_1328 rfl ?_
          refine sk_lcmp (pc' := 1330) X dL_law_1329 rfl ?_
          refine sk_if_eq (tgt := 1335) (pc' := 1333) X dL_law_1330 rfl rfl ?_ ?_
          · refine sk_goto (tgt := 2071) X dL_law_1335 rfl ?_
            refine sk_iinc (lv' := [some (.ref b), some (.ref (u0 0)), some (.ref (u17 0)), some (.ref (u18 0)), some (.int (x4 + (4 : Int32))), some (.int r1276.1), some (.int r1302.1)]) (pc' := 2074) X rfl ic_4 (Nat.le_of_ble_eq_true rfl) rfl rfl dL_law_2071 rfl ?_
            refine sk_goto (tgt := 23) X dL_law_2074 rfl ?_
            first | exact sk_widen (lw_k (lw_i4 hg) (Nat.le_of_ble_eq_true rfl)) (lw_n (lw_i4 hg) (Nat.le_of_ble_eq_true rfl)) (sk_kill 6 (sk_kill 5 (ih23 (S1, S2, S3, S4, S5, S6, S7, S8, S9, S10, S11, S12, S13, S14, S15, S16, r1302.2, r1276.2, (x4 + (4 : Int32)))))) | exact sk_widen (lw_k0 (lw_i4 hg)) (lw_n0 (lw_i4 hg)) (sk_kill 6 (sk_kill 5 (ih23 (S1, S2, S3, S4, S5, S6, S7, S8, S9, S10, S11, S12, S13, S14, S15, S16, r1302.2, r1276.2, (x4 + (4 : Int32))))))
          · refine sk_iconst (pc' := 1334) X ic_0 dL_law_1333 rfl ?_
            exact sk_lfalse
      · refine sk_iconst (pc' := 1317) X ic_0 dL_law_1316 rfl ?_
        exact sk_lfalse
    · refine sk_iconst (pc' := 1298) X ic_1 dL_law_1297 rfl ?_
      refine sk_goto (tgt := 1302) X dL_law_1298 rfl ?_
      refine sk_callV (bs2 := fun r1302 => [(pc_W u0 (u1 0) (u3 0) (u5 0) (u7 0) (u16 0)), (nt_W G u1 (u2 0) S1), (lg_W G u2 S2), (nt_W G u3 (u4 0) S3), (lg_W G u4 S4), (nt_W G u5 (u6 0) S5), (lg_W G u6 S6), (sv_W G u7 (u8 0) (u10 0) (u12 0) (u14 0) S7), (nt_W G u8 (u9 0) S8), (lg_W G u9 S9), (nt_W G u10 (u11 0) S10), (lg_W G u11 S11), (nt_W G u12 (u13 0) S12), (lg_W G u13 S13), (nt_W G u14 (u15 0) S14), (lg_W G u15 S15), (sc_W G u16 S16), (md_W G u17 r1302.2), (ot_W G u18 r1276.2)]) (st := []) (st2 := fun r1302 => [.int r1302.1]) (As := [.int (xs ((x4 + (1 : Int32))).toNatClampNeg), .int (1 : Int32)]) (pc' := 1305) X (c_X5_group l G u17 S17 (xs ((x4 + (1 : Int32))).toNatClampNeg) (1 : Int32)) lk_RL_184 [17] rfl (by decide) (fun _ => rfl) rfl rfl rfl ⟨(Nat.le_of_ble_eq_true rfl), (Nat.le_of_ble_eq_true rfl)⟩ ⟨rfl, rfl⟩ ⟨by omega, by omega⟩ rfl (Nat.le_of_ble_eq_true rfl) rfl dL_law_1302 rfl (fun _ => rfl) (fun _ => rfl) (fun r1302 => ?_)
      refine sk_istore (lv' := [some (.ref b), some (.ref (u0 0)), some (.ref (u17 0)), some (.ref (u18 0)), some (.int x4), some (.int r1276.1), some (.int r1302.1)]) (pc' := 1307) X (Nat.le_of_ble_eq_true rfl) rfl rfl dL_law_1305 rfl ?_
      refine sk_aload_n (pc' := 1308) X rfl dL_law_1307 rfl ?_
      refine sk_callV (bs2 := fun r1308 => [(pc_W u0 (u1 0) (u3 0) (u5 0) (u7 0) (u16 0)), (nt_W G u1 (u2 0) S1), (lg_W G u2 S2), (nt_W G u3 (u4 0) S3), (lg_W G u4 S4), (nt_W G u5 (u6 0) S5), (lg_W G u6 S6), (sv_W G u7 (u8 0) (u10 0) (u12 0) (u14 0) S7), (nt_W G u8 (u9 0) S8), (lg_W G u9 S9), (nt_W G u10 (u11 0) S10), (lg_W G u11 S11), (nt_W G u12 (u13 0) S12), (lg_W G u13 S13), (nt_W G u14 (u15 0) S14), (lg_W G u15 S15), (sc_W G u16 S16), (md_W G u17 r1302.2), (ot_W G u18 r1276.2)]) (st := []) (st2 := fun r1308 => [.int r1308]) (As := []) (pc' := 1311) X (c_X5_thrown l G u17 r1302.2) lk_RL_109 [17] rfl (by decide) (fun _ => rfl) rfl rfl rfl ⟨(Nat.le_of_ble_eq_true rfl), (Nat.le_of_ble_eq_true rfl)⟩ ⟨rfl, rfl⟩ ⟨by omega, by omega⟩ rfl (Nat.le_of_ble_eq_true rfl) rfl dL_law_1308 rfl (fun _ => rfl) (fun _ => rfl) (fun r1308 => ?_)
      refine sk_iload (pc' := 1313) X rfl dL_law_1311 rfl ?_
      refine sk_icmp_eq (tgt := 1318) (pc' := 1316) X dL_law_1313 rfl rfl ?_ ?_
      · refine sk_iload (pc' := 1320) X rfl dL_law_1318 rfl ?_
        refine sk_if_ne (tgt := 1335) (pc' := 1323) X dL_law_1320 rfl rfl ?_ ?_
        · refine sk_goto (tgt := 2071) X dL_law_1335 rfl ?_
          refine sk_iinc (lv' := [some (.ref b), some (.ref (u0 0)), some (.ref (u17 0)), some (.ref (u18 0)), some (.int (x4 + (4 : Int32))), some (.int r1276.1), some (.int r1302.1)]) (pc' := 2074) X rfl ic_4 (Nat.le_of_ble_eq_true rfl) rfl rfl dL_law_2071 rfl ?_
          refine sk_goto (tgt := 23) X dL_law_2074 rfl ?_
          first | exact sk_widen (lw_k (lw_i4 hg) (Nat.le_of_ble_eq_true rfl)) (lw_n (lw_i4 hg) (Nat.le_of_ble_eq_true rfl)) (sk_kill 6 (sk_kill 5 (ih23 (S1, S2, S3, S4, S5, S6, S7, S8, S9, S10, S11, S12, S13, S14, S15, S16, r1302.2, r1276.2, (x4 + (4 : Int32)))))) | exact sk_widen (lw_k0 (lw_i4 hg)) (lw_n0 (lw_i4 hg)) (sk_kill 6 (sk_kill 5 (ih23 (S1, S2, S3, S4, S5, S6, S7, S8, S9, S10, S11, S12, S13, S14, S15, S16, r1302.2, r1276.2, (x4 + (4 : Int32))))))
        · refine sk_aload_n (pc' := 1324) X rfl dL_law_1323 rfl ?_
          refine sk_iconst (pc' := 1325) X ic_0 dL_law_1324 rfl ?_
          refine sk_lald (pc' := 1326) X 18 0 rfl rfl dL_law_1325 rfl ?_
          refine sk_iload (pc' := 1328) X rfl dL_law_1326 rfl ?_
          refine sk_i2l (pc' := 1329) X dL_law_1328 rfl ?_
          refine sk_lcmp (pc' := 1330) X dL_law_1329 rfl ?_
          refine sk_if_eq (tgt := 1335) (pc' := 1333) X dL_law_1330 rfl rfl ?_ ?_
          · refine sk_goto (tgt := 2071) X dL_law_1335 rfl ?_
            refine sk_iinc (lv' := [some (.ref b), some (.ref (u0 0)), some (.ref (u17 0)), some (.ref (u18 0)), some (.int (x4 + (4 : Int32))), some (.int r1276.1), some (.int r1302.1)]) (pc' := 2074) X rfl ic_4 (Nat.le_of_ble_eq_true rfl) rfl rfl dL_law_2071 rfl ?_
            refine sk_goto (tgt := 23) X dL_law_2074 rfl ?_
            first | exact sk_widen (lw_k (lw_i4 hg) (Nat.le_of_ble_eq_true rfl)) (lw_n (lw_i4 hg) (Nat.le_of_ble_eq_true rfl)) (sk_kill 6 (sk_kill 5 (ih23 (S1, S2, S3, S4, S5, S6, S7, S8, S9, S10, S11, S12, S13, S14, S15, S16, r1302.2, r1276.2, (x4 + (4 : Int32)))))) | exact sk_widen (lw_k0 (lw_i4 hg)) (lw_n0 (lw_i4 hg)) (sk_kill 6 (sk_kill 5 (ih23 (S1, S2, S3, S4, S5, S6, S7, S8, S9, S10, S11, S12, S13, S14, S15, S16, r1302.2, r1276.2, (x4 + (4 : Int32))))))
          · refine sk_iconst (pc' := 1334) X ic_0 dL_law_1333 rfl ?_
            exact sk_lfalse
      · refine sk_iconst (pc' := 1317) X ic_0 dL_law_1316 rfl ?_
        exact sk_lfalse
  · refine sk_iconst (pc' := 1271) X ic_1 dL_law_1270 rfl ?_
    refine sk_goto (tgt := 1275) X dL_law_1271 rfl ?_
    refine sk_aload_n (pc' := 1276) X rfl dL_law_1275 rfl ?_
    refine sk_callSH (bs2 := fun r1276 => [(pc_W u0 (u1 0) (u3 0) (u5 0) (u7 0) (u16 0)), (nt_W G u1 (u2 0) S1), (lg_W G u2 S2), (nt_W G u3 (u4 0) S3), (lg_W G u4 S4), (nt_W G u5 (u6 0) S5), (lg_W G u6 S6), (sv_W G u7 (u8 0) (u10 0) (u12 0) (u14 0) S7), (nt_W G u8 (u9 0) S8), (lg_W G u9 S9), (nt_W G u10 (u11 0) S10), (lg_W G u11 S11), (nt_W G u12 (u13 0) S12), (lg_W G u13 S13), (nt_W G u14 (u15 0) S14), (lg_W G u15 S15), (sc_W G u16 S16), (md_W G u17 S17), (ot_W G u18 r1276.2)]) (st := []) (st2 := fun r1276 => [.int r1276.1]) (As := [.ref (u0 0), .int (xs ((x4 + (1 : Int32))).toNatClampNeg), .int (1 : Int32), .ref (u18 0)]) (pc' := 1279) X E (c_L_group l hl0 t G u0 u1 u18 (u3 0) (u5 0) (u7 0) (u16 0) (u2 0) S1 S18 (xs ((x4 + (1 : Int32))).toNatClampNeg) (1 : Int32)) lkh_RL_181 [0, 1, 18] rfl (by decide) (fun _ => rfl) ⟨(Nat.le_of_ble_eq_true rfl), (Nat.le_of_ble_eq_true rfl)⟩ ⟨rfl, rfl⟩ ⟨by omega, by omega⟩ rfl (Nat.le_of_ble_eq_true rfl) rfl dL_law_1276 rfl (fun _ => rfl) (fun _ => rfl) (fun r1276 => ?_)
    refine sk_istore (lv' := [some (.ref b), some (.ref (u0 0)), some (.ref (u17 0)), some (.ref (u18 0)), some (.int x4), some (.int r1276.1), none]) (pc' := 1281) X (Nat.le_of_ble_eq_true rfl) rfl rfl dL_law_1279 rfl ?_
    refine sk_aload_n (pc' := 1282) X rfl dL_law_1281 rfl ?_
    refine sk_aload_n (pc' := 1283) X rfl dL_law_1282 rfl ?_
    refine sk_iload (pc' := 1285) X rfl dL_law_1283 rfl ?_
    refine sk_iconst (pc' := 1286) X ic_1 dL_law_1285 rfl ?_
    refine sk_iadd (pc' := 1287) X dL_law_1286 rfl ?_
    refine sk_scd (pc' := 1288) X E dL_law_1287 rfl ?_
    refine sk_aload_n (pc' := 1289) X rfl dL_law_1288 rfl ?_
    refine sk_iload (pc' := 1291) X rfl dL_law_1289 rfl ?_
    refine sk_iconst (pc' := 1292) X ic_2 dL_law_1291 rfl ?_
    refine sk_iadd (pc' := 1293) X dL_law_1292 rfl ?_
    refine sk_scd (pc' := 1294) X E dL_law_1293 rfl ?_
    refine sk_if_eq (tgt := 1301) (pc' := 1297) X dL_law_1294 rfl rfl ?_ ?_
    · refine sk_iconst (pc' := 1302) X ic_0 dL_law_1301 rfl ?_
      refine sk_callV (bs2 := fun r1302 => [(pc_W u0 (u1 0) (u3 0) (u5 0) (u7 0) (u16 0)), (nt_W G u1 (u2 0) S1), (lg_W G u2 S2), (nt_W G u3 (u4 0) S3), (lg_W G u4 S4), (nt_W G u5 (u6 0) S5), (lg_W G u6 S6), (sv_W G u7 (u8 0) (u10 0) (u12 0) (u14 0) S7), (nt_W G u8 (u9 0) S8), (lg_W G u9 S9), (nt_W G u10 (u11 0) S10), (lg_W G u11 S11), (nt_W G u12 (u13 0) S12), (lg_W G u13 S13), (nt_W G u14 (u15 0) S14), (lg_W G u15 S15), (sc_W G u16 S16), (md_W G u17 r1302.2), (ot_W G u18 r1276.2)]) (st := []) (st2 := fun r1302 => [.int r1302.1]) (As := [.int (xs ((x4 + (1 : Int32))).toNatClampNeg), .int (0 : Int32)]) (pc' := 1305) X (c_X5_group l G u17 S17 (xs ((x4 + (1 : Int32))).toNatClampNeg) (0 : Int32)) lk_RL_184 [17] rfl (by decide) (fun _ => rfl) rfl rfl rfl ⟨(Nat.le_of_ble_eq_true rfl), (Nat.le_of_ble_eq_true rfl)⟩ ⟨rfl, rfl⟩ ⟨by omega, by omega⟩ rfl (Nat.le_of_ble_eq_true rfl) rfl dL_law_1302 rfl (fun _ => rfl) (fun _ => rfl) (fun r1302 => ?_)
      refine sk_istore (lv' := [some (.ref b), some (.ref (u0 0)), some (.ref (u17 0)), some (.ref (u18 0)), some (.int x4), some (.int r1276.1), some (.int r1302.1)]) (pc' := 1307) X (Nat.le_of_ble_eq_true rfl) rfl rfl dL_law_1305 rfl ?_
      refine sk_aload_n (pc' := 1308) X rfl dL_law_1307 rfl ?_
      refine sk_callV (bs2 := fun r1308 => [(pc_W u0 (u1 0) (u3 0) (u5 0) (u7 0) (u16 0)), (nt_W G u1 (u2 0) S1), (lg_W G u2 S2), (nt_W G u3 (u4 0) S3), (lg_W G u4 S4), (nt_W G u5 (u6 0) S5), (lg_W G u6 S6), (sv_W G u7 (u8 0) (u10 0) (u12 0) (u14 0) S7), (nt_W G u8 (u9 0) S8), (lg_W G u9 S9), (nt_W G u10 (u11 0) S10), (lg_W G u11 S11), (nt_W G u12 (u13 0) S12), (lg_W G u13 S13), (nt_W G u14 (u15 0) S14), (lg_W G u15 S15), (sc_W G u16 S16), (md_W G u17 r1302.2), (ot_W G u18 r1276.2)]) (st := []) (st2 := fun r1308 => [.int r1308]) (As := []) (pc' := 1311) X (c_X5_thrown l G u17 r1302.2) lk_RL_109 [17] rfl (by decide) (fun _ => rfl) rfl rfl rfl ⟨(Nat.le_of_ble_eq_true rfl), (Nat.le_of_ble_eq_true rfl)⟩ ⟨rfl, rfl⟩ ⟨by omega, by omega⟩ rfl (Nat.le_of_ble_eq_true rfl) rfl dL_law_1308 rfl (fun _ => rfl) (fun _ => rfl) (fun r1308 => ?_)
      refine sk_iload (pc' := 1313) X rfl dL_law_1311 rfl ?_
      refine sk_icmp_eq (tgt := 1318) (pc' := 1316) X dL_law_1313 rfl rfl ?_ ?_
      · refine sk_iload (pc' := 1320) X rfl dL_law_1318 rfl ?_
        refine sk_if_ne (tgt := 1335) (pc' := 1323) X dL_law_1320 rfl rfl ?_ ?_
        · refine sk_goto (tgt := 2071) X dL_law_1335 rfl ?_
          refine sk_iinc (lv' := [some (.ref b), some (.ref (u0 0)), some (.ref (u17 0)), some (.ref (u18 0)), some (.int (x4 + (4 : Int32))), some (.int r1276.1), some (.int r1302.1)]) (pc' := 2074) X rfl ic_4 (Nat.le_of_ble_eq_true rfl) rfl rfl dL_law_2071 rfl ?_
          refine sk_goto (tgt := 23) X dL_law_2074 rfl ?_
          first | exact sk_widen (lw_k (lw_i4 hg) (Nat.le_of_ble_eq_true rfl)) (lw_n (lw_i4 hg) (Nat.le_of_ble_eq_true rfl)) (sk_kill 6 (sk_kill 5 (ih23 (S1, S2, S3, S4, S5, S6, S7, S8, S9, S10, S11, S12, S13, S14, S15, S16, r1302.2, r1276.2, (x4 + (4 : Int32)))))) | exact sk_widen (lw_k0 (lw_i4 hg)) (lw_n0 (lw_i4 hg)) (sk_kill 6 (sk_kill 5 (ih23 (S1, S2, S3, S4, S5, S6, S7, S8, S9, S10, S11, S12, S13, S14, S15, S16, r1302.2, r1276.2, (x4 + (4 : Int32))))))
        · refine sk_aload_n (pc' := 1324) X rfl dL_law_1323 rfl ?_
          refine sk_iconst (pc' := 1325) X ic_0 dL_law_1324 rfl ?_
          refine sk_lald (pc' := 1326) X 18 0 rfl rfl dL_law_1325 rfl ?_
          refine sk_iload (pc' := 1328) X rfl dL_law_1326 rfl ?_
          refine sk_i2l (pc' := 1329) X dL_law_1328 rfl ?_
          refine sk_lcmp (pc' := 1330) X dL_law_1329 rfl ?_
          refine sk_if_eq (tgt := 1335) (pc' := 1333) X dL_law_1330 rfl rfl ?_ ?_
          · refine sk_goto (tgt := 2071) X dL_law_1335 rfl ?_
            refine sk_iinc (lv' := [some (.ref b), some (.ref (u0 0)), some (.ref (u17 0)), some (.ref (u18 0)), some (.int (x4 + (4 : Int32))), some (.int r1276.1), some (.int r1302.1)]) (pc' := 2074) X rfl ic_4 (Nat.le_of_ble_eq_true rfl) rfl rfl dL_law_2071 rfl ?_
            refine sk_goto (tgt := 23) X dL_law_2074 rfl ?_
            first | exact sk_widen (lw_k (lw_i4 hg) (Nat.le_of_ble_eq_true rfl)) (lw_n (lw_i4 hg) (Nat.le_of_ble_eq_true rfl)) (sk_kill 6 (sk_kill 5 (ih23 (S1, S2, S3, S4, S5, S6, S7, S8, S9, S10, S11, S12, S13, S14, S15, S16, r1302.2, r1276.2, (x4 + (4 : Int32)))))) | exact sk_widen (lw_k0 (lw_i4 hg)) (lw_n0 (lw_i4 hg)) (sk_kill 6 (sk_kill 5 (ih23 (S1, S2, S3, S4, S5, S6, S7, S8, S9, S10, S11, S12, S13, S14, S15, S16, r1302.2, r1276.2, (x4 + (4 : Int32))))))
          · refine sk_iconst (pc' := 1334) X ic_0 dL_law_1333 rfl ?_
            exact sk_lfalse
      · refine sk_iconst (pc' := 1317) X ic_0 dL_law_1316 rfl ?_
        exact sk_lfalse
    · refine sk_iconst (pc' := 1298) X ic_1 dL_law_1297 rfl ?_
      refine sk_goto (tgt := 1302) X dL_law_1298 rfl ?_
      refine sk_callV (bs2 := fun r1302 => [(pc_W u0 (u1 0) (u3 0) (u5 0) (u7 0) (u16 0)), (nt_W G u1 (u2 0) S1), (lg_W G u2 S2), (nt_W G u3 (u4 0) S3), (lg_W G u4 S4), (nt_W G u5 (u6 0) S5), (lg_W G u6 S6), (sv_W G u7 (u8 0) (u10 0) (u12 0) (u14 0) S7), (nt_W G u8 (u9 0) S8), (lg_W G u9 S9), (nt_W G u10 (u11 0) S10), (lg_W G u11 S11), (nt_W G u12 (u13 0) S12), (lg_W G u13 S13), (nt_W G u14 (u15 0) S14), (lg_W G u15 S15), (sc_W G u16 S16), (md_W G u17 r1302.2), (ot_W G u18 r1276.2)]) (st := []) (st2 := fun r1302 => [.int r1302.1]) (As := [.int (xs ((x4 + (1 : Int32))).toNatClampNeg), .int (1 : Int32)]) (pc' := 1305) X (c_X5_group l G u17 S17 (xs ((x4 + (1 : Int32))).toNatClampNeg) (1 : Int32)) lk_RL_184 [17] rfl (by decide) (fun _ => rfl) rfl rfl rfl ⟨(Nat.le_of_ble_eq_true rfl), (Nat.le_of_ble_eq_true rfl)⟩ ⟨rfl, rfl⟩ ⟨by omega, by omega⟩ rfl (Nat.le_of_ble_eq_true rfl) rfl dL_law_1302 rfl (fun _ => rfl) (fun _ => rfl) (fun r1302 => ?_)
      refine sk_istore (lv' := [some (.ref b), some (.ref (u0 0)), some (.ref (u17 0)), some (.ref (u18 0)), some (.int x4), some (.int r1276.1), some (.int r1302.1)]) (pc' := 1307) X (Nat.le_of_ble_eq_true rfl) rfl rfl dL_law_1305 rfl ?_
      refine sk_aload_n (pc' := 1308) X rfl dL_law_1307 rfl ?_
      refine sk_callV (bs2 := fun r1308 => [(pc_W u0 (u1 0) (u3 0) (u5 0) (u7 0) (u16 0)), (nt_W G u1 (u2 0) S1), (lg_W G u2 S2), (nt_W G u3 (u4 0) S3), (lg_W G u4 S4), (nt_W G u5 (u6 0) S5), (lg_W G u6 S6), (sv_W G u7 (u8 0) (u10 0) (u12 0) (u14 0) S7), (nt_W G u8 (u9 0) S8), (lg_W G u9 S9), (nt_W G u10 (u11 0) S10), (lg_W G u11 S11), (nt_W G u12 (u13 0) S12), (lg_W G u13 S13), (nt_W G u14 (u15 0) S14), (lg_W G u15 S15), (sc_W G u16 S16), (md_W G u17 r1302.2), (ot_W G u18 r1276.2)]) (st := []) (st2 := fun r1308 => [.int r1308]) (As := []) (pc' := 1311) X (c_X5_thrown l G u17 r1302.2) lk_RL_109 [17] rfl (by decide) (fun _ => rfl) rfl rfl rfl ⟨(Nat.le_of_ble_eq_true rfl), (Nat.le_of_ble_eq_true rfl)⟩ ⟨rfl, rfl⟩ ⟨by omega, by omega⟩ rfl (Nat.le_of_ble_eq_true rfl) rfl dL_law_1308 rfl (fun _ => rfl) (fun _ => rfl) (fun r1308 => ?_)
      refine sk_iload (pc' := 1313) X rfl dL_law_1311 rfl ?_
      refine sk_icmp_eq (tgt := 1318) (pc' := 1316) X dL_law_1313 rfl rfl ?_ ?_
      · refine sk_iload (pc' := 1320) X rfl dL_law_1318 rfl ?_
        refine sk_if_ne (tgt := 1335) (pc' := 1323) X dL_law_1320 rfl rfl ?_ ?_
        · refine sk_goto (tgt := 2071) X dL_law_1335 rfl ?_
          refine sk_iinc (lv' := [some (.ref b), some (.ref (u0 0)), some (.ref (u17 0)), some (.ref (u18 0)), some (.int (x4 + (4 : Int32))), some (.int r1276.1), some (.int r1302.1)]) (pc' := 2074) X rfl ic_4 (Nat.le_of_ble_eq_true rfl) rfl rfl dL_law_2071 rfl ?_
          refine sk_goto (tgt := 23) X dL_law_2074 rfl ?_
          first | exact sk_widen (lw_k (lw_i4 hg) (Nat.le_of_ble_eq_true rfl)) (lw_n (lw_i4 hg) (Nat.le_of_ble_eq_true rfl)) (sk_kill 6 (sk_kill 5 (ih23 (S1, S2, S3, S4, S5, S6, S7, S8, S9, S10, S11, S12, S13, S14, S15, S16, r1302.2, r1276.2, (x4 + (4 : Int32)))))) | exact sk_widen (lw_k0 (lw_i4 hg)) (lw_n0 (lw_i4 hg)) (sk_kill 6 (sk_kill 5 (ih23 (S1, S2, S3, S4, S5, S6, S7, S8, S9, S10, S11, S12, S13, S14, S15, S16, r1302.2, r1276.2, (x4 + (4 : Int32))))))
        · refine sk_aload_n (pc' := 1324) X rfl dL_law_1323 rfl ?_
          refine sk_iconst (pc' := 1325) X ic_0 dL_law_1324 rfl ?_
          refine sk_lald (pc' := 1326) X 18 0 rfl rfl dL_law_1325 rfl ?_
          refine sk_iload (pc' := 1328) X rfl dL_law_1326 rfl ?_
          refine sk_i2l (pc' := 1329) X dL_law_1328 rfl ?_
          refine sk_lcmp (pc' := 1330) X dL_law_1329 rfl ?_
          refine sk_if_eq (tgt := 1335) (pc' := 1333) X dL_law_1330 rfl rfl ?_ ?_
          · refine sk_goto (tgt := 2071) X dL_law_1335 rfl ?_
            refine sk_iinc (lv' := [some (.ref b), some (.ref (u0 0)), some (.ref (u17 0)), some (.ref (u18 0)), some (.int (x4 + (4 : Int32))), some (.int r1276.1), some (.int r1302.1)]) (pc' := 2074) X rfl ic_4 (Nat.le_of_ble_eq_true rfl) rfl rfl dL_law_2071 rfl ?_
            refine sk_goto (tgt := 23) X dL_law_2074 rfl ?_
            first | exact sk_widen (lw_k (lw_i4 hg) (Nat.le_of_ble_eq_true rfl)) (lw_n (lw_i4 hg) (Nat.le_of_ble_eq_true rfl)) (sk_kill 6 (sk_kill 5 (ih23 (S1, S2, S3, S4, S5, S6, S7, S8, S9, S10, S11, S12, S13, S14, S15, S16, r1302.2, r1276.2, (x4 + (4 : Int32)))))) | exact sk_widen (lw_k0 (lw_i4 hg)) (lw_n0 (lw_i4 hg)) (sk_kill 6 (sk_kill 5 (ih23 (S1, S2, S3, S4, S5, S6, S7, S8, S9, S10, S11, S12, S13, S14, S15, S16, r1302.2, r1276.2, (x4 + (4 : Int32))))))
          · refine sk_iconst (pc' := 1334) X ic_0 dL_law_1333 rfl ?_
            exact sk_lfalse
      · refine sk_iconst (pc' := 1317) X ic_0 dL_law_1316 rfl ?_
        exact sk_lfalse
set_option maxHeartbeats 4000000 in
set_option maxRecDepth 100000 in
theorem lc_22 {Γ : sk_K} {l : Launch} (hl0 : l.stackTraces = false) {G : sk_G} {t b L : Nat} {xs : Nat → Int32} (X : sk_X Γ l G room_1 7 RL code ret) (E : sk_EL Γ t b L xs) (u0 u1 u2 u3 u4 u5 u6 u7 u8 u9 u10 u11 u12 u13 u14 u15 u16 u17 u18 : Nat → Nat) (k23 : lw_σ → Option Int32) (ih23 : ∀ s2 : lw_σ, sk_S Γ (lw_Φ Γ b) (kl s2.2.2.2.2.2.2.2.2.2.2.2.2.2.2.2.2.2.2) (nl s2.2.2.2.2.2.2.2.2.2.2.2.2.2.2.2.2.2.2) (k23 s2) (lw_bs G u0 u1 u2 u3 u4 u5 u6 u7 u8 u9 u10 u11 u12 u13 u14 u15 u16 u17 u18 s2) (lw_lv b u0 u1 u2 u3 u4 u5 u6 u7 u8 u9 u10 u11 u12 u13 u14 u15 u16 u17 u18 s2) 23 []) (S1 : sk_N) (S2 : sk_N) (S3 : sk_N) (S4 : sk_N) (S5 : sk_N) (S6 : sk_N) (S7 : sk_N) (S8 : sk_N) (S9 : sk_N) (S10 : sk_N) (S11 : sk_N) (S12 : sk_N) (S13 : sk_N) (S14 : sk_N) (S15 : sk_N) (S16 : sk_N) (S17 : sk_M) (S18 : sk_O) (x4 : Int32) (hg : sk_in x4 2049 = true) : sk_S Γ (lw_Φ Γ b) (kl x4) (nl x4) (m_L_c22 L xs k23 S1 S2 S3 S4 S5 S6 S7 S8 S9 S10 S11 S12 S13 S14 S15 S16 S17 S18 x4) [(pc_W u0 (u1 0) (u3 0) (u5 0) (u7 0) (u16 0)), (nt_W G u1 (u2 0) S1), (lg_W G u2 S2), (nt_W G u3 (u4 0) S3), (lg_W G u4 S4), (nt_W G u5 (u6 0) S5), (lg_W G u6 S6), (sv_W G u7 (u8 0) (u10 0) (u12 0) (u14 0) S7), (nt_W G u8 (u9 0) S8), (lg_W G u9 S9), (nt_W G u10 (u11 0) S10), (lg_W G u11 S11), (nt_W G u12 (u13 0) S12), (lg_W G u13 S13), (nt_W G u14 (u15 0) S14), (lg_W G u15 S15), (sc_W G u16 S16), (md_W G u17 S17), (ot_W G u18 S18)] [some (.ref b), some (.ref (u0 0)), some (.ref (u17 0)), some (.ref (u18 0)), some (.int x4), none, none] 1338 [] := by
  have hk0 := lw_hk hg
  have hn0 := lw_hn hg
  unfold m_L_c22
  refine sk_aload_n (pc' := 1339) X rfl dL_law_1338 rfl ?_
  refine sk_aload_n (pc' := 1340) X rfl dL_law_1339 rfl ?_
  refine sk_iload (pc' := 1342) X rfl dL_law_1340 rfl ?_
  refine sk_iconst (pc' := 1343) X ic_1 dL_law_1342 rfl ?_
  refine sk_iadd (pc' := 1344) X dL_law_1343 rfl ?_
  refine sk_scd (pc' := 1345) X E dL_law_1344 rfl ?_
  refine sk_aload_n (pc' := 1346) X rfl dL_law_1345 rfl ?_
  refine sk_callSH (bs2 := fun r1346 => [(pc_W u0 (u1 0) (u3 0) (u5 0) (u7 0) (u16 0)), (nt_W G u1 (u2 0) S1), (lg_W G u2 S2), (nt_W G u3 (u4 0) S3), (lg_W G u4 S4), (nt_W G u5 (u6 0) S5), (lg_W G u6 S6), (sv_W G u7 (u8 0) (u10 0) (u12 0) (u14 0) S7), (nt_W G u8 (u9 0) S8), (lg_W G u9 S9), (nt_W G u10 (u11 0) S10), (lg_W G u11 S11), (nt_W G u12 (u13 0) S12), (lg_W G u13 S13), (nt_W G u14 (u15 0) S14), (lg_W G u15 S15), (sc_W G u16 S16), (md_W G u17 S17), (ot_W G u18 r1346.2)]) (st := []) (st2 := fun r1346 => [.int r1346.1]) (As := [.ref (u0 0), .int (xs ((x4 + (1 : Int32))).toNatClampNeg), .ref (u18 0)]) (pc' := 1349) X E (c_L_groupOf l hl0 t G u0 u1 u18 (u3 0) (u5 0) (u7 0) (u16 0) (u2 0) S1 S18 (xs ((x4 + (1 : Int32))).toNatClampNeg)) lkh_RL_185 [0, 1, 18] rfl (by decide) (fun _ => rfl) ⟨(Nat.le_of_ble_eq_true rfl), (Nat.le_of_ble_eq_true rfl)⟩ ⟨rfl, rfl⟩ ⟨by omega, by omega⟩ rfl (Nat.le_of_ble_eq_true rfl) rfl dL_law_1346 rfl (fun _ => rfl) (fun _ => rfl) (fun r1346 => ?_)
  refine sk_istore (lv' := [some (.ref b), some (.ref (u0 0)), some (.ref (u17 0)), some (.ref (u18 0)), some (.int x4), some (.int r1346.1), none]) (pc' := 1351) X (Nat.le_of_ble_eq_true rfl) rfl rfl dL_law_1349 rfl ?_
  refine sk_aload_n (pc' := 1352) X rfl dL_law_1351 rfl ?_
  refine sk_aload_n (pc' := 1353) X rfl dL_law_1352 rfl ?_
  refine sk_iload (pc' := 1355) X rfl dL_law_1353 rfl ?_
  refine sk_iconst (pc' := 1356) X ic_1 dL_law_1355 rfl ?_
  refine sk_iadd (pc' := 1357) X dL_law_1356 rfl ?_
  refine sk_scd (pc' := 1358) X E dL_law_1357 rfl ?_
  refine sk_callV (bs2 := fun r1358 => [(pc_W u0 (u1 0) (u3 0) (u5 0) (u7 0) (u16 0)), (nt_W G u1 (u2 0) S1), (lg_W G u2 S2), (nt_W G u3 (u4 0) S3), (lg_W G u4 S4), (nt_W G u5 (u6 0) S5), (lg_W G u6 S6), (sv_W G u7 (u8 0) (u10 0) (u12 0) (u14 0) S7), (nt_W G u8 (u9 0) S8), (lg_W G u9 S9), (nt_W G u10 (u11 0) S10), (lg_W G u11 S11), (nt_W G u12 (u13 0) S12), (lg_W G u13 S13), (nt_W G u14 (u15 0) S14), (lg_W G u15 S15), (sc_W G u16 S16), (md_W G u17 r1358.2), (ot_W G u18 r1346.2)]) (st := []) (st2 := fun r1358 => [.int r1358.1]) (As := [.int (xs ((x4 + (1 : Int32))).toNatClampNeg)]) (pc' := 1361) X (c_X5_groupOf l G u17 S17 (xs ((x4 + (1 : Int32))).toNatClampNeg)) lk_RL_187 [17] rfl (by decide) (fun _ => rfl) rfl rfl rfl ⟨(Nat.le_of_ble_eq_true rfl), (Nat.le_of_ble_eq_true rfl)⟩ ⟨rfl, rfl⟩ ⟨by omega, by omega⟩ rfl (Nat.le_of_ble_eq_true rfl) rfl dL_law_1358 rfl (fun _ => rfl) (fun _ => rfl) (fun r1358 => ?_)
  refine sk_istore (lv' := [some (.ref b), some (.ref (u0 0)), some (.ref (u17 0)), some (.ref (u18 0)), some (.int x4), some (.int r1346.1), some (.int r1358.1)]) (pc' := 1363) X (Nat.le_of_ble_eq_true rfl) rfl rfl dL_law_1361 rfl ?_
  refine sk_aload_n (pc' := 1364) X rfl dL_law_1363 rfl ?_
  refine sk_callV (bs2 := fun r1364 => [(pc_W u0 (u1 0) (u3 0) (u5 0) (u7 0) (u16 0)), (nt_W G u1 (u2 0) S1), (lg_W G u2 S2), (nt_W G u3 (u4 0) S3), (lg_W G u4 S4), (nt_W G u5 (u6 0) S5), (lg_W G u6 S6), (sv_W G u7 (u8 0) (u10 0) (u12 0) (u14 0) S7), (nt_W G u8 (u9 0) S8), (lg_W G u9 S9), (nt_W G u10 (u11 0) S10), (lg_W G u11 S11), (nt_W G u12 (u13 0) S12), (lg_W G u13 S13), (nt_W G u14 (u15 0) S14), (lg_W G u15 S15), (sc_W G u16 S16), (md_W G u17 r1358.2), (ot_W G u18 r1346.2)]) (st := []) (st2 := fun r1364 => [.int r1364]) (As := []) (pc' := 1367) X (c_X5_thrown l G u17 r1358.2) lk_RL_109 [17] rfl (by decide) (fun _ => rfl) rfl rfl rfl ⟨(Nat.le_of_ble_eq_true rfl), (Nat.le_of_ble_eq_true rfl)⟩ ⟨rfl, rfl⟩ ⟨by omega, by omega⟩ rfl (Nat.le_of_ble_eq_true rfl) rfl dL_law_1364 rfl (fun _ => rfl) (fun _ => rfl) (fun r1364 => ?_)
  refine sk_iload (pc' := 1369) X rfl dL_law_1367 rfl ?_
  refine sk_icmp_eq (tgt := 1374) (pc' := 1372) X dL_law_1369 rfl rfl ?_ ?_
  · refine sk_iload (pc' := 1376) X rfl dL_law_1374 rfl ?_
    refine sk_if_ne (tgt := 1391) (pc' := 1379) X dL_law_1376 rfl rfl ?_ ?_
    · refine sk_goto (tgt := 2071) X dL_law_1391 rfl ?_
      refine sk_iinc (lv' := [some (.ref b), some (.ref (u0 0)), some (.ref (u17 0)), some (.ref (u18 0)), some (.int (x4 + (4 : Int32))), some (.int r1346.1), some (.int r1358.1)]) (pc' := 2074) X rfl ic_4 (Nat.le_of_ble_eq_true rfl) rfl rfl dL_law_2071 rfl ?_
      refine sk_goto (tgt := 23) X dL_law_2074 rfl ?_
      first | exact sk_widen (lw_k (lw_i4 hg) (Nat.le_of_ble_eq_true rfl)) (lw_n (lw_i4 hg) (Nat.le_of_ble_eq_true rfl)) (sk_kill 6 (sk_kill 5 (ih23 (S1, S2, S3, S4, S5, S6, S7, S8, S9, S10, S11, S12, S13, S14, S15, S16, r1358.2, r1346.2, (x4 + (4 : Int32)))))) | exact sk_widen (lw_k0 (lw_i4 hg)) (lw_n0 (lw_i4 hg)) (sk_kill 6 (sk_kill 5 (ih23 (S1, S2, S3, S4, S5, S6, S7, S8, S9, S10, S11, S12, S13, S14, S15, S16, r1358.2, r1346.2, (x4 + (4 : Int32))))))
    · refine sk_aload_n (pc' := 1380) X rfl dL_law_1379 rfl ?_
      refine sk_iconst (pc' := 1381) X ic_0 dL_law_1380 rfl ?_
      refine sk_lald (pc' := 1382) X 18 0 rfl rfl dL_law_1381 rfl ?_
      refine sk_iload (pc' := 1384) X rfl dL_law_1382 rfl ?_
      refine sk_i2l (pc' := 1385) X dL_law_1384 rfl ?_
      refine sk_lcmp (pc' := 1386) X dL_law_1385 rfl ?_
      refine sk_if_eq (tgt := 1391) (pc' := 1389) X dL_law_1386 rfl rfl ?_ ?_
      · refine sk_goto (tgt := 2071) X dL_law_1391 rfl ?_
        refine sk_iinc (lv' := [some (.ref b), some (.ref (u0 0)), some (.ref (u17 0)), some (.ref (u18 0)), some (.int (x4 + (4 : Int32))), some (.int r1346.1), some (.int r1358.1)]) (pc' := 2074) X rfl ic_4 (Nat.le_of_ble_eq_true rfl) rfl rfl dL_law_2071 rfl ?_
        refine sk_goto (tgt := 23) X dL_law_2074 rfl ?_
        first | exact sk_widen (lw_k (lw_i4 hg) (Nat.le_of_ble_eq_true rfl)) (lw_n (lw_i4 hg) (Nat.le_of_ble_eq_true rfl)) (sk_kill 6 (sk_kill 5 (ih23 (S1, S2, S3, S4, S5, S6, S7, S8, S9, S10, S11, S12, S13, S14, S15, S16, r1358.2, r1346.2, (x4 + (4 : Int32)))))) | exact sk_widen (lw_k0 (lw_i4 hg)) (lw_n0 (lw_i4 hg)) (sk_kill 6 (sk_kill 5 (ih23 (S1, S2, S3, S4, S5, S6, S7, S8, S9, S10, S11, S12, S13, S14, S15, S16, r1358.2, r1346.2, (x4 + (4 : Int32))))))
      · refine sk_iconst (pc' := 1390) X ic_0 dL_law_1389 rfl ?_
        exact sk_lfalse
  · refine sk_iconst (pc' := 1373) X ic_0 dL_law_1372 rfl ?_
    exact sk_lfalse
set_option maxHeartbeats 4000000 in
set_option maxRecDepth 100000 in
theorem lc_23 {Γ : sk_K} {l : Launch} (hl0 : l.stackTraces = false) {G : sk_G} {t b L : Nat} {xs : Nat → Int32} (X : sk_X Γ l G room_1 7 RL code ret) (E : sk_EL Γ t b L xs) (u0 u1 u2 u3 u4 u5 u6 u7 u8 u9 u10 u11 u12 u13 u14 u15 u16 u17 u18 : Nat → Nat) (k23 : lw_σ → Option Int32) (ih23 : ∀ s2 : lw_σ, sk_S Γ (lw_Φ Γ b) (kl s2.2.2.2.2.2.2.2.2.2.2.2.2.2.2.2.2.2.2) (nl s2.2.2.2.2.2.2.2.2.2.2.2.2.2.2.2.2.2.2) (k23 s2) (lw_bs G u0 u1 u2 u3 u4 u5 u6 u7 u8 u9 u10 u11 u12 u13 u14 u15 u16 u17 u18 s2) (lw_lv b u0 u1 u2 u3 u4 u5 u6 u7 u8 u9 u10 u11 u12 u13 u14 u15 u16 u17 u18 s2) 23 []) (S1 : sk_N) (S2 : sk_N) (S3 : sk_N) (S4 : sk_N) (S5 : sk_N) (S6 : sk_N) (S7 : sk_N) (S8 : sk_N) (S9 : sk_N) (S10 : sk_N) (S11 : sk_N) (S12 : sk_N) (S13 : sk_N) (S14 : sk_N) (S15 : sk_N) (S16 : sk_N) (S17 : sk_M) (S18 : sk_O) (x4 : Int32) (hg : sk_in x4 2049 = true) : sk_S Γ (lw_Φ Γ b) (kl x4) (nl x4) (m_L_c23 L xs k23 S1 S2 S3 S4 S5 S6 S7 S8 S9 S10 S11 S12 S13 S14 S15 S16 S17 S18 x4) [(pc_W u0 (u1 0) (u3 0) (u5 0) (u7 0) (u16 0)), (nt_W G u1 (u2 0) S1), (lg_W G u2 S2), (nt_W G u3 (u4 0) S3), (lg_W G u4 S4), (nt_W G u5 (u6 0) S5), (lg_W G u6 S6), (sv_W G u7 (u8 0) (u10 0) (u12 0) (u14 0) S7), (nt_W G u8 (u9 0) S8), (lg_W G u9 S9), (nt_W G u10 (u11 0) S10), (lg_W G u11 S11), (nt_W G u12 (u13 0) S12), (lg_W G u13 S13), (nt_W G u14 (u15 0) S14), (lg_W G u15 S15), (sc_W G u16 S16), (md_W G u17 S17), (ot_W G u18 S18)] [some (.ref b), some (.ref (u0 0)), some (.ref (u17 0)), some (.ref (u18 0)), some (.int x4), none, none] 1394 [] := by
  have hk0 := lw_hk hg
  have hn0 := lw_hn hg
  unfold m_L_c23
  refine sk_aload_n (pc' := 1395) X rfl dL_law_1394 rfl ?_
  refine sk_callV (bs2 := fun r1395 => [(pc_W u0 (u1 0) (u3 0) (u5 0) (u7 0) (u16 0)), (nt_W G u1 (u2 0) S1), (lg_W G u2 S2), (nt_W G u3 (u4 0) S3), (lg_W G u4 S4), (nt_W G u5 (u6 0) S5), (lg_W G u6 S6), (sv_W G u7 (u8 0) (u10 0) (u12 0) (u14 0) S7), (nt_W G u8 (u9 0) S8), (lg_W G u9 S9), (nt_W G u10 (u11 0) S10), (lg_W G u11 S11), (nt_W G u12 (u13 0) S12), (lg_W G u13 S13), (nt_W G u14 (u15 0) S14), (lg_W G u15 S15), (sc_W G u16 S16), (md_W G u17 S17), (ot_W G u18 S18)]) (st := []) (st2 := fun r1395 => [.int r1395]) (As := []) (pc' := 1398) X (c_X4_spread l G u0 u1 (u3 0) (u5 0) (u7 0) (u16 0) (u2 0) S1) lk_RL_188 [0, 1] rfl (by decide) (fun _ => rfl) rfl rfl rfl ⟨(Nat.le_of_ble_eq_true rfl), (Nat.le_of_ble_eq_true rfl)⟩ ⟨rfl, rfl⟩ ⟨by omega, by omega⟩ rfl (Nat.le_of_ble_eq_true rfl) rfl dL_law_1395 rfl (fun _ => rfl) (fun _ => rfl) (fun r1395 => ?_)
  refine sk_aload_n (pc' := 1399) X rfl dL_law_1398 rfl ?_
  refine sk_callV (bs2 := fun r1399 => [(pc_W u0 (u1 0) (u3 0) (u5 0) (u7 0) (u16 0)), (nt_W G u1 (u2 0) S1), (lg_W G u2 S2), (nt_W G u3 (u4 0) S3), (lg_W G u4 S4), (nt_W G u5 (u6 0) S5), (lg_W G u6 S6), (sv_W G u7 (u8 0) (u10 0) (u12 0) (u14 0) S7), (nt_W G u8 (u9 0) S8), (lg_W G u9 S9), (nt_W G u10 (u11 0) S10), (lg_W G u11 S11), (nt_W G u12 (u13 0) S12), (lg_W G u13 S13), (nt_W G u14 (u15 0) S14), (lg_W G u15 S15), (sc_W G u16 S16), (md_W G u17 r1399.2), (ot_W G u18 S18)]) (st := [.int r1395]) (st2 := fun r1399 => [.int r1399.1, .int r1395]) (As := []) (pc' := 1402) X (c_X5_spread l G u17 S17) lk_RL_191 [17] rfl (by decide) (fun _ => rfl) rfl rfl rfl ⟨(Nat.le_of_ble_eq_true rfl), (Nat.le_of_ble_eq_true rfl)⟩ ⟨rfl, rfl⟩ ⟨by omega, by omega⟩ rfl (Nat.le_of_ble_eq_true rfl) rfl dL_law_1399 rfl (fun _ => rfl) (fun _ => rfl) (fun r1399 => ?_)
  refine sk_icmp_eq (tgt := 2071) (pc' := 1405) X dL_law_1402 rfl rfl ?_ ?_
  · refine sk_iinc (lv' := [some (.ref b), some (.ref (u0 0)), some (.ref (u17 0)), some (.ref (u18 0)), some (.int (x4 + (4 : Int32))), none, none]) (pc' := 2074) X rfl ic_4 (Nat.le_of_ble_eq_true rfl) rfl rfl dL_law_2071 rfl ?_
    refine sk_goto (tgt := 23) X dL_law_2074 rfl ?_
    first | exact sk_widen (lw_k (lw_i4 hg) (Nat.le_of_ble_eq_true rfl)) (lw_n (lw_i4 hg) (Nat.le_of_ble_eq_true rfl)) (ih23 (S1, S2, S3, S4, S5, S6, S7, S8, S9, S10, S11, S12, S13, S14, S15, S16, r1399.2, S18, (x4 + (4 : Int32)))) | exact sk_widen (lw_k0 (lw_i4 hg)) (lw_n0 (lw_i4 hg)) (ih23 (S1, S2, S3, S4, S5, S6, S7, S8, S9, S10, S11, S12, S13, S14, S15, S16, r1399.2, S18, (x4 + (4 : Int32))))
  · refine sk_iconst (pc' := 1406) X ic_0 dL_law_1405 rfl ?_
    exact sk_lfalse
