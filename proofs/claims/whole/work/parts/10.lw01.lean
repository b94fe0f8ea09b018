set_option maxHeartbeats 4000000 in
set_option maxRecDepth 100000 in
theorem lc_0 {Γ : sk_K} {l : Launch} (hl0 : l.stackTraces = false) {G : sk_G} {t b L : Nat} {xs : Nat → Int32} (X : sk_X Γ l G room_1 7 RL code ret) (E : sk_EL Γ t b L xs) (u0 u1 u2 u3 u4 u5 u6 u7 u8 u9 u10 u11 u12 u13 u14 u15 u16 u17 u18 : Nat → Nat) (k23 : lw_σ → Option Int32) (ih23 : ∀ s2 : lw_σ, sk_S Γ (lw_Φ Γ b) (kl s2.2.2.2.2.2.2.2.2.2.2.2.2.2.2.2.2.2.2) (nl s2.2.2.2.2.2.2.2.2.2.2.2.2.2.2.2.2.2.2) (k23 s2) (lw_bs G u0 u1 u2 u3 u4 u5 u6 u7 u8 u9 u10 u11 u12 u13 u14 u15 u16 u17 u18 s2) (lw_lv b u0 u1 u2 u3 u4 u5 u6 u7 u8 u9 u10 u11 u12 u13 u14 u15 u16 u17 u18 s2) 23 []) (S1 : sk_N) (S2 : sk_N) (S3 : sk_N) (S4 : sk_N) (S5 : sk_N) (S6 : sk_N) (S7 : sk_N) (S8 : sk_N) (S9 : sk_N) (S10 : sk_N) (S11 : sk_N) (S12 : sk_N) (S13 : sk_N) (S14 : sk_N) (S15 : sk_N) (S16 : sk_N) (S17 : sk_M) (S18 : sk_O) (x4 : Int32) (hg : sk_in x4 2049 = true) : sk_S Γ (lw_Φ Γ b) (kl x4) (nl x4) (m_L_c0 L xs k23 S1 S2 S3 S4 S5 S6 S7 S8 S9 S10 S11 S12 S13 S14 S15 S16 S17 S18 x4) [(pc_W u0 (u1 0) (u3 0) (u5 0) (u7 0) (u16 0)), (nt_W G u1 (u2 0) S1), (lg_W G u2 S2), (nt_W G u3 (u4 0) S3), (lg_W G u4 S4), (nt_W G u5 (u6 0) S5), (lg_W G u6 S6), (sv_W G u7 (u8 0) (u10 0) (u12 0) (u14 0) S7), (nt_W G u8 (u9 0) S8), (lg_W G u9 S9), (nt_W G u10 (u11 0) S10), (lg_W G u11 S11), (nt_W G u12 (u13 0) S12), (lg_W G u13 S13), (nt_W G u14 (u15 0) S14), (lg_W G u15 S15), (sc_W G u16 S16), (md_W G u17 S17), (ot_W G u18 S18)] [some (.ref b), some (.ref (u0 0)), some (.ref (u17 0)), some (.ref (u18 0)), some (.int x4), none, none] 200 [] := by
  have hk0 := lw_hk hg
  have hn0 := lw_hn hg
  unfold m_L_c0
  refine sk_aload_n (pc' := 201) X rfl dL_law_200 rfl ?_
  refine sk_aload_n (pc' := 202) X rfl dL_law_201 rfl ?_
  refine sk_iload (pc' := 204) X rfl dL_law_202 rfl ?_
  refine sk_iconst (pc' := 205) X ic_1 dL_law_204 rfl ?_
  refine sk_iadd (pc' := 206) X dL_law_205 rfl ?_
  refine sk_scd (pc' := 207) X E dL_law_206 rfl ?_
  refine sk_aload_n (pc' := 208) X rfl dL_law_207 rfl ?_
  refine sk_callSH (bs2 := fun r208 => [(pc_W u0 (u1 0) (u3 0) (u5 0) (u7 0) (u16 0)), (nt_W G u1 (u2 0) r208.2.1), (lg_W G u2 S2), (nt_W G u3 (u4 0) S3), (lg_W G u4 S4), (nt_W G u5 (u6 0) S5), (lg_W G u6 S6), (sv_W G u7 (u8 0) (u10 0) (u12 0) (u14 0) r208.2.2.1), (nt_W G u8 (u9 0) r208.2.2.2.1), (lg_W G u9 r208.2.2.2.2.1), (nt_W G u10 (u11 0) r208.2.2.2.2.2.1), (lg_W G u11 r208.2.2.2.2.2.2.1), (nt_W G u12 (u13 0) r208.2.2.2.2.2.2.2.1), (lg_W G u13 r208.2.2.2.2.2.2.2.2.1), (nt_W G u14 (u15 0) r208.2.2.2.2.2.2.2.2.2.1), (lg_W G u15 r208.2.2.2.2.2.2.2.2.2.2.1), (sc_W G u16 S16), (md_W G u17 S17), (ot_W G u18 r208.2.2.2.2.2.2.2.2.2.2.2)]) (st := []) (st2 := fun r208 => [.int r208.1]) (As := [.ref (u0 0), .int (xs ((x4 + (1 : Int32))).toNatClampNeg), .ref (u18 0)]) (pc' := 211) X E (c_L_add l hl0 t G u0 u1 u2 u7 u8 u9 u10 u11 u12 u13 u14 u15 u18 (u3 0) (u5 0) (u16 0) S1 S2 S7 S8 S9 S10 S11 S12 S13 S14 S15 S18 (xs ((x4 + (1 : Int32))).toNatClampNeg)) lkh_RL_103 [0, 1, 2, 7, 8, 9, 10, 11, 12, 13, 14, 15, 18] rfl (by decide) (fun _ => rfl) ⟨(Nat.le_of_ble_eq_true rfl), (Nat.le_of_ble_eq_true rfl)⟩ ⟨rfl, rfl⟩ ⟨by omega, by omega⟩ rfl (Nat.le_of_ble_eq_true rfl) rfl dL_law_208 rfl (fun _ => rfl) (fun _ => rfl) (fun r208 => ?_)
  refine sk_istore (lv' := [some (.ref b), some (.ref (u0 0)), some (.ref (u17 0)), some (.ref (u18 0)), some (.int x4), some (.int r208.1), none]) (pc' := 213) X (Nat.le_of_ble_eq_true rfl) rfl rfl dL_law_211 rfl ?_
  refine sk_aload_n (pc' := 214) X rfl dL_law_213 rfl ?_
  refine sk_aload_n (pc' := 215) X rfl dL_law_214 rfl ?_
  refine sk_iload (pc' := 217) X rfl dL_law_215 rfl ?_
  refine sk_iconst (pc' := 218) X ic_1 dL_law_217 rfl ?_
  refine sk_iadd (pc' := 219) X dL_law_218 rfl ?_
  refine sk_scd (pc' := 220) X E dL_law_219 rfl ?_
  refine sk_callV (bs2 := fun r220 => [(pc_W u0 (u1 0) (u3 0) (u5 0) (u7 0) (u16 0)), (nt_W G u1 (u2 0) r208.2.1), (lg_W G u2 S2), (nt_W G u3 (u4 0) S3), (lg_W G u4 S4), (nt_W G u5 (u6 0) S5), (lg_W G u6 S6), (sv_W G u7 (u8 0) (u10 0) (u12 0) (u14 0) r208.2.2.1), (nt_W G u8 (u9 0) r208.2.2.2.1), (lg_W G u9 r208.2.2.2.2.1), (nt_W G u10 (u11 0) r208.2.2.2.2.2.1), (lg_W G u11 r208.2.2.2.2.2.2.1), (nt_W G u12 (u13 0) r208.2.2.2.2.2.2.2.1), (lg_W G u13 r208.2.2.2.2.2.2.2.2.1), (nt_W G u14 (u15 0) r208.2.2.2.2.2.2.2.2.2.1), (lg_W G u15 r208.2.2.2.2.2.2.2.2.2.2.1), (sc_W G u16 S16), (md_W G u17 r220.2), (ot_W G u18 r208.2.2.2.2.2.2.2.2.2.2.2)]) (st := []) (st2 := fun r220 => [.int r220.1]) (As := [.int (xs ((x4 + (1 : Int32))).toNatClampNeg)]) (pc' := 223) X (c_X5_add l G u17 S17 (xs ((x4 + (1 : Int32))).toNatClampNeg)) lk_RL_108 [17] rfl (by decide) (fun _ => rfl) rfl rfl rfl ⟨(Nat.le_of_ble_eq_true rfl), (Nat.le_of_ble_eq_true rfl)⟩ ⟨rfl, rfl⟩ ⟨by omega, by omega⟩ rfl (Nat.le_of_ble_eq_true rfl) rfl dL_law_220 rfl (fun _ => rfl) (fun _ => rfl) (fun r220 => ?_)
  refine sk_istore (lv' := [some (.ref b), some (.ref (u0 0)), some (.ref (u17 0)), some (.ref (u18 0)), some (.int x4), some (.int r208.1), some (.int r220.1)]) (pc' := 225) X (Nat.le_of_ble_eq_true rfl) rfl rfl dL_law_223 rfl ?_
  refine sk_aload_n (pc' := 226) X rfl dL_law_225 rfl ?_
  refine sk_callV (bs2 := fun r226 => [(pc_W u0 (u1 0) (u3 0) (u5 0) (u7 0) (u16 0)), (nt_W G u1 (u2 0) r208.2.1), (lg_W G u2 S2), (nt_W G u3 (u4 0) S3), (lg_W G u4 S4), (nt_W G u5 (u6 0) S5), (lg_W G u6 S6), (sv_W G u7 (u8 0) (u10 0) (u12 0) (u14 0) r208.2.2.1), (nt_W G u8 (u9 0) r208.2.2.2.1), (lg_W G u9 r208.2.2.2.2.1), (nt_W G u10 (u11 0) r208.2.2.2.2.2.1), (lg_W G u11 r208.2.2.2.2.2.2.1), (nt_W G u12 (u13 0) r208.2.2.2.2.2.2.2.1), (lg_W G u13 r208.2.2.2.2.2.2.2.2.1), (nt_W G u14 (u15 0) r208.2.2.2.2.2.2.2.2.2.1), (lg_W G u15 r208.2.2.2.2.2.2.2.2.2.2.1), (sc_W G u16 S16), (md_W G u17 r220.2), (ot_W G u18 r208.2.2.2.2.2.2.2.2.2.2.2)]) (st := []) (st2 := fun r226 => [.int r226]) (As := []) (pc' := 229) X (c_X5_thrown l G u17 r220.2) lk_RL_109 [17] rfl (by decide) (fun _ => rfl) rfl rfl rfl ⟨(Nat.le_of_ble_eq_true rfl), (Nat.le_of_ble_eq_true rfl)⟩ ⟨rfl, rfl⟩ ⟨by omega, by omega⟩ rfl (Nat.le_of_ble_eq_true rfl) rfl dL_law_226 rfl (fun _ => rfl) (fun _ => rfl) (fun r226 => ?_)
  refine sk_iload (pc' := 231) X rfl dL_law_229 rfl ?_
  refine sk_icmp_eq (tgt := 236) (pc' := 234) X dL_law_231 rfl rfl ?_ ?_
  · refine sk_iload (pc' := 238) X rfl dL_law_236 rfl ?_
    refine sk_if_ne (tgt := 253) (pc' := 241) X dL_law_238 rfl rfl ?_ ?_
    · refine sk_goto (tgt := 2071) X dL_law_253 rfl ?_
      refine sk_iinc (lv' := [some (.ref b), some (.ref (u0 0)), some (.ref (u17 0)), some (.ref (u18 0)), some (.int (x4 + (4 : Int32))), some (.int r208.1), some (.int r220.1)]) (pc' := 2074) X rfl ic_4 (Nat.le_of_ble_eq_true rfl) rfl rfl dL_law_2071 rfl ?_
      refine sk_goto (tgt := 23) X dL_law_2074 rfl ?_
      first | exact sk_widen (lw_k (lw_i4 hg) (Nat.le_of_ble_eq_true rfl)) (lw_n (lw_i4 hg) (Nat.le_of_ble_eq_true rfl)) (sk_kill 6 (sk_kill 5 (ih23 (r208.2.1, S2, S3, S4, S5, S6, r208.2.2.1, r208.2.2.2.1, r208.2.2.2.2.1, r208.2.2.2.2.2.1, r208.2.2.2.2.2.2.1, r208.2.2.2.2.2.2.2.1, r208.2.2.2.2.2.2.2.2.1, r208.2.2.2.2.2.2.2.2.2.1, r208.2.2.2.2.2.2.2.2.2.2.1, S16, r220.2, r208.2.2.2.2.2.2.2.2.2.2.2, (x4 + (4 : Int32)))))) | exact sk_widen (lw_k0 (lw_i4 hg)) (lw_n0 (lw_i4 hg)) (sk_kill 6 (sk_kill 5 (ih23 (r208.2.1, S2, S3, S4, S5, S6, r208.2.2.1, r208.2.2.2.1, r208.2.2.2.2.1, r208.2.2.2.2.2.1, r208.2.2.2.2.2.2.1, r208.2.2.2.2.2.2.2.1, r208.2.2.2.2.2.2.2.2.1, r208.2.2.2.2.2.2.2.2.2.1, r208.2.2.2.2.2.2.2.2.2.2.1, S16, r220.2, r208.2.2.2.2.2.2.2.2.2.2.2, (x4 + (4 : Int32))))))
    · refine sk_aload_n (pc' := 242) X rfl dL_law_241 rfl ?_
      refine sk_iconst (pc' := 243) X ic_0 dL_law_242 rfl ?_
      refine sk_lald (pc' := 244) X 18 0 rfl rfl dL_law_243 rfl ?_
      refine sk_iload (pc' := 246) X rfl dL_law_244 rfl ?_
      refine sk_i2l (pc' := 247) X dL_law_246 rfl ?_
      refine sk_lcmp (pc' := 248) X dL_law_247 rfl ?_
      refine sk_if_eq (tgt := 253) (pc' := 251) X dL_law_248 rfl rfl ?_ ?_
      · refine sk_goto (tgt := 2071) X dL_law_253 rfl ?_
        refine sk_iinc (lv' := [some (.ref b), some (.ref (u0 0)), some (.ref (u17 0)), some (.ref (u18 0)), some (.int (x4 + (4 : Int32))), some (.int r208.1), some (.int r220.1)]) (pc' := 2074) X rfl ic_4 (Nat.le_of_ble_eq_true rfl) rfl rfl dL_law_2071 rfl ?_
        refine sk_goto (tgt := 23) X dL_law_2074 rfl ?_
        first | exact sk_widen (lw_k (lw_i4 hg) (Nat.le_of_ble_eq_true rfl)) (lw_n (lw_i4 hg) (Nat.le_of_ble_eq_true rfl)) (sk_kill 6 (sk_kill 5 (ih23 (r208.2.1, S2, S3, S4, S5, S6, r208.2.2.1, r208.2.2.2.1, r208.2.2.2.2.1, r208.2.2.2.2.2.1, r208.2.2.2.2.2.2.1, r208.2.2.2.2.2.2.2.1, r208.2.2.2.2.2.2.2.2.1, r208.2.2.2.2.2.2.2.2.2.1, r208.2.2.2.2.2.2.2.2.2.2.1, S16, r220.2, r208.2.2.2.2.2.2.2.2.2.2.2, (x4 + (4 : Int32)))))) | exact sk_widen (lw_k0 (lw_i4 hg)) (lw_n0 (lw_i4 hg)) (sk_kill 6 (sk_kill 5 (ih23 (r208.2.1, S2, S3, S4, S5, S6, r208.2.2.1, r208.2.2.2.1, r208.2.2.2.2.1, r208.2.2.2.2.2.1, r208.2.2.2.2.2.2.1, r208.2.2.2.2.2.2.2.1, r208.2.2.2.2.2.2.2.2.1, r208.2.2.2.2.2.2.2.2.2.1, r208.2.2.2.2.2.2.2.2.2.2.1, S16, r220.2, r208.2.2.2.2.2.2.2.2.2.2.2, (x4 + (4 : Int32))))))
      · refine sk_iconst (pc' := 252) X ic_0 dL_law_251 rfl ?_
        exact sk_lfalse
  · refine sk_iconst (pc' := 235) X ic_0 dL_law_234 rfl ?_
    exact sk_lfalse
set_option maxHeartbeats 4000000 in
set_option maxRecDepth 100000 in
theorem lc_1 {Γ : sk_K} {l : Launch} (hl0 : l.stackTraces = false) {G : sk_G} {t b L : Nat} {xs : Nat → Int32} (X : sk_X Γ l G room_1 7 RL code ret) (E : sk_EL Γ t b L xs) (u0 u1 u2 u3 u4 u5 u6 u7 u8 u9 u10 u11 u12 u13 u14 u15 u16 u17 u18 : Nat → Nat) (k23 : lw_σ → Option Int32) (ih23 : ∀ s2 : lw_σ, sk_S Γ (lw_Φ Γ b) (kl s2.2.2.2.2.2.2.2.2.2.2.2.2.2.2.2.2.2.2) (nl s2.2.2.2.2.2.2.2.2.2.2.2.2.2.2.2.2.2.2) (k23 s2) (lw_bs G u0 u1 u2 u3 u4 u5 u6 u7 u8 u9 u10 u11 u12 u13 u14 u15 u16 u17 u18 s2) (lw_lv b u0 u1 u2 u3 u4 u5 u6 u7 u8 u9 u10 u11 u12 u13 u14 u15 u16 u17 u18 s2) 23 []) (S1 : sk_N) (S2 : sk_N) (S3 : sk_N) (S4 : sk_N) (S5 : sk_N) (S6 : sk_N) (S7 : sk_N) (S8 : sk_N) (S9 : sk_N) (S10 : sk_N) (S11 : sk_N) (S12 : sk_N) (S13 : sk_N) (S14 : sk_N) (S15 : sk_N) (S16 : sk_N) (S17 : sk_M) (S18 : sk_O) (x4 : Int32) (hg : sk_in x4 2049 = true) : sk_S Γ (lw_Φ Γ b) (kl x4) (nl x4) (m_L_c1 L xs k23 S1 S2 S3 S4 S5 S6 S7 S8 S9 S10 S11 S12 S13 S14 S15 S16 S17 S18 x4) [(pc_W u0 (u1 0) (u3 0) (u5 0) (u7 0) (u16 0)), (nt_W G u1 (u2 0) S1), (lg_W G u2 S2), (nt_W G u3 (u4 0) S3), (lg_W G u4 S4), (nt_W G u5 (u6 0) S5), (lg_W G u6 S6), (sv_W G u7 (u8 0) (u10 0) (u12 0) (u14 0) S7), (nt_W G u8 (u9 0) S8), (lg_W G u9 S9), (nt_W G u10 (u11 0) S10), (lg_W G u11 S11), (nt_W G u12 (u13 0) S12), (lg_W G u13 S13), (nt_W G u14 (u15 0) S14), (lg_W G u15 S15), (sc_W G u16 S16), (md_W G u17 S17), (ot_W G u18 S18)] [some (.ref b), some (.ref (u0 0)), some (.ref (u17 0)), some (.ref (u18 0)), some (.int x4), none, none] 256 [] := by
  have hk0 := lw_hk hg
  have hn0 := lw_hn hg
  unfold m_L_c1
  refine sk_aload_n (pc' := 257) X rfl dL_law_256 rfl ?_
  refine sk_aload_n (pc' := 258) X rfl dL_law_257 rfl ?_
  refine sk_iload (pc' := 260) X rfl dL_law_258 rfl ?_
  refine sk_iconst (pc' := 261) X ic_1 dL_law_260 rfl ?_
  refine sk_iadd (pc' := 262) X dL_law_261 rfl ?_
  refine sk_scd (pc' := 263) X E dL_law_262 rfl ?_
  refine sk_aload_n (pc' := 264) X rfl dL_law_263 rfl ?_
  refine sk_iload (pc' := 266) X rfl dL_law_264 rfl ?_
  refine sk_iconst (pc' := 267) X ic_2 dL_law_266 rfl ?_
  refine sk_iadd (pc' := 268) X dL_law_267 rfl ?_
  refine sk_scd (pc' := 269) X E dL_law_268 rfl ?_
  refine sk_aload_n (pc' := 270) X rfl dL_law_269 rfl ?_
  refine sk_callSH (bs2 := fun r270 => [(pc_W u0 (u1 0) (u3 0) (u5 0) (u7 0) (u16 0)), (nt_W G u1 (u2 0) r270.2.1), (lg_W G u2 S2), (nt_W G u3 (u4 0) S3), (lg_W G u4 S4), (nt_W G u5 (u6 0) S5), (lg_W G u6 S6), (sv_W G u7 (u8 0) (u10 0) (u12 0) (u14 0) r270.2.2.1), (nt_W G u8 (u9 0) r270.2.2.2.1), (lg_W G u9 r270.2.2.2.2.1), (nt_W G u10 (u11 0) r270.2.2.2.2.2.1), (lg_W G u11 r270.2.2.2.2.2.2.1), (nt_W G u12 (u13 0) r270.2.2.2.2.2.2.2.1), (lg_W G u13 r270.2.2.2.2.2.2.2.2.1), (nt_W G u14 (u15 0) r270.2.2.2.2.2.2.2.2.2.1), (lg_W G u15 r270.2.2.2.2.2.2.2.2.2.2.1), (sc_W G u16 S16), (md_W G u17 S17), (ot_W G u18 r270.2.2.2.2.2.2.2.2.2.2.2)]) (st := []) (st2 := fun r270 => [.int r270.1]) (As := [.ref (u0 0), .int (xs ((x4 + (1 : Int32))).toNatClampNeg), .int (xs ((x4 + (2 : Int32))).toNatClampNeg), .ref (u18 0)]) (pc' := 273) X E (c_L_setPhase l hl0 t G u0 u1 u2 u7 u8 u9 u10 u11 u12 u13 u14 u15 u18 (u3 0) (u5 0) (u16 0) S1 S2 S7 S8 S9 S10 S11 S12 S13 S14 S15 S18 (xs ((x4 + (1 : Int32))).toNatClampNeg) (xs ((x4 + (2 : Int32))).toNatClampNeg)) lkh_RL_112 [0, 1, 2, 7, 8, 9, 10, 11, 12, 13, 14, 15, 18] rfl (by decide) (fun _ => rfl) ⟨(Nat.le_of_ble_eq_true rfl), (Nat.le_of_ble_eq_true rfl)⟩ ⟨rfl, rfl⟩ ⟨by omega, by omega⟩ rfl (Nat.le_of_ble_eq_true rfl) rfl dL_law_270 rfl (fun _ => rfl) (fun _ => rfl) (fun r270 => ?_)
  refine sk_istore (lv' := [some (.ref b), some (.ref (u0 0)), some (.ref (u17 0)), some (.ref (u18 0)), some (.int x4), some (.int r270.1), none]) (pc' := 275) X (Nat.le_of_ble_eq_true rfl) rfl rfl dL_law_273 rfl ?_
  refine sk_aload_n (pc' := 276) X rfl dL_law_275 rfl ?_
  refine sk_aload_n (pc' := 277) X rfl dL_law_276 rfl ?_
  refine sk_iload (pc' := 279) X rfl dL_law_277 rfl ?_
  refine sk_iconst (pc' := 280) X ic_1 dL_law_279 rfl ?_
  refine sk_iadd (pc' := 281) X dL_law_280 rfl ?_
  refine sk_scd (pc' := 282) X E dL_law_281 rfl ?_
  refine sk_aload_n (pc' := 283) X rfl dL_law_282 rfl ?_
  refine sk_iload (pc' := 285) X rfl dL_law_283 rfl ?_
  refine sk_iconst (pc' := 286) X ic_2 dL_law_285 rfl ?_
  refine sk_iadd (pc' := 287) X dL_law_286 rfl ?_
  refine sk_scd (pc' := 288) X E dL_law_287 rfl ?_
  refine sk_callV (bs2 := fun r288 => [(pc_W u0 (u1 0) (u3 0) (u5 0) (u7 0) (u16 0)), (nt_W G u1 (u2 0) r270.2.1), (lg_W G u2 S2), (nt_W G u3 (u4 0) S3), (lg_W G u4 S4), (nt_W G u5 (u6 0) S5), (lg_W G u6 S6), (sv_W G u7 (u8 0) (u10 0) (u12 0) (u14 0) r270.2.2.1), (nt_W G u8 (u9 0) r270.2.2.2.1), (lg_W G u9 r270.2.2.2.2.1), (nt_W G u10 (u11 0) r270.2.2.2.2.2.1), (lg_W G u11 r270.2.2.2.2.2.2.1), (nt_W G u12 (u13 0) r270.2.2.2.2.2.2.2.1), (lg_W G u13 r270.2.2.2.2.2.2.2.2.1), (nt_W G u14 (u15 0) r270.2.2.2.2.2.2.2.2.2.1), (lg_W G u15 r270.2.2.2.2.2.2.2.2.2.2.1), (sc_W G u16 S16), (md_W G u17 r288.2), (ot_W G u18 r270.2.2.2.2.2.2.2.2.2.2.2)]) (st := []) (st2 := fun r288 => [.int r288.1]) (As := [.int (xs ((x4 + (1 : Int32))).toNatClampNeg), .int (xs ((x4 + (2 : Int32))).toNatClampNeg)]) (pc' := 291) X (c_X5_setPhase l G u17 S17 (xs ((x4 + (1 : Int32))).toNatClampNeg) (xs ((x4 + (2 : Int32))).toNatClampNeg)) lk_RL_115 [17] rfl (by decide) (fun _ => rfl) rfl rfl rfl ⟨(Nat.le_of_ble_eq_true rfl), (Nat.le_of_ble_eq_true rfl)⟩ ⟨rfl, rfl⟩ ⟨by omega, by omega⟩ rfl (Nat.le_of_ble_eq_true rfl) rfl dL_law_288 rfl (fun _ => rfl) (fun _ => rfl) (fun r288 => ?_)
  refine sk_istore (lv' := [some (.ref b), some (.ref (u0 0)), some (.ref (u17 0)), some (.ref (u18 0)), some (.int x4), some (.int r270.1), some (.int r288.1)]) (pc' := 293) X (Nat.le_of_ble_eq_true rfl) rfl rfl dL_law_291 rfl ?_
  refine sk_aload_n (pc' := 294) X rfl dL_law_293 rfl ?_
  refine sk_callV (bs2 := fun r294 => [(pc_W u0 (u1 0) (u3 0) (u5 0) (u7 0) (u16 0)), (nt_W G u1 (u2 0) r270.2.1), (lg_W G u2 S2), (nt_W G u3 (u4 0) S3), (lg_W G u4 S4), (nt_W G u5 (u6 0) S5), (lg_W G u6 S6), (sv_W G u7 (u8 0) (u10 0) (u12 0) (u14 0) r270.2.2.1), (nt_W G u8 (u9 0) r270.2.2.2.1), (lg_W G u9 r270.2.2.2.2.1), (nt_W G u10 (u11 0) r270.2.2.2.2.2.1), (lg_W G u11 r270.2.2.2.2.2.2.1), (nt_W G u12 (u13 0) r270.2.2.2.2.2.2.2.1), (lg_W G u13 r270.2.2.2.2.2.2.2.2.1), (nt_W G u14 (u15 0) r270.2.2.2.2.2.2.2.2.2.1), (lg_W G u15 r270.2.2.2.2.2.2.2.2.2.2.1), (sc_W G u16 S16), (md_W G u17 r288.2), (ot_W G u18 r270.2.2.2.2.2.2.2.2.2.2.2)]) (st := []) (st2 := fun r294 => [.int r294]) (As := []) (pc' := 297) X (c_X5_thrown l G u17 r288.2) lk_RL_109 [17] rfl (by decide) (fun _ => rfl) rfl rfl rfl ⟨(Nat.le_of_ble_eq_true rfl), (Nat.le_of_ble_eq_true rfl)⟩ ⟨rfl, rfl⟩ ⟨by omega, by omega⟩ rfl (Nat.le_of_ble_eq_true rfl) rfl dL_law_294 rfl (fun _ => rfl) (fun _ => rfl) (fun r294 => ?_)
  refine sk_iload (pc' := 299) X rfl dL_law_297 rfl ?_
  refine sk_icmp_eq (tgt := 304) (pc' := 302) X dL_law_299 rfl rfl ?_ ?_
  · refine sk_iload (pc' := 306) X rfl dL_law_304 rfl ?_
    refine sk_if_ne (tgt := 321) (pc' := 309) X dL_law_306 rfl rfl ?_ ?_
    · refine sk_goto (tgt := 2071) X dL_law_321 rfl ?_
      refine sk_iinc (lv' := [some (.ref b), some (.ref (u0 0)), some (.ref (u17 0)), some (.ref (u18 0)), some (.int (x4 + (4 : Int32))), some (.int r270.1), some (.int r288.1)]) (pc' := 2074) X rfl ic_4 (Nat.le_of_ble_eq_true rfl) rfl rfl dL_law_2071 rfl ?_
      refine sk_goto (tgt := 23) X dL_law_2074 rfl ?_
      first | exact sk_widen (lw_k (lw_i4 hg) (Nat.le_of_ble_eq_true rfl)) (lw_n (lw_i4 hg) (Nat.le_of_ble_eq_true rfl)) (sk_kill 6 (sk_kill 5 (ih23 (r270.2.1, S2, S3, S4, S5, S6, r270.2.2.1, r270.2.2.2.1, r270.2.2.2.2.1, r270.2.2.2.2.2.1, r270.2.2.2.2.2.2.1, r270.2.2.2.2.2.2.2.1, r270.2.2.2.2.2.2.2.2.1, r270.2.2.2.2.2.2.2.2.2.1, r270.2.2.2.2.2.2.2.2.2.2.1, S16, r288.2, r270.2.2.2.2.2.2.2.2.2.2.2, (x4 + (4 : Int32)))))) | exact sk_widen (lw_k0 (lw_i4 hg)) (lw_n0 (lw_i4 hg)) (sk_kill 6 (sk_kill 5 (ih23 (r270.2.1, S2, S3, S4, S5, S6, r270.2.2.1, r270.2.2.2.1, r270.2.2.2.2.1, r270.2.2.2.2.2.1, r270.2.2.2.2.2.2.1, r270.2.2.2.2.2.2.2.1, r270.2.2.2.2.2.2.2.2.1, r270.2.2.2.2.2.2.2.2.2.1, r270.2.2.2.2.2.2.2.2.2.2.1, S16, r288.2, r270.2.2.2.2.2.2.2.2.2.2.2, (x4 + (4 : Int32))))))
    · refine sk_aload_n (pc' := 310) X rfl dL_law_309 rfl ?_
      refine sk_iconst (pc' := 311) X ic_0 dL_law_310 rfl ?_
      refine sk_lald (pc' := 312) X 18 0 rfl rfl dL_law_311 rfl ?_
      refine sk_iload (pc' := 314) X rfl dL_law_312 rfl ?_
      refine sk_i2l (pc' := 315) X dL_law_314 rfl ?_
      refine sk_lcmp (pc' := 316) X dL_law_315 rfl ?_
      refine sk_if_eq (tgt := 321) (pc' := 319) X dL_law_316 rfl rfl ?_ ?_
      · refine sk_goto (tgt := 2071) X dL_law_321 rfl ?_
        refine sk_iinc (lv' := [some (.ref b), some (.ref (u0 0)), some (.ref (u17 0)), some (.ref (u18 0)), some (.int (x4 + (4 : Int32))), some (.int r270.1), some (.int r288.1)]) (pc' := 2074) X rfl ic_4 (Nat.le_of_ble_eq_true rfl) rfl rfl dL_law_2071 rfl ?_
        refine sk_goto (tgt := 23) X dL_law_2074 rfl ?_
        first | exact sk_widen (lw_k (lw_i4 hg) (Nat.le_of_ble_eq_true rfl)) (lw_n (lw_i4 hg) (Nat.le_of_ble_eq_true rfl)) (sk_kill 6 (sk_kill 5 (ih23 (r270.2.1, S2, S3, S4, S5, S6, r270.2.2.1, r270.2.2.2.1, r270.2.2.2.2.1, r270.2.2.2.2.2.1, r270.2.2.2.2.2.2.1, r270.2.2.2.2.2.2.2.1, r270.2.2.2.2.2.2.2.2.1, r270.2.2.2.2.2.2.2.2.2.1, r270.2.2.2.2.2.2.2.2.2.2.1, S16, r288.2, r270.2.2.2.2.2.2.2.2.2.2.2, (x4 + (4 : Int32)))))) | exact sk_widen (lw_k0 (lw_i4 hg)) (lw_n0 (lw_i4 hg)) (sk_kill 6 (sk_kill 5 (ih23 (r270.2.1, S2, S3, S4, S5, S6, r270.2.2.1, r270.2.2.2.1, r270.2.2.2.2.1, r270.2.2.2.2.2.1, r270.2.2.2.2.2.2.1, r270.2.2.2.2.2.2.2.1, r270.2.2.2.2.2.2.2.2.1, r270.2.2.2.2.2.2.2.2.2.1, r270.2.2.2.2.2.2.2.2.2.2.1, S16, r288.2, r270.2.2.2.2.2.2.2.2.2.2.2, (x4 + (4 : Int32))))))
      · refine sk_iconst (pc' := 320) X ic_0 dL_law_319 rfl ?_
        exact sk_lfalse
  · refine sk_iconst (pc' := 303) X ic_0 dL_law_302 rfl ?_
    exact sk_lfalse
set_option maxHeartbeats 4000000 in
set_option maxRecDepth 100000 in
theorem lc_2 {Γ : sk_K} {l : Launch} (hl0 : l.stackTraces = false) {G : sk_G} {t b L : Nat} {xs : Nat → Int32} (X : sk_X Γ l G room_1 7 RL code ret) (E : sk_EL Γ t b L xs) (u0 u1 u2 u3 u4 u5 u6 u7 u8 u9 u10 u11 u12 u13 u14 u15 u16 u17 u18 : Nat → Nat) (k23 : lw_σ → Option Int32) (ih23 : ∀ s2 : lw_σ, sk_S Γ (lw_Φ Γ b) (kl s2.2.2.2.2.2.2.2.2.2.2.2.2.2.2.2.2.2.2) (nl s2.2.2.2.2.2.2.2.2.2.2.2.2.2.2.2.2.2.2) (k23 s2) (lw_bs G u0 u1 u2 u3 u4 u5 u6 u7 u8 u9 u10 u11 u12 u13 u14 u15 u16 u17 u18 s2) (lw_lv b u0 u1 u2 u3 u4 u5 u6 u7 u8 u9 u10 u11 u12 u13 u14 u15 u16 u17 u18 s2) 23 []) (S1 : sk_N) (S2 : sk_N) (S3 : sk_N) (S4 : sk_N) (S5 : sk_N) (S6 : sk_N) (S7 : sk_N) (S8 : sk_N) (S9 : sk_N) (S10 : sk_N) (S11 : sk_N) (S12 : sk_N) (S13 : sk_N) (S14 : sk_N) (S15 : sk_N) (S16 : sk_N) (S17 : sk_M) (S18 : sk_O) (x4 : Int32) (hg : sk_in x4 2049 = true) : sk_S Γ (lw_Φ Γ b) (kl x4) (nl x4) (m_L_c2 L xs k23 S1 S2 S3 S4 S5 S6 S7 S8 S9 S10 S11 S12 S13 S14 S15 S16 S17 S18 x4) [(pc_W u0 (u1 0) (u3 0) (u5 0) (u7 0) (u16 0)), (nt_W G u1 (u2 0) S1), (lg_W G u2 S2), (nt_W G u3 (u4 0) S3), (lg_W G u4 S4), (nt_W G u5 (u6 0) S5), (lg_W G u6 S6), (sv_W G u7 (u8 0) (u10 0) (u12 0) (u14 0) S7), (nt_W G u8 (u9 0) S8), (lg_W G u9 S9), (nt_W G u10 (u11 0) S10), (lg_W G u11 S11), (nt_W G u12 (u13 0) S12), (lg_W G u13 S13), (nt_W G u14 (u15 0) S14), (lg_W G u15 S15), (sc_W G u16 S16), (md_W G u17 S17), (ot_W G u18 S18)] [some (.ref b), some (.ref (u0 0)), some (.ref (u17 0)), some (.ref (u18 0)), some (.int x4), none, none] 324 [] := by
  have hk0 := lw_hk hg
  have hn0 := lw_hn hg
  unfold m_L_c2
  refine sk_aload_n (pc' := 325) X rfl dL_law_324 rfl ?_
  refine sk_aload_n (pc' := 326) X rfl dL_law_325 rfl ?_
  refine sk_iload (pc' := 328) X rfl dL_law_326 rfl ?_
  refine sk_iconst (pc' := 329) X ic_1 dL_law_328 rfl ?_
  refine sk_iadd (pc' := 330) X dL_law_329 rfl ?_
  refine sk_scd (pc' := 331) X E dL_law_330 rfl ?_
  refine sk_aload_n (pc' := 332) X rfl dL_law_331 rfl ?_
  refine sk_iload (pc' := 334) X rfl dL_law_332 rfl ?_
  refine sk_iconst (pc' := 335) X ic_2 dL_law_334 rfl ?_
  refine sk_iadd (pc' := 336) X dL_law_335 rfl ?_
  refine sk_scd (pc' := 337) X E dL_law_336 rfl ?_
  refine sk_aload_n (pc' := 338) X rfl dL_law_337 rfl ?_
  refine sk_callSH (bs2 := fun r338 => [(pc_W u0 (u1 0) (u3 0) (u5 0) (u7 0) (u16 0)), (nt_W G u1 (u2 0) r338.2.1), (lg_W G u2 S2), (nt_W G u3 (u4 0) S3), (lg_W G u4 S4), (nt_W G u5 (u6 0) S5), (lg_W G u6 S6), (sv_W G u7 (u8 0) (u10 0) (u12 0) (u14 0) r338.2.2.1), (nt_W G u8 (u9 0) r338.2.2.2.1), (lg_W G u9 r338.2.2.2.2.1), (nt_W G u10 (u11 0) r338.2.2.2.2.2.1), (lg_W G u11 r338.2.2.2.2.2.2.1), (nt_W G u12 (u13 0) r338.2.2.2.2.2.2.2.1), (lg_W G u13 r338.2.2.2.2.2.2.2.2.1), (nt_W G u14 (u15 0) r338.2.2.2.2.2.2.2.2.2.1), (lg_W G u15 r338.2.2.2.2.2.2.2.2.2.2.1), (sc_W G u16 S16), (md_W G u17 S17), (ot_W G u18 r338.2.2.2.2.2.2.2.2.2.2.2)]) (st := []) (st2 := fun r338 => [.int r338.1]) (As := [.ref (u0 0), .int (xs ((x4 + (1 : Int32))).toNatClampNeg), .int (xs ((x4 + (2 : Int32))).toNatClampNeg), .ref (u18 0)]) (pc' := 341) X E (c_L_setDrift l hl0 t G u0 u1 u2 u7 u8 u9 u10 u11 u12 u13 u14 u15 u18 (u3 0) (u5 0) (u16 0) S1 S2 S7 S8 S9 S10 S11 S12 S13 S14 S15 S18 (xs ((x4 + (1 : Int32))).toNatClampNeg) (xs ((x4 + (2 : Int32))).toNatClampNeg)) lkh_RL_116 [0, 1, 2, 7, 8, 9, 10, 11, 12, 13, 14, 15, 18] rfl (by decide) (fun _ => rfl) ⟨(Nat.le_of_ble_eq_true rfl), (Nat.le_of_ble_eq_true rfl)⟩ ⟨rfl, rfl⟩ ⟨by omega, by omega⟩ rfl (Nat.le_of_ble_eq_true rfl) rfl dL_law_338 rfl (fun _ => rfl) (fun _ => rfl) (fun r338 => ?_)
  refine sk_istore (lv' := [some (.ref b), some (.ref (u0 0)), some (.ref (u17 0)), some (.ref (u18 0)), some (.int x4), some (.int r338.1), none]) (pc' := 343) X (Nat.le_of_ble_eq_true rfl) rfl rfl dL_law_341 rfl ?_
  refine sk_aload_n (pc' := 344) X rfl dL_law_343 rfl ?_
  refine sk_aload_n (pc' := 345) X rfl dL_law_344 rfl ?_
  refine sk_iload (pc' := 347) X rfl dL_law_345 rfl ?_
  refine sk_iconst (pc' := 348) X ic_1 dL_law_347 rfl ?_
  refine sk_iadd (pc' := 349) X dL_law_348 rfl ?_
  refine sk_scd (pc' := 350) X E dL_law_349 rfl ?_
  refine sk_aload_n (pc' := 351) X rfl dL_law_350 rfl ?_
  refine sk_iload (pc' := 353) X rfl dL_law_351 rfl ?_
  refine sk_iconst (pc' := 354) X ic_2 dL_law_353 rfl ?_
  refine sk_iadd (pc' := 355) X dL_law_354 rfl ?_
  refine sk_scd (pc' := 356) X E dL_law_355 rfl ?_
  refine sk_callV (bs2 := fun r356 => [(pc_W u0 (u1 0) (u3 0) (u5 0) (u7 0) (u16 0)), (nt_W G u1 (u2 0) r338.2.1), (lg_W G u2 S2), (nt_W G u3 (u4 0) S3), (lg_W G u4 S4), (nt_W G u5 (u6 0) S5), (lg_W G u6 S6), (sv_W G u7 (u8 0) (u10 0) (u12 0) (u14 0) r338.2.2.1), (nt_W G u8 (u9 0) r338.2.2.2.1), (lg_W G u9 r338.2.2.2.2.1), (nt_W G u10 (u11 0) r338.2.2.2.2.2.1), (lg_W G u11 r338.2.2.2.2.2.2.1), (nt_W G u12 (u13 0) r338.2.2.2.2.2.2.2.1), (lg_W G u13 r338.2.2.2.2.2.2.2.2.1), (nt_W G u14 (u15 0) r338.2.2.2.2.2.2.2.2.2.1), (lg_W G u15 r338.2.2.2.2.2.2.2.2.2.2.1), (sc_W G u16 S16), (md_W G u17 r356.2), (ot_W G u18 r338.2.2.2.2.2.2.2.2.2.2.2)]) (st := []) (st2 := fun r356 => [.int r356.1]) (As := [.int (xs ((x4 + (1 : Int32))).toNatClampNeg), .int (xs ((x4 + (2 : Int32))).toNatClampNeg)]) (pc' := 359) X (c_X5_setDrift l G u17 S17 (xs ((x4 + (1 : Int32))).toNatClampNeg) (xs ((x4 + (2 : Int32))).toNatClampNeg)) lk_RL_118 [17] rfl (by decide) (fun _ => rfl) rfl rfl rfl ⟨(Nat.le_of_ble_eq_true rfl), (Nat.le_of_ble_eq_true rfl)⟩ ⟨rfl, rfl⟩ ⟨by omega, by omega⟩ rfl (Nat.le_of_ble_eq_true rfl) rfl dL_law_356 rfl (fun _ => rfl) (fun _ => rfl) (fun r356 => ?_)
  refine sk_istore (lv' := [some (.ref b), some (.ref (u0 0)), some (.ref (u17 0)), some (.ref (u18 0)), some (.int x4), some (.int r338.1), some (.int r356.1)]) (pc' := 361) X (Nat.le_of_ble_eq_true rfl) rfl rfl dL_law_359 rfl ?_
  refine sk_aload_n (pc' := 362) X rfl dL_law_361 rfl ?_
  refine sk_callV (bs2 := fun r362 => [(pc_W u0 (u1 0) (u3 0) (u5 0) (u7 0) (u16 0)), (nt_W G u1 (u2 0) r338.2.1), (lg_W G u2 S2), (nt_W G u3 (u4 0) S3), (lg_W G u4 S4), (nt_W G u5 (u6 0) S5), (lg_W G u6 S6), (sv_W G u7 (u8 0) (u10 0) (u12 0) (u14 0) r338.2.2.1), (nt_W G u8 (u9 0) r338.2.2.2.1), (lg_W G u9 r338.2.2.2.2.1), (nt_W G u10 (u11 0) r338.2.2.2.2.2.1), (lg_W G u11 r338.2.2.2.2.2.2.1), (nt_W G u12 (u13 0) r338.2.2.2.2.2.2.2.1), (lg_W G u13 r338.2.2.2.2.2.2.2.2.1), (nt_W G u14 (u15 0) r338.2.2.2.2.2.2.2.2.2.1), (lg_W G u15 r338.2.2.2.2.2.2.2.2.2.2.1), (sc_W G u16 S16), (md_W G u17 r356.2), (ot_W G u18 r338.2.2.2.2.2.2.2.2.2.2.2)]) (st := []) (st2 := fun r362 => [.int r362]) (As := []) (pc' := 365) X (c_X5_thrown l G u17 r356.2) lk_RL_109 [17] rfl (by decide) (fun _ => rfl) rfl rfl rfl ⟨(Nat.le_of_ble_eq_true rfl), (Nat.le_of_ble_eq_true rfl)⟩ ⟨rfl, rfl⟩ ⟨by omega, by omega⟩ rfl (Nat.le_of_ble_eq_true rfl) rfl dL_law_362 rfl (fun _ => rfl) (fun _ => rfl) (fun r362 => ?_)
  refine sk_iload (pc' := 367) X rfl dL_law_365 rfl ?_
  refine sk_icmp_eq (tgt := 372) (pc' := 370) X dL_law_367 rfl rfl ?_ ?_
  · refine sk_iload (pc' := 374) X rfl dL_law_372 rfl ?_
    refine sk_if_ne (tgt := 389) (pc' := 377) X dL_law_374 rfl rfl ?_ ?_
    · refine sk_goto (tgt := 2071) X dL_law_389 rfl ?_
      refine sk_iinc (lv' := [some (.ref b), some (.ref (u0 0)), some (.ref (u17 0)), some (.ref (u18 0)), some (.int (x4 + (4 : Int32))), some (.int r338.1), some (.int r356.1)]) (pc' := 2074) X rfl ic_4 (Nat.le_of_ble_eq_true rfl) rfl rfl dL_law_2071 rfl ?_
      refine sk_goto (tgt := 23) X dL_law_2074 rfl ?_
      first | exact sk_widen (lw_k (lw_i4 hg) (Nat.le_of_ble_eq_true rfl)) (lw_n (lw_i4 hg) (Nat.le_of_ble_eq_true rfl)) (sk_kill 6 (sk_kill 5 (ih23 (r338.2.1, S2, S3, S4, S5, S6, r338.2.2.1, r338.2.2.2.1, r338.2.2.2.2.1, r338.2.2.2.2.2.1, r338.2.2.2.2.2.2.1, r338.2.2.2.2.2.2.2.1, r338.2.2.2.2.2.2.2.2.1, r338.2.2.2.2.2.2.2.2.2.1, r338.2.2.2.2.2.2.2.2.2.2.1, S16, r356.2, r338.2.2.2.2.2.2.2.2.2.2.2, (x4 + (4 : Int32)))))) | exact sk_widen (lw_k0 (lw_i4 hg)) (lw_n0 (lw_i4 hg)) (sk_kill 6 (sk_kill 5 (ih23 (r338.2.1, S2, S3, S4, S5, S6, r338.2.2.1, r338.2.2.2.1, r338.2.2.2.2.1, r338.2.2.2.2.2.1, r338.2.2.2.2.2.2.1, r338.2.2.2.2.2.2.2.1, r338.2.2.2.2.2.2.2.2.1, r338.2.2.2.2.2.2.2.2.2.1, r338.2.2.2.2.2.2.2.2.2.2.1, S16, r356.2, r338.2.2.2.2.2.2.2.2.2.2.2, (x4 + (4 : Int32))))))
    · refine sk_aload_n (pc' := 378) X rfl dL_law_377 rfl ?_
      refine sk_iconst (pc' := 379) X ic_0 dL_law_378 rfl ?_
      refine sk_lald (pc' := 380) X 18 0 rfl rfl dL_law_379 rfl ?_
      refine sk_iload (pc' := 382) X rfl dL_law_380 rfl ?_
      refine sk_i2l (pc' := 383) X dL_law_382 rfl ?_
      refine sk_lcmp (pc' := 384) X dL_law_383 rfl ?_
      refine sk_if_eq (tgt := 389) (pc' := 387) X dL_law_384 rfl rfl ?_ ?_
      · refine sk_goto (tgt := 2071) X dL_law_389 rfl ?_
        refine sk_iinc (lv' := [some (.ref b), some (.ref (u0 0)), some (.ref (u17 0)), some (.ref (u18 0)), some (.int (x4 + (4 : Int32))), some (.int r338.1), some (.int r356.1)]) (pc' := 2074) X rfl ic_4 (Nat.le_of_ble_eq_true rfl) rfl rfl dL_law_2071 rfl ?_
        refine sk_goto (tgt := 23) X dL_law_2074 rfl ?_
        first | exact sk_widen (lw_k (lw_i4 hg) (Nat.le_of_ble_eq_true rfl)) (lw_n (lw_i4 hg) (Nat.le_of_ble_eq_true rfl)) (sk_kill 6 (sk_kill 5 (ih23 (r338.2.1, S2, S3, S4, S5, S6, r338.2.2.1, r338.2.2.2.1, r338.2.2.2.2.1, r338.2.2.2.2.2.1, r338.2.2.2.2.2.2.1, r338.2.2.2.2.2.2.2.1, r338.2.2.2.2.2.2.2.2.1, r338.2.2.2.2.2.2.2.2.2.1, r338.2.2.2.2.2.2.2.2.2.2.1, S16, r356.2, r338.2.2.2.2.2.2.2.2.2.2.2, (x4 + (4 : Int32)))))) | exact sk_widen (lw_k0 (lw_i4 hg)) (lw_n0 (lw_i4 hg)) (sk_kill 6 (sk_kill 5 (ih23 (r338.2.1, S2, S3, S4, S5, S6, r338.2.2.1, r338.2.2.2.1, r338.2.2.2.2.1, r338.2.2.2.2.2.1, r338.2.2.2.2.2.2.1, r338.2.2.2.2.2.2.2.1, r338.2.2.2.2.2.2.2.2.1, r338.2.2.2.2.2.2.2.2.2.1, r338.2.2.2.2.2.2.2.2.2.2.1, S16, r356.2, r338.2.2.2.2.2.2.2.2.2.2.2, (x4 + (4 : Int32))))))
      · refine sk_iconst (pc' := 388) X ic_0 dL_law_387 rfl ?_
        exact sk_lfalse
  · refine sk_iconst (pc' := 371) X ic_0 dL_law_370 rfl ?_
    exact sk_lfalse
set_option maxHeartbeats 4000000 in
set_option maxRecDepth 100000 in
theorem lc_3 {Γ : sk_K} {l : Launch} (hl0 : l.stackTraces = false) {G : sk_G} {t b L : Nat} {xs : Nat → Int32} (X : sk_X Γ l G room_1 7 RL code ret) (E : sk_EL Γ t b L xs) (u0 u1 u2 u3 u4 u5 u6 u7 u8 u9 u10 u11 u12 u13 u14 u15 u16 u17 u18 : Nat → Nat) (k23 : lw_σ → Option Int32) (ih23 : ∀ s2 : lw_σ, sk_S Γ (lw_Φ Γ b) (kl s2.2.2.2.2.2.2.2.2.2.2.2.2.2.2.2.2.2.2) (nl s2.2.2.2.2.2.2.2.2.2.2.2.2.2.2.2.2.2.2) (k23 s2) (lw_bs G u0 u1 u2 u3 u4 u5 u6 u7 u8 u9 u10 u11 u12 u13 u14 u15 u16 u17 u18 s2) (lw_lv b u0 u1 u2 u3 u4 u5 u6 u7 u8 u9 u10 u11 u12 u13 u14 u15 u16 u17 u18 s2) 23 []) (S1 : sk_N) (S2 : sk_N) (S3 : sk_N) (S4 : sk_N) (S5 : sk_N) (S6 : sk_N) (S7 : sk_N) (S8 : sk_N) (S9 : sk_N) (S10 : sk_N) (S11 : sk_N) (S12 : sk_N) (S13 : sk_N) (S14 : sk_N) (S15 : sk_N) (S16 : sk_N) (S17 : sk_M) (S18 : sk_O) (x4 : Int32) (hg : sk_in x4 2049 = true) : sk_S Γ (lw_Φ Γ b) (kl x4) (nl x4) (m_L_c3 L xs k23 S1 S2 S3 S4 S5 S6 S7 S8 S9 S10 S11 S12 S13 S14 S15 S16 S17 S18 x4) [(pc_W u0 (u1 0) (u3 0) (u5 0) (u7 0) (u16 0)), (nt_W G u1 (u2 0) S1), (lg_W G u2 S2), (nt_W G u3 (u4 0) S3), (lg_W G u4 S4), (nt_W G u5 (u6 0) S5), (lg_W G u6 S6), (sv_W G u7 (u8 0) (u10 0) (u12 0) (u14 0) S7), (nt_W G u8 (u9 0) S8), (lg_W G u9 S9), (nt_W G u10 (u11 0) S10), (lg_W G u11 S11), (nt_W G u12 (u13 0) S12), (lg_W G u13 S13), (nt_W G u14 (u15 0) S14), (lg_W G u15 S15), (sc_W G u16 S16), (md_W G u17 S17), (ot_W G u18 S18)] [some (.ref b), some (.ref (u0 0)), some (.ref (u17 0)), some (.ref (u18 0)), some (.int x4), none, none] 392 [] := by
  have hk0 := lw_hk hg
  have hn0 := lw_hn hg
  unfold m_L_c3
  refine sk_aload_n (pc' := 393) X rfl dL_law_392 rfl ?_
  refine sk_aload_n (pc' := 394) X rfl dL_law_393 rfl ?_
  refine sk_iload (pc' := 396) X rfl dL_law_394 rfl ?_
  refine sk_iconst (pc' := 397) X ic_1 dL_law_396 rfl ?_
  refine sk_iadd (pc' := 398) X dL_law_397 rfl ?_
  refine sk_scd (pc' := 399) X E dL_law_398 rfl ?_
  refine sk_aload_n (pc' := 400) X rfl dL_law_399 rfl ?_
  refine sk_iload (pc' := 402) X rfl dL_law_400 rfl ?_
  refine sk_iconst (pc' := 403) X ic_2 dL_law_402 rfl ?_
  refine sk_iadd (pc' := 404) X dL_law_403 rfl ?_
  refine sk_scd (pc' := 405) X E dL_law_404 rfl ?_
  refine sk_aload_n (pc' := 406) X rfl dL_law_405 rfl ?_
  refine sk_iload (pc' := 408) X rfl dL_law_406 rfl ?_
  refine sk_iconst (pc' := 409) X ic_3 dL_law_408 rfl ?_
  refine sk_iadd (pc' := 410) X dL_law_409 rfl ?_
  refine sk_scd (pc' := 411) X E dL_law_410 rfl ?_
  refine sk_aload_n (pc' := 412) X rfl dL_law_411 rfl ?_
  refine sk_callSH (bs2 := fun r412 => [(pc_W u0 (u1 0) (u3 0) (u5 0) (u7 0) (u16 0)), (nt_W G u1 (u2 0) r412.2.1), (lg_W G u2 S2), (nt_W G u3 (u4 0) S3), (lg_W G u4 S4), (nt_W G u5 (u6 0) S5), (lg_W G u6 S6), (sv_W G u7 (u8 0) (u10 0) (u12 0) (u14 0) r412.2.2.1), (nt_W G u8 (u9 0) r412.2.2.2.1), (lg_W G u9 r412.2.2.2.2.1), (nt_W G u10 (u11 0) r412.2.2.2.2.2.1), (lg_W G u11 r412.2.2.2.2.2.2.1), (nt_W G u12 (u13 0) r412.2.2.2.2.2.2.2.1), (lg_W G u13 r412.2.2.2.2.2.2.2.2.1), (nt_W G u14 (u15 0) r412.2.2.2.2.2.2.2.2.2.1), (lg_W G u15 r412.2.2.2.2.2.2.2.2.2.2.1), (sc_W G u16 S16), (md_W G u17 S17), (ot_W G u18 r412.2.2.2.2.2.2.2.2.2.2.2)]) (st := []) (st2 := fun r412 => [.int r412.1]) (As := [.ref (u0 0), .int (xs ((x4 + (1 : Int32))).toNatClampNeg), .int (xs ((x4 + (2 : Int32))).toNatClampNeg), .int (xs ((x4 + (3 : Int32))).toNatClampNeg), .ref (u18 0)]) (pc' := 415) X E (c_L_blink l hl0 t G u0 u1 u2 u7 u8 u9 u10 u11 u12 u13 u14 u15 u18 (u3 0) (u5 0) (u16 0) S1 S2 S7 S8 S9 S10 S11 S12 S13 S14 S15 S18 (xs ((x4 + (1 : Int32))).toNatClampNeg) (xs ((x4 + (2 : Int32))).toNatClampNeg) (xs ((x4 + (3 : Int32))).toNatClampNeg)) lkh_RL_119 [0, 1, 2, 7, 8, 9, 10, 11, 12, 13, 14, 15, 18] rfl (by decide) (fun _ => rfl) ⟨(Nat.le_of_ble_eq_true rfl), (Nat.le_of_ble_eq_true rfl)⟩ ⟨rfl, rfl⟩ ⟨by omega, by omega⟩ rfl (Nat.le_of_ble_eq_true rfl) rfl dL_law_412 rfl (fun _ => rfl) (fun _ => rfl) (fun r412 => ?_)
  refine sk_istore (lv' := [some (.ref b), some (.ref (u0 0)), some (.ref (u17 0)), some (.ref (u18 0)), some (.int x4), some (.int r412.1), none]) (pc' := 417) X (Nat.le_of_ble_eq_true rfl) rfl rfl dL_law_415 rfl ?_
  refine sk_aload_n (pc' := 418) X rfl dL_law_417 rfl ?_
  refine sk_aload_n (pc' := 419) X rfl dL_law_418 rfl ?_
  refine sk_iload (pc' := 421) X rfl dL_law_419 rfl ?_
  refine sk_iconst (pc' := 422) X ic_1 dL_law_421 rfl ?_
  refine sk_iadd (pc' := 423) X dL_law_422 rfl ?_
  refine sk_scd (pc' := 424) X E dL_law_423 rfl ?_
  refine sk_aload_n (pc' := 425) X rfl dL_law_424 rfl ?_
  refine sk_iload (pc' := 427) X rfl dL_law_425 rfl ?_
  refine sk_iconst (pc' := 428) X ic_2 dL_law_427 rfl ?_
  refine sk_iadd (pc' := 429) X dL_law_428 rfl ?_
  refine sk_scd (pc' := 430) X E dL_law_429 rfl ?_
  refine sk_aload_n (pc' := 431) X rfl dL_law_430 rfl ?_
  refine sk_iload (pc' := 433) X rfl dL_law_431 rfl ?_
  refine sk_iconst (pc' := 434) X ic_3 dL_law_433 rfl ?_
  refine sk_iadd (pc' := 435) X dL_law_434 rfl ?_
  refine sk_scd (pc' := 436) X E dL_law_435 rfl ?_
  refine sk_callV (bs2 := fun r436 => [(pc_W u0 (u1 0) (u3 0) (u5 0) (u7 0) (u16 0)), (nt_W G u1 (u2 0) r412.2.1), (lg_W G u2 S2), (nt_W G u3 (u4 0) S3), (lg_W G u4 S4), (nt_W G u5 (u6 0) S5), (lg_W G u6 S6), (sv_W G u7 (u8 0) (u10 0) (u12 0) (u14 0) r412.2.2.1), (nt_W G u8 (u9 0) r412.2.2.2.1), (lg_W G u9 r412.2.2.2.2.1), (nt_W G u10 (u11 0) r412.2.2.2.2.2.1), (lg_W G u11 r412.2.2.2.2.2.2.1), (nt_W G u12 (u13 0) r412.2.2.2.2.2.2.2.1), (lg_W G u13 r412.2.2.2.2.2.2.2.2.1), (nt_W G u14 (u15 0) r412.2.2.2.2.2.2.2.2.2.1), (lg_W G u15 r412.2.2.2.2.2.2.2.2.2.2.1), (sc_W G u16 S16), (md_W G u17 r436.2), (ot_W G u18 r412.2.2.2.2.2.2.2.2.2.2.2)]) (st := []) (st2 := fun r436 => [.int r436.1]) (As := [.int (xs ((x4 + (1 : Int32))).toNatClampNeg), .int (xs ((x4 + (2 : Int32))).toNatClampNeg), .int (xs ((x4 + (3 : Int32))).toNatClampNeg)]) (pc' := 439) X (c_X5_blink l G u17 S17 (xs ((x4 + (1 : Int32))).toNatClampNeg) (xs ((x4 + (2 : Int32))).toNatClampNeg) (xs ((x4 + (3 : Int32))).toNatClampNeg)) lk_RL_122 [17] rfl (by decide) (fun _ => rfl) rfl rfl rfl ⟨(Nat.le_of_ble_eq_true rfl), (Nat.le_of_ble_eq_true rfl)⟩ ⟨rfl, rfl⟩ ⟨by omega, by omega⟩ rfl (Nat.le_of_ble_eq_true rfl) rfl dL_law_436 rfl (fun _ => rfl) (fun _ => rfl) (fun r436 => ?_)
  refine sk_istore (lv' := [some (.ref b), some (.ref (u0 0)), some (.ref (u17 0)), some (.ref (u18 0)), some (.int x4), some (.int r412.1), some (.int r436.1)]) (pc' := 441) X (Nat.le_of_ble_eq_true rfl) rfl rfl dL_law_439 rfl ?_
  refine sk_aload_n (pc' := 442) X rfl dL_law_441 rfl ?_
  refine sk_callV (bs2 := fun r442 => [(pc_W u0 (u1 0) (u3 0) (u5 0) (u7 0) (u16 0)), (nt_W G u1 (u2 0) r412.2.1), (lg_W G u2 S2), (nt_W G u3 (u4 0) S3), (lg_W G u4 S4), (nt_W G u5 (u6 0) S5), (lg_W G u6 S6), (sv_W G u7 (u8 0) (u10 0) (u12 0) (u14 0) r412.2.2.1), (nt_W G u8 (u9 0) r412.2.2.2.1), (lg_W G u9 r412.2.2.2.2.1), (nt_W G u10 (u11 0) r412.2.2.2.2.2.1), (lg_W G u11 r412.2.2.2.2.2.2.1), (nt_W G u12 (u13 0) r412.2.2.2.2.2.2.2.1), (lg_W G u13 r412.2.2.2.2.2.2.2.2.1), (nt_W G u14 (u15 0) r412.2.2.2.2.2.2.2.2.2.1), (lg_W G u15 r412.2.2.2.2.2.2.2.2.2.2.1), (sc_W G u16 S16), (md_W G u17 r436.2), (ot_W G u18 r412.2.2.2.2.2.2.2.2.2.2.2)]) (st := []) (st2 := fun r442 => [.int r442]) (As := []) (pc' := 445) X (c_X5_thrown l G u17 r436.2) lk_RL_109 [17] rfl (by decide) (fun _ => rfl) rfl rfl rfl ⟨(Nat.le_of_ble_eq_true rfl), (Nat.le_of_ble_eq_true rfl)⟩ ⟨rfl, rfl⟩ ⟨by omega, by omega⟩ rfl (Nat.le_of_ble_eq_true rfl) rfl dL_law_442 rfl (fun _ => rfl) (fun _ => rfl) (fun r442 => ?_)
  refine sk_iload (pc' := 447) X rfl dL_law_445 rfl ?_
  refine sk_icmp_eq (tgt := 452) (pc' := 450) X dL_law_447 rfl rfl ?_ ?_
  · refine sk_iload (pc' := 454) X rfl dL_law_452 rfl ?_
    refine sk_if_ne (tgt := 469) (pc' := 457) X dL_law_454 rfl rfl ?_ ?_
    · refine sk_goto (tgt := 2071) X dL_law_469 rfl ?_
      refine sk_iinc (lv' := [some (.ref b), some (.ref (u0 0)), some (.ref (u17 0)), some (.ref (u18 0)), some (.int (x4 + (4 : Int32))), some (.int r412.1), some (.int r436.1)]) (pc' := 2074) X rfl ic_4 (Nat.le_of_ble_eq_true rfl) rfl rfl dL_law_2071 rfl ?_
      refine sk_goto (tgt := 23) X dL_law_2074 rfl ?_
      first | exact sk_widen (lw_k (lw_i4 hg) (Nat.le_of_ble_eq_true rfl)) (lw_n (lw_i4 hg) (Nat.le_of_ble_eq_true rfl)) (sk_kill 6 (sk_kill 5 (ih23 (r412.2.1, S2, S3, S4, S5, S6, r412.2.2.1, r412.2.2.2.1, r412.2.2.2.2.1, r412.2.2.2.2.2.1, r412.2.2.2.2.2.2.1, r412.2.2.2.2.2.2.2.1, r412.2.2.2.2.2.2.2.2.1, r412.2.2.2.2.2.2.2.2.2.1, r412.2.2.2.2.2.2.2.2.2.2.1, S16, r436.2, r412.2.2.2.2.2.2.2.2.2.2.2, (x4 + (4 : Int32)))))) | exact sk_widen (lw_k0 (lw_i4 hg)) (lw_n0 (lw_i4 hg)) (sk_kill 6 (sk_kill 5 (ih23 (r412.2.1, S2, S3, S4, S5, S6, r412.2.2.1, r412.2.2.2.1, r412.2.2.2.2.1, r412.2.2.2.2.2.1, r412.2.2.2.2.2.2.1, r412.2.2.2.2.2.2.2.1, r412.2.2.2.2.2.2.2.2.1, r412.2.2.2.2.2.2.2.2.2.1, r412.2.2.2.2.2.2.2.2.2.2.1, S16, r436.2, r412.2.2.2.2.2.2.2.2.2.2.2, (x4 + (4 : Int32))))))
    · refine sk_aload_n (pc' := 458) X rfl dL_law_457 rfl ?_
      refine sk_iconst (pc' := 459) X ic_0 dL_law_458 rfl ?_
      refine sk_lald (pc' := 460) X 18 0 rfl rfl dL_law_459 rfl ?_
      refine sk_iload (pc' := 462) X rfl dL_law_460 rfl ?_
      refine sk_i2l (pc' := 463) X dL_law_462 rfl ?_
      refine sk_lcmp (pc' := 464) X dL_law_463 rfl ?_
      refine sk_if_eq (tgt := 469) (pc' := 467) X dL_law_464 rfl rfl ?_ ?_
      · refine sk_goto (tgt := 2071) X dL_law_469 rfl ?_
        refine sk_iinc (lv' := [some (.ref b), some (.ref (u0 0)), some (.ref (u17 0)), some (.ref (u18 0)), some (.int (x4 + (4 : Int32))), some (.int r412.1), some (.int r436.1)]) (pc' := 2074) X rfl ic_4 (Nat.le_of_ble_eq_true rfl) rfl rfl dL_law_2071 rfl ?_
        refine sk_goto (tgt := 23) X dL_law_2074 rfl ?_
        first | exact sk_widen (lw_k (lw_i4 hg) (Nat.le_of_ble_eq_true rfl)) (lw_n (lw_i4 hg) (Nat.le_of_ble_eq_true rfl)) (sk_kill 6 (sk_kill 5 (ih23 (r412.2.1, S2, S3, S4, S5, S6, r412.2.2.1, r412.2.2.2.1, r412.2.2.2.2.1, r412.2.2.2.2.2.1, r412.2.2.2.2.2.2.1, r412.2.2.2.2.2.2.2.1, r412.2.2.2.2.2.2.2.2.1, r412.2.2.2.2.2.2.2.2.2.1, r412.2.2.2.2.2.2.2.2.2.2.1, S16, r436.2, r412.2.2.2.2.2.2.2.2.2.2.2, (x4 + (4 : Int32)))))) | exact sk_widen (lw_k0 (lw_i4 hg)) (lw_n0 (lw_i4 hg)) (sk_kill 6 (sk_kill 5 (ih23 (r412.2.1, S2, S3, S4, S5, S6, r412.2.2.1, r412.2.2.2.1, r412.2.2.2.2.1, r412.2.2.2.2.2.1, r412.2.2.2.2.2.2.1, r412.2.2.2.2.2.2.2.1, r412.2.2.2.2.2.2.2.2.1, r412.2.2.2.2.2.2.2.2.2.1, r412.2.2.2.2.2.2.2.2.2.2.1, S16, r436.2, r412.2.2.2.2.2.2.2.2.2.2.2, (x4 + (4 : Int32))))))
      · refine sk_iconst (pc' := 468) X ic_0 dL_law_467 rfl ?_
        exact sk_lfalse
  · refine sk_iconst (pc' := 451) X ic_0 dL_law_450 rfl ?_
    exact sk_lfalse
set_option maxHeartbeats 4000000 in
set_option maxRecDepth 100000 in
theorem lc_4 {Γ : sk_K} {l : Launch} (hl0 : l.stackTraces = false) {G : sk_G} {t b L : Nat} {xs : Nat → Int32} (X : sk_X Γ l G room_1 7 RL code ret) (E : sk_EL Γ t b L xs) (u0 u1 u2 u3 u4 u5 u6 u7 u8 u9 u10 u11 u12 u13 u14 u15 u16 u17 u18 : Nat → Nat) (k23 : lw_σ → Option Int32) (ih23 : ∀ s2 : lw_σ, sk_S Γ (lw_Φ Γ b) (kl s2.2.2.2.2.2.2.2.2.2.2.2.2.2.2.2.2.2.2) (nl s2.2.2.2.2.2.2.2.2.2.2.2.2.2.2.2.2.2.2) (k23 s2) (lw_bs G u0 u1 u2 u3 u4 u5 u6 u7 u8 u9 u10 u11 u12 u13 u14 u15 u16 u17 u18 s2) (lw_lv b u0 u1 u2 u3 u4 u5 u6 u7 u8 u9 u10 u11 u12 u13 u14 u15 u16 u17 u18 s2) 23 []) (S1 : sk_N) (S2 : sk_N) (S3 : sk_N) (S4 : sk_N) (S5 : sk_N) (S6 : sk_N) (S7 : sk_N) (S8 : sk_N) (S9 : sk_N) (S10 : sk_N) (S11 : sk_N) (S12 : sk_N) (S13 : sk_N) (S14 : sk_N) (S15 : sk_N) (S16 : sk_N) (S17 : sk_M) (S18 : sk_O) (x4 : Int32) (hg : sk_in x4 2049 = true) : sk_S Γ (lw_Φ Γ b) (kl x4) (nl x4) (m_L_c4 L xs k23 S1 S2 S3 S4 S5 S6 S7 S8 S9 S10 S11 S12 S13 S14 S15 S16 S17 S18 x4) [(pc_W u0 (u1 0) (u3 0) (u5 0) (u7 0) (u16 0)), (nt_W G u1 (u2 0) S1), (lg_W G u2 S2), (nt_W G u3 (u4 0) S3), (lg_W G u4 S4), (nt_W G u5 (u6 0) S5), (lg_W G u6 S6), (sv_W G u7 (u8 0) (u10 0) (u12 0) (u14 0) S7), (nt_W G u8 (u9 0) S8), (lg_W G u9 S9), (nt_W G u10 (u11 0) S10), (lg_W G u11 S11), (nt_W G u12 (u13 0) S12), (lg_W G u13 S13), (nt_W G u14 (u15 0) S14), (lg_W G u15 S15), (sc_W G u16 S16), (md_W G u17 S17), (ot_W G u18 S18)] [some (.ref b), some (.ref (u0 0)), some (.ref (u17 0)), some (.ref (u18 0)), some (.int x4), none, none] 472 [] := by
  have hk0 := lw_hk hg
  have hn0 := lw_hn hg
  unfold m_L_c4
  refine sk_aload_n (pc' := 473) X rfl dL_law_472 rfl ?_
  refine sk_aload_n (pc' := 474) X rfl dL_law_473 rfl ?_
  refine sk_iload (pc' := 476) X rfl dL_law_474 rfl ?_
  refine sk_iconst (pc' := 477) X ic_1 dL_law_476 rfl ?_
  refine sk_iadd (pc' := 478) X dL_law_477 rfl ?_
  refine sk_scd (pc' := 479) X E dL_law_478 rfl ?_
  refine sk_aload_n (pc' := 480) X rfl dL_law_479 rfl ?_
  refine sk_callSH (bs2 := fun r480 => [(pc_W u0 (u1 0) (u3 0) (u5 0) (u7 0) (u16 0)), (nt_W G u1 (u2 0) r480.2.1), (lg_W G u2 S2), (nt_W G u3 (u4 0) S3), (lg_W G u4 S4), (nt_W G u5 (u6 0) S5), (lg_W G u6 S6), (sv_W G u7 (u8 0) (u10 0) (u12 0) (u14 0) r480.2.2.1), (nt_W G u8 (u9 0) r480.2.2.2.1), (lg_W G u9 r480.2.2.2.2.1), (nt_W G u10 (u11 0) r480.2.2.2.2.2.1), (lg_W G u11 r480.2.2.2.2.2.2.1), (nt_W G u12 (u13 0) r480.2.2.2.2.2.2.2.1), (lg_W G u13 r480.2.2.2.2.2.2.2.2.1), (nt_W G u14 (u15 0) r480.2.2.2.2.2.2.2.2.2.1), (lg_W G u15 r480.2.2.2.2.2.2.2.2.2.2.1), (sc_W G u16 S16), (md_W G u17 S17), (ot_W G u18 r480.2.2.2.2.2.2.2.2.2.2.2)]) (st := []) (st2 := fun r480 => [.int r480.1]) (As := [.ref (u0 0), .int (xs ((x4 + (1 : Int32))).toNatClampNeg), .ref (u18 0)]) (pc' := 483) X E (c_L_mend l hl0 t G u0 u1 u2 u7 u8 u9 u10 u11 u12 u13 u14 u15 u18 (u3 0) (u5 0) (u16 0) S1 S2 S7 S8 S9 S10 S11 S12 S13 S14 S15 S18 (xs ((x4 + (1 : Int32))).toNatClampNeg)) lkh_RL_123 [0, 1, 2, 7, 8, 9, 10, 11, 12, 13, 14, 15, 18] rfl (by decide) (fun _ => rfl) ⟨(Nat.le_of_ble_eq_true rfl), (Nat.le_of_ble_eq_true rfl)⟩ ⟨rfl, rfl⟩ ⟨by omega, by omega⟩ rfl (Nat.le_of_ble_eq_true rfl) rfl dL_law_480 rfl (fun _ => rfl) (fun _ => rfl) (fun r480 => ?_)
  refine sk_istore (lv' := [some (.ref b), some (.ref (u0 0)), some (.ref (u17 0)), some (.ref (u18 0)), some (.int x4), some (.int r480.1), none]) (pc' := 485) X (Nat.le_of_ble_eq_true rfl) rfl rfl dL_law_483 rfl ?_
  refine sk_aload_n (pc' := 486) X rfl dL_law_485 rfl ?_
  refine sk_aload_n (pc' := 487) X rfl dL_law_486 rfl ?_
  refine sk_iload (pc' := 489) X rfl dL_law_487 rfl ?_
  refine sk_iconst (pc' := 490) X ic_1 dL_law_489 rfl ?_
  refine sk_iadd (pc' := 491) X dL_law_490 rfl ?_
  refine sk_scd (pc' := 492) X E dL_law_491 rfl ?_
  refine sk_callV (bs2 := fun r492 => [(pc_W u0 (u1 0) (u3 0) (u5 0) (u7 0) (u16 0)), (nt_W G u1 (u2 0) r480.2.1), (lg_W G u2 S2), (nt_W G u3 (u4 0) S3), (lg_W G u4 S4), (nt_W G u5 (u6 0) S5), (lg_W G u6 S6), (sv_W G u7 (u8 0) (u10 0) (u12 0) (u14 0) r480.2.2.1), (nt_W G u8 (u9 0) r480.2.2.2.1), (lg_W G u9 r480.2.2.2.2.1), (nt_W G u10 (u11 0) r480.2.2.2.2.2.1), (lg_W G u11 r480.2.2.2.2.2.2.1), (nt_W G u12 (u13 0) r480.2.2.2.2.2.2.2.1), (lg_W G u13 r480.2.2.2.2.2.2.2.2.1), (nt_W G u14 (u15 0) r480.2.2.2.2.2.2.2.2.2.1), (lg_W G u15 r480.2.2.2.2.2.2.2.2.2.2.1), (sc_W G u16 S16), (md_W G u17 r492.2), (ot_W G u18 r480.2.2.2.2.2.2.2.2.2.2.2)]) (st := []) (st2 := fun r492 => [.int r492.1]) (As := [.int (xs ((x4 + (1 : Int32))).toNatClampNeg)]) (pc' := 495) X (c_X5_mend l G u17 S17 (xs ((x4 + (1 : Int32))).toNatClampNeg)) lk_RL_125 [17] rfl (by decide) (fun _ => rfl) rfl rfl rfl ⟨(Nat.le_of_ble_eq_true rfl), (Nat.le_of_ble_eq_true rfl)⟩ ⟨rfl, rfl⟩ ⟨by omega, by omega⟩ rfl (Nat.le_of_ble_eq_true rfl) rfl dL_law_492 rfl (fun _ => rfl) (fun _ => rfl) (fun r492 => ?_)
  refine sk_istore (lv' := [some (.ref b), some (.ref (u0 0)), some (.ref (u17 0)), some (.ref (u18 0)), some (.int x4), some (.int r480.1), some (.int r492.1)]) (pc' := 497) X (Nat.le_of_ble_eq_true rfl) rfl rfl dL_law_495 rfl ?_
  refine sk_aload_n (pc' := 498) X rfl dL_law_497 rfl ?_
  refine sk_callV (bs2 := fun r498 => [(pc_W u0 (u1 0) (u3 0) (u5 0) (u7 0) (u16 0)), (nt_W G u1 (u2 0) r480.2.1), (lg_W G u2 S2), (nt_W G u3 (u4 0) S3), (lg_W G u4 S4), (nt_W G u5 (u6 0) S5), (lg_W G u6 S6), (sv_W G u7 (u8 0) (u10 0) (u12 0) (u14 0) r480.2.2.1), (nt_W G u8 (u9 0) r480.2.2.2.1), (lg_W G u9 r480.2.2.2.2.1), (nt_W G u10 (u11 0) r480.2.2.2.2.2.1), (lg_W G u11 r480.2.2.2.2.2.2.1), (nt_W G u12 (u13 0) r480.2.2.2.2.2.2.2.1), (lg_W G u13 r480.2.2.2.2.2.2.2.2.1), (nt_W G u14 (u15 0) r480.2.2.2.2.2.2.2.2.2.1), (lg_W G u15 r480.2.2.2.2.2.2.2.2.2.2.1), (sc_W G u16 S16), (md_W G u17 r492.2), (ot_W G u18 r480.2.2.2.2.2.2.2.2.2.2.2)]) (st := []) (st2 := fun r498 => [.int r498]) (As := []) (pc' := 501) X (c_X5_thrown l G u17 r492.2) lk_RL_109 [17] rfl (by decide) (fun _ => rfl) rfl rfl rfl ⟨(Nat.le_of_ble_eq_true rfl), (Nat.le_of_ble_eq_true rfl)⟩ ⟨rfl, rfl⟩ ⟨by omega, by omega⟩ rfl (Nat.le_of_ble_eq_true rfl) rfl dL_law_498 rfl (fun _ => rfl) (fun _ => rfl) (fun r498 => ?_)
  refine sk_iload (pc' := 503) X rfl dL_law_501 rfl ?_
  refine sk_icmp_eq (tgt := 508) (pc' := 506) X dL_law_503 rfl rfl ?_ ?_
  · refine sk_iload (pc' := 510) X rfl dL_law_508 rfl ?_
    refine sk_if_ne (tgt := 525) (pc' := 513) X dL_law_510 rfl rfl ?_ ?_
    · refine sk_goto (tgt := 2071) X dL_law_525 rfl ?_
      refine sk_iinc (lv' := [some (.ref b), some (.ref (u0 0)), some (.ref (u17 0)), some (.ref (u18 0)), some (.int (x4 + (4 : Int32))), some (.int r480.1), some (.int r492.1)]) (pc' := 2074) X rfl ic_4 (Nat.le_of_ble_eq_true rfl) rfl rfl dL_law_2071 rfl ?_
      refine sk_goto (tgt := 23) X dL_law_2074 rfl ?_
      first | exact sk_widen (lw_k (lw_i4 hg) (Nat.le_of_ble_eq_true rfl)) (lw_n (lw_i4 hg) (Nat.le_of_ble_eq_true rfl)) (sk_kill 6 (sk_kill 5 (ih23 (r480.2.1, S2, S3, S4, S5, S6, r480.2.2.1, r480.2.2.2.1, r480.2.2.2.2.1, r480.2.2.2.2.2.1, r480.2.2.2.2.2.2.1, r480.2.2.2.2.2.2.2.1, r480.2.2.2.2.2.2.2.2.1, r480.2.2.2.2.2.2.2.2.2.1, r480.2.2.2.2.2.2.2.2.2.2.1, S16, r492.2, r480.2.2.2.2.2.2.2.2.2.2.2, (x4 + (4 : Int32)))))) | exact sk_widen (lw_k0 (lw_i4 hg)) (lw_n0 (lw_i4 hg)) (sk_kill 6 (sk_kill 5 (ih23 (r480.2.1, S2, S3, S4, S5, S6, r480.2.2.1, r480.2.2.2.1, r480.2.2.2.2.1, r480.2.2.2.2.2.1, r480.2.2.2.2.2.2.1, r480.2.2.2.2.2.2.2.1, r480.2.2.2.2.2.2.2.2.1, r480.2.2.2.2.2.2.2.2.2.1, r480.2.2.2.2.2.2.2.2.2.2.1, S16, r492.2, r480.2.2.2.2.2.2.2.2.2.2.2, (x4 + (4 : Int32))))))
    · refine sk_aload_n (pc' := 514) X rfl dL_law_513 rfl ?_
      refine sk_iconst (pc' := 515) X ic_0 dL_law_514 rfl ?_
      refine sk_lald (pc' := 516) X 18 0 rfl rfl dL_law_515 rfl ?_
      refine sk_iload (pc' := 518) X rfl dL_law_516 rfl ?_
      refine sk_i2l (pc' := 519) X dL_law_518 rfl ?_
      refine sk_lcmp (pc' := 520) X dL_law_519 rfl ?_
      refine sk_if_eq (tgt := 525) (pc' := 523) X dL_law_520 rfl rfl ?_ ?_
      · refine sk_goto (tgt := 2071) X dL_law_525 rfl ?_
        refine sk_iinc (lv' := [some (.ref b), some (.ref (u0 0)), some (.ref (u17 0)), some (.ref (u18 0)), some (.int (x4 + (4 : Int32))), some (.int r480.1), some (.int r492.1)]) (pc' := 2074) X rfl ic_4 (Nat.le_of_ble_eq_true rfl) rfl rfl dL_law_2071 rfl ?_
        refine sk_goto (tgt := 23) X dL_law_2074 rfl ?_
        first | exact sk_widen (lw_k (lw_i4 hg) (Nat.le_of_ble_eq_true rfl)) (lw_n (lw_i4 hg) (Nat.le_of_ble_eq_true rfl)) (sk_kill 6 (sk_kill 5 (ih23 (r480.2.1, S2, S3, S4, S5, S6, r480.2.2.1, r480.2.2.2.1, r480.2.2.2.2.1, r480.2.2.2.2.2.1, r480.2.2.2.2.2.2.1, r480.2.2.2.2.2.2.2.1, r480.2.2.2.2.2.2.2.2.1, r480.2.2.2.2.2.2.2.2.2.1, r480.2.2.2.2.2.2.2.2.2.2.1, S16, r492.2, r480.2.2.2.2.2.2.2.2.2.2.2, (x4 + (4 : Int32)))))) | exact sk_widen (lw_k0 (lw_i4 hg)) (lw_n0 (lw_i4 hg)) (sk_kill 6 (sk_kill 5 (ih23 (r480.2.1, S2, S3, S4, S5, S6, r480.2.2.1, r480.2.2.2.1, r480.2.2.2.2.1, r480.2.2.2.2.2.1, r480.2.2.2.2.2.2.1, r480.2.2.2.2.2.2.2.1, r480.2.2.2.2.2.2.2.2.1, r480.2.2.2.2.2.2.2.2.2.1, r480.2.2.2.2.2.2.2.2.2.2.1, S16, r492.2, r480.2.2.2.2.2.2.2.2.2.2.2, (x4 + (4 : Int32))))))
      · refine sk_iconst (pc' := 524) X ic_0 dL_law_523 rfl ?_
        exact sk_lfalse
  · refine sk_iconst (pc' := 507) X ic_0 dL_law_506 rfl ?_
    exact sk_lfalse
set_option maxHeartbeats 4000000 in
set_option maxRecDepth 100000 in
theorem lc_5 {Γ : sk_K} {l : Launch} (hl0 : l.stackTraces = false) {G : sk_G} {t b L : Nat} {xs : Nat → Int32} (X : sk_X Γ l G room_1 7 RL code ret) (E : sk_EL Γ t b L xs) (u0 u1 u2 u3 u4 u5 u6 u7 u8 u9 u10 u11 u12 u13 u14 u15 u16 u17 u18 : Nat → Nat) (k23 : lw_σ → Option Int32) (ih23 : ∀ s2 : lw_σ, sk_S Γ (lw_Φ Γ b) (kl s2.2.2.2.2.2.2.2.2.2.2.2.2.2.2.2.2.2.2) (nl s2.2.2.2.2.2.2.2.2.2.2.2.2.2.2.2.2.2.2) (k23 s2) (lw_bs G u0 u1 u2 u3 u4 u5 u6 u7 u8 u9 u10 u11 u12 u13 u14 u15 u16 u17 u18 s2) (lw_lv b u0 u1 u2 u3 u4 u5 u6 u7 u8 u9 u10 u11 u12 u13 u14 u15 u16 u17 u18 s2) 23 []) (S1 : sk_N) (S2 : sk_N) (S3 : sk_N) (S4 : sk_N) (S5 : sk_N) (S6 : sk_N) (S7 : sk_N) (S8 : sk_N) (S9 : sk_N) (S10 : sk_N) (S11 : sk_N) (S12 : sk_N) (S13 : sk_N) (S14 : sk_N) (S15 : sk_N) (S16 : sk_N) (S17 : sk_M) (S18 : sk_O) (x4 : Int32) (hg : sk_in x4 2049 = true) : sk_S Γ (lw_Φ Γ b) (kl x4) (nl x4) (m_L_c5 L xs k23 S1 S2 S3 S4 S5 S6 S7 S8 S9 S10 S11 S12 S13 S14 S15 S16 S17 S18 x4) [(pc_W u0 (u1 0) (u3 0) (u5 0) (u7 0) (u16 0)), (nt_W G u1 (u2 0) S1), (lg_W G u2 S2), (nt_W G u3 (u4 0) S3), (lg_W G u4 S4), (nt_W G u5 (u6 0) S5), (lg_W G u6 S6), (sv_W G u7 (u8 0) (u10 0) (u12 0) (u14 0) S7), (nt_W G u8 (u9 0) S8), (lg_W G u9 S9), (nt_W G u10 (u11 0) S10), (lg_W G u11 S11), (nt_W G u12 (u13 0) S12), (lg_W G u13 S13), (nt_W G u14 (u15 0) S14), (lg_W G u15 S15), (sc_W G u16 S16), (md_W G u17 S17), (ot_W G u18 S18)] [some (.ref b), some (.ref (u0 0)), some (.ref (u17 0)), some (.ref (u18 0)), some (.int x4), none, none] 528 [] := by
  have hk0 := lw_hk hg
  have hn0 := lw_hn hg
  unfold m_L_c5
  refine sk_aload_n (pc' := 529) X rfl dL_law_528 rfl ?_
  refine sk_aload_n (pc' := 530) X rfl dL_law_529 rfl ?_
  refine sk_iload (pc' := 532) X rfl dL_law_530 rfl ?_
  refine sk_iconst (pc' := 533) X ic_1 dL_law_532 rfl ?_
  refine sk_iadd (pc' := 534) X dL_law_533 rfl ?_
  refine sk_scd (pc' := 535) X E dL_law_534 rfl ?_
  refine sk_aload_n (pc' := 536) X rfl dL_law_535 rfl ?_
  refine sk_iload (pc' := 538) X rfl dL_law_536 rfl ?_
  refine sk_iconst (pc' := 539) X ic_2 dL_law_538 rfl ?_
  refine sk_iadd (pc' := 540) X dL_law_539 rfl ?_
  refine sk_scd (pc' := 541) X E dL_law_540 rfl ?_
  refine sk_aload_n (pc' := 542) X rfl dL_law_541 rfl ?_
  refine sk_iload (pc' := 544) X rfl dL_law_542 rfl ?_
  refine sk_iconst (pc' := 545) X ic_3 dL_law_544 rfl ?_
  refine sk_iadd (pc' := 546) X dL_law_545 rfl ?_
  refine sk_scd (pc' := 547) X E dL_law_546 rfl ?_
  refine sk_aload_n (pc' := 548) X rfl dL_law_547 rfl ?_
  refine sk_callSH (bs2 := fun r548 => [(pc_W u0 (u1 0) (u3 0) (u5 0) (u7 0) (u16 0)), (nt_W G u1 (u2 0) r548.2.1), (lg_W G u2 S2), (nt_W G u3 (u4 0) S3), (lg_W G u4 S4), (nt_W G u5 (u6 0) S5), (lg_W G u6 S6), (sv_W G u7 (u8 0) (u10 0) (u12 0) (u14 0) r548.2.2.1), (nt_W G u8 (u9 0) r548.2.2.2.1), (lg_W G u9 r548.2.2.2.2.1), (nt_W G u10 (u11 0) r548.2.2.2.2.2.1), (lg_W G u11 r548.2.2.2.2.2.2.1), (nt_W G u12 (u13 0) r548.2.2.2.2.2.2.2.1), (lg_W G u13 r548.2.2.2.2.2.2.2.2.1), (nt_W G u14 (u15 0) r548.2.2.2.2.2.2.2.2.2.1), (lg_W G u15 r548.2.2.2.2.2.2.2.2.2.2.1), (sc_W G u16 S16), (md_W G u17 S17), (ot_W G u18 r548.2.2.2.2.2.2.2.2.2.2.2)]) (st := []) (st2 := fun r548 => [.int r548.1]) (As := [.ref (u0 0), .int (xs ((x4 + (1 : Int32))).toNatClampNeg), .int (xs ((x4 + (2 : Int32))).toNatClampNeg), .int (xs ((x4 + (3 : Int32))).toNatClampNeg), .ref (u18 0)]) (pc' := 551) X E (c_L_link l hl0 t G u0 u1 u2 u7 u8 u9 u10 u11 u12 u13 u14 u15 u18 (u3 0) (u5 0) (u16 0) S1 S2 S7 S8 S9 S10 S11 S12 S13 S14 S15 S18 (xs ((x4 + (1 : Int32))).toNatClampNeg) (xs ((x4 + (2 : Int32))).toNatClampNeg) (xs ((x4 + (3 : Int32))).toNatClampNeg)) lkh_RL_126 [0, 1, 2, 7, 8, 9, 10, 11, 12, 13, 14, 15, 18] rfl (by decide) (fun _ => rfl) ⟨(Nat.le_of_ble_eq_true rfl), (Nat.le_of_ble_eq_true rfl)⟩ ⟨rfl, rfl⟩ ⟨by omega, by omega⟩ rfl (Nat.le_of_ble_eq_true rfl) rfl dL_law_548 rfl (fun _ => rfl) (fun _ => rfl) (fun r548 => ?_)
  refine sk_istore (lv' := [some (.ref b), some (.ref (u0 0)), some (.ref (u17 0)), some (.ref (u18 0)), some (.int x4), some (.int r548.1), none]) (pc' := 553) X (Nat.le_of_ble_eq_true rfl) rfl rfl dL_law_551 rfl ?_
  refine sk_aload_n (pc' := 554) X rfl dL_law_553 rfl ?_
  refine sk_aload_n (pc' := 555) X rfl dL_law_554 rfl ?_
  refine sk_iload (pc' := 557) X rfl dL_law_555 rfl ?_
  refine sk_iconst (pc' := 558) X ic_1 dL_law_557 rfl ?_
  refine sk_iadd (pc' := 559) X dL_law_558 rfl ?_
  refine sk_scd (pc' := 560) X E dL_law_559 rfl ?_
  refine sk_aload_n (pc' := 561) X rfl dL_law_560 rfl ?_
  refine sk_iload (pc' := 563) X rfl dL_law_561 rfl ?_
  refine sk_iconst (pc' := 564) X ic_2 dL_law_563 rfl ?_
  refine sk_iadd (pc' := 565) X dL_law_564 rfl ?_
  refine sk_scd (pc' := 566) X E dL_law_565 rfl ?_
  refine sk_aload_n (pc' := 567) X rfl dL_law_566 rfl ?_
  refine sk_iload (pc' := 569) X rfl dL_law_567 rfl ?_
  refine sk_iconst (pc' := 570) X ic_3 dL_law_569 rfl ?_
  refine sk_iadd (pc' := 571) X dL_law_570 rfl ?_
  refine sk_scd (pc' := 572) X E dL_law_571 rfl ?_
  refine sk_callV (bs2 := fun r572 => [(pc_W u0 (u1 0) (u3 0) (u5 0) (u7 0) (u16 0)), (nt_W G u1 (u2 0) r548.2.1), (lg_W G u2 S2), (nt_W G u3 (u4 0) S3), (lg_W G u4 S4), (nt_W G u5 (u6 0) S5), (lg_W G u6 S6), (sv_W G u7 (u8 0) (u10 0) (u12 0) (u14 0) r548.2.2.1), (nt_W G u8 (u9 0) r548.2.2.2.1), (lg_W G u9 r548.2.2.2.2.1), (nt_W G u10 (u11 0) r548.2.2.2.2.2.1), (lg_W G u11 r548.2.2.2.2.2.2.1), (nt_W G u12 (u13 0) r548.2.2.2.2.2.2.2.1), (lg_W G u13 r548.2.2.2.2.2.2.2.2.1), (nt_W G u14 (u15 0) r548.2.2.2.2.2.2.2.2.2.1), (lg_W G u15 r548.2.2.2.2.2.2.2.2.2.2.1), (sc_W G u16 S16), (md_W G u17 r572.2), (ot_W G u18 r548.2.2.2.2.2.2.2.2.2.2.2)]) (st := []) (st2 := fun r572 => [.int r572.1]) (As := [.int (xs ((x4 + (1 : Int32))).toNatClampNeg), .int (xs ((x4 + (2 : Int32))).toNatClampNeg), .int (xs ((x4 + (3 : Int32))).toNatClampNeg)]) (pc' := 575) X (c_X5_link l G u17 S17 (xs ((x4 + (1 : Int32))).toNatClampNeg) (xs ((x4 + (2 : Int32))).toNatClampNeg) (xs ((x4 + (3 : Int32))).toNatClampNeg)) lk_RL_128 [17] rfl (by decide) (fun _ => rfl) rfl rfl rfl ⟨(Nat.le_of_ble_eq_true rfl), (Nat.le_of_ble_eq_true rfl)⟩ ⟨rfl, rfl⟩ ⟨by omega, by omega⟩ rfl (Nat.le_of_ble_eq_true rfl) rfl dL_law_572 rfl (fun _ => rfl) (fun _ => rfl) (fun r572 => ?_)
  refine sk_istore (lv' := [some (.ref b), some (.ref (u0 0)), some (.ref (u17 0)), some (.ref (u18 0)), some (.int x4), some (.int r548.1), some (.int r572.1)]) (pc' := 577) X (Nat.le_of_ble_eq_true rfl) rfl rfl dL_law_575 rfl ?_
  refine sk_aload_n (pc' := 578) X rfl dL_law_577 rfl ?_
  refine sk_callV (bs2 := fun r578 => [(pc_W u0 (u1 0) (u3 0) (u5 0) (u7 0) (u16 0)), (nt_W G u1 (u2 0) r548.2.1), (lg_W G u2 S2), (nt_W G u3 (u4 0) S3), (lg_W G u4 S4), (nt_W G u5 (u6 0) S5), (lg_W G u6 S6), (sv_W G u7 (u8 0) (u10 0) (u12 0) (u14 0) r548.2.2.1), (nt_W G u8 (u9 0) r548.2.2.2.1), (lg_W G u9 r548.2.2.2.2.1), (nt_W G u10 (u11 0) r548.2.2.2.2.2.1), (lg_W G u11 r548.2.2.2.2.2.2.1), (nt_W G u12 (u13 0) r548.2.2.2.2.2.2.2.1), (lg_W G u13 r548.2.2.2.2.2.2.2.2.1), (nt_W G u14 (u15 0) r548.2.2.2.2.2.2.2.2.2.1), (lg_W G u15 r548.2.2.2.2.2.2.2.2.2.2.1), (sc_W G u16 S16), (md_W G u17 r572.2), (ot_W G u18 r548.2.2.2.2.2.2.2.2.2.2.2)]) (st := []) (st2 := fun r578 => [.int r578]) (As := []) (pc' := 581) X (c_X5_thrown l G u17 r572.2) lk_RL_109 [17] rfl (by decide) (fun _ => rfl) rfl rfl rfl ⟨(Nat.le_of_ble_eq_true rfl), (Nat.le_of_ble_eq_true rfl)⟩ ⟨rfl, rfl⟩ ⟨by omega, by omega⟩ rfl (Nat.le_of_ble_eq_true rfl) rfl dL_law_578 rfl (fun _ => rfl) (fun _ => rfl) (fun r578 => ?_)
  refine sk_iload (pc' := 583) X rfl dL_law_581 rfl ?_
  refine sk_icmp_eq (tgt := 588) (pc' := 586) X dL_law_583 rfl rfl ?_ ?_
  · refine sk_iload (pc' := 590) X rfl dL_law_588 rfl ?_
    refine sk_if_ne (tgt := 605) (pc' := 593) X dL_law_590 rfl rfl ?_ ?_
    · refine sk_goto (tgt := 2071) X dL_law_605 rfl ?_
      refine sk_iinc (lv' := [some (.ref b), some (.ref (u0 0)), some (.ref (u17 0)), some (.ref (u18 0)), some (.int (x4 + (4 : Int32))), some (.int r548.1), some (.int r572.1)]) (pc' := 2074) X rfl ic_4 (Nat.le_of_ble_eq_true rfl) rfl rfl dL_law_2071 rfl ?_
      refine sk_goto (tgt := 23) X dL_law_2074 rfl ?_
      first | exact sk_widen (lw_k (lw_i4 hg) (Nat.le_of_ble_eq_true rfl)) (lw_n (lw_i4 hg) (Nat.le_of_ble_eq_true rfl)) (sk_kill 6 (sk_kill 5 (ih23 (r548.2.1, S2, S3, S4, S5, S6, r548.2.2.1, r548.2.2.2.1, r548.2.2.2.2.1, r548.2.2.2.2.2.1, r548.2.2.2.2.2.2.1, r548.2.2.2.2.2.2.2.1, r548.2.2.2.2.2.2.2.2.1, r548.2.2.2.2.2.2.2.2.2.1, r548.2.2.2.2.2.2.2.2.2.2.1, S16, r572.2, r548.2.2.2.2.2.2.2.2.2.2.2, (x4 + (4 : Int32)))))) | exact sk_widen (lw_k0 (lw_i4 hg)) (lw_n0 (lw_i4 hg)) (sk_kill 6 (sk_kill 5 (ih23 (r548.2.1, S2, S3, S4, S5, S6, r548.2.2.1, r548.2.2.2.1, r548.2.2.2.2.1, r548.2.2.2.2.2.1, r548.2.2.2.2.2.2.1, r548.2.2.2.2.2.2.2.1, r548.2.2.2.2.2.2.2.2.1, r548.2.2.2.2.2.2.2.2.2.1, r548.2.2.2.2.2.2.2.2.2.2.1, S16, r572.2, r548.2.2.2.2.2.2.2.2.2.2.2, (x4 + (4 : Int32))))))
    · refine sk_aload_n (pc' := 594) X rfl dL_law_593 rfl ?_
      refine sk_iconst (pc' := 595) X ic_0 dL_law_594 rfl ?_
      refine sk_lald (pc' := 596) X 18 0 rfl rfl dL_law_595 rfl ?_
      refine sk_iload (pc' := 598) X rfl dL_law_596 rfl ?_
      refine sk_i2l (pc' := 599) X dL_law_598 rfl ?_
      refine sk_lcmp (pc' := 600) X dL_law_599 rfl ?_
      refine sk_if_eq (tgt := 605) (pc' := 603) X dL_law_600 rfl rfl ?_ ?_
      · refine sk_goto (tgt := 2071) X dL_law_605 rfl ?_
        refine sk_iinc (lv' := [some (.ref b), some (.ref (u0 0)), some (.ref (u17 0)), some (.ref (u18 0)), some (.int (x4 + (4 : Int32))), some (.int r548.1), some (.int r572.1)]) (pc' := 2074) X rfl ic_4 (Nat.le_of_ble_eq_true rfl) rfl rfl dL_law_2071 rfl ?_
        refine sk_goto (tgt := 23) X dL_law_2074 rfl ?_
        first | exact sk_widen (lw_k (lw_i4 hg) (Nat.le_of_ble_eq_true rfl)) (lw_n (lw_i4 hg) (Nat.le_of_ble_eq_true rfl)) (sk_kill 6 (sk_kill 5 (ih23 (r548.2.1, S2, S3, S4, S5, S6, r548.2.2.1, r548.2.2.2.1, r548.2.2.2.2.1, r548.2.2.2.2.2.1, r548.2.2.2.2.2.2.1, r548.2.2.2.2.2.2.2.1, r548.2.2.2.2.2.2.2.2.1, r548.2.2.2.2.2.2.2.2.2.1, r548.2.2.2.2.2.2.2.2.2.2.1, S16, r572.2, r548.2.2.2.2.2.2.2.2.2.2.2, (x4 + (4 : Int32)))))) | exact sk_widen (lw_k0 (lw_i4 hg)) (lw_n0 (lw_i4 hg)) (sk_kill 6 (sk_kill 5 (ih23 (r548.2.1, S2, S3, S4, S5, S6, r548.2.2.1, r548.2.2.2.1, r548.2.2.2.2.1, r548.2.2.2.2.2.1, r548.2.2.2.2.2.2.1, r548.2.2.2.2.2.2.2.1, r548.2.2.2.2.2.2.2.2.1, r548.2.2.2.2.2.2.2.2.2.1, r548.2.2.2.2.2.2.2.2.2.2.1, S16, r572.2, r548.2.2.2.2.2.2.2.2.2.2.2, (x4 + (4 : Int32))))))
      · refine sk_iconst (pc' := 604) X ic_0 dL_law_603 rfl ?_
        exact sk_lfalse
  · refine sk_iconst (pc' := 587) X ic_0 dL_law_586 rfl ?_
    exact sk_lfalse
set_option maxHeartbeats 4000000 in
set_option maxRecDepth 100000 in
theorem lc_6 {Γ : sk_K} {l : Launch} (hl0 : l.stackTraces = false) {G : sk_G} {t b L : Nat} {xs : Nat → Int32} (X : sk_X Γ l G room_1 7 RL code ret) (E : sk_EL Γ t b L xs) (u0 u1 u2 u3 u4 u5 u6 u7 u8 u9 u10 u11 u12 u13 u14 u15 u16 u17 u18 : Nat → Nat) (k23 : lw_σ → Option Int32) (ih23 : ∀ s2 : lw_σ, sk_S Γ (lw_Φ Γ b) (kl s2.2.2.2.2.2.2.2.2.2.2.2.2.2.2.2.2.2.2) (nl s2.2.2.2.2.2.2.2.2.2.2.2.2.2.2.2.2.2.2) (k23 s2) (lw_bs G u0 u1 u2 u3 u4 u5 u6 u7 u8 u9 u10 u11 u12 u13 u14 u15 u16 u17 u18 s2) (lw_lv b u0 u1 u2 u3 u4 u5 u6 u7 u8 u9 u10 u11 u12 u13 u14 u15 u16 u17 u18 s2) 23 []) (S1 : sk_N) (S2 : sk_N) (S3 : sk_N) (S4 : sk_N) (S5 : sk_N) (S6 : sk_N) (S7 : sk_N) (S8 : sk_N) (S9 : sk_N) (S10 : sk_N) (S11 : sk_N) (S12 : sk_N) (S13 : sk_N) (S14 : sk_N) (S15 : sk_N) (S16 : sk_N) (S17 : sk_M) (S18 : sk_O) (x4 : Int32) (hg : sk_in x4 2049 = true) : sk_S Γ (lw_Φ Γ b) (kl x4) (nl x4) (m_L_c6 L xs k23 S1 S2 S3 S4 S5 S6 S7 S8 S9 S10 S11 S12 S13 S14 S15 S16 S17 S18 x4) [(pc_W u0 (u1 0) (u3 0) (u5 0) (u7 0) (u16 0)), (nt_W G u1 (u2 0) S1), (lg_W G u2 S2), (nt_W G u3 (u4 0) S3), (lg_W G u4 S4), (nt_W G u5 (u6 0) S5), (lg_W G u6 S6), (sv_W G u7 (u8 0) (u10 0) (u12 0) (u14 0) S7), (nt_W G u8 (u9 0) S8), (lg_W G u9 S9), (nt_W G u10 (u11 0) S10), (lg_W G u11 S11), (nt_W G u12 (u13 0) S12), (lg_W G u13 S13), (nt_W G u14 (u15 0) S14), (lg_W G u15 S15), (sc_W G u16 S16), (md_W G u17 S17), (ot_W G u18 S18)] [some (.ref b), some (.ref (u0 0)), some (.ref (u17 0)), some (.ref (u18 0)), some (.int x4), none, none] 608 [] := by
  have hk0 := lw_hk hg
  have hn0 := lw_hn hg
  unfold m_L_c6
  refine sk_aload_n (pc' := 609) X rfl dL_law_608 rfl ?_
  refine sk_aload_n (pc' := 610) X rfl dL_law_609 rfl ?_
  refine sk_iload (pc' := 612) X rfl dL_law_610 rfl ?_
  refine sk_iconst (pc' := 613) X ic_1 dL_law_612 rfl ?_
  refine sk_iadd (pc' := 614) X dL_law_613 rfl ?_
  refine sk_scd (pc' := 615) X E dL_law_614 rfl ?_
  refine sk_aload_n (pc' := 616) X rfl dL_law_615 rfl ?_
  refine sk_iload (pc' := 618) X rfl dL_law_616 rfl ?_
  refine sk_iconst (pc' := 619) X ic_2 dL_law_618 rfl ?_
  refine sk_iadd (pc' := 620) X dL_law_619 rfl ?_
  refine sk_scd (pc' := 621) X E dL_law_620 rfl ?_
  refine sk_aload_n (pc' := 622) X rfl dL_law_621 rfl ?_
  refine sk_callSH (bs2 := fun r622 => [(pc_W u0 (u1 0) (u3 0) (u5 0) (u7 0) (u16 0)), (nt_W G u1 (u2 0) r622.2.1), (lg_W G u2 S2), (nt_W G u3 (u4 0) S3), (lg_W G u4 S4), (nt_W G u5 (u6 0) S5), (lg_W G u6 S6), (sv_W G u7 (u8 0) (u10 0) (u12 0) (u14 0) r622.2.2.1), (nt_W G u8 (u9 0) r622.2.2.2.1), (lg_W G u9 r622.2.2.2.2.1), (nt_W G u10 (u11 0) r622.2.2.2.2.2.1), (lg_W G u11 r622.2.2.2.2.2.2.1), (nt_W G u12 (u13 0) r622.2.2.2.2.2.2.2.1), (lg_W G u13 r622.2.2.2.2.2.2.2.2.1), (nt_W G u14 (u15 0) r622.2.2.2.2.2.2.2.2.2.1), (lg_W G u15 r622.2.2.2.2.2.2.2.2.2.2.1), (sc_W G u16 S16), (md_W G u17 S17), (ot_W G u18 r622.2.2.2.2.2.2.2.2.2.2.2)]) (st := []) (st2 := fun r622 => [.int r622.1]) (As := [.ref (u0 0), .int (xs ((x4 + (1 : Int32))).toNatClampNeg), .int (xs ((x4 + (2 : Int32))).toNatClampNeg), .ref (u18 0)]) (pc' := 625) X E (c_L_unlink l hl0 t G u0 u1 u2 u7 u8 u9 u10 u11 u12 u13 u14 u15 u18 (u3 0) (u5 0) (u16 0) S1 S2 S7 S8 S9 S10 S11 S12 S13 S14 S15 S18 (xs ((x4 + (1 : Int32))).toNatClampNeg) (xs ((x4 + (2 : Int32))).toNatClampNeg)) lkh_RL_129 [0, 1, 2, 7, 8, 9, 10, 11, 12, 13, 14, 15, 18] rfl (by decide) (fun _ => rfl) ⟨(Nat.le_of_ble_eq_true rfl), (Nat.le_of_ble_eq_true rfl)⟩ ⟨rfl, rfl⟩ ⟨by omega, by omega⟩ rfl (Nat.le_of_ble_eq_true rfl) rfl dL_law_622 rfl (fun _ => rfl) (fun _ => rfl) (fun r622 => ?_)
  refine sk_istore (lv' := [some (.ref b), some (.ref (u0 0)), some (.ref (u17 0)), some (.ref (u18 0)), some (.int x4), some (.int r622.1), none]) (pc' := 627) X (Nat.le_of_ble_eq_true rfl) rfl rfl dL_law_625 rfl ?_
  refine sk_aload_n (pc' := 628) X rfl dL_law_627 rfl ?_
  refine sk_aload_n (pc' := 629) X rfl dL_law_628 rfl ?_
  refine sk_iload (pc' := 631) X rfl dL_law_629 rfl ?_
  refine sk_iconst (pc' := 632) X ic_1 dL_law_631 rfl ?_
  refine sk_iadd (pc' := 633) X dL_law_632 rfl ?_
  refine sk_scd (pc' := 634) X E dL_law_633 rfl ?_
  refine sk_aload_n (pc' := 635) X rfl dL_law_634 rfl ?_
  refine sk_iload (pc' := 637) X rfl dL_law_635 rfl ?_
  refine sk_iconst (pc' := 638) X ic_2 dL_law_637 rfl ?_
  refine sk_iadd (pc' := 639) X dL_law_638 rfl ?_
  refine sk_scd (pc' := 640) X E dL_law_639 rfl ?_
  refine sk_callV (bs2 := fun r640 => [(pc_W u0 (u1 0) (u3 0) (u5 0) (u7 0) (u16 0)), (nt_W G u1 (u2 0) r622.2.1), (lg_W G u2 S2), (nt_W G u3 (u4 0) S3), (lg_W G u4 S4), (nt_W G u5 (u6 0) S5), (lg_W G u6 S6), (sv_W G u7 (u8 0) (u10 0) (u12 0) (u14 0) r622.2.2.1), (nt_W G u8 (u9 0) r622.2.2.2.1), (lg_W G u9 r622.2.2.2.2.1), (nt_W G u10 (u11 0) r622.2.2.2.2.2.1), (lg_W G u11 r622.2.2.2.2.2.2.1), (nt_W G u12 (u13 0) r622.2.2.2.2.2.2.2.1), (lg_W G u13 r622.2.2.2.2.2.2.2.2.1), (nt_W G u14 (u15 0) r622.2.2.2.2.2.2.2.2.2.1), (lg_W G u15 r622.2.2.2.2.2.2.2.2.2.2.1), (sc_W G u16 S16), (md_W G u17 r640.2), (ot_W G u18 r622.2.2.2.2.2.2.2.2.2.2.2)]) (st := []) (st2 := fun r640 => [.int r640.1]) (As := [.int (xs ((x4 + (1 : Int32))).toNatClampNeg), .int (xs ((x4 + (2 : Int32))).toNatClampNeg)]) (pc' := 643) X (c_X5_unlink l G u17 S17 (xs ((x4 + (1 : Int32))).toNatClampNeg) (xs ((x4 + (2 : Int32))).toNatClampNeg)) lk_RL_131 [17] rfl (by decide) (fun _ => rfl) rfl rfl rfl ⟨(Nat.le_of_ble_eq_true rfl), (Nat.le_of_ble_eq_true rfl)⟩ ⟨rfl, rfl⟩ ⟨by omega, by omega⟩ rfl (Nat.le_of_ble_eq_true rfl) rfl dL_law_640 rfl (fun _ => rfl) (fun _ => rfl) (fun r640 => ?_)
  refine sk_istore (lv' := [some (.ref b), some (.ref (u0 0)), some (.ref (u17 0)), some (.ref (u18 0)), some (.int x4), some (.int r622.1), some (.int r640.1)]) (pc' := 645) X (Nat.le_of_ble_eq_true rfl) rfl rfl dL_law_643 rfl ?_
  refine sk_aload_n (pc' := 646) X rfl dL_law_645 rfl ?_
  refine sk_callV (bs2 := fun r646 => [(pc_W u0 (u1 0) (u3 0) (u5 0) (u7 0) (u16 0)), (nt_W G u1 (u2 0) r622.2.1), (lg_W G u2 S2), (nt_W G u3 (u4 0) S3), (lg_W G u4 S4), (nt_W G u5 (u6 0) S5), (lg_W G u6 S6), (sv_W G u7 (u8 0) (u10 0) (u12 0) (u14 0) r622.2.2.1), (nt_W G u8 (u9 0) r622.2.2.2.1), (lg_W G u9 r622.2.2.2.2.1), (nt_W G u10 (u11 0) r622.2.2.2.2.2.1), (lg_W G u11 r622.2.2.2.2.2.2.1), (nt_W G u12 (u13 0) r622.2.2.2.2.2.2.2.1), (lg_W G u13 r622.2.2.2.2.2.2.2.2.1), (nt_W G u14 (u15 0) r622.2.2.2.2.2.2.2.2.2.1), (lg_W G u15 r622.2.2.2.2.2.2.2.2.2.2.1), (sc_W G u16 S16), (md_W G u17 r640.2), (ot_W G u18 r622.2.2.2.2.2.2.2.2.2.2.2)]) (st := []) (st2 := fun r646 => [.int r646]) (As := []) (pc' := 649) X (c_X5_thrown l G u17 r640.2) lk_RL_109 [17] rfl (by decide) (fun _ => rfl) rfl rfl rfl ⟨(Nat.le_of_ble_eq_true rfl), (Nat.le_of_ble_eq_true rfl)⟩ ⟨rfl, rfl⟩ ⟨by omega, by omega⟩ rfl (Nat.le_of_ble_eq_true rfl) rfl dL_law_646 rfl (fun _ => rfl) (fun _ => rfl) (fun r646 => ?_)
  refine sk_iload (pc' := 651) X rfl dL_law_649 rfl ?_
  refine sk_icmp_eq (tgt := 656) (pc' := 654) X dL_law_651 rfl rfl ?_ ?_
  · refine sk_iload (pc' := 658) X rfl dL_law_656 rfl ?_
    refine sk_if_ne (tgt := 673) (pc' := 661) X dL_law_658 rfl rfl ?_ ?_
    · refine sk_goto (tgt := 2071) X dL_law_673 rfl ?_
      refine sk_iinc (lv' := [some (.ref b), some (.ref (u0 0)), some (.ref (u17 0)), some (.ref (u18 0)), some (.int (x4 + (4 : Int32))), some (.int r622.1), some (.int r640.1)]) (pc' := 2074) X rfl ic_4 (Nat.le_of_ble_eq_true rfl) rfl rfl dL_law_2071 rfl ?_
      refine sk_goto (tgt := 23) X dL_law_2074 rfl ?_
      first | exact sk_widen (lw_k (lw_i4 hg) (Nat.le_of_ble_eq_true rfl)) (lw_n (lw_i4 hg) (Nat.le_of_ble_eq_true rfl)) (sk_kill 6 (sk_kill 5 (ih23 (r622.2.1, S2, S3, S4, S5, S6, r622.2.2.1, r622.2.2.2.1, r622.2.2.2.2.1, r622.2.2.2.2.2.1, r622.2.2.2.2.2.2.1, r622.2.2.2.2.2.2.2.1, r622.2.2.2.2.2.2.2.2.1, r622.2.2.2.2.2.2.2.2.2.1, r622.2.2.2.2.2.2.2.2.2.2.1, S16, r640.2, r622.2.2.2.2.2.2.2.2.2.2.2, (x4 + (4 : Int32)))))) | exact sk_widen (lw_k0 (lw_i4 hg)) (lw_n0 (lw_i4 hg)) (sk_kill 6 (sk_kill 5 (ih23 (r622.2.1, S2, S3, S4, S5, S6, r622.2.2.1, r622.2.2.2.1, r622.2.2.2.2.1, r622.2.2.2.2.2.1, r622.2.2.2.2.2.2.1, r622.2.2.2.2.2.2.2.1, r622.2.2.2.2.2.2.2.2.1, r622.2.2.2.2.2.2.2.2.2.1, r622.2.2.2.2.2.2.2.2.2.2.1, S16, r640.2, r622.2.2.2.2.2.2.2.2.2.2.2, (x4 + (4 : Int32))))))
    · refine sk_aload_n (pc' := 662) X rfl dL_law_661 rfl ?_
      refine sk_iconst (pc' := 663) X ic_0 dL_law_662 rfl ?_
      refine sk_lald (pc' := 664) X 18 0 rfl rfl dL_law_663 rfl ?_
      refine sk_iload (pc' := 666) X rfl dL_law_664 rfl ?_
      refine sk_i2l (pc' := 667) X dL_law_666 rfl ?_
      refine sk_lcmp (pc' := 668) X dL_law_667 rfl ?_
      refine sk_if_eq (tgt := 673) (pc' := 671) X dL_law_668 rfl rfl ?_ ?_
      · refine sk_goto (tgt := 2071) X dL_law_673 rfl ?_
        refine sk_iinc (lv' := [some (.ref b), some (.ref (u0 0)), some (.ref (u17 0)), some (.ref (u18 0)), some (.int (x4 + (4 : Int32))), some (.int r622.1), some (.int r640.1)]) (pc' := 2074) X rfl ic_4 (Nat.le_of_ble_eq_true rfl) rfl rfl dL_law_2071 rfl ?_
        refine sk_goto (tgt := 23) X dL_law_2074 rfl ?_
        first | exact sk_widen (lw_k (lw_i4 hg) (Nat.le_of_ble_eq_true rfl)) (lw_n (lw_i4 hg) (Nat.le_of_ble_eq_true rfl)) (sk_kill 6 (sk_kill 5 (ih23 (r622.2.1, S2, S3, S4, S5, S6, r622.2.2.1, r622.2.2.2.1, r622.2.2.2.2.1, r622.2.2.2.2.2.1, r622.2.2.2.2.2.2.1, r622.2.2.2.2.2.2.2.1, r622.2.2.2.2.2.2.2.2.1, r622.2.2.2.2.2.2.2.2.2.1, r622.2.2.2.2.2.2.2.2.2.2.1, S16, r640.2, r622.2.2.2.2.2.2.2.2.2.2.2, (x4 + (4 : Int32)))))) | exact sk_widen (lw_k0 (lw_i4 hg)) (lw_n0 (lw_i4 hg)) (sk_kill 6 (sk_kill 5 (ih23 (r622.2.1, S2, S3, S4, S5, S6, r622.2.2.1, r622.2.2.2.1, r622.2.2.2.2.1, r622.2.2.2.2.2.1, r622.2.2.2.2.2.2.1, r622.2.2.2.2.2.2.2.1, r622.2.2.2.2.2.2.2.2.1, r622.2.2.2.2.2.2.2.2.2.1, r622.2.2.2.2.2.2.2.2.2.2.1, S16, r640.2, r622.2.2.2.2.2.2.2.2.2.2.2, (x4 + (4 : Int32))))))
      · refine sk_iconst (pc' := 672) X ic_0 dL_law_671 rfl ?_
        exact sk_lfalse
  · refine sk_iconst (pc' := 655) X ic_0 dL_law_654 rfl ?_
    exact sk_lfalse
set_option maxHeartbeats 4000000 in
set_option maxRecDepth 100000 in
theorem lc_7 {Γ : sk_K} {l : Launch} (hl0 : l.stackTraces = false) {G : sk_G} {t b L : Nat} {xs : Nat → Int32} (X : sk_X Γ l G room_1 7 RL code ret) (E : sk_EL Γ t b L xs) (u0 u1 u2 u3 u4 u5 u6 u7 u8 u9 u10 u11 u12 u13 u14 u15 u16 u17 u18 : Nat → Nat) (k23 : lw_σ → Option Int32) (ih23 : ∀ s2 : lw_σ, sk_S Γ (lw_Φ Γ b) (kl s2.2.2.2.2.2.2.2.2.2.2.2.2.2.2.2.2.2.2) (nl s2.2.2.2.2.2.2.2.2.2.2.2.2.2.2.2.2.2.2) (k23 s2) (lw_bs G u0 u1 u2 u3 u4 u5 u6 u7 u8 u9 u10 u11 u12 u13 u14 u15 u16 u17 u18 s2) (lw_lv b u0 u1 u2 u3 u4 u5 u6 u7 u8 u9 u10 u11 u12 u13 u14 u15 u16 u17 u18 s2) 23 []) (S1 : sk_N) (S2 : sk_N) (S3 : sk_N) (S4 : sk_N) (S5 : sk_N) (S6 : sk_N) (S7 : sk_N) (S8 : sk_N) (S9 : sk_N) (S10 : sk_N) (S11 : sk_N) (S12 : sk_N) (S13 : sk_N) (S14 : sk_N) (S15 : sk_N) (S16 : sk_N) (S17 : sk_M) (S18 : sk_O) (x4 : Int32) (hg : sk_in x4 2049 = true) : sk_S Γ (lw_Φ Γ b) (kl x4) (nl x4) (m_L_c7 L xs k23 S1 S2 S3 S4 S5 S6 S7 S8 S9 S10 S11 S12 S13 S14 S15 S16 S17 S18 x4) [(pc_W u0 (u1 0) (u3 0) (u5 0) (u7 0) (u16 0)), (nt_W G u1 (u2 0) S1), (lg_W G u2 S2), (nt_W G u3 (u4 0) S3), (lg_W G u4 S4), (nt_W G u5 (u6 0) S5), (lg_W G u6 S6), (sv_W G u7 (u8 0) (u10 0) (u12 0) (u14 0) S7), (nt_W G u8 (u9 0) S8), (lg_W G u9 S9), (nt_W G u10 (u11 0) S10), (lg_W G u11 S11), (nt_W G u12 (u13 0) S12), (lg_W G u13 S13), (nt_W G u14 (u15 0) S14), (lg_W G u15 S15), (sc_W G u16 S16), (md_W G u17 S17), (ot_W G u18 S18)] [some (.ref b), some (.ref (u0 0)), some (.ref (u17 0)), some (.ref (u18 0)), some (.int x4), none, none] 676 [] := by
  have hk0 := lw_hk hg
  have hn0 := lw_hn hg
  unfold m_L_c7
  refine sk_aload_n (pc' := 677) X rfl dL_law_676 rfl ?_
  refine sk_aload_n (pc' := 678) X rfl dL_law_677 rfl ?_
  refine sk_iload (pc' := 680) X rfl dL_law_678 rfl ?_
  refine sk_iconst (pc' := 681) X ic_1 dL_law_680 rfl ?_
  refine sk_iadd (pc' := 682) X dL_law_681 rfl ?_
  refine sk_scd (pc' := 683) X E dL_law_682 rfl ?_
  refine sk_aload_n (pc' := 684) X rfl dL_law_683 rfl ?_
  refine sk_callSH (bs2 := fun r684 => [(pc_W u0 (u1 0) (u3 0) (u5 0) (u7 0) (u16 0)), (nt_W G u1 (u2 0) r684.2.1), (lg_W G u2 S2), (nt_W G u3 (u4 0) S3), (lg_W G u4 S4), (nt_W G u5 (u6 0) S5), (lg_W G u6 S6), (sv_W G u7 (u8 0) (u10 0) (u12 0) (u14 0) r684.2.2.1), (nt_W G u8 (u9 0) r684.2.2.2.1), (lg_W G u9 r684.2.2.2.2.1), (nt_W G u10 (u11 0) r684.2.2.2.2.2.1), (lg_W G u11 r684.2.2.2.2.2.2.1), (nt_W G u12 (u13 0) r684.2.2.2.2.2.2.2.1), (lg_W G u13 r684.2.2.2.2.2.2.2.2.1), (nt_W G u14 (u15 0) r684.2.2.2.2.2.2.2.2.2.1), (lg_W G u15 r684.2.2.2.2.2.2.2.2.2.2.1), (sc_W G u16 S16), (md_W G u17 S17), (ot_W G u18 r684.2.2.2.2.2.2.2.2.2.2.2)]) (st := []) (st2 := fun r684 => [.int r684.1]) (As := [.ref (u0 0), .int (xs ((x4 + (1 : Int32))).toNatClampNeg), .ref (u18 0)]) (pc' := 687) X E (c_L_setPeriod l hl0 t G u0 u1 u2 u7 u8 u9 u10 u11 u12 u13 u14 u15 u18 (u3 0) (u5 0) (u16 0) S1 S2 S7 S8 S9 S10 S11 S12 S13 S14 S15 S18 (xs ((x4 + (1 : Int32))).toNatClampNeg)) lkh_RL_132 [0, 1, 2, 7, 8, 9, 10, 11, 12, 13, 14, 15, 18] rfl (by decide) (fun _ => rfl) ⟨(Nat.le_of_ble_eq_true rfl), (Nat.le_of_ble_eq_true rfl)⟩ ⟨rfl, rfl⟩ ⟨by omega, by omega⟩ rfl (Nat.le_of_ble_eq_true rfl) rfl dL_law_684 rfl (fun _ => rfl) (fun _ => rfl) (fun r684 => ?_)
  refine sk_istore (lv' := [some (.ref b), some (.ref (u0 0)), some (.ref (u17 0)), some (.ref (u18 0)), some (.int x4), some (.int r684.1), none]) (pc' := 689) X (Nat.le_of_ble_eq_true rfl) rfl rfl dL_law_687 rfl ?_
  refine sk_aload_n (pc' := 690) X rfl dL_law_689 rfl ?_
  refine sk_aload_n (pc' := 691) X rfl dL_law_690 rfl ?_
  refine sk_iload (pc' := 693) X rfl dL_law_691 rfl ?_
  refine sk_iconst (pc' := 694) X ic_1 dL_law_693 rfl ?_
  refine sk_iadd (pc' := 695) X dL_law_694 rfl ?_
  refine sk_scd (pc' := 696) X E dL_law_695 rfl ?_
  refine sk_callV (bs2 := fun r696 => [(pc_W u0 (u1 0) (u3 0) (u5 0) (u7 0) (u16 0)), (nt_W G u1 (u2 0) r684.2.1), (lg_W G u2 S2), (nt_W G u3 (u4 0) S3), (lg_W G u4 S4), (nt_W G u5 (u6 0) S5), (lg_W G u6 S6), (sv_W G u7 (u8 0) (u10 0) (u12 0) (u14 0) r684.2.2.1), (nt_W G u8 (u9 0) r684.2.2.2.1), (lg_W G u9 r684.2.2.2.2.1), (nt_W G u10 (u11 0) r684.2.2.2.2.2.1), (lg_W G u11 r684.2.2.2.2.2.2.1), (nt_W G u12 (u13 0) r684.2.2.2.2.2.2.2.1), (lg_W G u13 r684.2.2.2.2.2.2.2.2.1), (nt_W G u14 (u15 0) r684.2.2.2.2.2.2.2.2.2.1), (lg_W G u15 r684.2.2.2.2.2.2.2.2.2.2.1), (sc_W G u16 S16), (md_W G u17 r696.2), (ot_W G u18 r684.2.2.2.2.2.2.2.2.2.2.2)]) (st := []) (st2 := fun r696 => [.int r696.1]) (As := [.int (xs ((x4 + (1 : Int32))).toNatClampNeg)]) (pc' := 699) X (c_X5_setPeriod l G u17 S17 (xs ((x4 + (1 : Int32))).toNatClampNeg)) lk_RL_134 [17] rfl (by decide) (fun _ => rfl) rfl rfl rfl ⟨(Nat.le_of_ble_eq_true rfl), (Nat.le_of_ble_eq_true rfl)⟩ ⟨rfl, rfl⟩ ⟨by omega, by omega⟩ rfl (Nat.le_of_ble_eq_true rfl) rfl dL_law_696 rfl (fun _ => rfl) (fun _ => rfl) (fun r696 => ?_)
  refine sk_istore (lv' := [some (.ref b), some (.ref (u0 0)), some (.ref (u17 0)), some (.ref (u18 0)), some (.int x4), some (.int r684.1), some (.int r696.1)]) (pc' := 701) X (Nat.le_of_ble_eq_true rfl) rfl rfl dL_law_699 rfl ?_
  refine sk_aload_n (pc' := 702) X rfl dL_law_701 rfl ?_
  refine sk_callV (bs2 := fun r702 => [(pc_W u0 (u1 0) (u3 0) (u5 0) (u7 0) (u16 0)), (nt_W G u1 (u2 0) r684.2.1), (lg_W G u2 S2), (nt_W G u3 (u4 0) S3), (lg_W G u4 S4), (nt_W G u5 (u6 0) S5), (lg_W G u6 S6), (sv_W G u7 (u8 0) (u10 0) (u12 0) (u14 0) r684.2.2.1), (nt_W G u8 (u9 0) r684.2.2.2.1), (lg_W G u9 r684.2.2.2.2.1), (nt_W G u10 (u11 0) r684.2.2.2.2.2.1), (lg_W G u11 r684.2.2.2.2.2.2.1), (nt_W G u12 (u13 0) r684.2.2.2.2.2.2.2.1), (lg_W G u13 r684.2.2.2.2.2.2.2.2.1), (nt_W G u14 (u15 0) r684.2.2.2.2.2.2.2.2.2.1), (lg_W G u15 r684.2.2.2.2.2.2.2.2.2.2.1), (sc_W G u16 S16), (md_W G u17 r696.2), (ot_W G u18 r684.2.2.2.2.2.2.2.2.2.2.2)]) (st := []) (st2 := fun r702 => [.int r702]) (As := []) (pc' := 705) X (c_X5_thrown l G u17 r696.2) lk_RL_109 [17] rfl (by decide) (fun _ => rfl) rfl rfl rfl ⟨(Nat.le_of_ble_eq_true rfl), (Nat.le_of_ble_eq_true rfl)⟩ ⟨rfl, rfl⟩ ⟨by omega, by omega⟩ rfl (Nat.le_of_ble_eq_true rfl) rfl dL_law_702 rfl (fun _ => rfl) (fun _ => rfl) (fun r702 => ?_)
  refine sk_iload (pc' := 707) X rfl dL_law_705 rfl ?_
  refine sk_icmp_eq (tgt := 712) (pc' := 710) X dL_law_707 rfl rfl ?_ ?_
  · refine sk_iload (pc' := 714) X rfl dL_law_712 rfl ?_
    refine sk_if_ne (tgt := 729) (pc' := 717) X dL_law_714 rfl rfl ?_ ?_
    · refine sk_goto (tgt := 2071) X dL_law_729 rfl ?_
      refine sk_iinc (lv' := [some (.ref b), some (.ref (u0 0)), some (.ref (u17 0)), some (.ref (u18 0)), some (.int (x4 + (4 : Int32))), some (.int r684.1), some (.int r696.1)]) (pc' := 2074) X rfl ic_4 (Nat.le_of_ble_eq_true rfl) rfl rfl dL_law_2071 rfl ?_
      refine sk_goto (tgt := 23) X dL_law_2074 rfl ?_
      first | exact sk_widen (lw_k (lw_i4 hg) (Nat.le_of_ble_eq_true rfl)) (lw_n (lw_i4 hg) (Nat.le_of_ble_eq_true rfl)) (sk_kill 6 (sk_kill 5 (ih23 (r684.2.1, S2, S3, S4, S5, S6, r684.2.2.1, r684.2.2.2.1, r684.2.2.2.2.1, r684.2.2.2.2.2.1, r684.2.2.2.2.2.2.1, r684.2.2.2.2.2.2.2.1, r684.2.2.2.2.2.2.2.2.1, r684.2.2.2.2.2.2.2.2.2.1, r684.2.2.2.2.2.2.2.2.2.2.1, S16, r696.2, r684.2.2.2.2.2.2.2.2.2.2.2, (x4 + (4 : Int32)))))) | exact sk_widen (lw_k0 (lw_i4 hg)) (lw_n0 (lw_i4 hg)) (sk_kill 6 (sk_kill 5 (ih23 (r684.2.1, S2, S3, S4, S5, S6, r684.2.2.1, r684.2.2.2.1, r684.2.2.2.2.1, r684.2.2.2.2.2.1, r684.2.2.2.2.2.2.1, r684.2.2.2.2.2.2.2.1, r684.2.2.2.2.2.2.2.2.1, r684.2.2.2.2.2.2.2.2.2.1, r684.2.2.2.2.2.2.2.2.2.2.1, S16, r696.2, r684.2.2.2.2.2.2.2.2.2.2.2, (x4 + (4 : Int32))))))
    · refine sk_aload_n (pc' := 718) X rfl dL_law_717 rfl ?_
      refine sk_iconst (pc' := 719) X ic_0 dL_law_718 rfl ?_
      refine sk_lald (pc' := 720) X 18 0 rfl rfl dL_law_719 rfl ?_
      refine sk_iload (pc' := 722) X rfl dL_law_720 rfl ?_
      refine sk_i2l (pc' := 723) X dL_law_722 rfl ?_
      refine sk_lcmp (pc' := 724) X dL_law_723 rfl ?_
      refine sk_if_eq (tgt := 729) (pc' := 727) X dL_law_724 rfl rfl ?_ ?_
      · refine sk_goto (tgt := 2071) X dL_law_729 rfl ?_
        refine sk_iinc (lv' := [some (.ref b), some (.ref (u0 0)), some (.ref (u17 0)), some (.ref (u18 0)), some (.int (x4 + (4 : Int32))), some (.int r684.1), some (.int r696.1)]) (pc' := 2074) X rfl ic_4 (Nat.le_of_ble_eq_true rfl) rfl rfl dL_law_2071 rfl ?_
        refine sk_goto (tgt := 23) X dL_law_2074 rfl ?_
        first | exact sk_widen (lw_k (lw_i4 hg) (Nat.le_of_ble_eq_true rfl)) (lw_n (lw_i4 hg) (Nat.le_of_ble_eq_true rfl)) (sk_kill 6 (sk_kill 5 (ih23 (r684.2.1, S2, S3, S4, S5, S6, r684.2.2.1, r684.2.2.2.1, r684.2.2.2.2.1, r684.2.2.2.2.2.1, r684.2.2.2.2.2.2.1, r684.2.2.2.2.2.2.2.1, r684.2.2.2.2.2.2.2.2.1, r684.2.2.2.2.2.2.2.2.2.1, r684.2.2.2.2.2.2.2.2.2.2.1, S16, r696.2, r684.2.2.2.2.2.2.2.2.2.2.2, (x4 + (4 : Int32)))))) | exact sk_widen (lw_k0 (lw_i4 hg)) (lw_n0 (lw_i4 hg)) (sk_kill 6 (sk_kill 5 (ih23 (r684.2.1, S2, S3, S4, S5, S6, r684.2.2.1, r684.2.2.2.1, r684.2.2.2.2.1, r684.2.2.2.2.2.1, r684.2.2.2.2.2.2.1, r684.2.2.2.2.2.2.2.1, r684.2.2.2.2.2.2.2.2.1, r684.2.2.2.2.2.2.2.2.2.1, r684.2.2.2.2.2.2.2.2.2.2.1, S16, r696.2, r684.2.2.2.2.2.2.2.2.2.2.2, (x4 + (4 : Int32))))))
      · refine sk_iconst (pc' := 728) X ic_0 dL_law_727 rfl ?_
        exact sk_lfalse
  · refine sk_iconst (pc' := 711) X ic_0 dL_law_710 rfl ?_
    exact sk_lfalse
